set_option maxRecDepth 100000 in
theorem t0 : Cond.fieldLink RX0 9 (TX0 0).1 (TX0 0).2.1 (TX0 0).2.2.1 ∈ tw := tbl_at 225 (by decide +kernel) (by decide +kernel)
set_option maxRecDepth 100000 in
theorem t1 : Cond.fieldLink RX0 23 (TX0 3).1 (TX0 3).2.1 (TX0 3).2.2.1 ∈ tw := tbl_at 229 (by decide +kernel) (by decide +kernel)
set_option maxRecDepth 100000 in
theorem t2 : Cond.fieldLink RX0 15 (TX0 1).1 (TX0 1).2.1 (TX0 1).2.2.1 ∈ tw := tbl_at 226 (by decide +kernel) (by decide +kernel)
set_option maxRecDepth 100000 in
theorem t3 : Cond.fieldLink RX0 20 (TX0 2).1 (TX0 2).2.1 (TX0 2).2.2.1 ∈ tw := tbl_at 227 (by decide +kernel) (by decide +kernel)
set_option maxRecDepth 100000 in
theorem t4 : Cond.methodLink RX0 38 yJ9_min_7cf53 ∈ tw := tbl_at 618 (by decide +kernel) (by decide +kernel)
set_option maxRecDepth 100000 in
theorem t5 : Cond.code Lib.Math.min.name Lib.Math.min.code 2 (some .int) ∈ tw := tbl_at 477 (by rfl) (by rfl)
set_option maxRecDepth 100000 in
theorem t6 : Cond.initialized RJ9 ∈ tw := tbl_at 9 (by decide +kernel) (by decide +kernel)
set_option maxRecDepth 100000 in
theorem t7 : Cond.static yJ9_min_7cf53 ∈ tw := tbl_at 476 (by decide +kernel) (by decide +kernel)
set_option maxRecDepth 100000 in
theorem t8 : Cond.code yX0_take cX0_take 6 (some .int) ∈ tw := tbl_at 617 (by rfl) (by rfl)
set_option maxRecDepth 100000 in
theorem t9 : Cond.initialized RX0 ∈ tw := tbl_at 7 (by decide +kernel) (by decide +kernel)
set_option maxRecDepth 100000 in
theorem t10 : Cond.methodLink RX0 34 yX0_take ∈ tw := tbl_at 614 (by decide +kernel) (by decide +kernel)
set_option maxRecDepth 100000 in
theorem t11 : Cond.instanceMethod yX0_take ∈ tw := tbl_at 616 (by decide +kernel) (by decide +kernel)
set_option maxRecDepth 100000 in
theorem t12 : Cond.selects yX0_take.cls yX0_take yX0_take ∈ tw := tbl_sel 18 (by decide +kernel) (by decide +kernel)
set_option maxRecDepth 100000 in
theorem t13 : Cond.fieldLink RX0 27 (TX0 4).1 (TX0 4).2.1 (TX0 4).2.2.1 ∈ tw := tbl_at 231 (by decide +kernel) (by decide +kernel)
set_option maxRecDepth 100000 in
theorem t14 : Cond.code yX0_spendForward cX0_spendForward 6 none ∈ tw := tbl_at 613 (by rfl) (by rfl)
set_option maxRecDepth 100000 in
theorem t15 : Cond.methodLink RX0 30 yX0_spendForward ∈ tw := tbl_at 610 (by decide +kernel) (by decide +kernel)
set_option maxRecDepth 100000 in
theorem t16 : Cond.instanceMethod yX0_spendForward ∈ tw := tbl_at 612 (by decide +kernel) (by decide +kernel)
set_option maxRecDepth 100000 in
theorem t17 : Cond.selects yX0_spendForward.cls yX0_spendForward yX0_spendForward ∈ tw := tbl_sel 17 (by decide +kernel) (by decide +kernel)
set_option maxRecDepth 100000 in
theorem t18 : Cond.fieldLink RX1 28 (TX1 1).1 (TX1 1).2.1 (TX1 1).2.2.1 ∈ tw := tbl_at 101 (by decide +kernel) (by decide +kernel)
set_option maxRecDepth 100000 in
theorem t19 : Cond.code yX6_within cX6_within 3 (some .boolean) ∈ tw := tbl_at 284 (by rfl) (by rfl)
set_option maxRecDepth 100000 in
theorem t20 : Cond.initialized RX6 ∈ tw := tbl_at 1 (by decide +kernel) (by decide +kernel)
set_option maxRecDepth 100000 in
theorem t21 : Cond.static yX6_within ∈ tw := tbl_at 283 (by decide +kernel) (by decide +kernel)
set_option maxRecDepth 100000 in
theorem t22 : Cond.fieldLink RX1 11 (TX1 0).1 (TX1 0).2.1 (TX1 0).2.2.1 ∈ tw := tbl_at 98 (by decide +kernel) (by decide +kernel)
set_option maxRecDepth 100000 in
theorem t23 : Cond.fieldLink RX1 36 (TX3 1).1 (TX3 1).2.1 (TX3 1).2.2.1 ∈ tw := tbl_at 34 (by decide +kernel) (by decide +kernel)
set_option maxRecDepth 100000 in
theorem t24 : Cond.fieldLink RX1 39 (TX3 0).1 (TX3 0).2.1 (TX3 0).2.2.1 ∈ tw := tbl_at 32 (by decide +kernel) (by decide +kernel)
set_option maxRecDepth 100000 in
theorem t25 : Cond.fieldLink RX1 42 (TX3 5).1 (TX3 5).2.1 (TX3 5).2.2.1 ∈ tw := tbl_at 45 (by decide +kernel) (by decide +kernel)
set_option maxRecDepth 100000 in
theorem t26 : Cond.fieldLink RX1 49 (TX3 2).1 (TX3 2).2.1 (TX3 2).2.2.1 ∈ tw := tbl_at 37 (by decide +kernel) (by decide +kernel)
set_option maxRecDepth 100000 in
theorem t27 : Cond.fieldLink RX1 52 (TX3 3).1 (TX3 3).2.1 (TX3 3).2.2.1 ∈ tw := tbl_at 38 (by decide +kernel) (by decide +kernel)
set_option maxRecDepth 100000 in
theorem t28 : Cond.fieldLink RX1 55 (TX3 4).1 (TX3 4).2.1 (TX3 4).2.2.1 ∈ tw := tbl_at 42 (by decide +kernel) (by decide +kernel)
set_option maxRecDepth 100000 in
theorem t29 : Cond.code yX1_whosePayeeIs cX1_whosePayeeIs 3 (some .int) ∈ tw := tbl_at 314 (by rfl) (by rfl)
set_option maxRecDepth 100000 in
theorem t30 : Cond.initialized RX1 ∈ tw := tbl_at 2 (by decide +kernel) (by decide +kernel)
set_option maxRecDepth 100000 in
theorem t31 : Cond.methodLink RX1 45 yX1_whosePayeeIs ∈ tw := tbl_at 319 (by decide +kernel) (by decide +kernel)
set_option maxRecDepth 100000 in
theorem t32 : Cond.instanceMethod yX1_whosePayeeIs ∈ tw := tbl_at 312 (by decide +kernel) (by decide +kernel)
set_option maxRecDepth 100000 in
theorem t33 : Cond.selects yX1_whosePayeeIs.cls yX1_whosePayeeIs yX1_whosePayeeIs ∈ tw := tbl_at 313 (by decide +kernel) (by decide +kernel)
set_option maxRecDepth 100000 in
theorem t34 : Cond.fieldLink RX1 58 (TX1 5).1 (TX1 5).2.1 (TX1 5).2.2.1 ∈ tw := tbl_at 107 (by decide +kernel) (by decide +kernel)
set_option maxRecDepth 100000 in
theorem t35 : Cond.fieldLink RX1 25 (TX1 4).1 (TX1 4).2.1 (TX1 4).2.2.1 ∈ tw := tbl_at 106 (by decide +kernel) (by decide +kernel)
set_option maxRecDepth 100000 in
theorem t36 : Cond.fieldLink RX1 18 (TX1 2).1 (TX1 2).2.1 (TX1 2).2.2.1 ∈ tw := tbl_at 104 (by decide +kernel) (by decide +kernel)
set_option maxRecDepth 100000 in
theorem t37 : Cond.fieldLink RX1 68 (TX3 7).1 (TX3 7).2.1 (TX3 7).2.2.1 ∈ tw := tbl_at 51 (by decide +kernel) (by decide +kernel)
set_option maxRecDepth 100000 in
theorem t38 : Cond.fieldLink RX1 22 (TX1 3).1 (TX1 3).2.1 (TX1 3).2.2.1 ∈ tw := tbl_at 105 (by decide +kernel) (by decide +kernel)
set_option maxRecDepth 100000 in
theorem t39 : Cond.methodLink RX1 71 yJ9_max_7cf53 ∈ tw := tbl_at 366 (by decide +kernel) (by decide +kernel)
set_option maxRecDepth 100000 in
theorem t40 : Cond.code Lib.Math.max.name Lib.Math.max.code 2 (some .int) ∈ tw := tbl_at 368 (by rfl) (by rfl)
set_option maxRecDepth 100000 in
theorem t41 : Cond.static yJ9_max_7cf53 ∈ tw := tbl_at 367 (by decide +kernel) (by decide +kernel)
set_option maxRecDepth 100000 in
theorem t42 : Cond.fieldLink RX1 65 (TX3 6).1 (TX3 6).2.1 (TX3 6).2.2.1 ∈ tw := tbl_at 48 (by decide +kernel) (by decide +kernel)
set_option maxRecDepth 100000 in
theorem t43 : Cond.code yX1_settleWaived cX1_settleWaived 5 none ∈ tw := tbl_at 365 (by rfl) (by rfl)
set_option maxRecDepth 100000 in
theorem t44 : Cond.methodLink RX1 61 yX1_settleWaived ∈ tw := tbl_at 377 (by decide +kernel) (by decide +kernel)
set_option maxRecDepth 100000 in
theorem t45 : Cond.instanceMethod yX1_settleWaived ∈ tw := tbl_at 363 (by decide +kernel) (by decide +kernel)
set_option maxRecDepth 100000 in
theorem t46 : Cond.selects yX1_settleWaived.cls yX1_settleWaived yX1_settleWaived ∈ tw := tbl_at 364 (by decide +kernel) (by decide +kernel)
set_option maxRecDepth 100000 in
theorem t47 : Cond.fieldLink RX1 80 (TX3 10).1 (TX3 10).2.1 (TX3 10).2.2.1 ∈ tw := tbl_at 63 (by decide +kernel) (by decide +kernel)
set_option maxRecDepth 100000 in
theorem t48 : Cond.fieldLink RX1 77 (TX3 9).1 (TX3 9).2.1 (TX3 9).2.2.1 ∈ tw := tbl_at 59 (by decide +kernel) (by decide +kernel)
set_option maxRecDepth 100000 in
theorem t49 : Cond.fieldLink RX3 33 (TX3 5).1 (TX3 5).2.1 (TX3 5).2.2.1 ∈ tw := tbl_at 44 (by decide +kernel) (by decide +kernel)
set_option maxRecDepth 100000 in
theorem t50 : Cond.fieldLink RX3 36 (TX3 6).1 (TX3 6).2.1 (TX3 6).2.2.1 ∈ tw := tbl_at 47 (by decide +kernel) (by decide +kernel)
set_option maxRecDepth 100000 in
theorem t51 : Cond.fieldLink RX3 39 (TX3 7).1 (TX3 7).2.1 (TX3 7).2.2.1 ∈ tw := tbl_at 50 (by decide +kernel) (by decide +kernel)
set_option maxRecDepth 100000 in
theorem t52 : Cond.methodLink RX3 42 yJ9_max_7cf53 ∈ tw := tbl_at 391 (by decide +kernel) (by decide +kernel)
set_option maxRecDepth 100000 in
theorem t53 : Cond.fieldLink RX3 48 (TX3 3).1 (TX3 3).2.1 (TX3 3).2.2.1 ∈ tw := tbl_at 39 (by decide +kernel) (by decide +kernel)
set_option maxRecDepth 100000 in
theorem t54 : Cond.code yX3_open cX3_open 1 (some .int) ∈ tw := tbl_at 390 (by rfl) (by rfl)
set_option maxRecDepth 100000 in
theorem t55 : Cond.initialized RX3 ∈ tw := tbl_at 3 (by decide +kernel) (by decide +kernel)
set_option maxRecDepth 100000 in
theorem t56 : Cond.methodLink RX1 83 yX3_open ∈ tw := tbl_at 469 (by decide +kernel) (by decide +kernel)
set_option maxRecDepth 100000 in
theorem t57 : Cond.instanceMethod yX3_open ∈ tw := tbl_at 388 (by decide +kernel) (by decide +kernel)
set_option maxRecDepth 100000 in
theorem t58 : Cond.selects yX3_open.cls yX3_open yX3_open ∈ tw := tbl_at 389 (by decide +kernel) (by decide +kernel)
set_option maxRecDepth 100000 in
theorem t59 : Cond.methodLink RX1 94 yJ9_min_7cf53 ∈ tw := tbl_at 475 (by decide +kernel) (by decide +kernel)
set_option maxRecDepth 100000 in
theorem t60 : Cond.code yX3_owing cX3_owing 1 (some .int) ∈ tw := tbl_at 361 (by rfl) (by rfl)
set_option maxRecDepth 100000 in
theorem t61 : Cond.methodLink RX1 91 yX3_owing ∈ tw := tbl_at 474 (by decide +kernel) (by decide +kernel)
set_option maxRecDepth 100000 in
theorem t62 : Cond.instanceMethod yX3_owing ∈ tw := tbl_at 359 (by decide +kernel) (by decide +kernel)
set_option maxRecDepth 100000 in
theorem t63 : Cond.selects yX3_owing.cls yX3_owing yX3_owing ∈ tw := tbl_at 360 (by decide +kernel) (by decide +kernel)
set_option maxRecDepth 100000 in
theorem t64 : Cond.code yX3_isBelow cX3_isBelow 2 (some .boolean) ∈ tw := tbl_at 473 (by rfl) (by rfl)
set_option maxRecDepth 100000 in
theorem t65 : Cond.methodLink RX1 87 yX3_isBelow ∈ tw := tbl_at 470 (by decide +kernel) (by decide +kernel)
set_option maxRecDepth 100000 in
theorem t66 : Cond.instanceMethod yX3_isBelow ∈ tw := tbl_at 471 (by decide +kernel) (by decide +kernel)
set_option maxRecDepth 100000 in
theorem t67 : Cond.selects yX3_isBelow.cls yX3_isBelow yX3_isBelow ∈ tw := tbl_at 472 (by decide +kernel) (by decide +kernel)
set_option maxRecDepth 100000 in
theorem t68 : Cond.constant RJ6 265 (1431655765) ∈ tw := tbl_at 574 (by decide +kernel) (by decide +kernel)
set_option maxRecDepth 100000 in
theorem t69 : Cond.constant RJ6 266 (858993459) ∈ tw := tbl_at 575 (by decide +kernel) (by decide +kernel)
set_option maxRecDepth 100000 in
theorem t70 : Cond.constant RJ6 267 (252645135) ∈ tw := tbl_at 576 (by decide +kernel) (by decide +kernel)
set_option maxRecDepth 100000 in
theorem t71 : Cond.methodLink RX1 97 yJ6_bitCount_0f7a4 ∈ tw := tbl_at 571 (by decide +kernel) (by decide +kernel)
set_option maxRecDepth 100000 in
theorem t72 : Cond.code yJ6_bitCount_0f7a4 cJ6_bitCount_0f7a4 1 (some .int) ∈ tw := tbl_at 573 (by rfl) (by rfl)
set_option maxRecDepth 100000 in
theorem t73 : Cond.initialized RJ6 ∈ tw := tbl_at 10 (by decide +kernel) (by decide +kernel)
set_option maxRecDepth 100000 in
theorem t74 : Cond.static yJ6_bitCount_0f7a4 ∈ tw := tbl_at 572 (by decide +kernel) (by decide +kernel)
set_option maxRecDepth 100000 in
theorem t75 : Cond.code yX1_openOfSet cX1_openOfSet 4 (some .int) ∈ tw := tbl_at 580 (by rfl) (by rfl)
set_option maxRecDepth 100000 in
theorem t76 : Cond.methodLink RX1 102 yX1_openOfSet ∈ tw := tbl_at 577 (by decide +kernel) (by decide +kernel)
set_option maxRecDepth 100000 in
theorem t77 : Cond.instanceMethod yX1_openOfSet ∈ tw := tbl_at 579 (by decide +kernel) (by decide +kernel)
set_option maxRecDepth 100000 in
theorem t78 : Cond.selects yX1_openOfSet.cls yX1_openOfSet yX1_openOfSet ∈ tw := tbl_sel 15 (by decide +kernel) (by decide +kernel)
set_option maxRecDepth 100000 in
theorem t79 : Cond.fieldLink RX3 21 (TX3 9).1 (TX3 9).2.1 (TX3 9).2.2.1 ∈ tw := tbl_at 56 (by decide +kernel) (by decide +kernel)
set_option maxRecDepth 100000 in
theorem t80 : Cond.fieldLink RX3 27 (TX3 11).1 (TX3 11).2.1 (TX3 11).2.2.1 ∈ tw := tbl_at 64 (by decide +kernel) (by decide +kernel)
set_option maxRecDepth 100000 in
theorem t81 : Cond.fieldLink RX3 51 (TX3 0).1 (TX3 0).2.1 (TX3 0).2.2.1 ∈ tw := tbl_at 33 (by decide +kernel) (by decide +kernel)
set_option maxRecDepth 100000 in
theorem t82 : Cond.fieldLink RX3 54 (TX3 1).1 (TX3 1).2.1 (TX3 1).2.2.1 ∈ tw := tbl_at 35 (by decide +kernel) (by decide +kernel)
set_option maxRecDepth 100000 in
theorem t83 : Cond.methodLink RX3 57 yX3_owing ∈ tw := tbl_at 386 (by decide +kernel) (by decide +kernel)
set_option maxRecDepth 100000 in
theorem t84 : Cond.methodLink RX3 61 yX3_open ∈ tw := tbl_at 387 (by decide +kernel) (by decide +kernel)
set_option maxRecDepth 100000 in
theorem t85 : Cond.fieldLink RX3 15 (TX3 4).1 (TX3 4).2.1 (TX3 4).2.2.1 ∈ tw := tbl_at 40 (by decide +kernel) (by decide +kernel)
set_option maxRecDepth 100000 in
theorem t86 : Cond.fieldLink RX3 9 (TX3 2).1 (TX3 2).2.1 (TX3 2).2.2.1 ∈ tw := tbl_at 36 (by decide +kernel) (by decide +kernel)
set_option maxRecDepth 100000 in
theorem t87 : Cond.fieldLink RX3 18 (TX3 8).1 (TX3 8).2.1 (TX3 8).2.2.1 ∈ tw := tbl_at 53 (by decide +kernel) (by decide +kernel)
set_option maxRecDepth 100000 in
theorem t88 : Cond.fieldLink RX3 24 (TX3 10).1 (TX3 10).2.1 (TX3 10).2.2.1 ∈ tw := tbl_at 60 (by decide +kernel) (by decide +kernel)
set_option maxRecDepth 100000 in
theorem t89 : Cond.fieldLink RX3 30 (TX3 12).1 (TX3 12).2.1 (TX3 12).2.2.1 ∈ tw := tbl_at 67 (by decide +kernel) (by decide +kernel)
set_option maxRecDepth 100000 in
theorem t90 : Cond.fieldLink RX4 35 (TX4 3).1 (TX4 3).2.1 (TX4 3).2.2.1 ∈ tw := tbl_at 161 (by decide +kernel) (by decide +kernel)
set_option maxRecDepth 100000 in
theorem t91 : Cond.fieldLink RX4 21 (TX4 2).1 (TX4 2).2.1 (TX4 2).2.2.1 ∈ tw := tbl_at 158 (by decide +kernel) (by decide +kernel)
set_option maxRecDepth 100000 in
theorem t92 : Cond.fieldLink RX4 43 (TX2 0).1 (TX2 0).2.1 (TX2 0).2.2.1 ∈ tw := tbl_at 135 (by decide +kernel) (by decide +kernel)
set_option maxRecDepth 100000 in
theorem t93 : Cond.fieldLink RX4 46 (TX2 1).1 (TX2 1).2.1 (TX2 1).2.2.1 ∈ tw := tbl_at 136 (by decide +kernel) (by decide +kernel)
set_option maxRecDepth 100000 in
theorem t94 : Cond.fieldLink RX4 49 (TX2 2).1 (TX2 2).2.1 (TX2 2).2.2.1 ∈ tw := tbl_at 137 (by decide +kernel) (by decide +kernel)
set_option maxRecDepth 100000 in
theorem t95 : Cond.fieldLink RX4 15 (TX4 1).1 (TX4 1).2.1 (TX4 1).2.2.1 ∈ tw := tbl_at 156 (by decide +kernel) (by decide +kernel)
set_option maxRecDepth 100000 in
theorem t96 : Cond.fieldLink RX4 74 (TX3 4).1 (TX3 4).2.1 (TX3 4).2.2.1 ∈ tw := tbl_at 41 (by decide +kernel) (by decide +kernel)
set_option maxRecDepth 100000 in
theorem t97 : Cond.fieldLink RX4 85 (TX3 8).1 (TX3 8).2.1 (TX3 8).2.2.1 ∈ tw := tbl_at 54 (by decide +kernel) (by decide +kernel)
set_option maxRecDepth 100000 in
theorem t98 : Cond.fieldLink RX4 88 (TX3 9).1 (TX3 9).2.1 (TX3 9).2.2.1 ∈ tw := tbl_at 57 (by decide +kernel) (by decide +kernel)
set_option maxRecDepth 100000 in
theorem t99 : Cond.fieldLink RX4 91 (TX3 10).1 (TX3 10).2.1 (TX3 10).2.2.1 ∈ tw := tbl_at 61 (by decide +kernel) (by decide +kernel)
set_option maxRecDepth 100000 in
theorem t100 : Cond.code yX4_lateness cX4_lateness 5 (some .int) ∈ tw := tbl_at 444 (by rfl) (by rfl)
set_option maxRecDepth 100000 in
theorem t101 : Cond.initialized RX4 ∈ tw := tbl_at 4 (by decide +kernel) (by decide +kernel)
set_option maxRecDepth 100000 in
theorem t102 : Cond.methodLink RX4 70 yX4_lateness ∈ tw := tbl_at 441 (by decide +kernel) (by decide +kernel)
set_option maxRecDepth 100000 in
theorem t103 : Cond.instanceMethod yX4_lateness ∈ tw := tbl_at 443 (by decide +kernel) (by decide +kernel)
set_option maxRecDepth 100000 in
theorem t104 : Cond.selects yX4_lateness.cls yX4_lateness yX4_lateness ∈ tw := tbl_sel 6 (by decide +kernel) (by decide +kernel)
set_option maxRecDepth 100000 in
theorem t105 : Cond.fieldLink RX4 94 (TX2 3).1 (TX2 3).2.1 (TX2 3).2.2.1 ∈ tw := tbl_at 140 (by decide +kernel) (by decide +kernel)
set_option maxRecDepth 100000 in
theorem t106 : Cond.fieldLink RX4 9 (TX4 0).1 (TX4 0).2.1 (TX4 0).2.2.1 ∈ tw := tbl_at 155 (by decide +kernel) (by decide +kernel)
set_option maxRecDepth 100000 in
theorem t107 : Cond.fieldLink RX4 52 (TX1 0).1 (TX1 0).2.1 (TX1 0).2.2.1 ∈ tw := tbl_at 99 (by decide +kernel) (by decide +kernel)
set_option maxRecDepth 100000 in
theorem t108 : Cond.fieldLink RX4 62 (TX3 11).1 (TX3 11).2.1 (TX3 11).2.2.1 ∈ tw := tbl_at 65 (by decide +kernel) (by decide +kernel)
set_option maxRecDepth 100000 in
theorem t109 : Cond.fieldLink RX4 67 (TX3 12).1 (TX3 12).2.1 (TX3 12).2.2.1 ∈ tw := tbl_at 68 (by decide +kernel) (by decide +kernel)
set_option maxRecDepth 100000 in
theorem t110 : Cond.methodLink RX4 81 yX3_open ∈ tw := tbl_at 449 (by decide +kernel) (by decide +kernel)
set_option maxRecDepth 100000 in
theorem t111 : Cond.code yX4_isSuitLost cX4_isSuitLost 5 (some .boolean) ∈ tw := tbl_at 448 (by rfl) (by rfl)
set_option maxRecDepth 100000 in
theorem t112 : Cond.methodLink RX4 77 yX4_isSuitLost ∈ tw := tbl_at 445 (by decide +kernel) (by decide +kernel)
set_option maxRecDepth 100000 in
theorem t113 : Cond.instanceMethod yX4_isSuitLost ∈ tw := tbl_at 447 (by decide +kernel) (by decide +kernel)
set_option maxRecDepth 100000 in
theorem t114 : Cond.selects yX4_isSuitLost.cls yX4_isSuitLost yX4_isSuitLost ∈ tw := tbl_sel 7 (by decide +kernel) (by decide +kernel)
set_option maxRecDepth 100000 in
theorem t115 : Cond.code yX4_noticeBar cX4_noticeBar 2 (some .int) ∈ tw := tbl_at 440 (by rfl) (by rfl)
set_option maxRecDepth 100000 in
theorem t116 : Cond.methodLink RX4 58 yX4_noticeBar ∈ tw := tbl_at 437 (by decide +kernel) (by decide +kernel)
set_option maxRecDepth 100000 in
theorem t117 : Cond.instanceMethod yX4_noticeBar ∈ tw := tbl_at 439 (by decide +kernel) (by decide +kernel)
set_option maxRecDepth 100000 in
theorem t118 : Cond.selects yX4_noticeBar.cls yX4_noticeBar yX4_noticeBar ∈ tw := tbl_sel 5 (by decide +kernel) (by decide +kernel)
set_option maxRecDepth 100000 in
theorem t119 : Cond.fieldLink RX4 97 (TX1 1).1 (TX1 1).2.1 (TX1 1).2.2.1 ∈ tw := tbl_at 103 (by decide +kernel) (by decide +kernel)
set_option maxRecDepth 100000 in
theorem t120 : Cond.fieldLink RX4 32 (TX4 6).1 (TX4 6).2.1 (TX4 6).2.2.1 ∈ tw := tbl_at 168 (by decide +kernel) (by decide +kernel)
set_option maxRecDepth 100000 in
theorem t121 : Cond.code yX1_boundOf cX1_boundOf 5 (some .int) ∈ tw := tbl_at 468 (by rfl) (by rfl)
set_option maxRecDepth 100000 in
theorem t122 : Cond.methodLink RX4 98 yX1_boundOf ∈ tw := tbl_at 465 (by decide +kernel) (by decide +kernel)
set_option maxRecDepth 100000 in
theorem t123 : Cond.instanceMethod yX1_boundOf ∈ tw := tbl_at 466 (by decide +kernel) (by decide +kernel)
set_option maxRecDepth 100000 in
theorem t124 : Cond.selects yX1_boundOf.cls yX1_boundOf yX1_boundOf ∈ tw := tbl_at 467 (by decide +kernel) (by decide +kernel)
set_option maxRecDepth 100000 in
theorem t125 : Cond.fieldLink RX4 26 (TX4 4).1 (TX4 4).2.1 (TX4 4).2.2.1 ∈ tw := tbl_at 163 (by decide +kernel) (by decide +kernel)
set_option maxRecDepth 100000 in
theorem t126 : Cond.fieldLink RX4 29 (TX4 5).1 (TX4 5).2.1 (TX4 5).2.2.1 ∈ tw := tbl_at 165 (by decide +kernel) (by decide +kernel)
set_option maxRecDepth 100000 in
theorem t127 : Cond.methodLink RX4 110 yJ9_min_7cf53 ∈ tw := tbl_at 480 (by decide +kernel) (by decide +kernel)
set_option maxRecDepth 100000 in
theorem t128 : Cond.methodLink RX4 106 yX4_verdictOfBar ∈ tw := tbl_at 479 (by decide +kernel) (by decide +kernel)
set_option maxRecDepth 100000 in
theorem t129 : Cond.code yX4_verdictOfBar cX4_verdictOfBar 1 (some .int) ∈ tw := tbl_at 452 (by rfl) (by rfl)
set_option maxRecDepth 100000 in
theorem t130 : Cond.static yX4_verdictOfBar ∈ tw := tbl_at 451 (by decide +kernel) (by decide +kernel)
set_option maxRecDepth 100000 in
theorem t131 : Cond.code yX4_barOn cX4_barOn 7 (some .int) ∈ tw := tbl_at 436 (by rfl) (by rfl)
set_option maxRecDepth 100000 in
theorem t132 : Cond.methodLink RX4 102 yX4_barOn ∈ tw := tbl_at 478 (by decide +kernel) (by decide +kernel)
set_option maxRecDepth 100000 in
theorem t133 : Cond.instanceMethod yX4_barOn ∈ tw := tbl_at 434 (by decide +kernel) (by decide +kernel)
set_option maxRecDepth 100000 in
theorem t134 : Cond.selects yX4_barOn.cls yX4_barOn yX4_barOn ∈ tw := tbl_at 435 (by decide +kernel) (by decide +kernel)
set_option maxRecDepth 100000 in
theorem t135 : Cond.code yX4_weigh cX4_weigh 5 none ∈ tw := tbl_at 464 (by rfl) (by rfl)
set_option maxRecDepth 100000 in
theorem t136 : Cond.methodLink RX4 115 yX4_weigh ∈ tw := tbl_at 560 (by decide +kernel) (by decide +kernel)
set_option maxRecDepth 100000 in
theorem t137 : Cond.instanceMethod yX4_weigh ∈ tw := tbl_at 462 (by decide +kernel) (by decide +kernel)
set_option maxRecDepth 100000 in
theorem t138 : Cond.selects yX4_weigh.cls yX4_weigh yX4_weigh ∈ tw := tbl_at 463 (by decide +kernel) (by decide +kernel)
set_option maxRecDepth 100000 in
theorem t139 : Cond.methodLink RX4 119 yX3_isBelow ∈ tw := tbl_at 561 (by decide +kernel) (by decide +kernel)
set_option maxRecDepth 100000 in
theorem t140 : Cond.code yX1_firstSpade cX1_firstSpade 5 (some .int) ∈ tw := tbl_at 492 (by rfl) (by rfl)
set_option maxRecDepth 100000 in
theorem t141 : Cond.methodLink RX4 123 yX1_firstSpade ∈ tw := tbl_at 489 (by decide +kernel) (by decide +kernel)
set_option maxRecDepth 100000 in
theorem t142 : Cond.instanceMethod yX1_firstSpade ∈ tw := tbl_at 490 (by decide +kernel) (by decide +kernel)
set_option maxRecDepth 100000 in
theorem t143 : Cond.selects yX1_firstSpade.cls yX1_firstSpade yX1_firstSpade ∈ tw := tbl_at 491 (by decide +kernel) (by decide +kernel)
set_option maxRecDepth 100000 in
theorem t144 : Cond.fieldLink RX5 15 (TX5 1).1 (TX5 1).2.1 (TX5 1).2.2.1 ∈ tw := tbl_at 191 (by decide +kernel) (by decide +kernel)
set_option maxRecDepth 100000 in
theorem t145 : Cond.fieldLink RX5 31 (TX5 3).1 (TX5 3).2.1 (TX5 3).2.2.1 ∈ tw := tbl_at 193 (by decide +kernel) (by decide +kernel)
set_option maxRecDepth 100000 in
theorem t146 : Cond.fieldLink RX5 19 (TX5 2).1 (TX5 2).2.1 (TX5 2).2.2.1 ∈ tw := tbl_at 192 (by decide +kernel) (by decide +kernel)
set_option maxRecDepth 100000 in
theorem t147 : Cond.fieldLink RX5 28 (TX5 6).1 (TX5 6).2.1 (TX5 6).2.2.1 ∈ tw := tbl_at 197 (by decide +kernel) (by decide +kernel)
set_option maxRecDepth 100000 in
theorem t148 : Cond.fieldLink RX5 22 (TX5 4).1 (TX5 4).2.1 (TX5 4).2.2.1 ∈ tw := tbl_at 195 (by decide +kernel) (by decide +kernel)
set_option maxRecDepth 100000 in
theorem t149 : Cond.fieldLink RX5 25 (TX5 5).1 (TX5 5).2.1 (TX5 5).2.2.1 ∈ tw := tbl_at 196 (by decide +kernel) (by decide +kernel)
set_option maxRecDepth 100000 in
theorem t150 : Cond.fieldLink RX5 9 (TX5 0).1 (TX5 0).2.1 (TX5 0).2.2.1 ∈ tw := tbl_at 190 (by decide +kernel) (by decide +kernel)
set_option maxRecDepth 100000 in
theorem t151 : Cond.methodLink RX5 53 yX4_weigh ∈ tw := tbl_at 525 (by decide +kernel) (by decide +kernel)
set_option maxRecDepth 100000 in
theorem t152 : Cond.fieldLink RX5 78 (TX4 5).1 (TX4 5).2.1 (TX4 5).2.2.1 ∈ tw := tbl_at 166 (by decide +kernel) (by decide +kernel)
set_option maxRecDepth 100000 in
theorem t153 : Cond.fieldLink RX5 62 (TX4 2).1 (TX4 2).2.1 (TX4 2).2.2.1 ∈ tw := tbl_at 159 (by decide +kernel) (by decide +kernel)
set_option maxRecDepth 100000 in
theorem t154 : Cond.fieldLink RX5 66 (TX2 4).1 (TX2 4).2.1 (TX2 4).2.2.1 ∈ tw := tbl_at 142 (by decide +kernel) (by decide +kernel)
set_option maxRecDepth 100000 in
theorem t155 : Cond.fieldLink RX5 71 (TX4 4).1 (TX4 4).2.1 (TX4 4).2.2.1 ∈ tw := tbl_at 164 (by decide +kernel) (by decide +kernel)
set_option maxRecDepth 100000 in
theorem t156 : Cond.code yX4_rankDay cX4_rankDay 5 (some .int) ∈ tw := tbl_at 488 (by rfl) (by rfl)
set_option maxRecDepth 100000 in
theorem t157 : Cond.methodLink RX5 74 yX4_rankDay ∈ tw := tbl_at 527 (by decide +kernel) (by decide +kernel)
set_option maxRecDepth 100000 in
theorem t158 : Cond.instanceMethod yX4_rankDay ∈ tw := tbl_at 486 (by decide +kernel) (by decide +kernel)
set_option maxRecDepth 100000 in
theorem t159 : Cond.selects yX4_rankDay.cls yX4_rankDay yX4_rankDay ∈ tw := tbl_at 487 (by decide +kernel) (by decide +kernel)
set_option maxRecDepth 100000 in
theorem t160 : Cond.code yX4_has cX4_has 2 (some .boolean) ∈ tw := tbl_at 419 (by rfl) (by rfl)
set_option maxRecDepth 100000 in
theorem t161 : Cond.methodLink RX5 58 yX4_has ∈ tw := tbl_at 526 (by decide +kernel) (by decide +kernel)
set_option maxRecDepth 100000 in
theorem t162 : Cond.instanceMethod yX4_has ∈ tw := tbl_at 417 (by decide +kernel) (by decide +kernel)
set_option maxRecDepth 100000 in
theorem t163 : Cond.selects yX4_has.cls yX4_has yX4_has ∈ tw := tbl_at 418 (by decide +kernel) (by decide +kernel)
set_option maxRecDepth 100000 in
theorem t164 : Cond.fieldLink RX5 35 (TX5 7).1 (TX5 7).2.1 (TX5 7).2.2.1 ∈ tw := tbl_at 198 (by decide +kernel) (by decide +kernel)
set_option maxRecDepth 100000 in
theorem t165 : Cond.code yX5_payWhole cX5_payWhole 3 none ∈ tw := tbl_at 543 (by rfl) (by rfl)
set_option maxRecDepth 100000 in
theorem t166 : Cond.initialized RX5 ∈ tw := tbl_at 6 (by decide +kernel) (by decide +kernel)
set_option maxRecDepth 100000 in
theorem t167 : Cond.methodLink RX5 82 yX5_payWhole ∈ tw := tbl_at 540 (by decide +kernel) (by decide +kernel)
set_option maxRecDepth 100000 in
theorem t168 : Cond.instanceMethod yX5_payWhole ∈ tw := tbl_at 542 (by decide +kernel) (by decide +kernel)
set_option maxRecDepth 100000 in
theorem t169 : Cond.selects yX5_payWhole.cls yX5_payWhole yX5_payWhole ∈ tw := tbl_sel 14 (by decide +kernel) (by decide +kernel)
set_option maxRecDepth 100000 in
theorem t170 : Cond.code yX5_shareLeft cX5_shareLeft 6 none ∈ tw := tbl_at 539 (by rfl) (by rfl)
set_option maxRecDepth 100000 in
theorem t171 : Cond.methodLink RX5 79 yX5_shareLeft ∈ tw := tbl_at 536 (by decide +kernel) (by decide +kernel)
set_option maxRecDepth 100000 in
theorem t172 : Cond.instanceMethod yX5_shareLeft ∈ tw := tbl_at 538 (by decide +kernel) (by decide +kernel)
set_option maxRecDepth 100000 in
theorem t173 : Cond.selects yX5_shareLeft.cls yX5_shareLeft yX5_shareLeft ∈ tw := tbl_sel 13 (by decide +kernel) (by decide +kernel)
set_option maxRecDepth 100000 in
theorem t174 : Cond.code yX5_rankAfter cX5_rankAfter 4 (some .int) ∈ tw := tbl_at 531 (by rfl) (by rfl)
set_option maxRecDepth 100000 in
theorem t175 : Cond.methodLink RX5 45 yX5_rankAfter ∈ tw := tbl_at 528 (by decide +kernel) (by decide +kernel)
set_option maxRecDepth 100000 in
theorem t176 : Cond.instanceMethod yX5_rankAfter ∈ tw := tbl_at 530 (by decide +kernel) (by decide +kernel)
set_option maxRecDepth 100000 in
theorem t177 : Cond.selects yX5_rankAfter.cls yX5_rankAfter yX5_rankAfter ∈ tw := tbl_sel 11 (by decide +kernel) (by decide +kernel)
set_option maxRecDepth 100000 in
theorem t178 : Cond.code yX5_enterClaims cX5_enterClaims 7 none ∈ tw := tbl_at 524 (by rfl) (by rfl)
set_option maxRecDepth 100000 in
theorem t179 : Cond.methodLink RX5 41 yX5_enterClaims ∈ tw := tbl_at 521 (by decide +kernel) (by decide +kernel)
set_option maxRecDepth 100000 in
theorem t180 : Cond.instanceMethod yX5_enterClaims ∈ tw := tbl_at 523 (by decide +kernel) (by decide +kernel)
set_option maxRecDepth 100000 in
theorem t181 : Cond.selects yX5_enterClaims.cls yX5_enterClaims yX5_enterClaims ∈ tw := tbl_sel 10 (by decide +kernel) (by decide +kernel)
set_option maxRecDepth 100000 in
theorem t182 : Cond.code yX5_enterLoans cX5_enterLoans 2 none ∈ tw := tbl_at 520 (by rfl) (by rfl)
set_option maxRecDepth 100000 in
theorem t183 : Cond.methodLink RX5 38 yX5_enterLoans ∈ tw := tbl_at 517 (by decide +kernel) (by decide +kernel)
set_option maxRecDepth 100000 in
theorem t184 : Cond.instanceMethod yX5_enterLoans ∈ tw := tbl_at 519 (by decide +kernel) (by decide +kernel)
set_option maxRecDepth 100000 in
theorem t185 : Cond.selects yX5_enterLoans.cls yX5_enterLoans yX5_enterLoans ∈ tw := tbl_sel 9 (by decide +kernel) (by decide +kernel)
set_option maxRecDepth 100000 in
theorem t186 : Cond.code yX5_payRank cX5_payRank 4 none ∈ tw := tbl_at 535 (by rfl) (by rfl)
set_option maxRecDepth 100000 in
theorem t187 : Cond.methodLink RX5 49 yX5_payRank ∈ tw := tbl_at 532 (by decide +kernel) (by decide +kernel)
set_option maxRecDepth 100000 in
theorem t188 : Cond.instanceMethod yX5_payRank ∈ tw := tbl_at 534 (by decide +kernel) (by decide +kernel)
set_option maxRecDepth 100000 in
theorem t189 : Cond.selects yX5_payRank.cls yX5_payRank yX5_payRank ∈ tw := tbl_sel 12 (by decide +kernel) (by decide +kernel)
set_option maxRecDepth 100000 in
theorem t190 : Cond.methodLink RX6 74 yX6_within ∈ tw := tbl_at 282 (by decide +kernel) (by decide +kernel)
set_option maxRecDepth 100000 in
theorem t191 : Cond.fieldLink RX6 52 (TX6 9).1 (TX6 9).2.1 (TX6 9).2.2.1 ∈ tw := tbl_at 253 (by decide +kernel) (by decide +kernel)
set_option maxRecDepth 100000 in
theorem t192 : Cond.constant RX6 275 (-1000000000) ∈ tw := tbl_at 289 (by decide +kernel) (by decide +kernel)
set_option maxRecDepth 100000 in
theorem t193 : Cond.fieldLink RX6 13 (TX6 1).1 (TX6 1).2.1 (TX6 1).2.2.1 ∈ tw := tbl_at 245 (by decide +kernel) (by decide +kernel)
set_option maxRecDepth 100000 in
theorem t194 : Cond.fieldLink RX6 9 (TX6 0).1 (TX6 0).2.1 (TX6 0).2.2.1 ∈ tw := tbl_at 244 (by decide +kernel) (by decide +kernel)
set_option maxRecDepth 100000 in
theorem t195 : Cond.code yX6_finding cX6_finding 2 (some .int) ∈ tw := tbl_at 288 (by rfl) (by rfl)
set_option maxRecDepth 100000 in
theorem t196 : Cond.methodLink RX6 59 yX6_finding ∈ tw := tbl_at 285 (by decide +kernel) (by decide +kernel)
set_option maxRecDepth 100000 in
theorem t197 : Cond.instanceMethod yX6_finding ∈ tw := tbl_at 287 (by decide +kernel) (by decide +kernel)
set_option maxRecDepth 100000 in
theorem t198 : Cond.selects yX6_finding.cls yX6_finding yX6_finding ∈ tw := tbl_sel 0 (by decide +kernel) (by decide +kernel)
set_option maxRecDepth 100000 in
theorem t199 : Cond.methodLink RX6 55 yX6_isKindNumber ∈ tw := tbl_at 279 (by decide +kernel) (by decide +kernel)
set_option maxRecDepth 100000 in
theorem t200 : Cond.code yX6_isKindNumber cX6_isKindNumber 1 (some .boolean) ∈ tw := tbl_at 281 (by rfl) (by rfl)
set_option maxRecDepth 100000 in
theorem t201 : Cond.static yX6_isKindNumber ∈ tw := tbl_at 280 (by decide +kernel) (by decide +kernel)
set_option maxRecDepth 100000 in
theorem t202 : Cond.fieldLink RX6 20 (TX6 2).1 (TX6 2).2.1 (TX6 2).2.2.1 ∈ tw := tbl_at 246 (by decide +kernel) (by decide +kernel)
set_option maxRecDepth 100000 in
theorem t203 : Cond.code yX1_howManyPaidBy cX1_howManyPaidBy 4 (some .int) ∈ tw := tbl_at 305 (by rfl) (by rfl)
set_option maxRecDepth 100000 in
theorem t204 : Cond.methodLink RX6 70 yX1_howManyPaidBy ∈ tw := tbl_at 302 (by decide +kernel) (by decide +kernel)
set_option maxRecDepth 100000 in
theorem t205 : Cond.instanceMethod yX1_howManyPaidBy ∈ tw := tbl_at 303 (by decide +kernel) (by decide +kernel)
set_option maxRecDepth 100000 in
theorem t206 : Cond.selects yX1_howManyPaidBy.cls yX1_howManyPaidBy yX1_howManyPaidBy ∈ tw := tbl_at 304 (by decide +kernel) (by decide +kernel)
set_option maxRecDepth 100000 in
theorem t207 : Cond.code yX6_isOfKind cX6_isOfKind 4 (some .boolean) ∈ tw := tbl_at 301 (by rfl) (by rfl)
set_option maxRecDepth 100000 in
theorem t208 : Cond.methodLink RX6 66 yX6_isOfKind ∈ tw := tbl_at 298 (by decide +kernel) (by decide +kernel)
set_option maxRecDepth 100000 in
theorem t209 : Cond.instanceMethod yX6_isOfKind ∈ tw := tbl_at 300 (by decide +kernel) (by decide +kernel)
set_option maxRecDepth 100000 in
theorem t210 : Cond.selects yX6_isOfKind.cls yX6_isOfKind yX6_isOfKind ∈ tw := tbl_sel 2 (by decide +kernel) (by decide +kernel)
set_option maxRecDepth 100000 in
theorem t211 : Cond.code yX6_isParty cX6_isParty 2 (some .boolean) ∈ tw := tbl_at 297 (by rfl) (by rfl)
set_option maxRecDepth 100000 in
theorem t212 : Cond.methodLink RX6 63 yX6_isParty ∈ tw := tbl_at 294 (by decide +kernel) (by decide +kernel)
set_option maxRecDepth 100000 in
theorem t213 : Cond.instanceMethod yX6_isParty ∈ tw := tbl_at 296 (by decide +kernel) (by decide +kernel)
set_option maxRecDepth 100000 in
theorem t214 : Cond.selects yX6_isParty.cls yX6_isParty yX6_isParty ∈ tw := tbl_sel 1 (by decide +kernel) (by decide +kernel)
set_option maxRecDepth 100000 in
theorem t215 : Cond.constant RX6 73 (100000) ∈ tw := tbl_at 310 (by decide +kernel) (by decide +kernel)
set_option maxRecDepth 100000 in
theorem t216 : Cond.fieldLink RX6 81 (TX1 1).1 (TX1 1).2.1 (TX1 1).2.2.1 ∈ tw := tbl_at 102 (by decide +kernel) (by decide +kernel)
set_option maxRecDepth 100000 in
theorem t217 : Cond.code yX1_agree cX1_agree 5 (some .int) ∈ tw := tbl_at 318 (by rfl) (by rfl)
set_option maxRecDepth 100000 in
theorem t218 : Cond.methodLink RX6 84 yX1_agree ∈ tw := tbl_at 315 (by decide +kernel) (by decide +kernel)
set_option maxRecDepth 100000 in
theorem t219 : Cond.instanceMethod yX1_agree ∈ tw := tbl_at 316 (by decide +kernel) (by decide +kernel)
set_option maxRecDepth 100000 in
theorem t220 : Cond.selects yX1_agree.cls yX1_agree yX1_agree ∈ tw := tbl_at 317 (by decide +kernel) (by decide +kernel)
set_option maxRecDepth 100000 in
theorem t221 : Cond.methodLink RX6 78 yX1_whosePayeeIs ∈ tw := tbl_at 311 (by decide +kernel) (by decide +kernel)
set_option maxRecDepth 100000 in
theorem t222 : Cond.fieldLink RX6 91 (TX1 0).1 (TX1 0).2.1 (TX1 0).2.2.1 ∈ tw := tbl_at 100 (by decide +kernel) (by decide +kernel)
set_option maxRecDepth 100000 in
theorem t223 : Cond.fieldLink RX6 95 (TX3 5).1 (TX3 5).2.1 (TX3 5).2.2.1 ∈ tw := tbl_at 46 (by decide +kernel) (by decide +kernel)
set_option maxRecDepth 100000 in
theorem t224 : Cond.constant RX6 100 (1000000) ∈ tw := tbl_at 329 (by decide +kernel) (by decide +kernel)
set_option maxRecDepth 100000 in
theorem t225 : Cond.code yX1_has cX1_has 2 (some .boolean) ∈ tw := tbl_at 327 (by rfl) (by rfl)
set_option maxRecDepth 100000 in
theorem t226 : Cond.methodLink RX6 88 yX1_has ∈ tw := tbl_at 324 (by decide +kernel) (by decide +kernel)
set_option maxRecDepth 100000 in
theorem t227 : Cond.instanceMethod yX1_has ∈ tw := tbl_at 325 (by decide +kernel) (by decide +kernel)
set_option maxRecDepth 100000 in
theorem t228 : Cond.selects yX1_has.cls yX1_has yX1_has ∈ tw := tbl_at 326 (by decide +kernel) (by decide +kernel)
set_option maxRecDepth 100000 in
theorem t229 : Cond.fieldLink RX6 126 (TX6 6).1 (TX6 6).2.1 (TX6 6).2.2.1 ∈ tw := tbl_at 250 (by decide +kernel) (by decide +kernel)
set_option maxRecDepth 100000 in
theorem t230 : Cond.fieldLink RX6 108 (TX3 9).1 (TX3 9).2.1 (TX3 9).2.2.1 ∈ tw := tbl_at 58 (by decide +kernel) (by decide +kernel)
set_option maxRecDepth 100000 in
theorem t231 : Cond.fieldLink RX6 111 (TX3 10).1 (TX3 10).2.1 (TX3 10).2.2.1 ∈ tw := tbl_at 62 (by decide +kernel) (by decide +kernel)
set_option maxRecDepth 100000 in
theorem t232 : Cond.code yX3_hasEnded cX3_hasEnded 1 (some .boolean) ∈ tw := tbl_at 341 (by rfl) (by rfl)
set_option maxRecDepth 100000 in
theorem t233 : Cond.methodLink RX6 104 yX3_hasEnded ∈ tw := tbl_at 338 (by decide +kernel) (by decide +kernel)
set_option maxRecDepth 100000 in
theorem t234 : Cond.instanceMethod yX3_hasEnded ∈ tw := tbl_at 339 (by decide +kernel) (by decide +kernel)
set_option maxRecDepth 100000 in
theorem t235 : Cond.selects yX3_hasEnded.cls yX3_hasEnded yX3_hasEnded ∈ tw := tbl_at 340 (by decide +kernel) (by decide +kernel)
set_option maxRecDepth 100000 in
theorem t236 : Cond.code yX6_isSpanUpToToday cX6_isSpanUpToToday 3 (some .boolean) ∈ tw := tbl_at 337 (by rfl) (by rfl)
set_option maxRecDepth 100000 in
theorem t237 : Cond.methodLink RX6 101 yX6_isSpanUpToToday ∈ tw := tbl_at 334 (by decide +kernel) (by decide +kernel)
set_option maxRecDepth 100000 in
theorem t238 : Cond.instanceMethod yX6_isSpanUpToToday ∈ tw := tbl_at 336 (by decide +kernel) (by decide +kernel)
set_option maxRecDepth 100000 in
theorem t239 : Cond.selects yX6_isSpanUpToToday.cls yX6_isSpanUpToToday yX6_isSpanUpToToday ∈ tw := tbl_sel 3 (by decide +kernel) (by decide +kernel)
set_option maxRecDepth 100000 in
theorem t240 : Cond.fieldLink RX6 117 (TX3 11).1 (TX3 11).2.1 (TX3 11).2.2.1 ∈ tw := tbl_at 66 (by decide +kernel) (by decide +kernel)
set_option maxRecDepth 100000 in
theorem t241 : Cond.fieldLink RX6 120 (TX3 12).1 (TX3 12).2.1 (TX3 12).2.2.1 ∈ tw := tbl_at 69 (by decide +kernel) (by decide +kernel)
set_option maxRecDepth 100000 in
theorem t242 : Cond.code yX3_hasBegun cX3_hasBegun 1 (some .boolean) ∈ tw := tbl_at 349 (by rfl) (by rfl)
set_option maxRecDepth 100000 in
theorem t243 : Cond.methodLink RX6 114 yX3_hasBegun ∈ tw := tbl_at 346 (by decide +kernel) (by decide +kernel)
set_option maxRecDepth 100000 in
theorem t244 : Cond.instanceMethod yX3_hasBegun ∈ tw := tbl_at 347 (by decide +kernel) (by decide +kernel)
set_option maxRecDepth 100000 in
theorem t245 : Cond.selects yX3_hasBegun.cls yX3_hasBegun yX3_hasBegun ∈ tw := tbl_at 348 (by decide +kernel) (by decide +kernel)
set_option maxRecDepth 100000 in
theorem t246 : Cond.fieldLink RX6 123 (TX3 8).1 (TX3 8).2.1 (TX3 8).2.2.1 ∈ tw := tbl_at 55 (by decide +kernel) (by decide +kernel)
set_option maxRecDepth 100000 in
theorem t247 : Cond.fieldLink RX6 133 (TX3 6).1 (TX3 6).2.1 (TX3 6).2.2.1 ∈ tw := tbl_at 49 (by decide +kernel) (by decide +kernel)
set_option maxRecDepth 100000 in
theorem t248 : Cond.methodLink RX6 129 yX3_owing ∈ tw := tbl_at 358 (by decide +kernel) (by decide +kernel)
set_option maxRecDepth 100000 in
theorem t249 : Cond.methodLink RX6 136 yX1_settleWaived ∈ tw := tbl_at 362 (by decide +kernel) (by decide +kernel)
set_option maxRecDepth 100000 in
theorem t250 : Cond.fieldLink RX6 140 (TX1 5).1 (TX1 5).2.1 (TX1 5).2.2.1 ∈ tw := tbl_at 108 (by decide +kernel) (by decide +kernel)
set_option maxRecDepth 100000 in
theorem t251 : Cond.fieldLink RX6 147 (TX3 7).1 (TX3 7).2.1 (TX3 7).2.2.1 ∈ tw := tbl_at 52 (by decide +kernel) (by decide +kernel)
set_option maxRecDepth 100000 in
theorem t252 : Cond.code yX1_addWaiver cX1_addWaiver 4 none ∈ tw := tbl_at 376 (by rfl) (by rfl)
set_option maxRecDepth 100000 in
theorem t253 : Cond.methodLink RX6 143 yX1_addWaiver ∈ tw := tbl_at 373 (by decide +kernel) (by decide +kernel)
set_option maxRecDepth 100000 in
theorem t254 : Cond.instanceMethod yX1_addWaiver ∈ tw := tbl_at 374 (by decide +kernel) (by decide +kernel)
set_option maxRecDepth 100000 in
theorem t255 : Cond.selects yX1_addWaiver.cls yX1_addWaiver yX1_addWaiver ∈ tw := tbl_at 375 (by decide +kernel) (by decide +kernel)
set_option maxRecDepth 100000 in
theorem t256 : Cond.code yX3_detail cX3_detail 2 (some .int) ∈ tw := tbl_at 385 (by rfl) (by rfl)
set_option maxRecDepth 100000 in
theorem t257 : Cond.methodLink RX6 150 yX3_detail ∈ tw := tbl_at 382 (by decide +kernel) (by decide +kernel)
set_option maxRecDepth 100000 in
theorem t258 : Cond.instanceMethod yX3_detail ∈ tw := tbl_at 383 (by decide +kernel) (by decide +kernel)
set_option maxRecDepth 100000 in
theorem t259 : Cond.selects yX3_detail.cls yX3_detail yX3_detail ∈ tw := tbl_at 384 (by decide +kernel) (by decide +kernel)
set_option maxRecDepth 100000 in
theorem t260 : Cond.fieldLink RX6 153 "LienTower" "LAW_LEAST" "[I" ∈ tw := tbl_at 400 (by decide +kernel) (by decide +kernel)
set_option maxRecDepth 100000 in
theorem t261 : Cond.fieldLink RX6 156 "LienTower" "LAW_MOST" "[I" ∈ tw := tbl_at 402 (by decide +kernel) (by decide +kernel)
set_option maxRecDepth 100000 in
theorem t262 : Cond.fieldLink RX6 29 (TX6 3).1 (TX6 3).2.1 (TX6 3).2.2.1 ∈ tw := tbl_at 247 (by decide +kernel) (by decide +kernel)
set_option maxRecDepth 100000 in
theorem t263 : Cond.fieldLink RX6 159 (TX4 1).1 (TX4 1).2.1 (TX4 1).2.2.1 ∈ tw := tbl_at 157 (by decide +kernel) (by decide +kernel)
set_option maxRecDepth 100000 in
theorem t264 : Cond.fieldLink RX6 162 (TX4 3).1 (TX4 3).2.1 (TX4 3).2.2.1 ∈ tw := tbl_at 162 (by decide +kernel) (by decide +kernel)
set_option maxRecDepth 100000 in
theorem t265 : Cond.code yX4_enter cX4_enter 5 (some .int) ∈ tw := tbl_at 411 (by rfl) (by rfl)
set_option maxRecDepth 100000 in
theorem t266 : Cond.methodLink RX6 163 yX4_enter ∈ tw := tbl_at 408 (by decide +kernel) (by decide +kernel)
set_option maxRecDepth 100000 in
theorem t267 : Cond.instanceMethod yX4_enter ∈ tw := tbl_at 409 (by decide +kernel) (by decide +kernel)
set_option maxRecDepth 100000 in
theorem t268 : Cond.selects yX4_enter.cls yX4_enter yX4_enter ∈ tw := tbl_at 410 (by decide +kernel) (by decide +kernel)
set_option maxRecDepth 100000 in
theorem t269 : Cond.fieldLink RX6 167 (TX4 2).1 (TX4 2).2.1 (TX4 2).2.2.1 ∈ tw := tbl_at 160 (by decide +kernel) (by decide +kernel)
set_option maxRecDepth 100000 in
theorem t270 : Cond.fieldLink RX6 171 (TX2 3).1 (TX2 3).2.1 (TX2 3).2.2.1 ∈ tw := tbl_at 141 (by decide +kernel) (by decide +kernel)
set_option maxRecDepth 100000 in
theorem t271 : Cond.methodLink RX6 166 yX4_has ∈ tw := tbl_at 416 (by decide +kernel) (by decide +kernel)
set_option maxRecDepth 100000 in
theorem t272 : Cond.fieldLink RX6 176 (TX2 4).1 (TX2 4).2.1 (TX2 4).2.2.1 ∈ tw := tbl_at 143 (by decide +kernel) (by decide +kernel)
set_option maxRecDepth 100000 in
theorem t273 : Cond.fieldLink RX6 276 (TX2 2).1 (TX2 2).2.1 (TX2 2).2.2.1 ∈ tw := tbl_at 138 (by decide +kernel) (by decide +kernel)
set_option maxRecDepth 100000 in
theorem t274 : Cond.methodLink RX6 186 yX4_verdictOfBar ∈ tw := tbl_at 450 (by decide +kernel) (by decide +kernel)
set_option maxRecDepth 100000 in
theorem t275 : Cond.methodLink RX6 182 yX4_barOn ∈ tw := tbl_at 433 (by decide +kernel) (by decide +kernel)
set_option maxRecDepth 100000 in
theorem t276 : Cond.code yX6_isJudgeable cX6_isJudgeable 3 (some .boolean) ∈ tw := tbl_at 432 (by rfl) (by rfl)
set_option maxRecDepth 100000 in
theorem t277 : Cond.methodLink RX6 179 yX6_isJudgeable ∈ tw := tbl_at 429 (by decide +kernel) (by decide +kernel)
set_option maxRecDepth 100000 in
theorem t278 : Cond.instanceMethod yX6_isJudgeable ∈ tw := tbl_at 431 (by decide +kernel) (by decide +kernel)
set_option maxRecDepth 100000 in
theorem t279 : Cond.selects yX6_isJudgeable.cls yX6_isJudgeable yX6_isJudgeable ∈ tw := tbl_sel 4 (by decide +kernel) (by decide +kernel)
set_option maxRecDepth 100000 in
theorem t280 : Cond.fieldLink RX6 192 (TX4 5).1 (TX4 5).2.1 (TX4 5).2.2.1 ∈ tw := tbl_at 167 (by decide +kernel) (by decide +kernel)
set_option maxRecDepth 100000 in
theorem t281 : Cond.methodLink RX6 189 yX4_weigh ∈ tw := tbl_at 461 (by decide +kernel) (by decide +kernel)
set_option maxRecDepth 100000 in
theorem t282 : Cond.methodLink RX6 195 yX4_rankDay ∈ tw := tbl_at 485 (by decide +kernel) (by decide +kernel)
set_option maxRecDepth 100000 in
theorem t283 : Cond.fieldLink RX6 38 (TX6 4).1 (TX6 4).2.1 (TX6 4).2.2.1 ∈ tw := tbl_at 248 (by decide +kernel) (by decide +kernel)
set_option maxRecDepth 100000 in
theorem t284 : Cond.fieldLink RX6 198 (TX5 3).1 (TX5 3).2.1 (TX5 3).2.2.1 ∈ tw := tbl_at 194 (by decide +kernel) (by decide +kernel)
set_option maxRecDepth 100000 in
theorem t285 : Cond.code yX5_record cX5_record 3 (some .int) ∈ tw := tbl_at 500 (by rfl) (by rfl)
set_option maxRecDepth 100000 in
theorem t286 : Cond.methodLink RX6 201 yX5_record ∈ tw := tbl_at 497 (by decide +kernel) (by decide +kernel)
set_option maxRecDepth 100000 in
theorem t287 : Cond.instanceMethod yX5_record ∈ tw := tbl_at 498 (by decide +kernel) (by decide +kernel)
set_option maxRecDepth 100000 in
theorem t288 : Cond.selects yX5_record.cls yX5_record yX5_record ∈ tw := tbl_at 499 (by decide +kernel) (by decide +kernel)
set_option maxRecDepth 100000 in
theorem t289 : Cond.constant RX6 279 (10000000) ∈ tw := tbl_at 508 (by decide +kernel) (by decide +kernel)
set_option maxRecDepth 100000 in
theorem t290 : Cond.fieldLink RX6 219 (TX5 7).1 (TX5 7).2.1 (TX5 7).2.2.1 ∈ tw := tbl_at 199 (by decide +kernel) (by decide +kernel)
set_option maxRecDepth 100000 in
theorem t291 : Cond.code yX5_claimShare cX5_claimShare 2 (some .int) ∈ tw := tbl_at 551 (by rfl) (by rfl)
set_option maxRecDepth 100000 in
theorem t292 : Cond.methodLink RX6 216 yX5_claimShare ∈ tw := tbl_at 548 (by decide +kernel) (by decide +kernel)
set_option maxRecDepth 100000 in
theorem t293 : Cond.instanceMethod yX5_claimShare ∈ tw := tbl_at 549 (by decide +kernel) (by decide +kernel)
set_option maxRecDepth 100000 in
theorem t294 : Cond.selects yX5_claimShare.cls yX5_claimShare yX5_claimShare ∈ tw := tbl_at 550 (by decide +kernel) (by decide +kernel)
set_option maxRecDepth 100000 in
theorem t295 : Cond.code yX5_loanShare cX5_loanShare 2 (some .int) ∈ tw := tbl_at 547 (by rfl) (by rfl)
set_option maxRecDepth 100000 in
theorem t296 : Cond.methodLink RX6 213 yX5_loanShare ∈ tw := tbl_at 544 (by decide +kernel) (by decide +kernel)
set_option maxRecDepth 100000 in
theorem t297 : Cond.instanceMethod yX5_loanShare ∈ tw := tbl_at 545 (by decide +kernel) (by decide +kernel)
set_option maxRecDepth 100000 in
theorem t298 : Cond.selects yX5_loanShare.cls yX5_loanShare yX5_loanShare ∈ tw := tbl_at 546 (by decide +kernel) (by decide +kernel)
set_option maxRecDepth 100000 in
theorem t299 : Cond.code yX5_sell cX5_sell 6 none ∈ tw := tbl_at 516 (by rfl) (by rfl)
set_option maxRecDepth 100000 in
theorem t300 : Cond.methodLink RX6 210 yX5_sell ∈ tw := tbl_at 513 (by decide +kernel) (by decide +kernel)
set_option maxRecDepth 100000 in
theorem t301 : Cond.instanceMethod yX5_sell ∈ tw := tbl_at 514 (by decide +kernel) (by decide +kernel)
set_option maxRecDepth 100000 in
theorem t302 : Cond.selects yX5_sell.cls yX5_sell yX5_sell ∈ tw := tbl_at 515 (by decide +kernel) (by decide +kernel)
set_option maxRecDepth 100000 in
theorem t303 : Cond.code yX6_isSharer cX6_isSharer 3 (some .boolean) ∈ tw := tbl_at 512 (by rfl) (by rfl)
set_option maxRecDepth 100000 in
theorem t304 : Cond.methodLink RX6 207 yX6_isSharer ∈ tw := tbl_at 509 (by decide +kernel) (by decide +kernel)
set_option maxRecDepth 100000 in
theorem t305 : Cond.instanceMethod yX6_isSharer ∈ tw := tbl_at 511 (by decide +kernel) (by decide +kernel)
set_option maxRecDepth 100000 in
theorem t306 : Cond.selects yX6_isSharer.cls yX6_isSharer yX6_isSharer ∈ tw := tbl_sel 8 (by decide +kernel) (by decide +kernel)
set_option maxRecDepth 100000 in
theorem t307 : Cond.methodLink RX6 204 yX6_isSaleCoin ∈ tw := tbl_at 505 (by decide +kernel) (by decide +kernel)
set_option maxRecDepth 100000 in
theorem t308 : Cond.code yX6_isSaleCoin cX6_isSaleCoin 1 (some .boolean) ∈ tw := tbl_at 507 (by rfl) (by rfl)
set_option maxRecDepth 100000 in
theorem t309 : Cond.static yX6_isSaleCoin ∈ tw := tbl_at 506 (by decide +kernel) (by decide +kernel)
set_option maxRecDepth 100000 in
theorem t310 : Cond.fieldLink RX6 222 (TX3 4).1 (TX3 4).2.1 (TX3 4).2.2.1 ∈ tw := tbl_at 43 (by decide +kernel) (by decide +kernel)
set_option maxRecDepth 100000 in
theorem t311 : Cond.methodLink RX6 228 yJ9_max_7cf53 ∈ tw := tbl_at 562 (by decide +kernel) (by decide +kernel)
set_option maxRecDepth 100000 in
theorem t312 : Cond.code yX4_worthBelow cX4_worthBelow 5 (some .int) ∈ tw := tbl_at 559 (by rfl) (by rfl)
set_option maxRecDepth 100000 in
theorem t313 : Cond.methodLink RX6 225 yX4_worthBelow ∈ tw := tbl_at 556 (by decide +kernel) (by decide +kernel)
set_option maxRecDepth 100000 in
theorem t314 : Cond.instanceMethod yX4_worthBelow ∈ tw := tbl_at 557 (by decide +kernel) (by decide +kernel)
set_option maxRecDepth 100000 in
theorem t315 : Cond.selects yX4_worthBelow.cls yX4_worthBelow yX4_worthBelow ∈ tw := tbl_at 558 (by decide +kernel) (by decide +kernel)
set_option maxRecDepth 100000 in
theorem t316 : Cond.methodLink RX6 236 yJ6_bitCount_0f7a4 ∈ tw := tbl_at 581 (by decide +kernel) (by decide +kernel)
set_option maxRecDepth 100000 in
theorem t317 : Cond.code yX1_fewestSigners cX1_fewestSigners 9 (some .int) ∈ tw := tbl_at 570 (by rfl) (by rfl)
set_option maxRecDepth 100000 in
theorem t318 : Cond.methodLink RX6 233 yX1_fewestSigners ∈ tw := tbl_at 567 (by decide +kernel) (by decide +kernel)
set_option maxRecDepth 100000 in
theorem t319 : Cond.instanceMethod yX1_fewestSigners ∈ tw := tbl_at 568 (by decide +kernel) (by decide +kernel)
set_option maxRecDepth 100000 in
theorem t320 : Cond.selects yX1_fewestSigners.cls yX1_fewestSigners yX1_fewestSigners ∈ tw := tbl_at 569 (by decide +kernel) (by decide +kernel)
set_option maxRecDepth 100000 in
theorem t321 : Cond.fieldLink RX6 45 (TX6 5).1 (TX6 5).2.1 (TX6 5).2.2.1 ∈ tw := tbl_at 249 (by decide +kernel) (by decide +kernel)
set_option maxRecDepth 100000 in
theorem t322 : Cond.fieldLink RX6 247 (TX0 3).1 (TX0 3).2.1 (TX0 3).2.2.1 ∈ tw := tbl_at 230 (by decide +kernel) (by decide +kernel)
set_option maxRecDepth 100000 in
theorem t323 : Cond.code yX0_receive cX0_receive 5 (some .int) ∈ tw := tbl_at 597 (by rfl) (by rfl)
set_option maxRecDepth 100000 in
theorem t324 : Cond.methodLink RX6 250 yX0_receive ∈ tw := tbl_at 594 (by decide +kernel) (by decide +kernel)
set_option maxRecDepth 100000 in
theorem t325 : Cond.instanceMethod yX0_receive ∈ tw := tbl_at 595 (by decide +kernel) (by decide +kernel)
set_option maxRecDepth 100000 in
theorem t326 : Cond.selects yX0_receive.cls yX0_receive yX0_receive ∈ tw := tbl_at 596 (by decide +kernel) (by decide +kernel)
set_option maxRecDepth 100000 in
theorem t327 : Cond.code yX3_isSideOf cX3_isSideOf 2 (some .boolean) ∈ tw := tbl_at 593 (by rfl) (by rfl)
set_option maxRecDepth 100000 in
theorem t328 : Cond.methodLink RX6 244 yX3_isSideOf ∈ tw := tbl_at 590 (by decide +kernel) (by decide +kernel)
set_option maxRecDepth 100000 in
theorem t329 : Cond.instanceMethod yX3_isSideOf ∈ tw := tbl_at 591 (by decide +kernel) (by decide +kernel)
set_option maxRecDepth 100000 in
theorem t330 : Cond.selects yX3_isSideOf.cls yX3_isSideOf yX3_isSideOf ∈ tw := tbl_at 592 (by decide +kernel) (by decide +kernel)
set_option maxRecDepth 100000 in
theorem t331 : Cond.code yX6_isPurpose cX6_isPurpose 2 (some .boolean) ∈ tw := tbl_at 589 (by rfl) (by rfl)
set_option maxRecDepth 100000 in
theorem t332 : Cond.methodLink RX6 241 yX6_isPurpose ∈ tw := tbl_at 586 (by decide +kernel) (by decide +kernel)
set_option maxRecDepth 100000 in
theorem t333 : Cond.instanceMethod yX6_isPurpose ∈ tw := tbl_at 588 (by decide +kernel) (by decide +kernel)
set_option maxRecDepth 100000 in
theorem t334 : Cond.selects yX6_isPurpose.cls yX6_isPurpose yX6_isPurpose ∈ tw := tbl_sel 16 (by decide +kernel) (by decide +kernel)
set_option maxRecDepth 100000 in
theorem t335 : Cond.fieldLink RX6 256 (TX0 4).1 (TX0 4).2.1 (TX0 4).2.2.1 ∈ tw := tbl_at 232 (by decide +kernel) (by decide +kernel)
set_option maxRecDepth 100000 in
theorem t336 : Cond.code yX0_spend cX0_spend 5 none ∈ tw := tbl_at 609 (by rfl) (by rfl)
set_option maxRecDepth 100000 in
theorem t337 : Cond.methodLink RX6 259 yX0_spend ∈ tw := tbl_at 606 (by decide +kernel) (by decide +kernel)
set_option maxRecDepth 100000 in
theorem t338 : Cond.instanceMethod yX0_spend ∈ tw := tbl_at 607 (by decide +kernel) (by decide +kernel)
set_option maxRecDepth 100000 in
theorem t339 : Cond.selects yX0_spend.cls yX0_spend yX0_spend ∈ tw := tbl_at 608 (by decide +kernel) (by decide +kernel)
set_option maxRecDepth 100000 in
theorem t340 : Cond.code yX0_balance cX0_balance 4 (some .int) ∈ tw := tbl_at 605 (by rfl) (by rfl)
set_option maxRecDepth 100000 in
theorem t341 : Cond.methodLink RX6 253 yX0_balance ∈ tw := tbl_at 602 (by decide +kernel) (by decide +kernel)
set_option maxRecDepth 100000 in
theorem t342 : Cond.instanceMethod yX0_balance ∈ tw := tbl_at 603 (by decide +kernel) (by decide +kernel)
set_option maxRecDepth 100000 in
theorem t343 : Cond.selects yX0_balance.cls yX0_balance yX0_balance ∈ tw := tbl_at 604 (by decide +kernel) (by decide +kernel)
set_option maxRecDepth 100000 in
theorem t344 : Cond.fieldLink RX6 263 (TX0 2).1 (TX0 2).2.1 (TX0 2).2.2.1 ∈ tw := tbl_at 228 (by decide +kernel) (by decide +kernel)
set_option maxRecDepth 100000 in
theorem t345 : Cond.code yX0_leftFor cX0_leftFor 6 (some .int) ∈ tw := tbl_at 630 (by rfl) (by rfl)
set_option maxRecDepth 100000 in
theorem t346 : Cond.methodLink RX6 266 yX0_leftFor ∈ tw := tbl_at 627 (by decide +kernel) (by decide +kernel)
set_option maxRecDepth 100000 in
theorem t347 : Cond.instanceMethod yX0_leftFor ∈ tw := tbl_at 628 (by decide +kernel) (by decide +kernel)
set_option maxRecDepth 100000 in
theorem t348 : Cond.selects yX0_leftFor.cls yX0_leftFor yX0_leftFor ∈ tw := tbl_at 629 (by decide +kernel) (by decide +kernel)
set_option maxRecDepth 100000 in
theorem t349 : Cond.fieldLink RX6 269 (TX6 8).1 (TX6 8).2.1 (TX6 8).2.2.1 ∈ tw := tbl_at 252 (by decide +kernel) (by decide +kernel)
set_option maxRecDepth 100000 in
theorem t350 : Cond.fieldLink RX6 49 (TX6 7).1 (TX6 7).2.1 (TX6 7).2.2.1 ∈ tw := tbl_at 251 (by decide +kernel) (by decide +kernel)
set_option maxRecDepth 100000 in
theorem t351 : Cond.code yX4_howManyGood cX4_howManyGood 4 (some .int) ∈ tw := tbl_at 646 (by rfl) (by rfl)
set_option maxRecDepth 100000 in
theorem t352 : Cond.methodLink RX6 272 yX4_howManyGood ∈ tw := tbl_at 643 (by decide +kernel) (by decide +kernel)
set_option maxRecDepth 100000 in
theorem t353 : Cond.instanceMethod yX4_howManyGood ∈ tw := tbl_at 644 (by decide +kernel) (by decide +kernel)
set_option maxRecDepth 100000 in
theorem t354 : Cond.selects yX4_howManyGood.cls yX4_howManyGood yX4_howManyGood ∈ tw := tbl_at 645 (by decide +kernel) (by decide +kernel)
set_option maxRecDepth 100000 in
theorem t355 : Cond.fieldLink RX7 99 (TX7 38).1 (TX7 38).2.1 (TX7 38).2.2.1 ∈ tw := tbl_at 695 (by decide +kernel) (by decide +kernel)
set_option maxRecDepth 100000 in
theorem t356 : Cond.constant RX7 120 (-1000000000) ∈ tw := tbl_at 809 (by decide +kernel) (by decide +kernel)
set_option maxRecDepth 100000 in
theorem t357 : Cond.fieldLink RX7 7 (TX7 0).1 (TX7 0).2.1 (TX7 0).2.2.1 ∈ tw := tbl_at 657 (by decide +kernel) (by decide +kernel)
set_option maxRecDepth 100000 in
theorem t358 : Cond.methodLink RX7 121 yX7_isIn ∈ tw := tbl_at 801 (by decide +kernel) (by decide +kernel)
set_option maxRecDepth 100000 in
theorem t359 : Cond.code yX7_isIn cX7_isIn 3 (some .boolean) ∈ tw := tbl_at 803 (by rfl) (by rfl)
set_option maxRecDepth 100000 in
theorem t360 : Cond.initialized RX7 ∈ tw := tbl_at 8 (by decide +kernel) (by decide +kernel)
set_option maxRecDepth 100000 in
theorem t361 : Cond.static yX7_isIn ∈ tw := tbl_at 802 (by decide +kernel) (by decide +kernel)
set_option maxRecDepth 100000 in
theorem t362 : Cond.fieldLink RX7 125 (TX7 1).1 (TX7 1).2.1 (TX7 1).2.2.1 ∈ tw := tbl_at 658 (by decide +kernel) (by decide +kernel)
set_option maxRecDepth 100000 in
theorem t363 : Cond.fieldLink RX7 128 (TX7 2).1 (TX7 2).2.1 (TX7 2).2.2.1 ∈ tw := tbl_at 659 (by decide +kernel) (by decide +kernel)
set_option maxRecDepth 100000 in
theorem t364 : Cond.fieldLink RX7 13 (TX7 10).1 (TX7 10).2.1 (TX7 10).2.2.1 ∈ tw := tbl_at 667 (by decide +kernel) (by decide +kernel)
set_option maxRecDepth 100000 in
theorem t365 : Cond.constant RX7 135 (-1000000004) ∈ tw := tbl_at 810 (by decide +kernel) (by decide +kernel)
set_option maxRecDepth 100000 in
theorem t366 : Cond.code yX7_finds cX7_finds 2 (some .int) ∈ tw := tbl_at 808 (by rfl) (by rfl)
set_option maxRecDepth 100000 in
theorem t367 : Cond.methodLink RX7 132 yX7_finds ∈ tw := tbl_at 805 (by decide +kernel) (by decide +kernel)
set_option maxRecDepth 100000 in
theorem t368 : Cond.instanceMethod yX7_finds ∈ tw := tbl_at 807 (by decide +kernel) (by decide +kernel)
set_option maxRecDepth 100000 in
theorem t369 : Cond.selects yX7_finds.cls yX7_finds yX7_finds ∈ tw := tbl_sel 19 (by decide +kernel) (by decide +kernel)
set_option maxRecDepth 100000 in
theorem t370 : Cond.constant RX7 131 (-1000000001) ∈ tw := tbl_at 804 (by decide +kernel) (by decide +kernel)
set_option maxRecDepth 100000 in
theorem t371 : Cond.constant RX7 144 (-1000000005) ∈ tw := tbl_at 822 (by decide +kernel) (by decide +kernel)
set_option maxRecDepth 100000 in
theorem t372 : Cond.methodLink RX7 140 yX7_isUnder ∈ tw := tbl_at 819 (by decide +kernel) (by decide +kernel)
set_option maxRecDepth 100000 in
theorem t373 : Cond.code yX7_isUnder cX7_isUnder 2 (some .boolean) ∈ tw := tbl_at 821 (by rfl) (by rfl)
set_option maxRecDepth 100000 in
theorem t374 : Cond.static yX7_isUnder ∈ tw := tbl_at 820 (by decide +kernel) (by decide +kernel)
set_option maxRecDepth 100000 in
theorem t375 : Cond.code yX7_isParty cX7_isParty 2 (some .boolean) ∈ tw := tbl_at 818 (by rfl) (by rfl)
set_option maxRecDepth 100000 in
theorem t376 : Cond.methodLink RX7 136 yX7_isParty ∈ tw := tbl_at 815 (by decide +kernel) (by decide +kernel)
set_option maxRecDepth 100000 in
theorem t377 : Cond.instanceMethod yX7_isParty ∈ tw := tbl_at 817 (by decide +kernel) (by decide +kernel)
set_option maxRecDepth 100000 in
theorem t378 : Cond.selects yX7_isParty.cls yX7_isParty yX7_isParty ∈ tw := tbl_sel 20 (by decide +kernel) (by decide +kernel)
set_option maxRecDepth 100000 in
theorem t379 : Cond.fieldLink RX7 17 (TX7 11).1 (TX7 11).2.1 (TX7 11).2.2.1 ∈ tw := tbl_at 668 (by decide +kernel) (by decide +kernel)
set_option maxRecDepth 100000 in
theorem t380 : Cond.fieldLink RX7 20 (TX7 12).1 (TX7 12).2.1 (TX7 12).2.2.1 ∈ tw := tbl_at 669 (by decide +kernel) (by decide +kernel)
set_option maxRecDepth 100000 in
theorem t381 : Cond.constant RX7 145 (100000) ∈ tw := tbl_at 827 (by decide +kernel) (by decide +kernel)
set_option maxRecDepth 100000 in
theorem t382 : Cond.constant RX7 149 (-1000000003) ∈ tw := tbl_at 832 (by decide +kernel) (by decide +kernel)
set_option maxRecDepth 100000 in
theorem t383 : Cond.fieldLink RX7 23 (TX7 13).1 (TX7 13).2.1 (TX7 13).2.2.1 ∈ tw := tbl_at 670 (by decide +kernel) (by decide +kernel)
set_option maxRecDepth 100000 in
theorem t384 : Cond.fieldLink RX7 26 (TX7 14).1 (TX7 14).2.1 (TX7 14).2.2.1 ∈ tw := tbl_at 671 (by decide +kernel) (by decide +kernel)
set_option maxRecDepth 100000 in
theorem t385 : Cond.fieldLink RX7 29 (TX7 15).1 (TX7 15).2.1 (TX7 15).2.2.1 ∈ tw := tbl_at 672 (by decide +kernel) (by decide +kernel)
set_option maxRecDepth 100000 in
theorem t386 : Cond.fieldLink RX7 32 (TX7 16).1 (TX7 16).2.1 (TX7 16).2.2.1 ∈ tw := tbl_at 673 (by decide +kernel) (by decide +kernel)
set_option maxRecDepth 100000 in
theorem t387 : Cond.fieldLink RX7 35 (TX7 17).1 (TX7 17).2.1 (TX7 17).2.2.1 ∈ tw := tbl_at 674 (by decide +kernel) (by decide +kernel)
set_option maxRecDepth 100000 in
theorem t388 : Cond.fieldLink RX7 38 (TX7 18).1 (TX7 18).2.1 (TX7 18).2.2.1 ∈ tw := tbl_at 675 (by decide +kernel) (by decide +kernel)
set_option maxRecDepth 100000 in
theorem t389 : Cond.fieldLink RX7 41 (TX7 19).1 (TX7 19).2.1 (TX7 19).2.2.1 ∈ tw := tbl_at 676 (by decide +kernel) (by decide +kernel)
set_option maxRecDepth 100000 in
theorem t390 : Cond.code yX7_contractTo cX7_contractTo 4 (some .int) ∈ tw := tbl_at 831 (by rfl) (by rfl)
set_option maxRecDepth 100000 in
theorem t391 : Cond.methodLink RX7 146 yX7_contractTo ∈ tw := tbl_at 828 (by decide +kernel) (by decide +kernel)
set_option maxRecDepth 100000 in
theorem t392 : Cond.instanceMethod yX7_contractTo ∈ tw := tbl_at 830 (by decide +kernel) (by decide +kernel)
set_option maxRecDepth 100000 in
theorem t393 : Cond.selects yX7_contractTo.cls yX7_contractTo yX7_contractTo ∈ tw := tbl_sel 21 (by decide +kernel) (by decide +kernel)
set_option maxRecDepth 100000 in
theorem t394 : Cond.constant RX7 153 (1000000) ∈ tw := tbl_at 841 (by decide +kernel) (by decide +kernel)
set_option maxRecDepth 100000 in
theorem t395 : Cond.code yX7_isContract cX7_isContract 2 (some .boolean) ∈ tw := tbl_at 840 (by rfl) (by rfl)
set_option maxRecDepth 100000 in
theorem t396 : Cond.methodLink RX7 150 yX7_isContract ∈ tw := tbl_at 837 (by decide +kernel) (by decide +kernel)
set_option maxRecDepth 100000 in
theorem t397 : Cond.instanceMethod yX7_isContract ∈ tw := tbl_at 839 (by decide +kernel) (by decide +kernel)
set_option maxRecDepth 100000 in
theorem t398 : Cond.selects yX7_isContract.cls yX7_isContract yX7_isContract ∈ tw := tbl_sel 22 (by decide +kernel) (by decide +kernel)
set_option maxRecDepth 100000 in
theorem t399 : Cond.fieldLink RX7 154 (TX7 8).1 (TX7 8).2.1 (TX7 8).2.2.1 ∈ tw := tbl_at 665 (by decide +kernel) (by decide +kernel)
set_option maxRecDepth 100000 in
theorem t400 : Cond.code yX7_isSpan cX7_isSpan 3 (some .boolean) ∈ tw := tbl_at 849 (by rfl) (by rfl)
set_option maxRecDepth 100000 in
theorem t401 : Cond.methodLink RX7 157 yX7_isSpan ∈ tw := tbl_at 846 (by decide +kernel) (by decide +kernel)
set_option maxRecDepth 100000 in
theorem t402 : Cond.instanceMethod yX7_isSpan ∈ tw := tbl_at 848 (by decide +kernel) (by decide +kernel)
set_option maxRecDepth 100000 in
theorem t403 : Cond.selects yX7_isSpan.cls yX7_isSpan yX7_isSpan ∈ tw := tbl_sel 23 (by decide +kernel) (by decide +kernel)
set_option maxRecDepth 100000 in
theorem t404 : Cond.code yX7_owing cX7_owing 2 (some .int) ∈ tw := tbl_at 865 (by rfl) (by rfl)
set_option maxRecDepth 100000 in
theorem t405 : Cond.methodLink RX7 160 yX7_owing ∈ tw := tbl_at 862 (by decide +kernel) (by decide +kernel)
set_option maxRecDepth 100000 in
theorem t406 : Cond.instanceMethod yX7_owing ∈ tw := tbl_at 864 (by decide +kernel) (by decide +kernel)
set_option maxRecDepth 100000 in
theorem t407 : Cond.selects yX7_owing.cls yX7_owing yX7_owing ∈ tw := tbl_sel 24 (by decide +kernel) (by decide +kernel)
set_option maxRecDepth 100000 in
theorem t408 : Cond.fieldLink RX7 163 (TX7 4).1 (TX7 4).2.1 (TX7 4).2.2.1 ∈ tw := tbl_at 661 (by decide +kernel) (by decide +kernel)
set_option maxRecDepth 100000 in
theorem t409 : Cond.fieldLink RX7 44 (TX7 20).1 (TX7 20).2.1 (TX7 20).2.2.1 ∈ tw := tbl_at 677 (by decide +kernel) (by decide +kernel)
set_option maxRecDepth 100000 in
theorem t410 : Cond.fieldLink RX7 50 (TX7 22).1 (TX7 22).2.1 (TX7 22).2.2.1 ∈ tw := tbl_at 679 (by decide +kernel) (by decide +kernel)
set_option maxRecDepth 100000 in
theorem t411 : Cond.fieldLink RX7 47 (TX7 21).1 (TX7 21).2.1 (TX7 21).2.2.1 ∈ tw := tbl_at 678 (by decide +kernel) (by decide +kernel)
set_option maxRecDepth 100000 in
theorem t412 : Cond.code yX7_waived cX7_waived 5 (some .int) ∈ tw := tbl_at 873 (by rfl) (by rfl)
set_option maxRecDepth 100000 in
theorem t413 : Cond.methodLink RX7 166 yX7_waived ∈ tw := tbl_at 870 (by decide +kernel) (by decide +kernel)
set_option maxRecDepth 100000 in
theorem t414 : Cond.instanceMethod yX7_waived ∈ tw := tbl_at 872 (by decide +kernel) (by decide +kernel)
set_option maxRecDepth 100000 in
theorem t415 : Cond.selects yX7_waived.cls yX7_waived yX7_waived ∈ tw := tbl_sel 25 (by decide +kernel) (by decide +kernel)
set_option maxRecDepth 100000 in
theorem t416 : Cond.code yX7_upper cX7_upper 2 (some .int) ∈ tw := tbl_at 889 (by rfl) (by rfl)
set_option maxRecDepth 100000 in
theorem t417 : Cond.methodLink RX7 169 yX7_upper ∈ tw := tbl_at 886 (by decide +kernel) (by decide +kernel)
set_option maxRecDepth 100000 in
theorem t418 : Cond.instanceMethod yX7_upper ∈ tw := tbl_at 888 (by decide +kernel) (by decide +kernel)
set_option maxRecDepth 100000 in
theorem t419 : Cond.selects yX7_upper.cls yX7_upper yX7_upper ∈ tw := tbl_sel 28 (by decide +kernel) (by decide +kernel)
set_option maxRecDepth 100000 in
theorem t420 : Cond.code yX7_open cX7_open 4 (some .int) ∈ tw := tbl_at 881 (by rfl) (by rfl)
set_option maxRecDepth 100000 in
theorem t421 : Cond.methodLink RX7 172 yX7_open ∈ tw := tbl_at 878 (by decide +kernel) (by decide +kernel)
set_option maxRecDepth 100000 in
theorem t422 : Cond.instanceMethod yX7_open ∈ tw := tbl_at 880 (by decide +kernel) (by decide +kernel)
set_option maxRecDepth 100000 in
theorem t423 : Cond.selects yX7_open.cls yX7_open yX7_open ∈ tw := tbl_sel 26 (by decide +kernel) (by decide +kernel)
set_option maxRecDepth 100000 in
theorem t424 : Cond.code yX7_degree cX7_degree 4 (some .int) ∈ tw := tbl_at 885 (by rfl) (by rfl)
set_option maxRecDepth 100000 in
theorem t425 : Cond.methodLink RX7 175 yX7_degree ∈ tw := tbl_at 882 (by decide +kernel) (by decide +kernel)
set_option maxRecDepth 100000 in
theorem t426 : Cond.instanceMethod yX7_degree ∈ tw := tbl_at 884 (by decide +kernel) (by decide +kernel)
set_option maxRecDepth 100000 in
theorem t427 : Cond.selects yX7_degree.cls yX7_degree yX7_degree ∈ tw := tbl_sel 27 (by decide +kernel) (by decide +kernel)
set_option maxRecDepth 100000 in
theorem t428 : Cond.fieldLink RX7 54 (TX7 23).1 (TX7 23).2.1 (TX7 23).2.2.1 ∈ tw := tbl_at 680 (by decide +kernel) (by decide +kernel)
set_option maxRecDepth 100000 in
theorem t429 : Cond.methodLink RX7 178 yX7_mostOf ∈ tw := tbl_at 898 (by decide +kernel) (by decide +kernel)
set_option maxRecDepth 100000 in
theorem t430 : Cond.code yX7_mostOf cX7_mostOf 1 (some .int) ∈ tw := tbl_at 900 (by rfl) (by rfl)
set_option maxRecDepth 100000 in
theorem t431 : Cond.static yX7_mostOf ∈ tw := tbl_at 899 (by decide +kernel) (by decide +kernel)
set_option maxRecDepth 100000 in
theorem t432 : Cond.fieldLink RX7 57 (TX7 24).1 (TX7 24).2.1 (TX7 24).2.2.1 ∈ tw := tbl_at 681 (by decide +kernel) (by decide +kernel)
set_option maxRecDepth 100000 in
theorem t433 : Cond.fieldLink RX7 60 (TX7 25).1 (TX7 25).2.1 (TX7 25).2.2.1 ∈ tw := tbl_at 682 (by decide +kernel) (by decide +kernel)
set_option maxRecDepth 100000 in
theorem t434 : Cond.fieldLink RX7 63 (TX7 26).1 (TX7 26).2.1 (TX7 26).2.2.1 ∈ tw := tbl_at 683 (by decide +kernel) (by decide +kernel)
set_option maxRecDepth 100000 in
theorem t435 : Cond.fieldLink RX7 66 (TX7 27).1 (TX7 27).2.1 (TX7 27).2.2.1 ∈ tw := tbl_at 684 (by decide +kernel) (by decide +kernel)
set_option maxRecDepth 100000 in
theorem t436 : Cond.fieldLink RX7 69 (TX7 28).1 (TX7 28).2.1 (TX7 28).2.2.1 ∈ tw := tbl_at 685 (by decide +kernel) (by decide +kernel)
set_option maxRecDepth 100000 in
theorem t437 : Cond.code yX7_isClaim cX7_isClaim 2 (some .boolean) ∈ tw := tbl_at 912 (by rfl) (by rfl)
set_option maxRecDepth 100000 in
theorem t438 : Cond.methodLink RX7 181 yX7_isClaim ∈ tw := tbl_at 909 (by decide +kernel) (by decide +kernel)
set_option maxRecDepth 100000 in
theorem t439 : Cond.instanceMethod yX7_isClaim ∈ tw := tbl_at 911 (by decide +kernel) (by decide +kernel)
set_option maxRecDepth 100000 in
theorem t440 : Cond.selects yX7_isClaim.cls yX7_isClaim yX7_isClaim ∈ tw := tbl_sel 29 (by decide +kernel) (by decide +kernel)
set_option maxRecDepth 100000 in
theorem t441 : Cond.methodLink RX7 184 yX7_late ∈ tw := tbl_at 937 (by decide +kernel) (by decide +kernel)
set_option maxRecDepth 100000 in
theorem t442 : Cond.code yX7_late cX7_late 4 (some .int) ∈ tw := tbl_at 939 (by rfl) (by rfl)
set_option maxRecDepth 100000 in
theorem t443 : Cond.static yX7_late ∈ tw := tbl_at 938 (by decide +kernel) (by decide +kernel)
set_option maxRecDepth 100000 in
theorem t444 : Cond.code yX7_barred cX7_barred 5 (some .int) ∈ tw := tbl_at 936 (by rfl) (by rfl)
set_option maxRecDepth 100000 in
theorem t445 : Cond.methodLink RX7 188 yX7_barred ∈ tw := tbl_at 933 (by decide +kernel) (by decide +kernel)
set_option maxRecDepth 100000 in
theorem t446 : Cond.instanceMethod yX7_barred ∈ tw := tbl_at 935 (by decide +kernel) (by decide +kernel)
set_option maxRecDepth 100000 in
theorem t447 : Cond.selects yX7_barred.cls yX7_barred yX7_barred ∈ tw := tbl_sel 33 (by decide +kernel) (by decide +kernel)
set_option maxRecDepth 100000 in
theorem t448 : Cond.code yX7_firstBar cX7_firstBar 5 (some .int) ∈ tw := tbl_at 932 (by rfl) (by rfl)
set_option maxRecDepth 100000 in
theorem t449 : Cond.methodLink RX7 192 yX7_firstBar ∈ tw := tbl_at 929 (by decide +kernel) (by decide +kernel)
set_option maxRecDepth 100000 in
theorem t450 : Cond.instanceMethod yX7_firstBar ∈ tw := tbl_at 931 (by decide +kernel) (by decide +kernel)
set_option maxRecDepth 100000 in
theorem t451 : Cond.selects yX7_firstBar.cls yX7_firstBar yX7_firstBar ∈ tw := tbl_sel 32 (by decide +kernel) (by decide +kernel)
set_option maxRecDepth 100000 in
theorem t452 : Cond.code yX7_judged cX7_judged 3 (some .int) ∈ tw := tbl_at 928 (by rfl) (by rfl)
set_option maxRecDepth 100000 in
theorem t453 : Cond.methodLink RX7 198 yX7_judged ∈ tw := tbl_at 925 (by decide +kernel) (by decide +kernel)
set_option maxRecDepth 100000 in
theorem t454 : Cond.instanceMethod yX7_judged ∈ tw := tbl_at 927 (by decide +kernel) (by decide +kernel)
set_option maxRecDepth 100000 in
theorem t455 : Cond.selects yX7_judged.cls yX7_judged yX7_judged ∈ tw := tbl_sel 31 (by decide +kernel) (by decide +kernel)
set_option maxRecDepth 100000 in
theorem t456 : Cond.code yX7_isJudgeable cX7_isJudgeable 3 (some .boolean) ∈ tw := tbl_at 924 (by rfl) (by rfl)
set_option maxRecDepth 100000 in
theorem t457 : Cond.methodLink RX7 195 yX7_isJudgeable ∈ tw := tbl_at 921 (by decide +kernel) (by decide +kernel)
set_option maxRecDepth 100000 in
theorem t458 : Cond.instanceMethod yX7_isJudgeable ∈ tw := tbl_at 923 (by decide +kernel) (by decide +kernel)
set_option maxRecDepth 100000 in
theorem t459 : Cond.selects yX7_isJudgeable.cls yX7_isJudgeable yX7_isJudgeable ∈ tw := tbl_sel 30 (by decide +kernel) (by decide +kernel)
set_option maxRecDepth 100000 in
theorem t460 : Cond.code yX7_bound cX7_bound 4 (some .int) ∈ tw := tbl_at 955 (by rfl) (by rfl)
set_option maxRecDepth 100000 in
theorem t461 : Cond.methodLink RX7 202 yX7_bound ∈ tw := tbl_at 952 (by decide +kernel) (by decide +kernel)
set_option maxRecDepth 100000 in
theorem t462 : Cond.instanceMethod yX7_bound ∈ tw := tbl_at 954 (by decide +kernel) (by decide +kernel)
set_option maxRecDepth 100000 in
theorem t463 : Cond.selects yX7_bound.cls yX7_bound yX7_bound ∈ tw := tbl_sel 35 (by decide +kernel) (by decide +kernel)
set_option maxRecDepth 100000 in
theorem t464 : Cond.code yX7_worthOf cX7_worthOf 8 (some .int) ∈ tw := tbl_at 951 (by rfl) (by rfl)
set_option maxRecDepth 100000 in
theorem t465 : Cond.methodLink RX7 205 yX7_worthOf ∈ tw := tbl_at 948 (by decide +kernel) (by decide +kernel)
set_option maxRecDepth 100000 in
theorem t466 : Cond.instanceMethod yX7_worthOf ∈ tw := tbl_at 950 (by decide +kernel) (by decide +kernel)
set_option maxRecDepth 100000 in
theorem t467 : Cond.selects yX7_worthOf.cls yX7_worthOf yX7_worthOf ∈ tw := tbl_sel 34 (by decide +kernel) (by decide +kernel)
set_option maxRecDepth 100000 in
theorem t468 : Cond.code yX7_rankOf cX7_rankOf 6 (some .int) ∈ tw := tbl_at 963 (by rfl) (by rfl)
set_option maxRecDepth 100000 in
theorem t469 : Cond.methodLink RX7 208 yX7_rankOf ∈ tw := tbl_at 960 (by decide +kernel) (by decide +kernel)
set_option maxRecDepth 100000 in
theorem t470 : Cond.instanceMethod yX7_rankOf ∈ tw := tbl_at 962 (by decide +kernel) (by decide +kernel)
set_option maxRecDepth 100000 in
theorem t471 : Cond.selects yX7_rankOf.cls yX7_rankOf yX7_rankOf ∈ tw := tbl_sel 36 (by decide +kernel) (by decide +kernel)
set_option maxRecDepth 100000 in
theorem t472 : Cond.fieldLink RX7 211 (TX7 3).1 (TX7 3).2.1 (TX7 3).2.2.1 ∈ tw := tbl_at 660 (by decide +kernel) (by decide +kernel)
set_option maxRecDepth 100000 in
theorem t473 : Cond.fieldLink RX7 72 (TX7 29).1 (TX7 29).2.1 (TX7 29).2.2.1 ∈ tw := tbl_at 686 (by decide +kernel) (by decide +kernel)
set_option maxRecDepth 100000 in
theorem t474 : Cond.fieldLink RX7 75 (TX7 30).1 (TX7 30).2.1 (TX7 30).2.2.1 ∈ tw := tbl_at 687 (by decide +kernel) (by decide +kernel)
set_option maxRecDepth 100000 in
theorem t475 : Cond.fieldLink RX7 111 (TX7 42).1 (TX7 42).2.1 (TX7 42).2.2.1 ∈ tw := tbl_at 699 (by decide +kernel) (by decide +kernel)
set_option maxRecDepth 100000 in
theorem t476 : Cond.fieldLink RX7 102 (TX7 39).1 (TX7 39).2.1 (TX7 39).2.2.1 ∈ tw := tbl_at 696 (by decide +kernel) (by decide +kernel)
set_option maxRecDepth 100000 in
theorem t477 : Cond.fieldLink RX7 105 (TX7 40).1 (TX7 40).2.1 (TX7 40).2.2.1 ∈ tw := tbl_at 697 (by decide +kernel) (by decide +kernel)
set_option maxRecDepth 100000 in
theorem t478 : Cond.fieldLink RX7 108 (TX7 41).1 (TX7 41).2.1 (TX7 41).2.2.1 ∈ tw := tbl_at 698 (by decide +kernel) (by decide +kernel)
set_option maxRecDepth 100000 in
theorem t479 : Cond.code yX7_nextRank cX7_nextRank 4 (some .int) ∈ tw := tbl_at 984 (by rfl) (by rfl)
set_option maxRecDepth 100000 in
theorem t480 : Cond.methodLink RX7 218 yX7_nextRank ∈ tw := tbl_at 981 (by decide +kernel) (by decide +kernel)
set_option maxRecDepth 100000 in
theorem t481 : Cond.instanceMethod yX7_nextRank ∈ tw := tbl_at 983 (by decide +kernel) (by decide +kernel)
set_option maxRecDepth 100000 in
theorem t482 : Cond.selects yX7_nextRank.cls yX7_nextRank yX7_nextRank ∈ tw := tbl_sel 39 (by decide +kernel) (by decide +kernel)
set_option maxRecDepth 100000 in
theorem t483 : Cond.code yX7_lines cX7_lines 4 none ∈ tw := tbl_at 980 (by rfl) (by rfl)
set_option maxRecDepth 100000 in
theorem t484 : Cond.methodLink RX7 214 yX7_lines ∈ tw := tbl_at 977 (by decide +kernel) (by decide +kernel)
set_option maxRecDepth 100000 in
theorem t485 : Cond.instanceMethod yX7_lines ∈ tw := tbl_at 979 (by decide +kernel) (by decide +kernel)
set_option maxRecDepth 100000 in
theorem t486 : Cond.selects yX7_lines.cls yX7_lines yX7_lines ∈ tw := tbl_sel 38 (by decide +kernel) (by decide +kernel)
set_option maxRecDepth 100000 in
theorem t487 : Cond.fieldLink RX7 221 (TX7 43).1 (TX7 43).2.1 (TX7 43).2.2.1 ∈ tw := tbl_at 700 (by decide +kernel) (by decide +kernel)
set_option maxRecDepth 100000 in
theorem t488 : Cond.constant RX7 224 (10000000) ∈ tw := tbl_at 972 (by decide +kernel) (by decide +kernel)
set_option maxRecDepth 100000 in
theorem t489 : Cond.code yX7_sell cX7_sell 11 none ∈ tw := tbl_at 976 (by rfl) (by rfl)
set_option maxRecDepth 100000 in
theorem t490 : Cond.methodLink RX7 225 yX7_sell ∈ tw := tbl_at 973 (by decide +kernel) (by decide +kernel)
set_option maxRecDepth 100000 in
theorem t491 : Cond.instanceMethod yX7_sell ∈ tw := tbl_at 975 (by decide +kernel) (by decide +kernel)
set_option maxRecDepth 100000 in
theorem t492 : Cond.selects yX7_sell.cls yX7_sell yX7_sell ∈ tw := tbl_sel 37 (by decide +kernel) (by decide +kernel)
set_option maxRecDepth 100000 in
theorem t493 : Cond.code yX7_isBelow cX7_isBelow 5 (some .boolean) ∈ tw := tbl_at 992 (by rfl) (by rfl)
set_option maxRecDepth 100000 in
theorem t494 : Cond.methodLink RX7 229 yX7_isBelow ∈ tw := tbl_at 989 (by decide +kernel) (by decide +kernel)
set_option maxRecDepth 100000 in
theorem t495 : Cond.instanceMethod yX7_isBelow ∈ tw := tbl_at 991 (by decide +kernel) (by decide +kernel)
set_option maxRecDepth 100000 in
theorem t496 : Cond.selects yX7_isBelow.cls yX7_isBelow yX7_isBelow ∈ tw := tbl_sel 40 (by decide +kernel) (by decide +kernel)
set_option maxRecDepth 100000 in
theorem t497 : Cond.fieldLink RX7 114 (TX7 44).1 (TX7 44).2.1 (TX7 44).2.2.1 ∈ tw := tbl_at 701 (by decide +kernel) (by decide +kernel)
set_option maxRecDepth 100000 in
theorem t498 : Cond.methodLink RX7 232 yX7_bits ∈ tw := tbl_at 997 (by decide +kernel) (by decide +kernel)
set_option maxRecDepth 100000 in
theorem t499 : Cond.code yX7_bits cX7_bits 3 (some .int) ∈ tw := tbl_at 999 (by rfl) (by rfl)
set_option maxRecDepth 100000 in
theorem t500 : Cond.static yX7_bits ∈ tw := tbl_at 998 (by decide +kernel) (by decide +kernel)
set_option maxRecDepth 100000 in
theorem t501 : Cond.fieldLink RX7 238 (TX7 5).1 (TX7 5).2.1 (TX7 5).2.2.1 ∈ tw := tbl_at 662 (by decide +kernel) (by decide +kernel)
set_option maxRecDepth 100000 in
theorem t502 : Cond.fieldLink RX7 78 (TX7 31).1 (TX7 31).2.1 (TX7 31).2.2.1 ∈ tw := tbl_at 688 (by decide +kernel) (by decide +kernel)
set_option maxRecDepth 100000 in
theorem t503 : Cond.fieldLink RX7 81 (TX7 32).1 (TX7 32).2.1 (TX7 32).2.2.1 ∈ tw := tbl_at 689 (by decide +kernel) (by decide +kernel)
set_option maxRecDepth 100000 in
theorem t504 : Cond.fieldLink RX7 84 (TX7 33).1 (TX7 33).2.1 (TX7 33).2.2.1 ∈ tw := tbl_at 690 (by decide +kernel) (by decide +kernel)
set_option maxRecDepth 100000 in
theorem t505 : Cond.fieldLink RX7 93 (TX7 36).1 (TX7 36).2.1 (TX7 36).2.2.1 ∈ tw := tbl_at 693 (by decide +kernel) (by decide +kernel)
set_option maxRecDepth 100000 in
theorem t506 : Cond.fieldLink RX7 241 (TX7 7).1 (TX7 7).2.1 (TX7 7).2.2.1 ∈ tw := tbl_at 664 (by decide +kernel) (by decide +kernel)
set_option maxRecDepth 100000 in
theorem t507 : Cond.code yX7_isBuilder cX7_isBuilder 2 (some .boolean) ∈ tw := tbl_at 1007 (by rfl) (by rfl)
set_option maxRecDepth 100000 in
theorem t508 : Cond.methodLink RX7 235 yX7_isBuilder ∈ tw := tbl_at 1004 (by decide +kernel) (by decide +kernel)
set_option maxRecDepth 100000 in
theorem t509 : Cond.instanceMethod yX7_isBuilder ∈ tw := tbl_at 1006 (by decide +kernel) (by decide +kernel)
set_option maxRecDepth 100000 in
theorem t510 : Cond.selects yX7_isBuilder.cls yX7_isBuilder yX7_isBuilder ∈ tw := tbl_sel 41 (by decide +kernel) (by decide +kernel)
set_option maxRecDepth 100000 in
theorem t511 : Cond.fieldLink RX7 244 (TX7 6).1 (TX7 6).2.1 (TX7 6).2.2.1 ∈ tw := tbl_at 663 (by decide +kernel) (by decide +kernel)
set_option maxRecDepth 100000 in
theorem t512 : Cond.fieldLink RX7 87 (TX7 34).1 (TX7 34).2.1 (TX7 34).2.2.1 ∈ tw := tbl_at 691 (by decide +kernel) (by decide +kernel)
set_option maxRecDepth 100000 in
theorem t513 : Cond.fieldLink RX7 90 (TX7 35).1 (TX7 35).2.1 (TX7 35).2.2.1 ∈ tw := tbl_at 692 (by decide +kernel) (by decide +kernel)
set_option maxRecDepth 100000 in
theorem t514 : Cond.code yX7_account cX7_account 4 (some .int) ∈ tw := tbl_at 1015 (by rfl) (by rfl)
set_option maxRecDepth 100000 in
theorem t515 : Cond.methodLink RX7 247 yX7_account ∈ tw := tbl_at 1012 (by decide +kernel) (by decide +kernel)
set_option maxRecDepth 100000 in
theorem t516 : Cond.instanceMethod yX7_account ∈ tw := tbl_at 1014 (by decide +kernel) (by decide +kernel)
set_option maxRecDepth 100000 in
theorem t517 : Cond.selects yX7_account.cls yX7_account yX7_account ∈ tw := tbl_sel 42 (by decide +kernel) (by decide +kernel)
set_option maxRecDepth 100000 in
theorem t518 : Cond.fieldLink RX7 117 (TX7 45).1 (TX7 45).2.1 (TX7 45).2.2.1 ∈ tw := tbl_at 702 (by decide +kernel) (by decide +kernel)
set_option maxRecDepth 100000 in
theorem t519 : Cond.code yX7_goes cX7_goes 10 (some .int) ∈ tw := tbl_at 1027 (by rfl) (by rfl)
set_option maxRecDepth 100000 in
theorem t520 : Cond.methodLink RX7 250 yX7_goes ∈ tw := tbl_at 1024 (by decide +kernel) (by decide +kernel)
set_option maxRecDepth 100000 in
theorem t521 : Cond.instanceMethod yX7_goes ∈ tw := tbl_at 1026 (by decide +kernel) (by decide +kernel)
set_option maxRecDepth 100000 in
theorem t522 : Cond.selects yX7_goes.cls yX7_goes yX7_goes ∈ tw := tbl_sel 44 (by decide +kernel) (by decide +kernel)
set_option maxRecDepth 100000 in
theorem t523 : Cond.code yX7_traces cX7_traces 6 none ∈ tw := tbl_at 1023 (by rfl) (by rfl)
set_option maxRecDepth 100000 in
theorem t524 : Cond.methodLink RX7 254 yX7_traces ∈ tw := tbl_at 1020 (by decide +kernel) (by decide +kernel)
set_option maxRecDepth 100000 in
theorem t525 : Cond.instanceMethod yX7_traces ∈ tw := tbl_at 1022 (by decide +kernel) (by decide +kernel)
set_option maxRecDepth 100000 in
theorem t526 : Cond.selects yX7_traces.cls yX7_traces yX7_traces ∈ tw := tbl_sel 43 (by decide +kernel) (by decide +kernel)
set_option maxRecDepth 100000 in
theorem t527 : Cond.fieldLink RX7 257 (TX7 9).1 (TX7 9).2.1 (TX7 9).2.2.1 ∈ tw := tbl_at 666 (by decide +kernel) (by decide +kernel)
set_option maxRecDepth 100000 in
theorem t528 : Cond.fieldLink RX7 96 (TX7 37).1 (TX7 37).2.1 (TX7 37).2.2.1 ∈ tw := tbl_at 694 (by decide +kernel) (by decide +kernel)
set_option maxRecDepth 100000 in
theorem t529 : Cond.code yX7_party cX7_party 2 (some .int) ∈ tw := tbl_at 800 (by rfl) (by rfl)
set_option maxRecDepth 100000 in
theorem t530 : Cond.methodLink RL 17 yX7_party ∈ tw := tbl_at 797 (by decide +kernel) (by decide +kernel)
set_option maxRecDepth 100000 in
theorem t531 : Cond.instanceMethod yX7_party ∈ tw := tbl_at 798 (by decide +kernel) (by decide +kernel)
set_option maxRecDepth 100000 in
theorem t532 : Cond.selects yX7_party.cls yX7_party yX7_party ∈ tw := tbl_at 799 (by decide +kernel) (by decide +kernel)
set_option maxRecDepth 100000 in
theorem t533 : Cond.code yX6_party cX6_party 2 (some .int) ∈ tw := tbl_at 278 (by rfl) (by rfl)
set_option maxRecDepth 100000 in
theorem t534 : Cond.methodLink RL 13 yX6_party ∈ tw := tbl_at 275 (by decide +kernel) (by decide +kernel)
set_option maxRecDepth 100000 in
theorem t535 : Cond.instanceMethod yX6_party ∈ tw := tbl_at 276 (by decide +kernel) (by decide +kernel)
set_option maxRecDepth 100000 in
theorem t536 : Cond.selects yX6_party.cls yX6_party yX6_party ∈ tw := tbl_at 277 (by decide +kernel) (by decide +kernel)
set_option maxRecDepth 100000 in
theorem t537 : Cond.code yX7_as cX7_as 5 (some .int) ∈ tw := tbl_at 814 (by rfl) (by rfl)
set_option maxRecDepth 100000 in
theorem t538 : Cond.methodLink RL 22 yX7_as ∈ tw := tbl_at 811 (by decide +kernel) (by decide +kernel)
set_option maxRecDepth 100000 in
theorem t539 : Cond.instanceMethod yX7_as ∈ tw := tbl_at 812 (by decide +kernel) (by decide +kernel)
set_option maxRecDepth 100000 in
theorem t540 : Cond.selects yX7_as.cls yX7_as yX7_as ∈ tw := tbl_at 813 (by decide +kernel) (by decide +kernel)
set_option maxRecDepth 100000 in
theorem t541 : Cond.code yX6_as cX6_as 3 (some .int) ∈ tw := tbl_at 293 (by rfl) (by rfl)
set_option maxRecDepth 100000 in
theorem t542 : Cond.methodLink RL 18 yX6_as ∈ tw := tbl_at 290 (by decide +kernel) (by decide +kernel)
set_option maxRecDepth 100000 in
theorem t543 : Cond.instanceMethod yX6_as ∈ tw := tbl_at 291 (by decide +kernel) (by decide +kernel)
set_option maxRecDepth 100000 in
theorem t544 : Cond.selects yX6_as.cls yX6_as yX6_as ∈ tw := tbl_at 292 (by decide +kernel) (by decide +kernel)
set_option maxRecDepth 100000 in
theorem t545 : Cond.code yX7_contract cX7_contract 5 (some .int) ∈ tw := tbl_at 826 (by rfl) (by rfl)
set_option maxRecDepth 100000 in
theorem t546 : Cond.methodLink RL 27 yX7_contract ∈ tw := tbl_at 823 (by decide +kernel) (by decide +kernel)
set_option maxRecDepth 100000 in
theorem t547 : Cond.instanceMethod yX7_contract ∈ tw := tbl_at 824 (by decide +kernel) (by decide +kernel)
set_option maxRecDepth 100000 in
theorem t548 : Cond.selects yX7_contract.cls yX7_contract yX7_contract ∈ tw := tbl_at 825 (by decide +kernel) (by decide +kernel)
set_option maxRecDepth 100000 in
theorem t549 : Cond.code yX6_contract cX6_contract 5 (some .int) ∈ tw := tbl_at 309 (by rfl) (by rfl)
set_option maxRecDepth 100000 in
theorem t550 : Cond.methodLink RL 23 yX6_contract ∈ tw := tbl_at 306 (by decide +kernel) (by decide +kernel)
set_option maxRecDepth 100000 in
theorem t551 : Cond.instanceMethod yX6_contract ∈ tw := tbl_at 307 (by decide +kernel) (by decide +kernel)
set_option maxRecDepth 100000 in
theorem t552 : Cond.selects yX6_contract.cls yX6_contract yX6_contract ∈ tw := tbl_at 308 (by decide +kernel) (by decide +kernel)
set_option maxRecDepth 100000 in
theorem t553 : Cond.code yX7_extra cX7_extra 3 (some .int) ∈ tw := tbl_at 836 (by rfl) (by rfl)
set_option maxRecDepth 100000 in
theorem t554 : Cond.methodLink RL 31 yX7_extra ∈ tw := tbl_at 833 (by decide +kernel) (by decide +kernel)
set_option maxRecDepth 100000 in
theorem t555 : Cond.instanceMethod yX7_extra ∈ tw := tbl_at 834 (by decide +kernel) (by decide +kernel)
set_option maxRecDepth 100000 in
theorem t556 : Cond.selects yX7_extra.cls yX7_extra yX7_extra ∈ tw := tbl_at 835 (by decide +kernel) (by decide +kernel)
set_option maxRecDepth 100000 in
theorem t557 : Cond.code yX6_extra cX6_extra 4 (some .int) ∈ tw := tbl_at 323 (by rfl) (by rfl)
set_option maxRecDepth 100000 in
theorem t558 : Cond.methodLink RL 28 yX6_extra ∈ tw := tbl_at 320 (by decide +kernel) (by decide +kernel)
set_option maxRecDepth 100000 in
theorem t559 : Cond.instanceMethod yX6_extra ∈ tw := tbl_at 321 (by decide +kernel) (by decide +kernel)
set_option maxRecDepth 100000 in
theorem t560 : Cond.selects yX6_extra.cls yX6_extra yX6_extra ∈ tw := tbl_at 322 (by decide +kernel) (by decide +kernel)
set_option maxRecDepth 100000 in
theorem t561 : Cond.code yX7_began cX7_began 4 (some .int) ∈ tw := tbl_at 845 (by rfl) (by rfl)
set_option maxRecDepth 100000 in
theorem t562 : Cond.methodLink RL 35 yX7_began ∈ tw := tbl_at 842 (by decide +kernel) (by decide +kernel)
set_option maxRecDepth 100000 in
theorem t563 : Cond.instanceMethod yX7_began ∈ tw := tbl_at 843 (by decide +kernel) (by decide +kernel)
set_option maxRecDepth 100000 in
theorem t564 : Cond.selects yX7_began.cls yX7_began yX7_began ∈ tw := tbl_at 844 (by decide +kernel) (by decide +kernel)
set_option maxRecDepth 100000 in
theorem t565 : Cond.code yX6_began cX6_began 5 (some .int) ∈ tw := tbl_at 333 (by rfl) (by rfl)
set_option maxRecDepth 100000 in
theorem t566 : Cond.methodLink RL 32 yX6_began ∈ tw := tbl_at 330 (by decide +kernel) (by decide +kernel)
set_option maxRecDepth 100000 in
theorem t567 : Cond.instanceMethod yX6_began ∈ tw := tbl_at 331 (by decide +kernel) (by decide +kernel)
set_option maxRecDepth 100000 in
theorem t568 : Cond.selects yX6_began.cls yX6_began yX6_began ∈ tw := tbl_at 332 (by decide +kernel) (by decide +kernel)
set_option maxRecDepth 100000 in
theorem t569 : Cond.code yX7_ended cX7_ended 4 (some .int) ∈ tw := tbl_at 853 (by rfl) (by rfl)
set_option maxRecDepth 100000 in
theorem t570 : Cond.methodLink RL 39 yX7_ended ∈ tw := tbl_at 850 (by decide +kernel) (by decide +kernel)
set_option maxRecDepth 100000 in
theorem t571 : Cond.instanceMethod yX7_ended ∈ tw := tbl_at 851 (by decide +kernel) (by decide +kernel)
set_option maxRecDepth 100000 in
theorem t572 : Cond.selects yX7_ended.cls yX7_ended yX7_ended ∈ tw := tbl_at 852 (by decide +kernel) (by decide +kernel)
set_option maxRecDepth 100000 in
theorem t573 : Cond.code yX6_ended cX6_ended 5 (some .int) ∈ tw := tbl_at 345 (by rfl) (by rfl)
set_option maxRecDepth 100000 in
theorem t574 : Cond.methodLink RL 36 yX6_ended ∈ tw := tbl_at 342 (by decide +kernel) (by decide +kernel)
set_option maxRecDepth 100000 in
theorem t575 : Cond.instanceMethod yX6_ended ∈ tw := tbl_at 343 (by decide +kernel) (by decide +kernel)
set_option maxRecDepth 100000 in
theorem t576 : Cond.selects yX6_ended.cls yX6_ended yX6_ended ∈ tw := tbl_at 344 (by decide +kernel) (by decide +kernel)
set_option maxRecDepth 100000 in
theorem t577 : Cond.code yX7_notice cX7_notice 2 (some .int) ∈ tw := tbl_at 857 (by rfl) (by rfl)
set_option maxRecDepth 100000 in
theorem t578 : Cond.methodLink RL 43 yX7_notice ∈ tw := tbl_at 854 (by decide +kernel) (by decide +kernel)
set_option maxRecDepth 100000 in
theorem t579 : Cond.instanceMethod yX7_notice ∈ tw := tbl_at 855 (by decide +kernel) (by decide +kernel)
set_option maxRecDepth 100000 in
theorem t580 : Cond.selects yX7_notice.cls yX7_notice yX7_notice ∈ tw := tbl_at 856 (by decide +kernel) (by decide +kernel)
set_option maxRecDepth 100000 in
theorem t581 : Cond.code yX6_notice cX6_notice 3 (some .int) ∈ tw := tbl_at 353 (by rfl) (by rfl)
set_option maxRecDepth 100000 in
theorem t582 : Cond.methodLink RL 40 yX6_notice ∈ tw := tbl_at 350 (by decide +kernel) (by decide +kernel)
set_option maxRecDepth 100000 in
theorem t583 : Cond.instanceMethod yX6_notice ∈ tw := tbl_at 351 (by decide +kernel) (by decide +kernel)
set_option maxRecDepth 100000 in
theorem t584 : Cond.selects yX6_notice.cls yX6_notice yX6_notice ∈ tw := tbl_at 352 (by decide +kernel) (by decide +kernel)
set_option maxRecDepth 100000 in
theorem t585 : Cond.code yX7_pay cX7_pay 3 (some .int) ∈ tw := tbl_at 861 (by rfl) (by rfl)
set_option maxRecDepth 100000 in
theorem t586 : Cond.methodLink RL 47 yX7_pay ∈ tw := tbl_at 858 (by decide +kernel) (by decide +kernel)
set_option maxRecDepth 100000 in
theorem t587 : Cond.instanceMethod yX7_pay ∈ tw := tbl_at 859 (by decide +kernel) (by decide +kernel)
set_option maxRecDepth 100000 in
theorem t588 : Cond.selects yX7_pay.cls yX7_pay yX7_pay ∈ tw := tbl_at 860 (by decide +kernel) (by decide +kernel)
set_option maxRecDepth 100000 in
theorem t589 : Cond.code yX6_pay cX6_pay 4 (some .int) ∈ tw := tbl_at 357 (by rfl) (by rfl)
set_option maxRecDepth 100000 in
theorem t590 : Cond.methodLink RL 44 yX6_pay ∈ tw := tbl_at 354 (by decide +kernel) (by decide +kernel)
set_option maxRecDepth 100000 in
theorem t591 : Cond.instanceMethod yX6_pay ∈ tw := tbl_at 355 (by decide +kernel) (by decide +kernel)
set_option maxRecDepth 100000 in
theorem t592 : Cond.selects yX6_pay.cls yX6_pay yX6_pay ∈ tw := tbl_at 356 (by decide +kernel) (by decide +kernel)
set_option maxRecDepth 100000 in
theorem t593 : Cond.code yX7_waive cX7_waive 4 (some .int) ∈ tw := tbl_at 869 (by rfl) (by rfl)
set_option maxRecDepth 100000 in
theorem t594 : Cond.methodLink RL 51 yX7_waive ∈ tw := tbl_at 866 (by decide +kernel) (by decide +kernel)
set_option maxRecDepth 100000 in
theorem t595 : Cond.instanceMethod yX7_waive ∈ tw := tbl_at 867 (by decide +kernel) (by decide +kernel)
set_option maxRecDepth 100000 in
theorem t596 : Cond.selects yX7_waive.cls yX7_waive yX7_waive ∈ tw := tbl_at 868 (by decide +kernel) (by decide +kernel)
set_option maxRecDepth 100000 in
theorem t597 : Cond.code yX6_waive cX6_waive 4 (some .int) ∈ tw := tbl_at 372 (by rfl) (by rfl)
set_option maxRecDepth 100000 in
theorem t598 : Cond.methodLink RL 48 yX6_waive ∈ tw := tbl_at 369 (by decide +kernel) (by decide +kernel)
set_option maxRecDepth 100000 in
theorem t599 : Cond.instanceMethod yX6_waive ∈ tw := tbl_at 370 (by decide +kernel) (by decide +kernel)
set_option maxRecDepth 100000 in
theorem t600 : Cond.selects yX6_waive.cls yX6_waive yX6_waive ∈ tw := tbl_at 371 (by decide +kernel) (by decide +kernel)
set_option maxRecDepth 100000 in
theorem t601 : Cond.code yX7_of cX7_of 3 (some .int) ∈ tw := tbl_at 877 (by rfl) (by rfl)
set_option maxRecDepth 100000 in
theorem t602 : Cond.methodLink RL 55 yX7_of ∈ tw := tbl_at 874 (by decide +kernel) (by decide +kernel)
set_option maxRecDepth 100000 in
theorem t603 : Cond.instanceMethod yX7_of ∈ tw := tbl_at 875 (by decide +kernel) (by decide +kernel)
set_option maxRecDepth 100000 in
theorem t604 : Cond.selects yX7_of.cls yX7_of yX7_of ∈ tw := tbl_at 876 (by decide +kernel) (by decide +kernel)
set_option maxRecDepth 100000 in
theorem t605 : Cond.code yX6_of cX6_of 3 (some .int) ∈ tw := tbl_at 381 (by rfl) (by rfl)
set_option maxRecDepth 100000 in
theorem t606 : Cond.methodLink RL 52 yX6_of ∈ tw := tbl_at 378 (by decide +kernel) (by decide +kernel)
set_option maxRecDepth 100000 in
theorem t607 : Cond.instanceMethod yX6_of ∈ tw := tbl_at 379 (by decide +kernel) (by decide +kernel)
set_option maxRecDepth 100000 in
theorem t608 : Cond.selects yX6_of.cls yX6_of yX6_of ∈ tw := tbl_at 380 (by decide +kernel) (by decide +kernel)
set_option maxRecDepth 100000 in
theorem t609 : Cond.code yX7_day cX7_day 3 (some .int) ∈ tw := tbl_at 893 (by rfl) (by rfl)
set_option maxRecDepth 100000 in
theorem t610 : Cond.methodLink RL 59 yX7_day ∈ tw := tbl_at 890 (by decide +kernel) (by decide +kernel)
set_option maxRecDepth 100000 in
theorem t611 : Cond.instanceMethod yX7_day ∈ tw := tbl_at 891 (by decide +kernel) (by decide +kernel)
set_option maxRecDepth 100000 in
theorem t612 : Cond.selects yX7_day.cls yX7_day yX7_day ∈ tw := tbl_at 892 (by decide +kernel) (by decide +kernel)
set_option maxRecDepth 100000 in
theorem t613 : Cond.code yX6_day cX6_day 3 (some .int) ∈ tw := tbl_at 395 (by rfl) (by rfl)
set_option maxRecDepth 100000 in
theorem t614 : Cond.methodLink RL 56 yX6_day ∈ tw := tbl_at 392 (by decide +kernel) (by decide +kernel)
set_option maxRecDepth 100000 in
theorem t615 : Cond.instanceMethod yX6_day ∈ tw := tbl_at 393 (by decide +kernel) (by decide +kernel)
set_option maxRecDepth 100000 in
theorem t616 : Cond.selects yX6_day.cls yX6_day yX6_day ∈ tw := tbl_at 394 (by decide +kernel) (by decide +kernel)
set_option maxRecDepth 100000 in
theorem t617 : Cond.code yX7_law cX7_law 4 (some .int) ∈ tw := tbl_at 897 (by rfl) (by rfl)
set_option maxRecDepth 100000 in
theorem t618 : Cond.methodLink RL 63 yX7_law ∈ tw := tbl_at 894 (by decide +kernel) (by decide +kernel)
set_option maxRecDepth 100000 in
theorem t619 : Cond.instanceMethod yX7_law ∈ tw := tbl_at 895 (by decide +kernel) (by decide +kernel)
set_option maxRecDepth 100000 in
theorem t620 : Cond.selects yX7_law.cls yX7_law yX7_law ∈ tw := tbl_at 896 (by decide +kernel) (by decide +kernel)
set_option maxRecDepth 100000 in
theorem t621 : Cond.code yX6_law cX6_law 4 (some .int) ∈ tw := tbl_at 399 (by rfl) (by rfl)
set_option maxRecDepth 100000 in
theorem t622 : Cond.methodLink RL 60 yX6_law ∈ tw := tbl_at 396 (by decide +kernel) (by decide +kernel)
set_option maxRecDepth 100000 in
theorem t623 : Cond.instanceMethod yX6_law ∈ tw := tbl_at 397 (by decide +kernel) (by decide +kernel)
set_option maxRecDepth 100000 in
theorem t624 : Cond.selects yX6_law.cls yX6_law yX6_law ∈ tw := tbl_at 398 (by decide +kernel) (by decide +kernel)
set_option maxRecDepth 100000 in
theorem t625 : Cond.code yX7_file cX7_file 3 (some .int) ∈ tw := tbl_at 904 (by rfl) (by rfl)
set_option maxRecDepth 100000 in
theorem t626 : Cond.methodLink RL 67 yX7_file ∈ tw := tbl_at 901 (by decide +kernel) (by decide +kernel)
set_option maxRecDepth 100000 in
theorem t627 : Cond.instanceMethod yX7_file ∈ tw := tbl_at 902 (by decide +kernel) (by decide +kernel)
set_option maxRecDepth 100000 in
theorem t628 : Cond.selects yX7_file.cls yX7_file yX7_file ∈ tw := tbl_at 903 (by decide +kernel) (by decide +kernel)
set_option maxRecDepth 100000 in
theorem t629 : Cond.code yX6_file cX6_file 3 (some .int) ∈ tw := tbl_at 407 (by rfl) (by rfl)
set_option maxRecDepth 100000 in
theorem t630 : Cond.methodLink RL 64 yX6_file ∈ tw := tbl_at 404 (by decide +kernel) (by decide +kernel)
set_option maxRecDepth 100000 in
theorem t631 : Cond.instanceMethod yX6_file ∈ tw := tbl_at 405 (by decide +kernel) (by decide +kernel)
set_option maxRecDepth 100000 in
theorem t632 : Cond.selects yX6_file.cls yX6_file yX6_file ∈ tw := tbl_at 406 (by decide +kernel) (by decide +kernel)
set_option maxRecDepth 100000 in
theorem t633 : Cond.code yX7_sue cX7_sue 2 (some .int) ∈ tw := tbl_at 908 (by rfl) (by rfl)
set_option maxRecDepth 100000 in
theorem t634 : Cond.methodLink RL 71 yX7_sue ∈ tw := tbl_at 905 (by decide +kernel) (by decide +kernel)
set_option maxRecDepth 100000 in
theorem t635 : Cond.instanceMethod yX7_sue ∈ tw := tbl_at 906 (by decide +kernel) (by decide +kernel)
set_option maxRecDepth 100000 in
theorem t636 : Cond.selects yX7_sue.cls yX7_sue yX7_sue ∈ tw := tbl_at 907 (by decide +kernel) (by decide +kernel)
set_option maxRecDepth 100000 in
theorem t637 : Cond.code yX6_sue cX6_sue 3 (some .int) ∈ tw := tbl_at 415 (by rfl) (by rfl)
set_option maxRecDepth 100000 in
theorem t638 : Cond.methodLink RL 68 yX6_sue ∈ tw := tbl_at 412 (by decide +kernel) (by decide +kernel)
set_option maxRecDepth 100000 in
theorem t639 : Cond.instanceMethod yX6_sue ∈ tw := tbl_at 413 (by decide +kernel) (by decide +kernel)
set_option maxRecDepth 100000 in
theorem t640 : Cond.selects yX6_sue.cls yX6_sue yX6_sue ∈ tw := tbl_at 414 (by decide +kernel) (by decide +kernel)
set_option maxRecDepth 100000 in
theorem t641 : Cond.code yX7_bond cX7_bond 4 (some .int) ∈ tw := tbl_at 916 (by rfl) (by rfl)
set_option maxRecDepth 100000 in
theorem t642 : Cond.methodLink RL 75 yX7_bond ∈ tw := tbl_at 913 (by decide +kernel) (by decide +kernel)
set_option maxRecDepth 100000 in
theorem t643 : Cond.instanceMethod yX7_bond ∈ tw := tbl_at 914 (by decide +kernel) (by decide +kernel)
set_option maxRecDepth 100000 in
theorem t644 : Cond.selects yX7_bond.cls yX7_bond yX7_bond ∈ tw := tbl_at 915 (by decide +kernel) (by decide +kernel)
set_option maxRecDepth 100000 in
theorem t645 : Cond.code yX6_bond cX6_bond 5 (some .int) ∈ tw := tbl_at 424 (by rfl) (by rfl)
set_option maxRecDepth 100000 in
theorem t646 : Cond.methodLink RL 72 yX6_bond ∈ tw := tbl_at 421 (by decide +kernel) (by decide +kernel)
set_option maxRecDepth 100000 in
theorem t647 : Cond.instanceMethod yX6_bond ∈ tw := tbl_at 422 (by decide +kernel) (by decide +kernel)
set_option maxRecDepth 100000 in
theorem t648 : Cond.selects yX6_bond.cls yX6_bond yX6_bond ∈ tw := tbl_at 423 (by decide +kernel) (by decide +kernel)
set_option maxRecDepth 100000 in
theorem t649 : Cond.code yX7_judge cX7_judge 3 (some .int) ∈ tw := tbl_at 920 (by rfl) (by rfl)
set_option maxRecDepth 100000 in
theorem t650 : Cond.methodLink RL 79 yX7_judge ∈ tw := tbl_at 917 (by decide +kernel) (by decide +kernel)
set_option maxRecDepth 100000 in
theorem t651 : Cond.instanceMethod yX7_judge ∈ tw := tbl_at 918 (by decide +kernel) (by decide +kernel)
set_option maxRecDepth 100000 in
theorem t652 : Cond.selects yX7_judge.cls yX7_judge yX7_judge ∈ tw := tbl_at 919 (by decide +kernel) (by decide +kernel)
set_option maxRecDepth 100000 in
theorem t653 : Cond.code yX6_judge cX6_judge 3 (some .int) ∈ tw := tbl_at 428 (by rfl) (by rfl)
set_option maxRecDepth 100000 in
theorem t654 : Cond.methodLink RL 76 yX6_judge ∈ tw := tbl_at 425 (by decide +kernel) (by decide +kernel)
set_option maxRecDepth 100000 in
theorem t655 : Cond.instanceMethod yX6_judge ∈ tw := tbl_at 426 (by decide +kernel) (by decide +kernel)
set_option maxRecDepth 100000 in
theorem t656 : Cond.selects yX6_judge.cls yX6_judge yX6_judge ∈ tw := tbl_at 427 (by decide +kernel) (by decide +kernel)
set_option maxRecDepth 100000 in
theorem t657 : Cond.code yX7_bar cX7_bar 5 (some .int) ∈ tw := tbl_at 943 (by rfl) (by rfl)
set_option maxRecDepth 100000 in
theorem t658 : Cond.methodLink RL 83 yX7_bar ∈ tw := tbl_at 940 (by decide +kernel) (by decide +kernel)
set_option maxRecDepth 100000 in
theorem t659 : Cond.instanceMethod yX7_bar ∈ tw := tbl_at 941 (by decide +kernel) (by decide +kernel)
set_option maxRecDepth 100000 in
theorem t660 : Cond.selects yX7_bar.cls yX7_bar yX7_bar ∈ tw := tbl_at 942 (by decide +kernel) (by decide +kernel)
set_option maxRecDepth 100000 in
theorem t661 : Cond.code yX6_bar cX6_bar 3 (some .int) ∈ tw := tbl_at 456 (by rfl) (by rfl)
set_option maxRecDepth 100000 in
theorem t662 : Cond.methodLink RL 80 yX6_bar ∈ tw := tbl_at 453 (by decide +kernel) (by decide +kernel)
set_option maxRecDepth 100000 in
theorem t663 : Cond.instanceMethod yX6_bar ∈ tw := tbl_at 454 (by decide +kernel) (by decide +kernel)
set_option maxRecDepth 100000 in
theorem t664 : Cond.selects yX6_bar.cls yX6_bar yX6_bar ∈ tw := tbl_at 455 (by decide +kernel) (by decide +kernel)
set_option maxRecDepth 100000 in
theorem t665 : Cond.code yX7_worth cX7_worth 3 (some .int) ∈ tw := tbl_at 947 (by rfl) (by rfl)
set_option maxRecDepth 100000 in
theorem t666 : Cond.methodLink RL 87 yX7_worth ∈ tw := tbl_at 944 (by decide +kernel) (by decide +kernel)
set_option maxRecDepth 100000 in
theorem t667 : Cond.instanceMethod yX7_worth ∈ tw := tbl_at 945 (by decide +kernel) (by decide +kernel)
set_option maxRecDepth 100000 in
theorem t668 : Cond.selects yX7_worth.cls yX7_worth yX7_worth ∈ tw := tbl_at 946 (by decide +kernel) (by decide +kernel)
set_option maxRecDepth 100000 in
theorem t669 : Cond.code yX6_worth cX6_worth 3 (some .int) ∈ tw := tbl_at 460 (by rfl) (by rfl)
set_option maxRecDepth 100000 in
theorem t670 : Cond.methodLink RL 84 yX6_worth ∈ tw := tbl_at 457 (by decide +kernel) (by decide +kernel)
set_option maxRecDepth 100000 in
theorem t671 : Cond.instanceMethod yX6_worth ∈ tw := tbl_at 458 (by decide +kernel) (by decide +kernel)
set_option maxRecDepth 100000 in
theorem t672 : Cond.selects yX6_worth.cls yX6_worth yX6_worth ∈ tw := tbl_at 459 (by decide +kernel) (by decide +kernel)
set_option maxRecDepth 100000 in
theorem t673 : Cond.code yX7_rank cX7_rank 3 (some .int) ∈ tw := tbl_at 959 (by rfl) (by rfl)
set_option maxRecDepth 100000 in
theorem t674 : Cond.methodLink RL 91 yX7_rank ∈ tw := tbl_at 956 (by decide +kernel) (by decide +kernel)
set_option maxRecDepth 100000 in
theorem t675 : Cond.instanceMethod yX7_rank ∈ tw := tbl_at 957 (by decide +kernel) (by decide +kernel)
set_option maxRecDepth 100000 in
theorem t676 : Cond.selects yX7_rank.cls yX7_rank yX7_rank ∈ tw := tbl_at 958 (by decide +kernel) (by decide +kernel)
set_option maxRecDepth 100000 in
theorem t677 : Cond.code yX6_rank cX6_rank 3 (some .int) ∈ tw := tbl_at 484 (by rfl) (by rfl)
set_option maxRecDepth 100000 in
theorem t678 : Cond.methodLink RL 88 yX6_rank ∈ tw := tbl_at 481 (by decide +kernel) (by decide +kernel)
set_option maxRecDepth 100000 in
theorem t679 : Cond.instanceMethod yX6_rank ∈ tw := tbl_at 482 (by decide +kernel) (by decide +kernel)
set_option maxRecDepth 100000 in
theorem t680 : Cond.selects yX6_rank.cls yX6_rank yX6_rank ∈ tw := tbl_at 483 (by decide +kernel) (by decide +kernel)
set_option maxRecDepth 100000 in
theorem t681 : Cond.code yX7_loan cX7_loan 3 (some .int) ∈ tw := tbl_at 967 (by rfl) (by rfl)
set_option maxRecDepth 100000 in
theorem t682 : Cond.methodLink RL 95 yX7_loan ∈ tw := tbl_at 964 (by decide +kernel) (by decide +kernel)
set_option maxRecDepth 100000 in
theorem t683 : Cond.instanceMethod yX7_loan ∈ tw := tbl_at 965 (by decide +kernel) (by decide +kernel)
set_option maxRecDepth 100000 in
theorem t684 : Cond.selects yX7_loan.cls yX7_loan yX7_loan ∈ tw := tbl_at 966 (by decide +kernel) (by decide +kernel)
set_option maxRecDepth 100000 in
theorem t685 : Cond.code yX6_loan cX6_loan 3 (some .int) ∈ tw := tbl_at 496 (by rfl) (by rfl)
set_option maxRecDepth 100000 in
theorem t686 : Cond.methodLink RL 92 yX6_loan ∈ tw := tbl_at 493 (by decide +kernel) (by decide +kernel)
set_option maxRecDepth 100000 in
theorem t687 : Cond.instanceMethod yX6_loan ∈ tw := tbl_at 494 (by decide +kernel) (by decide +kernel)
set_option maxRecDepth 100000 in
theorem t688 : Cond.selects yX6_loan.cls yX6_loan yX6_loan ∈ tw := tbl_at 495 (by decide +kernel) (by decide +kernel)
set_option maxRecDepth 100000 in
theorem t689 : Cond.code yX7_sale cX7_sale 5 (some .int) ∈ tw := tbl_at 971 (by rfl) (by rfl)
set_option maxRecDepth 100000 in
theorem t690 : Cond.methodLink RL 100 yX7_sale ∈ tw := tbl_at 968 (by decide +kernel) (by decide +kernel)
set_option maxRecDepth 100000 in
theorem t691 : Cond.instanceMethod yX7_sale ∈ tw := tbl_at 969 (by decide +kernel) (by decide +kernel)
set_option maxRecDepth 100000 in
theorem t692 : Cond.selects yX7_sale.cls yX7_sale yX7_sale ∈ tw := tbl_at 970 (by decide +kernel) (by decide +kernel)
set_option maxRecDepth 100000 in
theorem t693 : Cond.code yX6_sale cX6_sale 5 (some .int) ∈ tw := tbl_at 504 (by rfl) (by rfl)
set_option maxRecDepth 100000 in
theorem t694 : Cond.methodLink RL 96 yX6_sale ∈ tw := tbl_at 501 (by decide +kernel) (by decide +kernel)
set_option maxRecDepth 100000 in
theorem t695 : Cond.instanceMethod yX6_sale ∈ tw := tbl_at 502 (by decide +kernel) (by decide +kernel)
set_option maxRecDepth 100000 in
theorem t696 : Cond.selects yX6_sale.cls yX6_sale yX6_sale ∈ tw := tbl_at 503 (by decide +kernel) (by decide +kernel)
set_option maxRecDepth 100000 in
theorem t697 : Cond.code yX7_twice cX7_twice 4 (some .int) ∈ tw := tbl_at 988 (by rfl) (by rfl)
set_option maxRecDepth 100000 in
theorem t698 : Cond.methodLink RL 104 yX7_twice ∈ tw := tbl_at 985 (by decide +kernel) (by decide +kernel)
set_option maxRecDepth 100000 in
theorem t699 : Cond.instanceMethod yX7_twice ∈ tw := tbl_at 986 (by decide +kernel) (by decide +kernel)
set_option maxRecDepth 100000 in
theorem t700 : Cond.selects yX7_twice.cls yX7_twice yX7_twice ∈ tw := tbl_at 987 (by decide +kernel) (by decide +kernel)
set_option maxRecDepth 100000 in
theorem t701 : Cond.code yX6_twice cX6_twice 3 (some .int) ∈ tw := tbl_at 555 (by rfl) (by rfl)
set_option maxRecDepth 100000 in
theorem t702 : Cond.methodLink RL 101 yX6_twice ∈ tw := tbl_at 552 (by decide +kernel) (by decide +kernel)
set_option maxRecDepth 100000 in
theorem t703 : Cond.instanceMethod yX6_twice ∈ tw := tbl_at 553 (by decide +kernel) (by decide +kernel)
set_option maxRecDepth 100000 in
theorem t704 : Cond.selects yX6_twice.cls yX6_twice yX6_twice ∈ tw := tbl_at 554 (by decide +kernel) (by decide +kernel)
set_option maxRecDepth 100000 in
theorem t705 : Cond.code yX7_sign cX7_sign 9 (some .int) ∈ tw := tbl_at 996 (by rfl) (by rfl)
set_option maxRecDepth 100000 in
theorem t706 : Cond.methodLink RL 108 yX7_sign ∈ tw := tbl_at 993 (by decide +kernel) (by decide +kernel)
set_option maxRecDepth 100000 in
theorem t707 : Cond.instanceMethod yX7_sign ∈ tw := tbl_at 994 (by decide +kernel) (by decide +kernel)
set_option maxRecDepth 100000 in
theorem t708 : Cond.selects yX7_sign.cls yX7_sign yX7_sign ∈ tw := tbl_at 995 (by decide +kernel) (by decide +kernel)
set_option maxRecDepth 100000 in
theorem t709 : Cond.code yX6_sign cX6_sign 5 (some .int) ∈ tw := tbl_at 566 (by rfl) (by rfl)
set_option maxRecDepth 100000 in
theorem t710 : Cond.methodLink RL 105 yX6_sign ∈ tw := tbl_at 563 (by decide +kernel) (by decide +kernel)
set_option maxRecDepth 100000 in
theorem t711 : Cond.instanceMethod yX6_sign ∈ tw := tbl_at 564 (by decide +kernel) (by decide +kernel)
set_option maxRecDepth 100000 in
theorem t712 : Cond.selects yX6_sign.cls yX6_sign yX6_sign ∈ tw := tbl_at 565 (by decide +kernel) (by decide +kernel)
set_option maxRecDepth 100000 in
theorem t713 : Cond.code yX7_in cX7_in 4 (some .int) ∈ tw := tbl_at 1003 (by rfl) (by rfl)
set_option maxRecDepth 100000 in
theorem t714 : Cond.methodLink RL 112 yX7_in ∈ tw := tbl_at 1000 (by decide +kernel) (by decide +kernel)
set_option maxRecDepth 100000 in
theorem t715 : Cond.instanceMethod yX7_in ∈ tw := tbl_at 1001 (by decide +kernel) (by decide +kernel)
set_option maxRecDepth 100000 in
theorem t716 : Cond.selects yX7_in.cls yX7_in yX7_in ∈ tw := tbl_at 1002 (by decide +kernel) (by decide +kernel)
set_option maxRecDepth 100000 in
theorem t717 : Cond.code yX6_in cX6_in 4 (some .int) ∈ tw := tbl_at 585 (by rfl) (by rfl)
set_option maxRecDepth 100000 in
theorem t718 : Cond.methodLink RL 109 yX6_in ∈ tw := tbl_at 582 (by decide +kernel) (by decide +kernel)
set_option maxRecDepth 100000 in
theorem t719 : Cond.instanceMethod yX6_in ∈ tw := tbl_at 583 (by decide +kernel) (by decide +kernel)
set_option maxRecDepth 100000 in
theorem t720 : Cond.selects yX6_in.cls yX6_in yX6_in ∈ tw := tbl_at 584 (by decide +kernel) (by decide +kernel)
set_option maxRecDepth 100000 in
theorem t721 : Cond.code yX7_out cX7_out 3 (some .int) ∈ tw := tbl_at 1011 (by rfl) (by rfl)
set_option maxRecDepth 100000 in
theorem t722 : Cond.methodLink RL 116 yX7_out ∈ tw := tbl_at 1008 (by decide +kernel) (by decide +kernel)
set_option maxRecDepth 100000 in
theorem t723 : Cond.instanceMethod yX7_out ∈ tw := tbl_at 1009 (by decide +kernel) (by decide +kernel)
set_option maxRecDepth 100000 in
theorem t724 : Cond.selects yX7_out.cls yX7_out yX7_out ∈ tw := tbl_at 1010 (by decide +kernel) (by decide +kernel)
set_option maxRecDepth 100000 in
theorem t725 : Cond.code yX6_out cX6_out 4 (some .int) ∈ tw := tbl_at 601 (by rfl) (by rfl)
set_option maxRecDepth 100000 in
theorem t726 : Cond.methodLink RL 113 yX6_out ∈ tw := tbl_at 598 (by decide +kernel) (by decide +kernel)
set_option maxRecDepth 100000 in
theorem t727 : Cond.instanceMethod yX6_out ∈ tw := tbl_at 599 (by decide +kernel) (by decide +kernel)
set_option maxRecDepth 100000 in
theorem t728 : Cond.selects yX6_out.cls yX6_out yX6_out ∈ tw := tbl_at 600 (by decide +kernel) (by decide +kernel)
set_option maxRecDepth 100000 in
theorem t729 : Cond.code yX7_trace cX7_trace 3 (some .int) ∈ tw := tbl_at 1019 (by rfl) (by rfl)
set_option maxRecDepth 100000 in
theorem t730 : Cond.methodLink RL 120 yX7_trace ∈ tw := tbl_at 1016 (by decide +kernel) (by decide +kernel)
set_option maxRecDepth 100000 in
theorem t731 : Cond.instanceMethod yX7_trace ∈ tw := tbl_at 1017 (by decide +kernel) (by decide +kernel)
set_option maxRecDepth 100000 in
theorem t732 : Cond.selects yX7_trace.cls yX7_trace yX7_trace ∈ tw := tbl_at 1018 (by decide +kernel) (by decide +kernel)
set_option maxRecDepth 100000 in
theorem t733 : Cond.code yX6_trace cX6_trace 3 (some .int) ∈ tw := tbl_at 622 (by rfl) (by rfl)
set_option maxRecDepth 100000 in
theorem t734 : Cond.methodLink RL 117 yX6_trace ∈ tw := tbl_at 619 (by decide +kernel) (by decide +kernel)
set_option maxRecDepth 100000 in
theorem t735 : Cond.instanceMethod yX6_trace ∈ tw := tbl_at 620 (by decide +kernel) (by decide +kernel)
set_option maxRecDepth 100000 in
theorem t736 : Cond.selects yX6_trace.cls yX6_trace yX6_trace ∈ tw := tbl_at 621 (by decide +kernel) (by decide +kernel)
set_option maxRecDepth 100000 in
theorem t737 : Cond.code yX7_held cX7_held 6 (some .int) ∈ tw := tbl_at 1031 (by rfl) (by rfl)
set_option maxRecDepth 100000 in
theorem t738 : Cond.methodLink RL 124 yX7_held ∈ tw := tbl_at 1028 (by decide +kernel) (by decide +kernel)
set_option maxRecDepth 100000 in
theorem t739 : Cond.instanceMethod yX7_held ∈ tw := tbl_at 1029 (by decide +kernel) (by decide +kernel)
set_option maxRecDepth 100000 in
theorem t740 : Cond.selects yX7_held.cls yX7_held yX7_held ∈ tw := tbl_at 1030 (by decide +kernel) (by decide +kernel)
set_option maxRecDepth 100000 in
theorem t741 : Cond.code yX6_held cX6_held 4 (some .int) ∈ tw := tbl_at 626 (by rfl) (by rfl)
set_option maxRecDepth 100000 in
theorem t742 : Cond.methodLink RL 121 yX6_held ∈ tw := tbl_at 623 (by decide +kernel) (by decide +kernel)
set_option maxRecDepth 100000 in
theorem t743 : Cond.instanceMethod yX6_held ∈ tw := tbl_at 624 (by decide +kernel) (by decide +kernel)
set_option maxRecDepth 100000 in
theorem t744 : Cond.selects yX6_held.cls yX6_held yX6_held ∈ tw := tbl_at 625 (by decide +kernel) (by decide +kernel)
set_option maxRecDepth 100000 in
theorem t745 : Cond.code yX7_tell cX7_tell 2 (some .int) ∈ tw := tbl_at 1035 (by rfl) (by rfl)
set_option maxRecDepth 100000 in
theorem t746 : Cond.methodLink RL 128 yX7_tell ∈ tw := tbl_at 1032 (by decide +kernel) (by decide +kernel)
set_option maxRecDepth 100000 in
theorem t747 : Cond.instanceMethod yX7_tell ∈ tw := tbl_at 1033 (by decide +kernel) (by decide +kernel)
set_option maxRecDepth 100000 in
theorem t748 : Cond.selects yX7_tell.cls yX7_tell yX7_tell ∈ tw := tbl_at 1034 (by decide +kernel) (by decide +kernel)
set_option maxRecDepth 100000 in
theorem t749 : Cond.code yX6_tell cX6_tell 2 (some .int) ∈ tw := tbl_at 634 (by rfl) (by rfl)
set_option maxRecDepth 100000 in
theorem t750 : Cond.methodLink RL 125 yX6_tell ∈ tw := tbl_at 631 (by decide +kernel) (by decide +kernel)
set_option maxRecDepth 100000 in
theorem t751 : Cond.instanceMethod yX6_tell ∈ tw := tbl_at 632 (by decide +kernel) (by decide +kernel)
set_option maxRecDepth 100000 in
theorem t752 : Cond.selects yX6_tell.cls yX6_tell yX6_tell ∈ tw := tbl_at 633 (by decide +kernel) (by decide +kernel)
set_option maxRecDepth 100000 in
theorem t753 : Cond.code yX7_check cX7_check 4 (some .int) ∈ tw := tbl_at 1039 (by rfl) (by rfl)
set_option maxRecDepth 100000 in
theorem t754 : Cond.methodLink RL 132 yX7_check ∈ tw := tbl_at 1036 (by decide +kernel) (by decide +kernel)
set_option maxRecDepth 100000 in
theorem t755 : Cond.instanceMethod yX7_check ∈ tw := tbl_at 1037 (by decide +kernel) (by decide +kernel)
set_option maxRecDepth 100000 in
theorem t756 : Cond.selects yX7_check.cls yX7_check yX7_check ∈ tw := tbl_at 1038 (by decide +kernel) (by decide +kernel)
set_option maxRecDepth 100000 in
theorem t757 : Cond.code yX6_check cX6_check 4 (some .int) ∈ tw := tbl_at 638 (by rfl) (by rfl)
set_option maxRecDepth 100000 in
theorem t758 : Cond.methodLink RL 129 yX6_check ∈ tw := tbl_at 635 (by decide +kernel) (by decide +kernel)
set_option maxRecDepth 100000 in
theorem t759 : Cond.instanceMethod yX6_check ∈ tw := tbl_at 636 (by decide +kernel) (by decide +kernel)
set_option maxRecDepth 100000 in
theorem t760 : Cond.selects yX6_check.cls yX6_check yX6_check ∈ tw := tbl_at 637 (by decide +kernel) (by decide +kernel)
set_option maxRecDepth 100000 in
theorem t761 : Cond.code yX7_count cX7_count 4 (some .int) ∈ tw := tbl_at 1043 (by rfl) (by rfl)
set_option maxRecDepth 100000 in
theorem t762 : Cond.methodLink RL 136 yX7_count ∈ tw := tbl_at 1040 (by decide +kernel) (by decide +kernel)
set_option maxRecDepth 100000 in
theorem t763 : Cond.instanceMethod yX7_count ∈ tw := tbl_at 1041 (by decide +kernel) (by decide +kernel)
set_option maxRecDepth 100000 in
theorem t764 : Cond.selects yX7_count.cls yX7_count yX7_count ∈ tw := tbl_at 1042 (by decide +kernel) (by decide +kernel)
set_option maxRecDepth 100000 in
theorem t765 : Cond.code yX6_count cX6_count 2 (some .int) ∈ tw := tbl_at 642 (by rfl) (by rfl)
set_option maxRecDepth 100000 in
theorem t766 : Cond.methodLink RL 133 yX6_count ∈ tw := tbl_at 639 (by decide +kernel) (by decide +kernel)
set_option maxRecDepth 100000 in
theorem t767 : Cond.instanceMethod yX6_count ∈ tw := tbl_at 640 (by decide +kernel) (by decide +kernel)
set_option maxRecDepth 100000 in
theorem t768 : Cond.selects yX6_count.cls yX6_count yX6_count ∈ tw := tbl_at 641 (by decide +kernel) (by decide +kernel)
set_option maxRecDepth 100000 in
theorem t769 : Cond.code yX7_found cX7_found 2 (some .int) ∈ tw := tbl_at 1047 (by rfl) (by rfl)
set_option maxRecDepth 100000 in
theorem t770 : Cond.methodLink RL 140 yX7_found ∈ tw := tbl_at 1044 (by decide +kernel) (by decide +kernel)
set_option maxRecDepth 100000 in
theorem t771 : Cond.instanceMethod yX7_found ∈ tw := tbl_at 1045 (by decide +kernel) (by decide +kernel)
set_option maxRecDepth 100000 in
theorem t772 : Cond.selects yX7_found.cls yX7_found yX7_found ∈ tw := tbl_at 1046 (by decide +kernel) (by decide +kernel)
set_option maxRecDepth 100000 in
theorem t773 : Cond.code yX6_found cX6_found 2 (some .int) ∈ tw := tbl_at 650 (by rfl) (by rfl)
set_option maxRecDepth 100000 in
theorem t774 : Cond.methodLink RL 137 yX6_found ∈ tw := tbl_at 647 (by decide +kernel) (by decide +kernel)
set_option maxRecDepth 100000 in
theorem t775 : Cond.instanceMethod yX6_found ∈ tw := tbl_at 648 (by decide +kernel) (by decide +kernel)
set_option maxRecDepth 100000 in
theorem t776 : Cond.selects yX6_found.cls yX6_found yX6_found ∈ tw := tbl_at 649 (by decide +kernel) (by decide +kernel)
abbrev ML : MD := (yL_law, cL_law, 4, ret, room_1)
abbrev MX0_receive : MD := (yX0_receive, cX0_receive, 5, (some .int), { frames := 0, cells := 0, slots := 0, locals := 0 })
abbrev MX0_balance : MD := (yX0_balance, cX0_balance, 4, (some .int), { frames := 0, cells := 0, slots := 0, locals := 0 })
abbrev MX0_leftFor : MD := (yX0_leftFor, cX0_leftFor, 6, (some .int), { frames := 0, cells := 0, slots := 0, locals := 0 })
abbrev MX0_take : MD := (yX0_take, cX0_take, 6, (some .int), { frames := 1, cells := 0, slots := 0, locals := 21 })
abbrev MX0_spendForward : MD := (yX0_spendForward, cX0_spendForward, 6, none, { frames := 2, cells := 0, slots := 0, locals := 46 })
abbrev MX0_spend : MD := (yX0_spend, cX0_spend, 5, none, { frames := 3, cells := 0, slots := 0, locals := 71 })
abbrev MX6_within : MD := (yX6_within, cX6_within, 3, (some .boolean), { frames := 0, cells := 0, slots := 0, locals := 0 })
abbrev MX1_has : MD := (yX1_has, cX1_has, 2, (some .boolean), { frames := 1, cells := 0, slots := 0, locals := 22 })
abbrev MX1_whosePayeeIs : MD := (yX1_whosePayeeIs, cX1_whosePayeeIs, 3, (some .int), { frames := 0, cells := 0, slots := 0, locals := 0 })
abbrev MX1_howManyPaidBy : MD := (yX1_howManyPaidBy, cX1_howManyPaidBy, 4, (some .int), { frames := 0, cells := 0, slots := 0, locals := 0 })
abbrev MX1_agree : MD := (yX1_agree, cX1_agree, 5, (some .int), { frames := 1, cells := 0, slots := 0, locals := 22 })
abbrev MX1_settleWaived : MD := (yX1_settleWaived, cX1_settleWaived, 5, none, { frames := 1, cells := 0, slots := 0, locals := 21 })
abbrev MX1_addWaiver : MD := (yX1_addWaiver, cX1_addWaiver, 4, none, { frames := 2, cells := 0, slots := 0, locals := 45 })
abbrev MX1_firstSpade : MD := (yX1_firstSpade, cX1_firstSpade, 5, (some .int), { frames := 0, cells := 0, slots := 0, locals := 0 })
abbrev MX3_open : MD := (yX3_open, cX3_open, 1, (some .int), { frames := 1, cells := 0, slots := 0, locals := 21 })
abbrev MX3_isBelow : MD := (yX3_isBelow, cX3_isBelow, 2, (some .boolean), { frames := 0, cells := 0, slots := 0, locals := 0 })
abbrev MX3_owing : MD := (yX3_owing, cX3_owing, 1, (some .int), { frames := 0, cells := 0, slots := 0, locals := 0 })
abbrev MX1_boundOf : MD := (yX1_boundOf, cX1_boundOf, 5, (some .int), { frames := 2, cells := 0, slots := 0, locals := 41 })
abbrev MJ6_bitCount_0f7a4 : MD := (yJ6_bitCount_0f7a4, cJ6_bitCount_0f7a4, 1, (some .int), { frames := 0, cells := 0, slots := 0, locals := 0 })
abbrev MX1_openOfSet : MD := (yX1_openOfSet, cX1_openOfSet, 4, (some .int), { frames := 2, cells := 0, slots := 0, locals := 41 })
abbrev MX1_fewestSigners : MD := (yX1_fewestSigners, cX1_fewestSigners, 9, (some .int), { frames := 3, cells := 0, slots := 0, locals := 64 })
abbrev MX3_hasBegun : MD := (yX3_hasBegun, cX3_hasBegun, 1, (some .boolean), { frames := 0, cells := 0, slots := 0, locals := 0 })
abbrev MX3_hasEnded : MD := (yX3_hasEnded, cX3_hasEnded, 1, (some .boolean), { frames := 0, cells := 0, slots := 0, locals := 0 })
abbrev MX3_isSideOf : MD := (yX3_isSideOf, cX3_isSideOf, 2, (some .boolean), { frames := 0, cells := 0, slots := 0, locals := 0 })
abbrev MX3_detail : MD := (yX3_detail, cX3_detail, 2, (some .int), { frames := 2, cells := 0, slots := 0, locals := 41 })
abbrev MX4_has : MD := (yX4_has, cX4_has, 2, (some .boolean), { frames := 1, cells := 0, slots := 0, locals := 22 })
abbrev MX4_enter : MD := (yX4_enter, cX4_enter, 5, (some .int), { frames := 0, cells := 0, slots := 0, locals := 0 })
abbrev MX4_lateness : MD := (yX4_lateness, cX4_lateness, 5, (some .int), { frames := 0, cells := 0, slots := 0, locals := 0 })
abbrev MX4_noticeBar : MD := (yX4_noticeBar, cX4_noticeBar, 2, (some .int), { frames := 1, cells := 0, slots := 0, locals := 24 })
abbrev MX4_isSuitLost : MD := (yX4_isSuitLost, cX4_isSuitLost, 5, (some .boolean), { frames := 0, cells := 0, slots := 0, locals := 0 })
abbrev MX4_barOn : MD := (yX4_barOn, cX4_barOn, 7, (some .int), { frames := 2, cells := 0, slots := 0, locals := 45 })
abbrev MX4_verdictOfBar : MD := (yX4_verdictOfBar, cX4_verdictOfBar, 1, (some .int), { frames := 0, cells := 0, slots := 0, locals := 0 })
abbrev MX4_weigh : MD := (yX4_weigh, cX4_weigh, 5, none, { frames := 3, cells := 0, slots := 0, locals := 71 })
abbrev MX4_worthBelow : MD := (yX4_worthBelow, cX4_worthBelow, 5, (some .int), { frames := 4, cells := 0, slots := 0, locals := 95 })
abbrev MX4_howManyGood : MD := (yX4_howManyGood, cX4_howManyGood, 4, (some .int), { frames := 4, cells := 0, slots := 0, locals := 95 })
abbrev MX4_rankDay : MD := (yX4_rankDay, cX4_rankDay, 5, (some .int), { frames := 1, cells := 0, slots := 0, locals := 24 })
abbrev MX5_record : MD := (yX5_record, cX5_record, 3, (some .int), { frames := 0, cells := 0, slots := 0, locals := 0 })
abbrev MX5_loanShare : MD := (yX5_loanShare, cX5_loanShare, 2, (some .int), { frames := 0, cells := 0, slots := 0, locals := 0 })
abbrev MX5_claimShare : MD := (yX5_claimShare, cX5_claimShare, 2, (some .int), { frames := 0, cells := 0, slots := 0, locals := 0 })
abbrev MX5_enterLoans : MD := (yX5_enterLoans, cX5_enterLoans, 2, none, { frames := 0, cells := 0, slots := 0, locals := 0 })
abbrev MX5_enterClaims : MD := (yX5_enterClaims, cX5_enterClaims, 7, none, { frames := 4, cells := 0, slots := 0, locals := 95 })
abbrev MX5_rankAfter : MD := (yX5_rankAfter, cX5_rankAfter, 4, (some .int), { frames := 0, cells := 0, slots := 0, locals := 0 })
abbrev MX5_shareLeft : MD := (yX5_shareLeft, cX5_shareLeft, 6, none, { frames := 0, cells := 0, slots := 0, locals := 0 })
abbrev MX5_payWhole : MD := (yX5_payWhole, cX5_payWhole, 3, none, { frames := 0, cells := 0, slots := 0, locals := 0 })
abbrev MX5_payRank : MD := (yX5_payRank, cX5_payRank, 4, none, { frames := 1, cells := 0, slots := 0, locals := 25 })
abbrev MX5_sell : MD := (yX5_sell, cX5_sell, 6, none, { frames := 5, cells := 0, slots := 0, locals := 121 })
abbrev MX6_isKindNumber : MD := (yX6_isKindNumber, cX6_isKindNumber, 1, (some .boolean), { frames := 1, cells := 0, slots := 0, locals := 22 })
abbrev MX6_finding : MD := (yX6_finding, cX6_finding, 2, (some .int), { frames := 0, cells := 0, slots := 0, locals := 0 })
abbrev MX6_party : MD := (yX6_party, cX6_party, 2, (some .int), { frames := 2, cells := 0, slots := 0, locals := 42 })
abbrev MX6_isParty : MD := (yX6_isParty, cX6_isParty, 2, (some .boolean), { frames := 1, cells := 0, slots := 0, locals := 22 })
abbrev MX6_isOfKind : MD := (yX6_isOfKind, cX6_isOfKind, 4, (some .boolean), { frames := 0, cells := 0, slots := 0, locals := 0 })
abbrev MX6_as : MD := (yX6_as, cX6_as, 3, (some .int), { frames := 2, cells := 0, slots := 0, locals := 43 })
abbrev MX6_contract : MD := (yX6_contract, cX6_contract, 5, (some .int), { frames := 2, cells := 0, slots := 0, locals := 46 })
abbrev MX6_extra : MD := (yX6_extra, cX6_extra, 4, (some .int), { frames := 2, cells := 0, slots := 0, locals := 43 })
abbrev MX6_isSpanUpToToday : MD := (yX6_isSpanUpToToday, cX6_isSpanUpToToday, 3, (some .boolean), { frames := 1, cells := 0, slots := 0, locals := 22 })
abbrev MX6_began : MD := (yX6_began, cX6_began, 5, (some .int), { frames := 2, cells := 0, slots := 0, locals := 44 })
abbrev MX6_ended : MD := (yX6_ended, cX6_ended, 5, (some .int), { frames := 2, cells := 0, slots := 0, locals := 44 })
abbrev MX6_notice : MD := (yX6_notice, cX6_notice, 3, (some .int), { frames := 2, cells := 0, slots := 0, locals := 43 })
abbrev MX6_pay : MD := (yX6_pay, cX6_pay, 4, (some .int), { frames := 2, cells := 0, slots := 0, locals := 45 })
abbrev MX6_waive : MD := (yX6_waive, cX6_waive, 4, (some .int), { frames := 3, cells := 0, slots := 0, locals := 68 })
abbrev MX6_of : MD := (yX6_of, cX6_of, 3, (some .int), { frames := 3, cells := 0, slots := 0, locals := 62 })
abbrev MX6_day : MD := (yX6_day, cX6_day, 3, (some .int), { frames := 1, cells := 0, slots := 0, locals := 22 })
abbrev MX6_law : MD := (yX6_law, cX6_law, 4, (some .int), { frames := 1, cells := 0, slots := 0, locals := 22 })
abbrev MX6_file : MD := (yX6_file, cX6_file, 3, (some .int), { frames := 2, cells := 0, slots := 0, locals := 43 })
abbrev MX6_sue : MD := (yX6_sue, cX6_sue, 3, (some .int), { frames := 2, cells := 0, slots := 0, locals := 43 })
abbrev MX6_bond : MD := (yX6_bond, cX6_bond, 5, (some .int), { frames := 2, cells := 0, slots := 0, locals := 43 })
abbrev MX6_isJudgeable : MD := (yX6_isJudgeable, cX6_isJudgeable, 3, (some .boolean), { frames := 2, cells := 0, slots := 0, locals := 43 })
abbrev MX6_judge : MD := (yX6_judge, cX6_judge, 3, (some .int), { frames := 3, cells := 0, slots := 0, locals := 71 })
abbrev MX6_bar : MD := (yX6_bar, cX6_bar, 3, (some .int), { frames := 3, cells := 0, slots := 0, locals := 71 })
abbrev MX6_worth : MD := (yX6_worth, cX6_worth, 3, (some .int), { frames := 4, cells := 0, slots := 0, locals := 95 })
abbrev MX6_rank : MD := (yX6_rank, cX6_rank, 3, (some .int), { frames := 2, cells := 0, slots := 0, locals := 48 })
abbrev MX6_loan : MD := (yX6_loan, cX6_loan, 3, (some .int), { frames := 2, cells := 0, slots := 0, locals := 43 })
abbrev MX6_isSaleCoin : MD := (yX6_isSaleCoin, cX6_isSaleCoin, 1, (some .boolean), { frames := 1, cells := 0, slots := 0, locals := 22 })
abbrev MX6_isSharer : MD := (yX6_isSharer, cX6_isSharer, 3, (some .boolean), { frames := 2, cells := 0, slots := 0, locals := 43 })
abbrev MX6_sale : MD := (yX6_sale, cX6_sale, 5, (some .int), { frames := 6, cells := 0, slots := 0, locals := 146 })
abbrev MX6_twice : MD := (yX6_twice, cX6_twice, 3, (some .int), { frames := 5, cells := 0, slots := 0, locals := 119 })
abbrev MX6_sign : MD := (yX6_sign, cX6_sign, 5, (some .int), { frames := 4, cells := 0, slots := 0, locals := 92 })
abbrev MX6_isPurpose : MD := (yX6_isPurpose, cX6_isPurpose, 2, (some .boolean), { frames := 2, cells := 0, slots := 0, locals := 43 })
abbrev MX6_in : MD := (yX6_in, cX6_in, 4, (some .int), { frames := 3, cells := 0, slots := 0, locals := 64 })
abbrev MX6_out : MD := (yX6_out, cX6_out, 4, (some .int), { frames := 4, cells := 0, slots := 0, locals := 95 })
abbrev MX6_trace : MD := (yX6_trace, cX6_trace, 3, (some .int), { frames := 1, cells := 0, slots := 0, locals := 22 })
abbrev MX6_held : MD := (yX6_held, cX6_held, 4, (some .int), { frames := 3, cells := 0, slots := 0, locals := 64 })
abbrev MX6_tell : MD := (yX6_tell, cX6_tell, 2, (some .int), { frames := 1, cells := 0, slots := 0, locals := 21 })
abbrev MX6_check : MD := (yX6_check, cX6_check, 4, (some .int), { frames := 6, cells := 0, slots := 0, locals := 146 })
abbrev MX6_count : MD := (yX6_count, cX6_count, 2, (some .int), { frames := 5, cells := 0, slots := 0, locals := 118 })
abbrev MX6_found : MD := (yX6_found, cX6_found, 2, (some .int), { frames := 1, cells := 0, slots := 0, locals := 22 })
abbrev MX7_isIn : MD := (yX7_isIn, cX7_isIn, 3, (some .boolean), { frames := 0, cells := 0, slots := 0, locals := 0 })
abbrev MX7_finds : MD := (yX7_finds, cX7_finds, 2, (some .int), { frames := 0, cells := 0, slots := 0, locals := 0 })
abbrev MX7_isParty : MD := (yX7_isParty, cX7_isParty, 2, (some .boolean), { frames := 1, cells := 0, slots := 0, locals := 22 })
abbrev MX7_isContract : MD := (yX7_isContract, cX7_isContract, 2, (some .boolean), { frames := 1, cells := 0, slots := 0, locals := 22 })
abbrev MX7_isClaim : MD := (yX7_isClaim, cX7_isClaim, 2, (some .boolean), { frames := 1, cells := 0, slots := 0, locals := 22 })
abbrev MX7_isUnder : MD := (yX7_isUnder, cX7_isUnder, 2, (some .boolean), { frames := 0, cells := 0, slots := 0, locals := 0 })
abbrev MX7_party : MD := (yX7_party, cX7_party, 2, (some .int), { frames := 1, cells := 0, slots := 0, locals := 22 })
abbrev MX7_as : MD := (yX7_as, cX7_as, 5, (some .int), { frames := 2, cells := 0, slots := 0, locals := 43 })
abbrev MX7_contractTo : MD := (yX7_contractTo, cX7_contractTo, 4, (some .int), { frames := 0, cells := 0, slots := 0, locals := 0 })
abbrev MX7_contract : MD := (yX7_contract, cX7_contract, 5, (some .int), { frames := 2, cells := 0, slots := 0, locals := 43 })
abbrev MX7_extra : MD := (yX7_extra, cX7_extra, 3, (some .int), { frames := 2, cells := 0, slots := 0, locals := 43 })
abbrev MX7_isSpan : MD := (yX7_isSpan, cX7_isSpan, 3, (some .boolean), { frames := 0, cells := 0, slots := 0, locals := 0 })
abbrev MX7_began : MD := (yX7_began, cX7_began, 4, (some .int), { frames := 2, cells := 0, slots := 0, locals := 43 })
abbrev MX7_ended : MD := (yX7_ended, cX7_ended, 4, (some .int), { frames := 2, cells := 0, slots := 0, locals := 43 })
abbrev MX7_notice : MD := (yX7_notice, cX7_notice, 2, (some .int), { frames := 2, cells := 0, slots := 0, locals := 43 })
abbrev MX7_owing : MD := (yX7_owing, cX7_owing, 2, (some .int), { frames := 0, cells := 0, slots := 0, locals := 0 })
abbrev MX7_pay : MD := (yX7_pay, cX7_pay, 3, (some .int), { frames := 2, cells := 0, slots := 0, locals := 43 })
abbrev MX7_waived : MD := (yX7_waived, cX7_waived, 5, (some .int), { frames := 0, cells := 0, slots := 0, locals := 0 })
abbrev MX7_waive : MD := (yX7_waive, cX7_waive, 4, (some .int), { frames := 2, cells := 0, slots := 0, locals := 43 })
abbrev MX7_open : MD := (yX7_open, cX7_open, 4, (some .int), { frames := 1, cells := 0, slots := 0, locals := 24 })
abbrev MX7_upper : MD := (yX7_upper, cX7_upper, 2, (some .int), { frames := 1, cells := 0, slots := 0, locals := 23 })
abbrev MX7_degree : MD := (yX7_degree, cX7_degree, 4, (some .int), { frames := 2, cells := 0, slots := 0, locals := 44 })
abbrev MX7_of : MD := (yX7_of, cX7_of, 3, (some .int), { frames := 3, cells := 0, slots := 0, locals := 67 })
abbrev MX7_day : MD := (yX7_day, cX7_day, 3, (some .int), { frames := 1, cells := 0, slots := 0, locals := 22 })
abbrev MX7_mostOf : MD := (yX7_mostOf, cX7_mostOf, 1, (some .int), { frames := 0, cells := 0, slots := 0, locals := 0 })
abbrev MX7_law : MD := (yX7_law, cX7_law, 4, (some .int), { frames := 1, cells := 0, slots := 0, locals := 22 })
abbrev MX7_file : MD := (yX7_file, cX7_file, 3, (some .int), { frames := 2, cells := 0, slots := 0, locals := 43 })
abbrev MX7_sue : MD := (yX7_sue, cX7_sue, 2, (some .int), { frames := 2, cells := 0, slots := 0, locals := 43 })
abbrev MX7_bond : MD := (yX7_bond, cX7_bond, 4, (some .int), { frames := 2, cells := 0, slots := 0, locals := 43 })
abbrev MX7_late : MD := (yX7_late, cX7_late, 4, (some .int), { frames := 0, cells := 0, slots := 0, locals := 0 })
abbrev MX7_barred : MD := (yX7_barred, cX7_barred, 5, (some .int), { frames := 3, cells := 0, slots := 0, locals := 67 })
abbrev MX7_firstBar : MD := (yX7_firstBar, cX7_firstBar, 5, (some .int), { frames := 4, cells := 0, slots := 0, locals := 91 })
abbrev MX7_judged : MD := (yX7_judged, cX7_judged, 3, (some .int), { frames := 5, cells := 0, slots := 0, locals := 115 })
abbrev MX7_isJudgeable : MD := (yX7_isJudgeable, cX7_isJudgeable, 3, (some .boolean), { frames := 2, cells := 0, slots := 0, locals := 43 })
abbrev MX7_judge : MD := (yX7_judge, cX7_judge, 3, (some .int), { frames := 6, cells := 0, slots := 0, locals := 137 })
abbrev MX7_bar : MD := (yX7_bar, cX7_bar, 5, (some .int), { frames := 5, cells := 0, slots := 0, locals := 115 })
abbrev MX7_bound : MD := (yX7_bound, cX7_bound, 4, (some .int), { frames := 2, cells := 0, slots := 0, locals := 47 })
abbrev MX7_worthOf : MD := (yX7_worthOf, cX7_worthOf, 8, (some .int), { frames := 6, cells := 0, slots := 0, locals := 137 })
abbrev MX7_worth : MD := (yX7_worth, cX7_worth, 3, (some .int), { frames := 7, cells := 0, slots := 0, locals := 164 })
abbrev MX7_rankOf : MD := (yX7_rankOf, cX7_rankOf, 6, (some .int), { frames := 0, cells := 0, slots := 0, locals := 0 })
abbrev MX7_rank : MD := (yX7_rank, cX7_rank, 3, (some .int), { frames := 2, cells := 0, slots := 0, locals := 43 })
abbrev MX7_loan : MD := (yX7_loan, cX7_loan, 3, (some .int), { frames := 2, cells := 0, slots := 0, locals := 43 })
abbrev MX7_lines : MD := (yX7_lines, cX7_lines, 4, none, { frames := 7, cells := 0, slots := 0, locals := 164 })
abbrev MX7_nextRank : MD := (yX7_nextRank, cX7_nextRank, 4, (some .int), { frames := 0, cells := 0, slots := 0, locals := 0 })
abbrev MX7_sell : MD := (yX7_sell, cX7_sell, 11, none, { frames := 8, cells := 0, slots := 0, locals := 187 })
abbrev MX7_sale : MD := (yX7_sale, cX7_sale, 5, (some .int), { frames := 9, cells := 0, slots := 0, locals := 217 })
abbrev MX7_isBelow : MD := (yX7_isBelow, cX7_isBelow, 5, (some .boolean), { frames := 2, cells := 0, slots := 0, locals := 44 })
abbrev MX7_twice : MD := (yX7_twice, cX7_twice, 4, (some .int), { frames := 7, cells := 0, slots := 0, locals := 164 })
abbrev MX7_bits : MD := (yX7_bits, cX7_bits, 3, (some .int), { frames := 0, cells := 0, slots := 0, locals := 0 })
abbrev MX7_sign : MD := (yX7_sign, cX7_sign, 9, (some .int), { frames := 3, cells := 0, slots := 0, locals := 68 })
abbrev MX7_isBuilder : MD := (yX7_isBuilder, cX7_isBuilder, 2, (some .boolean), { frames := 1, cells := 0, slots := 0, locals := 21 })
abbrev MX7_in : MD := (yX7_in, cX7_in, 4, (some .int), { frames := 2, cells := 0, slots := 0, locals := 43 })
abbrev MX7_account : MD := (yX7_account, cX7_account, 4, (some .int), { frames := 0, cells := 0, slots := 0, locals := 0 })
abbrev MX7_out : MD := (yX7_out, cX7_out, 3, (some .int), { frames := 2, cells := 0, slots := 0, locals := 43 })
abbrev MX7_goes : MD := (yX7_goes, cX7_goes, 10, (some .int), { frames := 0, cells := 0, slots := 0, locals := 0 })
abbrev MX7_traces : MD := (yX7_traces, cX7_traces, 6, none, { frames := 1, cells := 0, slots := 0, locals := 29 })
abbrev MX7_trace : MD := (yX7_trace, cX7_trace, 3, (some .int), { frames := 2, cells := 0, slots := 0, locals := 54 })
abbrev MX7_held : MD := (yX7_held, cX7_held, 6, (some .int), { frames := 2, cells := 0, slots := 0, locals := 54 })
abbrev MX7_tell : MD := (yX7_tell, cX7_tell, 2, (some .int), { frames := 1, cells := 0, slots := 0, locals := 21 })
abbrev MX7_check : MD := (yX7_check, cX7_check, 4, (some .int), { frames := 9, cells := 0, slots := 0, locals := 217 })
abbrev MX7_count : MD := (yX7_count, cX7_count, 4, (some .int), { frames := 6, cells := 0, slots := 0, locals := 137 })
abbrev MX7_found : MD := (yX7_found, cX7_found, 2, (some .int), { frames := 1, cells := 0, slots := 0, locals := 22 })
theorem okX0_spendForward_X0_take : okC MX0_spendForward MX0_take 4 5 := ⟨by decide +kernel, ⟨by decide +kernel, by decide +kernel, by decide +kernel⟩, rfl, rfl, by decide, by decide, by decide⟩
theorem okX0_spend_X0_spendForward : okC MX0_spend MX0_spendForward 3 4 := ⟨by decide +kernel, ⟨by decide +kernel, by decide +kernel, by decide +kernel⟩, rfl, rfl, by decide, by decide, by decide⟩
theorem okX0_spend_X0_take : okC MX0_spend MX0_take 4 5 := ⟨by decide +kernel, ⟨by decide +kernel, by decide +kernel, by decide +kernel⟩, rfl, rfl, by decide, by decide, by decide⟩
theorem okX1_has_X6_within : okC MX1_has MX6_within 3 3 := ⟨by decide +kernel, ⟨by decide +kernel, by decide +kernel, by decide +kernel⟩, rfl, rfl, by decide, by decide, by decide⟩
theorem okX1_agree_X1_whosePayeeIs : okC MX1_agree MX1_whosePayeeIs 1 2 := ⟨by decide +kernel, ⟨by decide +kernel, by decide +kernel, by decide +kernel⟩, rfl, rfl, by decide, by decide, by decide⟩
theorem okX1_addWaiver_X1_settleWaived : okC MX1_addWaiver MX1_settleWaived 1 2 := ⟨by decide +kernel, ⟨by decide +kernel, by decide +kernel, by decide +kernel⟩, rfl, rfl, by decide, by decide, by decide⟩
theorem okX1_boundOf_X3_open : okC MX1_boundOf MX3_open 0 1 := ⟨by decide +kernel, ⟨by decide +kernel, by decide +kernel, by decide +kernel⟩, rfl, rfl, by decide, by decide, by decide⟩
theorem okX1_boundOf_X3_owing : okC MX1_boundOf MX3_owing 0 1 := ⟨by decide +kernel, ⟨by decide +kernel, by decide +kernel, by decide +kernel⟩, rfl, rfl, by decide, by decide, by decide⟩
theorem okX1_boundOf_X3_isBelow : okC MX1_boundOf MX3_isBelow 1 2 := ⟨by decide +kernel, ⟨by decide +kernel, by decide +kernel, by decide +kernel⟩, rfl, rfl, by decide, by decide, by decide⟩
theorem okX1_openOfSet_X3_open : okC MX1_openOfSet MX3_open 0 1 := ⟨by decide +kernel, ⟨by decide +kernel, by decide +kernel, by decide +kernel⟩, rfl, rfl, by decide, by decide, by decide⟩
theorem okX1_fewestSigners_J6_bitCount_0f7a4 : okC MX1_fewestSigners MJ6_bitCount_0f7a4 1 1 := ⟨by decide +kernel, ⟨by decide +kernel, by decide +kernel, by decide +kernel⟩, rfl, rfl, by decide, by decide, by decide⟩
theorem okX1_fewestSigners_X3_open : okC MX1_fewestSigners MX3_open 0 1 := ⟨by decide +kernel, ⟨by decide +kernel, by decide +kernel, by decide +kernel⟩, rfl, rfl, by decide, by decide, by decide⟩
theorem okX1_fewestSigners_X3_isBelow : okC MX1_fewestSigners MX3_isBelow 1 2 := ⟨by decide +kernel, ⟨by decide +kernel, by decide +kernel, by decide +kernel⟩, rfl, rfl, by decide, by decide, by decide⟩
theorem okX1_fewestSigners_X1_openOfSet : okC MX1_fewestSigners MX1_openOfSet 1 2 := ⟨by decide +kernel, ⟨by decide +kernel, by decide +kernel, by decide +kernel⟩, rfl, rfl, by decide, by decide, by decide⟩
theorem okX3_detail_X3_owing : okC MX3_detail MX3_owing 0 1 := ⟨by decide +kernel, ⟨by decide +kernel, by decide +kernel, by decide +kernel⟩, rfl, rfl, by decide, by decide, by decide⟩
theorem okX3_detail_X3_open : okC MX3_detail MX3_open 0 1 := ⟨by decide +kernel, ⟨by decide +kernel, by decide +kernel, by decide +kernel⟩, rfl, rfl, by decide, by decide, by decide⟩
theorem okX4_has_X6_within : okC MX4_has MX6_within 3 3 := ⟨by decide +kernel, ⟨by decide +kernel, by decide +kernel, by decide +kernel⟩, rfl, rfl, by decide, by decide, by decide⟩
theorem okX4_noticeBar_X4_lateness : okC MX4_noticeBar MX4_lateness 4 5 := ⟨by decide +kernel, ⟨by decide +kernel, by decide +kernel, by decide +kernel⟩, rfl, rfl, by decide, by decide, by decide⟩
theorem okX4_barOn_X3_open : okC MX4_barOn MX3_open 0 1 := ⟨by decide +kernel, ⟨by decide +kernel, by decide +kernel, by decide +kernel⟩, rfl, rfl, by decide, by decide, by decide⟩
theorem okX4_barOn_X4_isSuitLost : okC MX4_barOn MX4_isSuitLost 2 3 := ⟨by decide +kernel, ⟨by decide +kernel, by decide +kernel, by decide +kernel⟩, rfl, rfl, by decide, by decide, by decide⟩
theorem okX4_barOn_X4_lateness : okC MX4_barOn MX4_lateness 4 5 := ⟨by decide +kernel, ⟨by decide +kernel, by decide +kernel, by decide +kernel⟩, rfl, rfl, by decide, by decide, by decide⟩
theorem okX4_barOn_X4_noticeBar : okC MX4_barOn MX4_noticeBar 1 2 := ⟨by decide +kernel, ⟨by decide +kernel, by decide +kernel, by decide +kernel⟩, rfl, rfl, by decide, by decide, by decide⟩
theorem okX4_weigh_X1_boundOf : okC MX4_weigh MX1_boundOf 2 3 := ⟨by decide +kernel, ⟨by decide +kernel, by decide +kernel, by decide +kernel⟩, rfl, rfl, by decide, by decide, by decide⟩
theorem okX4_weigh_X4_verdictOfBar : okC MX4_weigh MX4_verdictOfBar 1 1 := ⟨by decide +kernel, ⟨by decide +kernel, by decide +kernel, by decide +kernel⟩, rfl, rfl, by decide, by decide, by decide⟩
theorem okX4_weigh_X4_barOn : okC MX4_weigh MX4_barOn 2 3 := ⟨by decide +kernel, ⟨by decide +kernel, by decide +kernel, by decide +kernel⟩, rfl, rfl, by decide, by decide, by decide⟩
theorem okX4_worthBelow_X4_weigh : okC MX4_worthBelow MX4_weigh 1 2 := ⟨by decide +kernel, ⟨by decide +kernel, by decide +kernel, by decide +kernel⟩, rfl, rfl, by decide, by decide, by decide⟩
theorem okX4_worthBelow_X3_isBelow : okC MX4_worthBelow MX3_isBelow 1 2 := ⟨by decide +kernel, ⟨by decide +kernel, by decide +kernel, by decide +kernel⟩, rfl, rfl, by decide, by decide, by decide⟩
theorem okX4_howManyGood_X4_weigh : okC MX4_howManyGood MX4_weigh 1 2 := ⟨by decide +kernel, ⟨by decide +kernel, by decide +kernel, by decide +kernel⟩, rfl, rfl, by decide, by decide, by decide⟩
theorem okX4_rankDay_X1_firstSpade : okC MX4_rankDay MX1_firstSpade 1 2 := ⟨by decide +kernel, ⟨by decide +kernel, by decide +kernel, by decide +kernel⟩, rfl, rfl, by decide, by decide, by decide⟩
theorem okX5_enterClaims_X4_weigh : okC MX5_enterClaims MX4_weigh 1 2 := ⟨by decide +kernel, ⟨by decide +kernel, by decide +kernel, by decide +kernel⟩, rfl, rfl, by decide, by decide, by decide⟩
theorem okX5_enterClaims_X4_rankDay : okC MX5_enterClaims MX4_rankDay 2 3 := ⟨by decide +kernel, ⟨by decide +kernel, by decide +kernel, by decide +kernel⟩, rfl, rfl, by decide, by decide, by decide⟩
theorem okX5_enterClaims_X4_has : okC MX5_enterClaims MX4_has 1 2 := ⟨by decide +kernel, ⟨by decide +kernel, by decide +kernel, by decide +kernel⟩, rfl, rfl, by decide, by decide, by decide⟩
theorem okX5_payRank_X5_payWhole : okC MX5_payRank MX5_payWhole 1 2 := ⟨by decide +kernel, ⟨by decide +kernel, by decide +kernel, by decide +kernel⟩, rfl, rfl, by decide, by decide, by decide⟩
theorem okX5_payRank_X5_shareLeft : okC MX5_payRank MX5_shareLeft 2 3 := ⟨by decide +kernel, ⟨by decide +kernel, by decide +kernel, by decide +kernel⟩, rfl, rfl, by decide, by decide, by decide⟩
theorem okX5_sell_X5_rankAfter : okC MX5_sell MX5_rankAfter 1 2 := ⟨by decide +kernel, ⟨by decide +kernel, by decide +kernel, by decide +kernel⟩, rfl, rfl, by decide, by decide, by decide⟩
theorem okX5_sell_X5_enterClaims : okC MX5_sell MX5_enterClaims 2 3 := ⟨by decide +kernel, ⟨by decide +kernel, by decide +kernel, by decide +kernel⟩, rfl, rfl, by decide, by decide, by decide⟩
theorem okX5_sell_X5_enterLoans : okC MX5_sell MX5_enterLoans 0 1 := ⟨by decide +kernel, ⟨by decide +kernel, by decide +kernel, by decide +kernel⟩, rfl, rfl, by decide, by decide, by decide⟩
theorem okX5_sell_X5_payRank : okC MX5_sell MX5_payRank 1 2 := ⟨by decide +kernel, ⟨by decide +kernel, by decide +kernel, by decide +kernel⟩, rfl, rfl, by decide, by decide, by decide⟩
theorem okX6_isKindNumber_X6_within : okC MX6_isKindNumber MX6_within 3 3 := ⟨by decide +kernel, ⟨by decide +kernel, by decide +kernel, by decide +kernel⟩, rfl, rfl, by decide, by decide, by decide⟩
theorem okX6_party_X6_finding : okC MX6_party MX6_finding 1 2 := ⟨by decide +kernel, ⟨by decide +kernel, by decide +kernel, by decide +kernel⟩, rfl, rfl, by decide, by decide, by decide⟩
theorem okX6_party_X6_isKindNumber : okC MX6_party MX6_isKindNumber 1 1 := ⟨by decide +kernel, ⟨by decide +kernel, by decide +kernel, by decide +kernel⟩, rfl, rfl, by decide, by decide, by decide⟩
theorem okX6_isParty_X6_within : okC MX6_isParty MX6_within 3 3 := ⟨by decide +kernel, ⟨by decide +kernel, by decide +kernel, by decide +kernel⟩, rfl, rfl, by decide, by decide, by decide⟩
theorem okX6_as_X6_finding : okC MX6_as MX6_finding 1 2 := ⟨by decide +kernel, ⟨by decide +kernel, by decide +kernel, by decide +kernel⟩, rfl, rfl, by decide, by decide, by decide⟩
theorem okX6_as_X1_howManyPaidBy : okC MX6_as MX1_howManyPaidBy 1 2 := ⟨by decide +kernel, ⟨by decide +kernel, by decide +kernel, by decide +kernel⟩, rfl, rfl, by decide, by decide, by decide⟩
theorem okX6_as_X6_isOfKind : okC MX6_as MX6_isOfKind 2 3 := ⟨by decide +kernel, ⟨by decide +kernel, by decide +kernel, by decide +kernel⟩, rfl, rfl, by decide, by decide, by decide⟩
theorem okX6_as_X6_isKindNumber : okC MX6_as MX6_isKindNumber 1 1 := ⟨by decide +kernel, ⟨by decide +kernel, by decide +kernel, by decide +kernel⟩, rfl, rfl, by decide, by decide, by decide⟩
theorem okX6_as_X6_isParty : okC MX6_as MX6_isParty 1 2 := ⟨by decide +kernel, ⟨by decide +kernel, by decide +kernel, by decide +kernel⟩, rfl, rfl, by decide, by decide, by decide⟩
theorem okX6_contract_X6_finding : okC MX6_contract MX6_finding 1 2 := ⟨by decide +kernel, ⟨by decide +kernel, by decide +kernel, by decide +kernel⟩, rfl, rfl, by decide, by decide, by decide⟩
theorem okX6_contract_X1_agree : okC MX6_contract MX1_agree 3 4 := ⟨by decide +kernel, ⟨by decide +kernel, by decide +kernel, by decide +kernel⟩, rfl, rfl, by decide, by decide, by decide⟩
theorem okX6_contract_X1_whosePayeeIs : okC MX6_contract MX1_whosePayeeIs 1 2 := ⟨by decide +kernel, ⟨by decide +kernel, by decide +kernel, by decide +kernel⟩, rfl, rfl, by decide, by decide, by decide⟩
theorem okX6_contract_X6_isOfKind : okC MX6_contract MX6_isOfKind 2 3 := ⟨by decide +kernel, ⟨by decide +kernel, by decide +kernel, by decide +kernel⟩, rfl, rfl, by decide, by decide, by decide⟩
theorem okX6_contract_X6_within : okC MX6_contract MX6_within 3 3 := ⟨by decide +kernel, ⟨by decide +kernel, by decide +kernel, by decide +kernel⟩, rfl, rfl, by decide, by decide, by decide⟩
theorem okX6_contract_X6_isParty : okC MX6_contract MX6_isParty 1 2 := ⟨by decide +kernel, ⟨by decide +kernel, by decide +kernel, by decide +kernel⟩, rfl, rfl, by decide, by decide, by decide⟩
theorem okX6_extra_X6_finding : okC MX6_extra MX6_finding 1 2 := ⟨by decide +kernel, ⟨by decide +kernel, by decide +kernel, by decide +kernel⟩, rfl, rfl, by decide, by decide, by decide⟩
theorem okX6_extra_X6_within : okC MX6_extra MX6_within 3 3 := ⟨by decide +kernel, ⟨by decide +kernel, by decide +kernel, by decide +kernel⟩, rfl, rfl, by decide, by decide, by decide⟩
theorem okX6_extra_X1_has : okC MX6_extra MX1_has 1 2 := ⟨by decide +kernel, ⟨by decide +kernel, by decide +kernel, by decide +kernel⟩, rfl, rfl, by decide, by decide, by decide⟩
theorem okX6_isSpanUpToToday_X6_within : okC MX6_isSpanUpToToday MX6_within 3 3 := ⟨by decide +kernel, ⟨by decide +kernel, by decide +kernel, by decide +kernel⟩, rfl, rfl, by decide, by decide, by decide⟩
theorem okX6_began_X6_finding : okC MX6_began MX6_finding 1 2 := ⟨by decide +kernel, ⟨by decide +kernel, by decide +kernel, by decide +kernel⟩, rfl, rfl, by decide, by decide, by decide⟩
theorem okX6_began_X3_hasEnded : okC MX6_began MX3_hasEnded 0 1 := ⟨by decide +kernel, ⟨by decide +kernel, by decide +kernel, by decide +kernel⟩, rfl, rfl, by decide, by decide, by decide⟩
theorem okX6_began_X6_isSpanUpToToday : okC MX6_began MX6_isSpanUpToToday 2 3 := ⟨by decide +kernel, ⟨by decide +kernel, by decide +kernel, by decide +kernel⟩, rfl, rfl, by decide, by decide, by decide⟩
theorem okX6_began_X1_has : okC MX6_began MX1_has 1 2 := ⟨by decide +kernel, ⟨by decide +kernel, by decide +kernel, by decide +kernel⟩, rfl, rfl, by decide, by decide, by decide⟩
theorem okX6_ended_X6_finding : okC MX6_ended MX6_finding 1 2 := ⟨by decide +kernel, ⟨by decide +kernel, by decide +kernel, by decide +kernel⟩, rfl, rfl, by decide, by decide, by decide⟩
theorem okX6_ended_X3_hasBegun : okC MX6_ended MX3_hasBegun 0 1 := ⟨by decide +kernel, ⟨by decide +kernel, by decide +kernel, by decide +kernel⟩, rfl, rfl, by decide, by decide, by decide⟩
theorem okX6_ended_X6_isSpanUpToToday : okC MX6_ended MX6_isSpanUpToToday 2 3 := ⟨by decide +kernel, ⟨by decide +kernel, by decide +kernel, by decide +kernel⟩, rfl, rfl, by decide, by decide, by decide⟩
theorem okX6_ended_X1_has : okC MX6_ended MX1_has 1 2 := ⟨by decide +kernel, ⟨by decide +kernel, by decide +kernel, by decide +kernel⟩, rfl, rfl, by decide, by decide, by decide⟩
theorem okX6_notice_X6_finding : okC MX6_notice MX6_finding 1 2 := ⟨by decide +kernel, ⟨by decide +kernel, by decide +kernel, by decide +kernel⟩, rfl, rfl, by decide, by decide, by decide⟩
theorem okX6_notice_X1_has : okC MX6_notice MX1_has 1 2 := ⟨by decide +kernel, ⟨by decide +kernel, by decide +kernel, by decide +kernel⟩, rfl, rfl, by decide, by decide, by decide⟩
theorem okX6_pay_X6_finding : okC MX6_pay MX6_finding 1 2 := ⟨by decide +kernel, ⟨by decide +kernel, by decide +kernel, by decide +kernel⟩, rfl, rfl, by decide, by decide, by decide⟩
theorem okX6_pay_X3_owing : okC MX6_pay MX3_owing 0 1 := ⟨by decide +kernel, ⟨by decide +kernel, by decide +kernel, by decide +kernel⟩, rfl, rfl, by decide, by decide, by decide⟩
theorem okX6_pay_X1_settleWaived : okC MX6_pay MX1_settleWaived 1 2 := ⟨by decide +kernel, ⟨by decide +kernel, by decide +kernel, by decide +kernel⟩, rfl, rfl, by decide, by decide, by decide⟩
theorem okX6_pay_X6_within : okC MX6_pay MX6_within 3 3 := ⟨by decide +kernel, ⟨by decide +kernel, by decide +kernel, by decide +kernel⟩, rfl, rfl, by decide, by decide, by decide⟩
theorem okX6_pay_X1_has : okC MX6_pay MX1_has 1 2 := ⟨by decide +kernel, ⟨by decide +kernel, by decide +kernel, by decide +kernel⟩, rfl, rfl, by decide, by decide, by decide⟩
theorem okX6_waive_X6_finding : okC MX6_waive MX6_finding 1 2 := ⟨by decide +kernel, ⟨by decide +kernel, by decide +kernel, by decide +kernel⟩, rfl, rfl, by decide, by decide, by decide⟩
theorem okX6_waive_X1_addWaiver : okC MX6_waive MX1_addWaiver 3 4 := ⟨by decide +kernel, ⟨by decide +kernel, by decide +kernel, by decide +kernel⟩, rfl, rfl, by decide, by decide, by decide⟩
theorem okX6_waive_X6_within : okC MX6_waive MX6_within 3 3 := ⟨by decide +kernel, ⟨by decide +kernel, by decide +kernel, by decide +kernel⟩, rfl, rfl, by decide, by decide, by decide⟩
theorem okX6_waive_X1_has : okC MX6_waive MX1_has 1 2 := ⟨by decide +kernel, ⟨by decide +kernel, by decide +kernel, by decide +kernel⟩, rfl, rfl, by decide, by decide, by decide⟩
theorem okX6_of_X6_finding : okC MX6_of MX6_finding 1 2 := ⟨by decide +kernel, ⟨by decide +kernel, by decide +kernel, by decide +kernel⟩, rfl, rfl, by decide, by decide, by decide⟩
theorem okX6_of_X3_detail : okC MX6_of MX3_detail 1 2 := ⟨by decide +kernel, ⟨by decide +kernel, by decide +kernel, by decide +kernel⟩, rfl, rfl, by decide, by decide, by decide⟩
theorem okX6_of_X6_within : okC MX6_of MX6_within 3 3 := ⟨by decide +kernel, ⟨by decide +kernel, by decide +kernel, by decide +kernel⟩, rfl, rfl, by decide, by decide, by decide⟩
theorem okX6_of_X1_has : okC MX6_of MX1_has 1 2 := ⟨by decide +kernel, ⟨by decide +kernel, by decide +kernel, by decide +kernel⟩, rfl, rfl, by decide, by decide, by decide⟩
theorem okX6_day_X6_finding : okC MX6_day MX6_finding 1 2 := ⟨by decide +kernel, ⟨by decide +kernel, by decide +kernel, by decide +kernel⟩, rfl, rfl, by decide, by decide, by decide⟩
theorem okX6_day_X6_within : okC MX6_day MX6_within 3 3 := ⟨by decide +kernel, ⟨by decide +kernel, by decide +kernel, by decide +kernel⟩, rfl, rfl, by decide, by decide, by decide⟩
theorem okX6_law_X6_finding : okC MX6_law MX6_finding 1 2 := ⟨by decide +kernel, ⟨by decide +kernel, by decide +kernel, by decide +kernel⟩, rfl, rfl, by decide, by decide, by decide⟩
theorem okX6_law_X6_within : okC MX6_law MX6_within 3 3 := ⟨by decide +kernel, ⟨by decide +kernel, by decide +kernel, by decide +kernel⟩, rfl, rfl, by decide, by decide, by decide⟩
theorem okX6_file_X6_finding : okC MX6_file MX6_finding 1 2 := ⟨by decide +kernel, ⟨by decide +kernel, by decide +kernel, by decide +kernel⟩, rfl, rfl, by decide, by decide, by decide⟩
theorem okX6_file_X4_enter : okC MX6_file MX4_enter 3 4 := ⟨by decide +kernel, ⟨by decide +kernel, by decide +kernel, by decide +kernel⟩, rfl, rfl, by decide, by decide, by decide⟩
theorem okX6_file_X3_hasBegun : okC MX6_file MX3_hasBegun 0 1 := ⟨by decide +kernel, ⟨by decide +kernel, by decide +kernel, by decide +kernel⟩, rfl, rfl, by decide, by decide, by decide⟩
theorem okX6_file_X6_within : okC MX6_file MX6_within 3 3 := ⟨by decide +kernel, ⟨by decide +kernel, by decide +kernel, by decide +kernel⟩, rfl, rfl, by decide, by decide, by decide⟩
theorem okX6_file_X1_has : okC MX6_file MX1_has 1 2 := ⟨by decide +kernel, ⟨by decide +kernel, by decide +kernel, by decide +kernel⟩, rfl, rfl, by decide, by decide, by decide⟩
theorem okX6_sue_X6_finding : okC MX6_sue MX6_finding 1 2 := ⟨by decide +kernel, ⟨by decide +kernel, by decide +kernel, by decide +kernel⟩, rfl, rfl, by decide, by decide, by decide⟩
theorem okX6_sue_X4_has : okC MX6_sue MX4_has 1 2 := ⟨by decide +kernel, ⟨by decide +kernel, by decide +kernel, by decide +kernel⟩, rfl, rfl, by decide, by decide, by decide⟩
theorem okX6_bond_X6_finding : okC MX6_bond MX6_finding 1 2 := ⟨by decide +kernel, ⟨by decide +kernel, by decide +kernel, by decide +kernel⟩, rfl, rfl, by decide, by decide, by decide⟩
theorem okX6_bond_X6_within : okC MX6_bond MX6_within 3 3 := ⟨by decide +kernel, ⟨by decide +kernel, by decide +kernel, by decide +kernel⟩, rfl, rfl, by decide, by decide, by decide⟩
theorem okX6_bond_X4_has : okC MX6_bond MX4_has 1 2 := ⟨by decide +kernel, ⟨by decide +kernel, by decide +kernel, by decide +kernel⟩, rfl, rfl, by decide, by decide, by decide⟩
theorem okX6_isJudgeable_X6_within : okC MX6_isJudgeable MX6_within 3 3 := ⟨by decide +kernel, ⟨by decide +kernel, by decide +kernel, by decide +kernel⟩, rfl, rfl, by decide, by decide, by decide⟩
theorem okX6_isJudgeable_X4_has : okC MX6_isJudgeable MX4_has 1 2 := ⟨by decide +kernel, ⟨by decide +kernel, by decide +kernel, by decide +kernel⟩, rfl, rfl, by decide, by decide, by decide⟩
theorem okX6_judge_X4_verdictOfBar : okC MX6_judge MX4_verdictOfBar 1 1 := ⟨by decide +kernel, ⟨by decide +kernel, by decide +kernel, by decide +kernel⟩, rfl, rfl, by decide, by decide, by decide⟩
theorem okX6_judge_X4_barOn : okC MX6_judge MX4_barOn 2 3 := ⟨by decide +kernel, ⟨by decide +kernel, by decide +kernel, by decide +kernel⟩, rfl, rfl, by decide, by decide, by decide⟩
theorem okX6_judge_X6_finding : okC MX6_judge MX6_finding 1 2 := ⟨by decide +kernel, ⟨by decide +kernel, by decide +kernel, by decide +kernel⟩, rfl, rfl, by decide, by decide, by decide⟩
theorem okX6_judge_X6_isJudgeable : okC MX6_judge MX6_isJudgeable 2 3 := ⟨by decide +kernel, ⟨by decide +kernel, by decide +kernel, by decide +kernel⟩, rfl, rfl, by decide, by decide, by decide⟩
theorem okX6_bar_X4_barOn : okC MX6_bar MX4_barOn 2 3 := ⟨by decide +kernel, ⟨by decide +kernel, by decide +kernel, by decide +kernel⟩, rfl, rfl, by decide, by decide, by decide⟩
theorem okX6_bar_X6_finding : okC MX6_bar MX6_finding 1 2 := ⟨by decide +kernel, ⟨by decide +kernel, by decide +kernel, by decide +kernel⟩, rfl, rfl, by decide, by decide, by decide⟩
theorem okX6_bar_X6_isJudgeable : okC MX6_bar MX6_isJudgeable 2 3 := ⟨by decide +kernel, ⟨by decide +kernel, by decide +kernel, by decide +kernel⟩, rfl, rfl, by decide, by decide, by decide⟩
theorem okX6_worth_X6_finding : okC MX6_worth MX6_finding 1 2 := ⟨by decide +kernel, ⟨by decide +kernel, by decide +kernel, by decide +kernel⟩, rfl, rfl, by decide, by decide, by decide⟩
theorem okX6_worth_X4_weigh : okC MX6_worth MX4_weigh 1 2 := ⟨by decide +kernel, ⟨by decide +kernel, by decide +kernel, by decide +kernel⟩, rfl, rfl, by decide, by decide, by decide⟩
theorem okX6_worth_X6_within : okC MX6_worth MX6_within 3 3 := ⟨by decide +kernel, ⟨by decide +kernel, by decide +kernel, by decide +kernel⟩, rfl, rfl, by decide, by decide, by decide⟩
theorem okX6_worth_X4_has : okC MX6_worth MX4_has 1 2 := ⟨by decide +kernel, ⟨by decide +kernel, by decide +kernel, by decide +kernel⟩, rfl, rfl, by decide, by decide, by decide⟩
theorem okX6_rank_X6_finding : okC MX6_rank MX6_finding 1 2 := ⟨by decide +kernel, ⟨by decide +kernel, by decide +kernel, by decide +kernel⟩, rfl, rfl, by decide, by decide, by decide⟩
theorem okX6_rank_X4_rankDay : okC MX6_rank MX4_rankDay 2 3 := ⟨by decide +kernel, ⟨by decide +kernel, by decide +kernel, by decide +kernel⟩, rfl, rfl, by decide, by decide, by decide⟩
theorem okX6_rank_X6_within : okC MX6_rank MX6_within 3 3 := ⟨by decide +kernel, ⟨by decide +kernel, by decide +kernel, by decide +kernel⟩, rfl, rfl, by decide, by decide, by decide⟩
theorem okX6_rank_X4_has : okC MX6_rank MX4_has 1 2 := ⟨by decide +kernel, ⟨by decide +kernel, by decide +kernel, by decide +kernel⟩, rfl, rfl, by decide, by decide, by decide⟩
theorem okX6_loan_X6_finding : okC MX6_loan MX6_finding 1 2 := ⟨by decide +kernel, ⟨by decide +kernel, by decide +kernel, by decide +kernel⟩, rfl, rfl, by decide, by decide, by decide⟩
theorem okX6_loan_X5_record : okC MX6_loan MX5_record 2 3 := ⟨by decide +kernel, ⟨by decide +kernel, by decide +kernel, by decide +kernel⟩, rfl, rfl, by decide, by decide, by decide⟩
theorem okX6_loan_X6_within : okC MX6_loan MX6_within 3 3 := ⟨by decide +kernel, ⟨by decide +kernel, by decide +kernel, by decide +kernel⟩, rfl, rfl, by decide, by decide, by decide⟩
theorem okX6_loan_X6_isParty : okC MX6_loan MX6_isParty 1 2 := ⟨by decide +kernel, ⟨by decide +kernel, by decide +kernel, by decide +kernel⟩, rfl, rfl, by decide, by decide, by decide⟩
theorem okX6_isSaleCoin_X6_within : okC MX6_isSaleCoin MX6_within 3 3 := ⟨by decide +kernel, ⟨by decide +kernel, by decide +kernel, by decide +kernel⟩, rfl, rfl, by decide, by decide, by decide⟩
theorem okX6_isSharer_X6_within : okC MX6_isSharer MX6_within 3 3 := ⟨by decide +kernel, ⟨by decide +kernel, by decide +kernel, by decide +kernel⟩, rfl, rfl, by decide, by decide, by decide⟩
theorem okX6_isSharer_X4_has : okC MX6_isSharer MX4_has 1 2 := ⟨by decide +kernel, ⟨by decide +kernel, by decide +kernel, by decide +kernel⟩, rfl, rfl, by decide, by decide, by decide⟩
theorem okX6_sale_X6_finding : okC MX6_sale MX6_finding 1 2 := ⟨by decide +kernel, ⟨by decide +kernel, by decide +kernel, by decide +kernel⟩, rfl, rfl, by decide, by decide, by decide⟩
theorem okX6_sale_X5_claimShare : okC MX6_sale MX5_claimShare 1 2 := ⟨by decide +kernel, ⟨by decide +kernel, by decide +kernel, by decide +kernel⟩, rfl, rfl, by decide, by decide, by decide⟩
theorem okX6_sale_X5_loanShare : okC MX6_sale MX5_loanShare 1 2 := ⟨by decide +kernel, ⟨by decide +kernel, by decide +kernel, by decide +kernel⟩, rfl, rfl, by decide, by decide, by decide⟩
theorem okX6_sale_X5_sell : okC MX6_sale MX5_sell 3 4 := ⟨by decide +kernel, ⟨by decide +kernel, by decide +kernel, by decide +kernel⟩, rfl, rfl, by decide, by decide, by decide⟩
theorem okX6_sale_X6_isSharer : okC MX6_sale MX6_isSharer 2 3 := ⟨by decide +kernel, ⟨by decide +kernel, by decide +kernel, by decide +kernel⟩, rfl, rfl, by decide, by decide, by decide⟩
theorem okX6_sale_X6_within : okC MX6_sale MX6_within 3 3 := ⟨by decide +kernel, ⟨by decide +kernel, by decide +kernel, by decide +kernel⟩, rfl, rfl, by decide, by decide, by decide⟩
theorem okX6_sale_X6_isSaleCoin : okC MX6_sale MX6_isSaleCoin 1 1 := ⟨by decide +kernel, ⟨by decide +kernel, by decide +kernel, by decide +kernel⟩, rfl, rfl, by decide, by decide, by decide⟩
theorem okX6_twice_X3_owing : okC MX6_twice MX3_owing 0 1 := ⟨by decide +kernel, ⟨by decide +kernel, by decide +kernel, by decide +kernel⟩, rfl, rfl, by decide, by decide, by decide⟩
theorem okX6_twice_X4_worthBelow : okC MX6_twice MX4_worthBelow 2 3 := ⟨by decide +kernel, ⟨by decide +kernel, by decide +kernel, by decide +kernel⟩, rfl, rfl, by decide, by decide, by decide⟩
theorem okX6_twice_X6_finding : okC MX6_twice MX6_finding 1 2 := ⟨by decide +kernel, ⟨by decide +kernel, by decide +kernel, by decide +kernel⟩, rfl, rfl, by decide, by decide, by decide⟩
theorem okX6_twice_X1_has : okC MX6_twice MX1_has 1 2 := ⟨by decide +kernel, ⟨by decide +kernel, by decide +kernel, by decide +kernel⟩, rfl, rfl, by decide, by decide, by decide⟩
theorem okX6_sign_X6_finding : okC MX6_sign MX6_finding 1 2 := ⟨by decide +kernel, ⟨by decide +kernel, by decide +kernel, by decide +kernel⟩, rfl, rfl, by decide, by decide, by decide⟩
theorem okX6_sign_J6_bitCount_0f7a4 : okC MX6_sign MJ6_bitCount_0f7a4 1 1 := ⟨by decide +kernel, ⟨by decide +kernel, by decide +kernel, by decide +kernel⟩, rfl, rfl, by decide, by decide, by decide⟩
theorem okX6_sign_X1_fewestSigners : okC MX6_sign MX1_fewestSigners 3 4 := ⟨by decide +kernel, ⟨by decide +kernel, by decide +kernel, by decide +kernel⟩, rfl, rfl, by decide, by decide, by decide⟩
theorem okX6_sign_X6_within : okC MX6_sign MX6_within 3 3 := ⟨by decide +kernel, ⟨by decide +kernel, by decide +kernel, by decide +kernel⟩, rfl, rfl, by decide, by decide, by decide⟩
theorem okX6_sign_X1_has : okC MX6_sign MX1_has 1 2 := ⟨by decide +kernel, ⟨by decide +kernel, by decide +kernel, by decide +kernel⟩, rfl, rfl, by decide, by decide, by decide⟩
theorem okX6_isPurpose_X1_has : okC MX6_isPurpose MX1_has 1 2 := ⟨by decide +kernel, ⟨by decide +kernel, by decide +kernel, by decide +kernel⟩, rfl, rfl, by decide, by decide, by decide⟩
theorem okX6_in_X6_finding : okC MX6_in MX6_finding 1 2 := ⟨by decide +kernel, ⟨by decide +kernel, by decide +kernel, by decide +kernel⟩, rfl, rfl, by decide, by decide, by decide⟩
theorem okX6_in_X0_receive : okC MX6_in MX0_receive 3 4 := ⟨by decide +kernel, ⟨by decide +kernel, by decide +kernel, by decide +kernel⟩, rfl, rfl, by decide, by decide, by decide⟩
theorem okX6_in_X3_isSideOf : okC MX6_in MX3_isSideOf 1 2 := ⟨by decide +kernel, ⟨by decide +kernel, by decide +kernel, by decide +kernel⟩, rfl, rfl, by decide, by decide, by decide⟩
theorem okX6_in_X6_isOfKind : okC MX6_in MX6_isOfKind 2 3 := ⟨by decide +kernel, ⟨by decide +kernel, by decide +kernel, by decide +kernel⟩, rfl, rfl, by decide, by decide, by decide⟩
theorem okX6_in_X6_within : okC MX6_in MX6_within 3 3 := ⟨by decide +kernel, ⟨by decide +kernel, by decide +kernel, by decide +kernel⟩, rfl, rfl, by decide, by decide, by decide⟩
theorem okX6_in_X6_isPurpose : okC MX6_in MX6_isPurpose 1 2 := ⟨by decide +kernel, ⟨by decide +kernel, by decide +kernel, by decide +kernel⟩, rfl, rfl, by decide, by decide, by decide⟩
theorem okX6_in_X6_isParty : okC MX6_in MX6_isParty 1 2 := ⟨by decide +kernel, ⟨by decide +kernel, by decide +kernel, by decide +kernel⟩, rfl, rfl, by decide, by decide, by decide⟩
theorem okX6_out_X6_finding : okC MX6_out MX6_finding 1 2 := ⟨by decide +kernel, ⟨by decide +kernel, by decide +kernel, by decide +kernel⟩, rfl, rfl, by decide, by decide, by decide⟩
theorem okX6_out_X0_spend : okC MX6_out MX0_spend 2 3 := ⟨by decide +kernel, ⟨by decide +kernel, by decide +kernel, by decide +kernel⟩, rfl, rfl, by decide, by decide, by decide⟩
theorem okX6_out_X0_balance : okC MX6_out MX0_balance 1 2 := ⟨by decide +kernel, ⟨by decide +kernel, by decide +kernel, by decide +kernel⟩, rfl, rfl, by decide, by decide, by decide⟩
theorem okX6_out_X6_isOfKind : okC MX6_out MX6_isOfKind 2 3 := ⟨by decide +kernel, ⟨by decide +kernel, by decide +kernel, by decide +kernel⟩, rfl, rfl, by decide, by decide, by decide⟩
theorem okX6_out_X6_within : okC MX6_out MX6_within 3 3 := ⟨by decide +kernel, ⟨by decide +kernel, by decide +kernel, by decide +kernel⟩, rfl, rfl, by decide, by decide, by decide⟩
theorem okX6_out_X6_isParty : okC MX6_out MX6_isParty 1 2 := ⟨by decide +kernel, ⟨by decide +kernel, by decide +kernel, by decide +kernel⟩, rfl, rfl, by decide, by decide, by decide⟩
theorem okX6_trace_X6_finding : okC MX6_trace MX6_finding 1 2 := ⟨by decide +kernel, ⟨by decide +kernel, by decide +kernel, by decide +kernel⟩, rfl, rfl, by decide, by decide, by decide⟩
theorem okX6_trace_X6_within : okC MX6_trace MX6_within 3 3 := ⟨by decide +kernel, ⟨by decide +kernel, by decide +kernel, by decide +kernel⟩, rfl, rfl, by decide, by decide, by decide⟩
theorem okX6_held_X6_finding : okC MX6_held MX6_finding 1 2 := ⟨by decide +kernel, ⟨by decide +kernel, by decide +kernel, by decide +kernel⟩, rfl, rfl, by decide, by decide, by decide⟩
theorem okX6_held_X0_leftFor : okC MX6_held MX0_leftFor 3 4 := ⟨by decide +kernel, ⟨by decide +kernel, by decide +kernel, by decide +kernel⟩, rfl, rfl, by decide, by decide, by decide⟩
theorem okX6_held_X6_isOfKind : okC MX6_held MX6_isOfKind 2 3 := ⟨by decide +kernel, ⟨by decide +kernel, by decide +kernel, by decide +kernel⟩, rfl, rfl, by decide, by decide, by decide⟩
theorem okX6_held_X6_within : okC MX6_held MX6_within 3 3 := ⟨by decide +kernel, ⟨by decide +kernel, by decide +kernel, by decide +kernel⟩, rfl, rfl, by decide, by decide, by decide⟩
theorem okX6_held_X6_isPurpose : okC MX6_held MX6_isPurpose 1 2 := ⟨by decide +kernel, ⟨by decide +kernel, by decide +kernel, by decide +kernel⟩, rfl, rfl, by decide, by decide, by decide⟩
theorem okX6_held_X6_isParty : okC MX6_held MX6_isParty 1 2 := ⟨by decide +kernel, ⟨by decide +kernel, by decide +kernel, by decide +kernel⟩, rfl, rfl, by decide, by decide, by decide⟩
theorem okX6_tell_X6_finding : okC MX6_tell MX6_finding 1 2 := ⟨by decide +kernel, ⟨by decide +kernel, by decide +kernel, by decide +kernel⟩, rfl, rfl, by decide, by decide, by decide⟩
theorem okX6_check_X5_sell : okC MX6_check MX5_sell 3 4 := ⟨by decide +kernel, ⟨by decide +kernel, by decide +kernel, by decide +kernel⟩, rfl, rfl, by decide, by decide, by decide⟩
theorem okX6_check_X6_finding : okC MX6_check MX6_finding 1 2 := ⟨by decide +kernel, ⟨by decide +kernel, by decide +kernel, by decide +kernel⟩, rfl, rfl, by decide, by decide, by decide⟩
theorem okX6_check_X6_isSaleCoin : okC MX6_check MX6_isSaleCoin 1 1 := ⟨by decide +kernel, ⟨by decide +kernel, by decide +kernel, by decide +kernel⟩, rfl, rfl, by decide, by decide, by decide⟩
theorem okX6_check_X5_claimShare : okC MX6_check MX5_claimShare 1 2 := ⟨by decide +kernel, ⟨by decide +kernel, by decide +kernel, by decide +kernel⟩, rfl, rfl, by decide, by decide, by decide⟩
theorem okX6_check_X4_has : okC MX6_check MX4_has 1 2 := ⟨by decide +kernel, ⟨by decide +kernel, by decide +kernel, by decide +kernel⟩, rfl, rfl, by decide, by decide, by decide⟩
theorem okX6_count_X4_howManyGood : okC MX6_count MX4_howManyGood 1 2 := ⟨by decide +kernel, ⟨by decide +kernel, by decide +kernel, by decide +kernel⟩, rfl, rfl, by decide, by decide, by decide⟩
theorem okX6_count_X6_finding : okC MX6_count MX6_finding 1 2 := ⟨by decide +kernel, ⟨by decide +kernel, by decide +kernel, by decide +kernel⟩, rfl, rfl, by decide, by decide, by decide⟩
theorem okX6_found_X6_finding : okC MX6_found MX6_finding 1 2 := ⟨by decide +kernel, ⟨by decide +kernel, by decide +kernel, by decide +kernel⟩, rfl, rfl, by decide, by decide, by decide⟩
theorem okX6_found_X6_within : okC MX6_found MX6_within 3 3 := ⟨by decide +kernel, ⟨by decide +kernel, by decide +kernel, by decide +kernel⟩, rfl, rfl, by decide, by decide, by decide⟩
theorem okX7_isParty_X7_isIn : okC MX7_isParty MX7_isIn 3 3 := ⟨by decide +kernel, ⟨by decide +kernel, by decide +kernel, by decide +kernel⟩, rfl, rfl, by decide, by decide, by decide⟩
theorem okX7_isContract_X7_isIn : okC MX7_isContract MX7_isIn 3 3 := ⟨by decide +kernel, ⟨by decide +kernel, by decide +kernel, by decide +kernel⟩, rfl, rfl, by decide, by decide, by decide⟩
theorem okX7_isClaim_X7_isIn : okC MX7_isClaim MX7_isIn 3 3 := ⟨by decide +kernel, ⟨by decide +kernel, by decide +kernel, by decide +kernel⟩, rfl, rfl, by decide, by decide, by decide⟩
theorem okX7_party_X7_finds : okC MX7_party MX7_finds 1 2 := ⟨by decide +kernel, ⟨by decide +kernel, by decide +kernel, by decide +kernel⟩, rfl, rfl, by decide, by decide, by decide⟩
theorem okX7_party_X7_isIn : okC MX7_party MX7_isIn 3 3 := ⟨by decide +kernel, ⟨by decide +kernel, by decide +kernel, by decide +kernel⟩, rfl, rfl, by decide, by decide, by decide⟩
theorem okX7_as_X7_finds : okC MX7_as MX7_finds 1 2 := ⟨by decide +kernel, ⟨by decide +kernel, by decide +kernel, by decide +kernel⟩, rfl, rfl, by decide, by decide, by decide⟩
theorem okX7_as_X7_isUnder : okC MX7_as MX7_isUnder 2 2 := ⟨by decide +kernel, ⟨by decide +kernel, by decide +kernel, by decide +kernel⟩, rfl, rfl, by decide, by decide, by decide⟩
theorem okX7_as_X7_isIn : okC MX7_as MX7_isIn 3 3 := ⟨by decide +kernel, ⟨by decide +kernel, by decide +kernel, by decide +kernel⟩, rfl, rfl, by decide, by decide, by decide⟩
theorem okX7_as_X7_isParty : okC MX7_as MX7_isParty 1 2 := ⟨by decide +kernel, ⟨by decide +kernel, by decide +kernel, by decide +kernel⟩, rfl, rfl, by decide, by decide, by decide⟩
theorem okX7_contract_X7_finds : okC MX7_contract MX7_finds 1 2 := ⟨by decide +kernel, ⟨by decide +kernel, by decide +kernel, by decide +kernel⟩, rfl, rfl, by decide, by decide, by decide⟩
theorem okX7_contract_X7_contractTo : okC MX7_contract MX7_contractTo 1 2 := ⟨by decide +kernel, ⟨by decide +kernel, by decide +kernel, by decide +kernel⟩, rfl, rfl, by decide, by decide, by decide⟩
theorem okX7_contract_X7_isUnder : okC MX7_contract MX7_isUnder 2 2 := ⟨by decide +kernel, ⟨by decide +kernel, by decide +kernel, by decide +kernel⟩, rfl, rfl, by decide, by decide, by decide⟩
theorem okX7_contract_X7_isIn : okC MX7_contract MX7_isIn 3 3 := ⟨by decide +kernel, ⟨by decide +kernel, by decide +kernel, by decide +kernel⟩, rfl, rfl, by decide, by decide, by decide⟩
theorem okX7_contract_X7_isParty : okC MX7_contract MX7_isParty 1 2 := ⟨by decide +kernel, ⟨by decide +kernel, by decide +kernel, by decide +kernel⟩, rfl, rfl, by decide, by decide, by decide⟩
theorem okX7_extra_X7_finds : okC MX7_extra MX7_finds 1 2 := ⟨by decide +kernel, ⟨by decide +kernel, by decide +kernel, by decide +kernel⟩, rfl, rfl, by decide, by decide, by decide⟩
theorem okX7_extra_X7_isIn : okC MX7_extra MX7_isIn 3 3 := ⟨by decide +kernel, ⟨by decide +kernel, by decide +kernel, by decide +kernel⟩, rfl, rfl, by decide, by decide, by decide⟩
theorem okX7_extra_X7_isContract : okC MX7_extra MX7_isContract 1 2 := ⟨by decide +kernel, ⟨by decide +kernel, by decide +kernel, by decide +kernel⟩, rfl, rfl, by decide, by decide, by decide⟩
theorem okX7_began_X7_finds : okC MX7_began MX7_finds 1 2 := ⟨by decide +kernel, ⟨by decide +kernel, by decide +kernel, by decide +kernel⟩, rfl, rfl, by decide, by decide, by decide⟩
theorem okX7_began_X7_isSpan : okC MX7_began MX7_isSpan 2 3 := ⟨by decide +kernel, ⟨by decide +kernel, by decide +kernel, by decide +kernel⟩, rfl, rfl, by decide, by decide, by decide⟩
theorem okX7_began_X7_isContract : okC MX7_began MX7_isContract 1 2 := ⟨by decide +kernel, ⟨by decide +kernel, by decide +kernel, by decide +kernel⟩, rfl, rfl, by decide, by decide, by decide⟩
theorem okX7_ended_X7_finds : okC MX7_ended MX7_finds 1 2 := ⟨by decide +kernel, ⟨by decide +kernel, by decide +kernel, by decide +kernel⟩, rfl, rfl, by decide, by decide, by decide⟩
theorem okX7_ended_X7_isSpan : okC MX7_ended MX7_isSpan 2 3 := ⟨by decide +kernel, ⟨by decide +kernel, by decide +kernel, by decide +kernel⟩, rfl, rfl, by decide, by decide, by decide⟩
theorem okX7_ended_X7_isContract : okC MX7_ended MX7_isContract 1 2 := ⟨by decide +kernel, ⟨by decide +kernel, by decide +kernel, by decide +kernel⟩, rfl, rfl, by decide, by decide, by decide⟩
theorem okX7_notice_X7_finds : okC MX7_notice MX7_finds 1 2 := ⟨by decide +kernel, ⟨by decide +kernel, by decide +kernel, by decide +kernel⟩, rfl, rfl, by decide, by decide, by decide⟩
theorem okX7_notice_X7_isContract : okC MX7_notice MX7_isContract 1 2 := ⟨by decide +kernel, ⟨by decide +kernel, by decide +kernel, by decide +kernel⟩, rfl, rfl, by decide, by decide, by decide⟩
theorem okX7_pay_X7_finds : okC MX7_pay MX7_finds 1 2 := ⟨by decide +kernel, ⟨by decide +kernel, by decide +kernel, by decide +kernel⟩, rfl, rfl, by decide, by decide, by decide⟩
theorem okX7_pay_X7_owing : okC MX7_pay MX7_owing 1 2 := ⟨by decide +kernel, ⟨by decide +kernel, by decide +kernel, by decide +kernel⟩, rfl, rfl, by decide, by decide, by decide⟩
theorem okX7_pay_X7_isIn : okC MX7_pay MX7_isIn 3 3 := ⟨by decide +kernel, ⟨by decide +kernel, by decide +kernel, by decide +kernel⟩, rfl, rfl, by decide, by decide, by decide⟩
theorem okX7_pay_X7_isContract : okC MX7_pay MX7_isContract 1 2 := ⟨by decide +kernel, ⟨by decide +kernel, by decide +kernel, by decide +kernel⟩, rfl, rfl, by decide, by decide, by decide⟩
theorem okX7_waive_X7_finds : okC MX7_waive MX7_finds 1 2 := ⟨by decide +kernel, ⟨by decide +kernel, by decide +kernel, by decide +kernel⟩, rfl, rfl, by decide, by decide, by decide⟩
theorem okX7_waive_X7_waived : okC MX7_waive MX7_waived 1 2 := ⟨by decide +kernel, ⟨by decide +kernel, by decide +kernel, by decide +kernel⟩, rfl, rfl, by decide, by decide, by decide⟩
theorem okX7_waive_X7_isIn : okC MX7_waive MX7_isIn 3 3 := ⟨by decide +kernel, ⟨by decide +kernel, by decide +kernel, by decide +kernel⟩, rfl, rfl, by decide, by decide, by decide⟩
theorem okX7_waive_X7_isContract : okC MX7_waive MX7_isContract 1 2 := ⟨by decide +kernel, ⟨by decide +kernel, by decide +kernel, by decide +kernel⟩, rfl, rfl, by decide, by decide, by decide⟩
theorem okX7_open_X7_waived : okC MX7_open MX7_waived 1 2 := ⟨by decide +kernel, ⟨by decide +kernel, by decide +kernel, by decide +kernel⟩, rfl, rfl, by decide, by decide, by decide⟩
theorem okX7_upper_X7_contractTo : okC MX7_upper MX7_contractTo 1 2 := ⟨by decide +kernel, ⟨by decide +kernel, by decide +kernel, by decide +kernel⟩, rfl, rfl, by decide, by decide, by decide⟩
theorem okX7_degree_X7_upper : okC MX7_degree MX7_upper 1 2 := ⟨by decide +kernel, ⟨by decide +kernel, by decide +kernel, by decide +kernel⟩, rfl, rfl, by decide, by decide, by decide⟩
theorem okX7_of_X7_owing : okC MX7_of MX7_owing 1 2 := ⟨by decide +kernel, ⟨by decide +kernel, by decide +kernel, by decide +kernel⟩, rfl, rfl, by decide, by decide, by decide⟩
theorem okX7_of_X7_waived : okC MX7_of MX7_waived 1 2 := ⟨by decide +kernel, ⟨by decide +kernel, by decide +kernel, by decide +kernel⟩, rfl, rfl, by decide, by decide, by decide⟩
theorem okX7_of_X7_open : okC MX7_of MX7_open 1 2 := ⟨by decide +kernel, ⟨by decide +kernel, by decide +kernel, by decide +kernel⟩, rfl, rfl, by decide, by decide, by decide⟩
theorem okX7_of_X7_degree : okC MX7_of MX7_degree 1 2 := ⟨by decide +kernel, ⟨by decide +kernel, by decide +kernel, by decide +kernel⟩, rfl, rfl, by decide, by decide, by decide⟩
theorem okX7_of_X7_upper : okC MX7_of MX7_upper 1 2 := ⟨by decide +kernel, ⟨by decide +kernel, by decide +kernel, by decide +kernel⟩, rfl, rfl, by decide, by decide, by decide⟩
theorem okX7_of_X7_finds : okC MX7_of MX7_finds 1 2 := ⟨by decide +kernel, ⟨by decide +kernel, by decide +kernel, by decide +kernel⟩, rfl, rfl, by decide, by decide, by decide⟩
theorem okX7_of_X7_isContract : okC MX7_of MX7_isContract 1 2 := ⟨by decide +kernel, ⟨by decide +kernel, by decide +kernel, by decide +kernel⟩, rfl, rfl, by decide, by decide, by decide⟩
theorem okX7_day_X7_finds : okC MX7_day MX7_finds 1 2 := ⟨by decide +kernel, ⟨by decide +kernel, by decide +kernel, by decide +kernel⟩, rfl, rfl, by decide, by decide, by decide⟩
theorem okX7_day_X7_isIn : okC MX7_day MX7_isIn 3 3 := ⟨by decide +kernel, ⟨by decide +kernel, by decide +kernel, by decide +kernel⟩, rfl, rfl, by decide, by decide, by decide⟩
theorem okX7_law_X7_finds : okC MX7_law MX7_finds 1 2 := ⟨by decide +kernel, ⟨by decide +kernel, by decide +kernel, by decide +kernel⟩, rfl, rfl, by decide, by decide, by decide⟩
theorem okX7_law_X7_isIn : okC MX7_law MX7_isIn 3 3 := ⟨by decide +kernel, ⟨by decide +kernel, by decide +kernel, by decide +kernel⟩, rfl, rfl, by decide, by decide, by decide⟩
theorem okX7_law_X7_mostOf : okC MX7_law MX7_mostOf 1 1 := ⟨by decide +kernel, ⟨by decide +kernel, by decide +kernel, by decide +kernel⟩, rfl, rfl, by decide, by decide, by decide⟩
theorem okX7_file_X7_finds : okC MX7_file MX7_finds 1 2 := ⟨by decide +kernel, ⟨by decide +kernel, by decide +kernel, by decide +kernel⟩, rfl, rfl, by decide, by decide, by decide⟩
theorem okX7_file_X7_isIn : okC MX7_file MX7_isIn 3 3 := ⟨by decide +kernel, ⟨by decide +kernel, by decide +kernel, by decide +kernel⟩, rfl, rfl, by decide, by decide, by decide⟩
theorem okX7_file_X7_isContract : okC MX7_file MX7_isContract 1 2 := ⟨by decide +kernel, ⟨by decide +kernel, by decide +kernel, by decide +kernel⟩, rfl, rfl, by decide, by decide, by decide⟩
theorem okX7_sue_X7_finds : okC MX7_sue MX7_finds 1 2 := ⟨by decide +kernel, ⟨by decide +kernel, by decide +kernel, by decide +kernel⟩, rfl, rfl, by decide, by decide, by decide⟩
theorem okX7_sue_X7_isClaim : okC MX7_sue MX7_isClaim 1 2 := ⟨by decide +kernel, ⟨by decide +kernel, by decide +kernel, by decide +kernel⟩, rfl, rfl, by decide, by decide, by decide⟩
theorem okX7_bond_X7_finds : okC MX7_bond MX7_finds 1 2 := ⟨by decide +kernel, ⟨by decide +kernel, by decide +kernel, by decide +kernel⟩, rfl, rfl, by decide, by decide, by decide⟩
theorem okX7_bond_X7_isIn : okC MX7_bond MX7_isIn 3 3 := ⟨by decide +kernel, ⟨by decide +kernel, by decide +kernel, by decide +kernel⟩, rfl, rfl, by decide, by decide, by decide⟩
theorem okX7_bond_X7_isClaim : okC MX7_bond MX7_isClaim 1 2 := ⟨by decide +kernel, ⟨by decide +kernel, by decide +kernel, by decide +kernel⟩, rfl, rfl, by decide, by decide, by decide⟩
theorem okX7_barred_X7_degree : okC MX7_barred MX7_degree 1 2 := ⟨by decide +kernel, ⟨by decide +kernel, by decide +kernel, by decide +kernel⟩, rfl, rfl, by decide, by decide, by decide⟩
theorem okX7_barred_X7_late : okC MX7_barred MX7_late 4 4 := ⟨by decide +kernel, ⟨by decide +kernel, by decide +kernel, by decide +kernel⟩, rfl, rfl, by decide, by decide, by decide⟩
theorem okX7_barred_X7_open : okC MX7_barred MX7_open 1 2 := ⟨by decide +kernel, ⟨by decide +kernel, by decide +kernel, by decide +kernel⟩, rfl, rfl, by decide, by decide, by decide⟩
theorem okX7_firstBar_X7_barred : okC MX7_firstBar MX7_barred 3 4 := ⟨by decide +kernel, ⟨by decide +kernel, by decide +kernel, by decide +kernel⟩, rfl, rfl, by decide, by decide, by decide⟩
theorem okX7_judged_X7_firstBar : okC MX7_judged MX7_firstBar 3 4 := ⟨by decide +kernel, ⟨by decide +kernel, by decide +kernel, by decide +kernel⟩, rfl, rfl, by decide, by decide, by decide⟩
theorem okX7_isJudgeable_X7_isIn : okC MX7_isJudgeable MX7_isIn 3 3 := ⟨by decide +kernel, ⟨by decide +kernel, by decide +kernel, by decide +kernel⟩, rfl, rfl, by decide, by decide, by decide⟩
theorem okX7_isJudgeable_X7_isClaim : okC MX7_isJudgeable MX7_isClaim 1 2 := ⟨by decide +kernel, ⟨by decide +kernel, by decide +kernel, by decide +kernel⟩, rfl, rfl, by decide, by decide, by decide⟩
theorem okX7_judge_X7_finds : okC MX7_judge MX7_finds 1 2 := ⟨by decide +kernel, ⟨by decide +kernel, by decide +kernel, by decide +kernel⟩, rfl, rfl, by decide, by decide, by decide⟩
theorem okX7_judge_X7_judged : okC MX7_judge MX7_judged 2 3 := ⟨by decide +kernel, ⟨by decide +kernel, by decide +kernel, by decide +kernel⟩, rfl, rfl, by decide, by decide, by decide⟩
theorem okX7_judge_X7_isJudgeable : okC MX7_judge MX7_isJudgeable 2 3 := ⟨by decide +kernel, ⟨by decide +kernel, by decide +kernel, by decide +kernel⟩, rfl, rfl, by decide, by decide, by decide⟩
theorem okX7_bar_X7_firstBar : okC MX7_bar MX7_firstBar 3 4 := ⟨by decide +kernel, ⟨by decide +kernel, by decide +kernel, by decide +kernel⟩, rfl, rfl, by decide, by decide, by decide⟩
theorem okX7_bar_X7_finds : okC MX7_bar MX7_finds 1 2 := ⟨by decide +kernel, ⟨by decide +kernel, by decide +kernel, by decide +kernel⟩, rfl, rfl, by decide, by decide, by decide⟩
theorem okX7_bar_X7_isJudgeable : okC MX7_bar MX7_isJudgeable 2 3 := ⟨by decide +kernel, ⟨by decide +kernel, by decide +kernel, by decide +kernel⟩, rfl, rfl, by decide, by decide, by decide⟩
theorem okX7_bound_X7_upper : okC MX7_bound MX7_upper 1 2 := ⟨by decide +kernel, ⟨by decide +kernel, by decide +kernel, by decide +kernel⟩, rfl, rfl, by decide, by decide, by decide⟩
theorem okX7_bound_X7_open : okC MX7_bound MX7_open 1 2 := ⟨by decide +kernel, ⟨by decide +kernel, by decide +kernel, by decide +kernel⟩, rfl, rfl, by decide, by decide, by decide⟩
theorem okX7_bound_X7_owing : okC MX7_bound MX7_owing 1 2 := ⟨by decide +kernel, ⟨by decide +kernel, by decide +kernel, by decide +kernel⟩, rfl, rfl, by decide, by decide, by decide⟩
theorem okX7_worthOf_X7_bound : okC MX7_worthOf MX7_bound 1 2 := ⟨by decide +kernel, ⟨by decide +kernel, by decide +kernel, by decide +kernel⟩, rfl, rfl, by decide, by decide, by decide⟩
theorem okX7_worthOf_X7_judged : okC MX7_worthOf MX7_judged 2 3 := ⟨by decide +kernel, ⟨by decide +kernel, by decide +kernel, by decide +kernel⟩, rfl, rfl, by decide, by decide, by decide⟩
theorem okX7_worth_X7_finds : okC MX7_worth MX7_finds 1 2 := ⟨by decide +kernel, ⟨by decide +kernel, by decide +kernel, by decide +kernel⟩, rfl, rfl, by decide, by decide, by decide⟩
theorem okX7_worth_X7_worthOf : okC MX7_worth MX7_worthOf 2 3 := ⟨by decide +kernel, ⟨by decide +kernel, by decide +kernel, by decide +kernel⟩, rfl, rfl, by decide, by decide, by decide⟩
theorem okX7_worth_X7_isIn : okC MX7_worth MX7_isIn 3 3 := ⟨by decide +kernel, ⟨by decide +kernel, by decide +kernel, by decide +kernel⟩, rfl, rfl, by decide, by decide, by decide⟩
theorem okX7_worth_X7_isClaim : okC MX7_worth MX7_isClaim 1 2 := ⟨by decide +kernel, ⟨by decide +kernel, by decide +kernel, by decide +kernel⟩, rfl, rfl, by decide, by decide, by decide⟩
theorem okX7_rank_X7_finds : okC MX7_rank MX7_finds 1 2 := ⟨by decide +kernel, ⟨by decide +kernel, by decide +kernel, by decide +kernel⟩, rfl, rfl, by decide, by decide, by decide⟩
theorem okX7_rank_X7_rankOf : okC MX7_rank MX7_rankOf 2 3 := ⟨by decide +kernel, ⟨by decide +kernel, by decide +kernel, by decide +kernel⟩, rfl, rfl, by decide, by decide, by decide⟩
theorem okX7_rank_X7_isIn : okC MX7_rank MX7_isIn 3 3 := ⟨by decide +kernel, ⟨by decide +kernel, by decide +kernel, by decide +kernel⟩, rfl, rfl, by decide, by decide, by decide⟩
theorem okX7_rank_X7_isClaim : okC MX7_rank MX7_isClaim 1 2 := ⟨by decide +kernel, ⟨by decide +kernel, by decide +kernel, by decide +kernel⟩, rfl, rfl, by decide, by decide, by decide⟩
theorem okX7_loan_X7_finds : okC MX7_loan MX7_finds 1 2 := ⟨by decide +kernel, ⟨by decide +kernel, by decide +kernel, by decide +kernel⟩, rfl, rfl, by decide, by decide, by decide⟩
theorem okX7_loan_X7_isIn : okC MX7_loan MX7_isIn 3 3 := ⟨by decide +kernel, ⟨by decide +kernel, by decide +kernel, by decide +kernel⟩, rfl, rfl, by decide, by decide, by decide⟩
theorem okX7_loan_X7_isParty : okC MX7_loan MX7_isParty 1 2 := ⟨by decide +kernel, ⟨by decide +kernel, by decide +kernel, by decide +kernel⟩, rfl, rfl, by decide, by decide, by decide⟩
theorem okX7_lines_X7_worthOf : okC MX7_lines MX7_worthOf 2 3 := ⟨by decide +kernel, ⟨by decide +kernel, by decide +kernel, by decide +kernel⟩, rfl, rfl, by decide, by decide, by decide⟩
theorem okX7_lines_X7_rankOf : okC MX7_lines MX7_rankOf 2 3 := ⟨by decide +kernel, ⟨by decide +kernel, by decide +kernel, by decide +kernel⟩, rfl, rfl, by decide, by decide, by decide⟩
theorem okX7_lines_X7_judged : okC MX7_lines MX7_judged 2 3 := ⟨by decide +kernel, ⟨by decide +kernel, by decide +kernel, by decide +kernel⟩, rfl, rfl, by decide, by decide, by decide⟩
theorem okX7_sell_X7_nextRank : okC MX7_sell MX7_nextRank 1 2 := ⟨by decide +kernel, ⟨by decide +kernel, by decide +kernel, by decide +kernel⟩, rfl, rfl, by decide, by decide, by decide⟩
theorem okX7_sell_X7_lines : okC MX7_sell MX7_lines 1 2 := ⟨by decide +kernel, ⟨by decide +kernel, by decide +kernel, by decide +kernel⟩, rfl, rfl, by decide, by decide, by decide⟩
theorem okX7_sale_X7_finds : okC MX7_sale MX7_finds 1 2 := ⟨by decide +kernel, ⟨by decide +kernel, by decide +kernel, by decide +kernel⟩, rfl, rfl, by decide, by decide, by decide⟩
theorem okX7_sale_X7_sell : okC MX7_sale MX7_sell 2 3 := ⟨by decide +kernel, ⟨by decide +kernel, by decide +kernel, by decide +kernel⟩, rfl, rfl, by decide, by decide, by decide⟩
theorem okX7_sale_X7_isIn : okC MX7_sale MX7_isIn 3 3 := ⟨by decide +kernel, ⟨by decide +kernel, by decide +kernel, by decide +kernel⟩, rfl, rfl, by decide, by decide, by decide⟩
theorem okX7_isBelow_X7_upper : okC MX7_isBelow MX7_upper 1 2 := ⟨by decide +kernel, ⟨by decide +kernel, by decide +kernel, by decide +kernel⟩, rfl, rfl, by decide, by decide, by decide⟩
theorem okX7_twice_X7_finds : okC MX7_twice MX7_finds 1 2 := ⟨by decide +kernel, ⟨by decide +kernel, by decide +kernel, by decide +kernel⟩, rfl, rfl, by decide, by decide, by decide⟩
theorem okX7_twice_X7_degree : okC MX7_twice MX7_degree 1 2 := ⟨by decide +kernel, ⟨by decide +kernel, by decide +kernel, by decide +kernel⟩, rfl, rfl, by decide, by decide, by decide⟩
theorem okX7_twice_X7_isContract : okC MX7_twice MX7_isContract 1 2 := ⟨by decide +kernel, ⟨by decide +kernel, by decide +kernel, by decide +kernel⟩, rfl, rfl, by decide, by decide, by decide⟩
theorem okX7_twice_X7_owing : okC MX7_twice MX7_owing 1 2 := ⟨by decide +kernel, ⟨by decide +kernel, by decide +kernel, by decide +kernel⟩, rfl, rfl, by decide, by decide, by decide⟩
theorem okX7_twice_X7_worthOf : okC MX7_twice MX7_worthOf 2 3 := ⟨by decide +kernel, ⟨by decide +kernel, by decide +kernel, by decide +kernel⟩, rfl, rfl, by decide, by decide, by decide⟩
theorem okX7_twice_X7_isBelow : okC MX7_twice MX7_isBelow 2 3 := ⟨by decide +kernel, ⟨by decide +kernel, by decide +kernel, by decide +kernel⟩, rfl, rfl, by decide, by decide, by decide⟩
theorem okX7_sign_X7_finds : okC MX7_sign MX7_finds 1 2 := ⟨by decide +kernel, ⟨by decide +kernel, by decide +kernel, by decide +kernel⟩, rfl, rfl, by decide, by decide, by decide⟩
theorem okX7_sign_X7_degree : okC MX7_sign MX7_degree 1 2 := ⟨by decide +kernel, ⟨by decide +kernel, by decide +kernel, by decide +kernel⟩, rfl, rfl, by decide, by decide, by decide⟩
theorem okX7_sign_X7_isIn : okC MX7_sign MX7_isIn 3 3 := ⟨by decide +kernel, ⟨by decide +kernel, by decide +kernel, by decide +kernel⟩, rfl, rfl, by decide, by decide, by decide⟩
theorem okX7_sign_X7_isContract : okC MX7_sign MX7_isContract 1 2 := ⟨by decide +kernel, ⟨by decide +kernel, by decide +kernel, by decide +kernel⟩, rfl, rfl, by decide, by decide, by decide⟩
theorem okX7_sign_X7_open : okC MX7_sign MX7_open 1 2 := ⟨by decide +kernel, ⟨by decide +kernel, by decide +kernel, by decide +kernel⟩, rfl, rfl, by decide, by decide, by decide⟩
theorem okX7_sign_X7_isBelow : okC MX7_sign MX7_isBelow 2 3 := ⟨by decide +kernel, ⟨by decide +kernel, by decide +kernel, by decide +kernel⟩, rfl, rfl, by decide, by decide, by decide⟩
theorem okX7_sign_X7_bits : okC MX7_sign MX7_bits 1 1 := ⟨by decide +kernel, ⟨by decide +kernel, by decide +kernel, by decide +kernel⟩, rfl, rfl, by decide, by decide, by decide⟩
theorem okX7_isBuilder_X7_isUnder : okC MX7_isBuilder MX7_isUnder 2 2 := ⟨by decide +kernel, ⟨by decide +kernel, by decide +kernel, by decide +kernel⟩, rfl, rfl, by decide, by decide, by decide⟩
theorem okX7_in_X7_finds : okC MX7_in MX7_finds 1 2 := ⟨by decide +kernel, ⟨by decide +kernel, by decide +kernel, by decide +kernel⟩, rfl, rfl, by decide, by decide, by decide⟩
theorem okX7_in_X7_isBuilder : okC MX7_in MX7_isBuilder 1 2 := ⟨by decide +kernel, ⟨by decide +kernel, by decide +kernel, by decide +kernel⟩, rfl, rfl, by decide, by decide, by decide⟩
theorem okX7_in_X7_isIn : okC MX7_in MX7_isIn 3 3 := ⟨by decide +kernel, ⟨by decide +kernel, by decide +kernel, by decide +kernel⟩, rfl, rfl, by decide, by decide, by decide⟩
theorem okX7_in_X7_isContract : okC MX7_in MX7_isContract 1 2 := ⟨by decide +kernel, ⟨by decide +kernel, by decide +kernel, by decide +kernel⟩, rfl, rfl, by decide, by decide, by decide⟩
theorem okX7_in_X7_isParty : okC MX7_in MX7_isParty 1 2 := ⟨by decide +kernel, ⟨by decide +kernel, by decide +kernel, by decide +kernel⟩, rfl, rfl, by decide, by decide, by decide⟩
theorem okX7_out_X7_finds : okC MX7_out MX7_finds 1 2 := ⟨by decide +kernel, ⟨by decide +kernel, by decide +kernel, by decide +kernel⟩, rfl, rfl, by decide, by decide, by decide⟩
theorem okX7_out_X7_account : okC MX7_out MX7_account 1 2 := ⟨by decide +kernel, ⟨by decide +kernel, by decide +kernel, by decide +kernel⟩, rfl, rfl, by decide, by decide, by decide⟩
theorem okX7_out_X7_isBuilder : okC MX7_out MX7_isBuilder 1 2 := ⟨by decide +kernel, ⟨by decide +kernel, by decide +kernel, by decide +kernel⟩, rfl, rfl, by decide, by decide, by decide⟩
theorem okX7_out_X7_isIn : okC MX7_out MX7_isIn 3 3 := ⟨by decide +kernel, ⟨by decide +kernel, by decide +kernel, by decide +kernel⟩, rfl, rfl, by decide, by decide, by decide⟩
theorem okX7_out_X7_isParty : okC MX7_out MX7_isParty 1 2 := ⟨by decide +kernel, ⟨by decide +kernel, by decide +kernel, by decide +kernel⟩, rfl, rfl, by decide, by decide, by decide⟩
theorem okX7_traces_X7_goes : okC MX7_traces MX7_goes 5 6 := ⟨by decide +kernel, ⟨by decide +kernel, by decide +kernel, by decide +kernel⟩, rfl, rfl, by decide, by decide, by decide⟩
theorem okX7_trace_X7_finds : okC MX7_trace MX7_finds 1 2 := ⟨by decide +kernel, ⟨by decide +kernel, by decide +kernel, by decide +kernel⟩, rfl, rfl, by decide, by decide, by decide⟩
theorem okX7_trace_X7_traces : okC MX7_trace MX7_traces 1 2 := ⟨by decide +kernel, ⟨by decide +kernel, by decide +kernel, by decide +kernel⟩, rfl, rfl, by decide, by decide, by decide⟩
theorem okX7_trace_X7_isIn : okC MX7_trace MX7_isIn 3 3 := ⟨by decide +kernel, ⟨by decide +kernel, by decide +kernel, by decide +kernel⟩, rfl, rfl, by decide, by decide, by decide⟩
theorem okX7_held_X7_finds : okC MX7_held MX7_finds 1 2 := ⟨by decide +kernel, ⟨by decide +kernel, by decide +kernel, by decide +kernel⟩, rfl, rfl, by decide, by decide, by decide⟩
theorem okX7_held_X7_traces : okC MX7_held MX7_traces 1 2 := ⟨by decide +kernel, ⟨by decide +kernel, by decide +kernel, by decide +kernel⟩, rfl, rfl, by decide, by decide, by decide⟩
theorem okX7_held_X7_isBuilder : okC MX7_held MX7_isBuilder 1 2 := ⟨by decide +kernel, ⟨by decide +kernel, by decide +kernel, by decide +kernel⟩, rfl, rfl, by decide, by decide, by decide⟩
theorem okX7_held_X7_isIn : okC MX7_held MX7_isIn 3 3 := ⟨by decide +kernel, ⟨by decide +kernel, by decide +kernel, by decide +kernel⟩, rfl, rfl, by decide, by decide, by decide⟩
theorem okX7_held_X7_isContract : okC MX7_held MX7_isContract 1 2 := ⟨by decide +kernel, ⟨by decide +kernel, by decide +kernel, by decide +kernel⟩, rfl, rfl, by decide, by decide, by decide⟩
theorem okX7_held_X7_isParty : okC MX7_held MX7_isParty 1 2 := ⟨by decide +kernel, ⟨by decide +kernel, by decide +kernel, by decide +kernel⟩, rfl, rfl, by decide, by decide, by decide⟩
theorem okX7_tell_X7_finds : okC MX7_tell MX7_finds 1 2 := ⟨by decide +kernel, ⟨by decide +kernel, by decide +kernel, by decide +kernel⟩, rfl, rfl, by decide, by decide, by decide⟩
theorem okX7_check_X7_sell : okC MX7_check MX7_sell 2 3 := ⟨by decide +kernel, ⟨by decide +kernel, by decide +kernel, by decide +kernel⟩, rfl, rfl, by decide, by decide, by decide⟩
theorem okX7_check_X7_finds : okC MX7_check MX7_finds 1 2 := ⟨by decide +kernel, ⟨by decide +kernel, by decide +kernel, by decide +kernel⟩, rfl, rfl, by decide, by decide, by decide⟩
theorem okX7_check_X7_isIn : okC MX7_check MX7_isIn 3 3 := ⟨by decide +kernel, ⟨by decide +kernel, by decide +kernel, by decide +kernel⟩, rfl, rfl, by decide, by decide, by decide⟩
theorem okX7_count_X7_finds : okC MX7_count MX7_finds 1 2 := ⟨by decide +kernel, ⟨by decide +kernel, by decide +kernel, by decide +kernel⟩, rfl, rfl, by decide, by decide, by decide⟩
theorem okX7_count_X7_judged : okC MX7_count MX7_judged 2 3 := ⟨by decide +kernel, ⟨by decide +kernel, by decide +kernel, by decide +kernel⟩, rfl, rfl, by decide, by decide, by decide⟩
theorem okX7_found_X7_finds : okC MX7_found MX7_finds 1 2 := ⟨by decide +kernel, ⟨by decide +kernel, by decide +kernel, by decide +kernel⟩, rfl, rfl, by decide, by decide, by decide⟩
theorem okX7_found_X7_isIn : okC MX7_found MX7_isIn 3 3 := ⟨by decide +kernel, ⟨by decide +kernel, by decide +kernel, by decide +kernel⟩, rfl, rfl, by decide, by decide, by decide⟩
theorem okL_law_X7_party : okC ML MX7_party 1 2 := ⟨by decide +kernel, ⟨by decide +kernel, by decide +kernel, by decide +kernel⟩, rfl, rfl, by decide, by decide, by decide⟩
theorem okL_law_X6_party : okC ML MX6_party 1 2 := ⟨by decide +kernel, ⟨by decide +kernel, by decide +kernel, by decide +kernel⟩, rfl, rfl, by decide, by decide, by decide⟩
theorem okL_law_X7_as : okC ML MX7_as 2 3 := ⟨by decide +kernel, ⟨by decide +kernel, by decide +kernel, by decide +kernel⟩, rfl, rfl, by decide, by decide, by decide⟩
theorem okL_law_X6_as : okC ML MX6_as 2 3 := ⟨by decide +kernel, ⟨by decide +kernel, by decide +kernel, by decide +kernel⟩, rfl, rfl, by decide, by decide, by decide⟩
theorem okL_law_X7_contract : okC ML MX7_contract 3 4 := ⟨by decide +kernel, ⟨by decide +kernel, by decide +kernel, by decide +kernel⟩, rfl, rfl, by decide, by decide, by decide⟩
theorem okL_law_X6_contract : okC ML MX6_contract 3 4 := ⟨by decide +kernel, ⟨by decide +kernel, by decide +kernel, by decide +kernel⟩, rfl, rfl, by decide, by decide, by decide⟩
theorem okL_law_X7_extra : okC ML MX7_extra 2 3 := ⟨by decide +kernel, ⟨by decide +kernel, by decide +kernel, by decide +kernel⟩, rfl, rfl, by decide, by decide, by decide⟩
theorem okL_law_X6_extra : okC ML MX6_extra 2 3 := ⟨by decide +kernel, ⟨by decide +kernel, by decide +kernel, by decide +kernel⟩, rfl, rfl, by decide, by decide, by decide⟩
theorem okL_law_X7_began : okC ML MX7_began 3 4 := ⟨by decide +kernel, ⟨by decide +kernel, by decide +kernel, by decide +kernel⟩, rfl, rfl, by decide, by decide, by decide⟩
theorem okL_law_X6_began : okC ML MX6_began 3 4 := ⟨by decide +kernel, ⟨by decide +kernel, by decide +kernel, by decide +kernel⟩, rfl, rfl, by decide, by decide, by decide⟩
theorem okL_law_X7_ended : okC ML MX7_ended 3 4 := ⟨by decide +kernel, ⟨by decide +kernel, by decide +kernel, by decide +kernel⟩, rfl, rfl, by decide, by decide, by decide⟩
theorem okL_law_X6_ended : okC ML MX6_ended 3 4 := ⟨by decide +kernel, ⟨by decide +kernel, by decide +kernel, by decide +kernel⟩, rfl, rfl, by decide, by decide, by decide⟩
theorem okL_law_X7_notice : okC ML MX7_notice 1 2 := ⟨by decide +kernel, ⟨by decide +kernel, by decide +kernel, by decide +kernel⟩, rfl, rfl, by decide, by decide, by decide⟩
theorem okL_law_X6_notice : okC ML MX6_notice 1 2 := ⟨by decide +kernel, ⟨by decide +kernel, by decide +kernel, by decide +kernel⟩, rfl, rfl, by decide, by decide, by decide⟩
theorem okL_law_X7_pay : okC ML MX7_pay 2 3 := ⟨by decide +kernel, ⟨by decide +kernel, by decide +kernel, by decide +kernel⟩, rfl, rfl, by decide, by decide, by decide⟩
theorem okL_law_X6_pay : okC ML MX6_pay 2 3 := ⟨by decide +kernel, ⟨by decide +kernel, by decide +kernel, by decide +kernel⟩, rfl, rfl, by decide, by decide, by decide⟩
theorem okL_law_X7_waive : okC ML MX7_waive 3 4 := ⟨by decide +kernel, ⟨by decide +kernel, by decide +kernel, by decide +kernel⟩, rfl, rfl, by decide, by decide, by decide⟩
theorem okL_law_X6_waive : okC ML MX6_waive 3 4 := ⟨by decide +kernel, ⟨by decide +kernel, by decide +kernel, by decide +kernel⟩, rfl, rfl, by decide, by decide, by decide⟩
theorem okL_law_X7_of : okC ML MX7_of 2 3 := ⟨by decide +kernel, ⟨by decide +kernel, by decide +kernel, by decide +kernel⟩, rfl, rfl, by decide, by decide, by decide⟩
theorem okL_law_X6_of : okC ML MX6_of 2 3 := ⟨by decide +kernel, ⟨by decide +kernel, by decide +kernel, by decide +kernel⟩, rfl, rfl, by decide, by decide, by decide⟩
theorem okL_law_X7_day : okC ML MX7_day 1 2 := ⟨by decide +kernel, ⟨by decide +kernel, by decide +kernel, by decide +kernel⟩, rfl, rfl, by decide, by decide, by decide⟩
theorem okL_law_X6_day : okC ML MX6_day 1 2 := ⟨by decide +kernel, ⟨by decide +kernel, by decide +kernel, by decide +kernel⟩, rfl, rfl, by decide, by decide, by decide⟩
theorem okL_law_X7_law : okC ML MX7_law 2 3 := ⟨by decide +kernel, ⟨by decide +kernel, by decide +kernel, by decide +kernel⟩, rfl, rfl, by decide, by decide, by decide⟩
theorem okL_law_X6_law : okC ML MX6_law 2 3 := ⟨by decide +kernel, ⟨by decide +kernel, by decide +kernel, by decide +kernel⟩, rfl, rfl, by decide, by decide, by decide⟩
theorem okL_law_X7_file : okC ML MX7_file 2 3 := ⟨by decide +kernel, ⟨by decide +kernel, by decide +kernel, by decide +kernel⟩, rfl, rfl, by decide, by decide, by decide⟩
theorem okL_law_X6_file : okC ML MX6_file 2 3 := ⟨by decide +kernel, ⟨by decide +kernel, by decide +kernel, by decide +kernel⟩, rfl, rfl, by decide, by decide, by decide⟩
theorem okL_law_X7_sue : okC ML MX7_sue 1 2 := ⟨by decide +kernel, ⟨by decide +kernel, by decide +kernel, by decide +kernel⟩, rfl, rfl, by decide, by decide, by decide⟩
theorem okL_law_X6_sue : okC ML MX6_sue 1 2 := ⟨by decide +kernel, ⟨by decide +kernel, by decide +kernel, by decide +kernel⟩, rfl, rfl, by decide, by decide, by decide⟩
theorem okL_law_X7_bond : okC ML MX7_bond 2 3 := ⟨by decide +kernel, ⟨by decide +kernel, by decide +kernel, by decide +kernel⟩, rfl, rfl, by decide, by decide, by decide⟩
theorem okL_law_X6_bond : okC ML MX6_bond 2 3 := ⟨by decide +kernel, ⟨by decide +kernel, by decide +kernel, by decide +kernel⟩, rfl, rfl, by decide, by decide, by decide⟩
theorem okL_law_X7_judge : okC ML MX7_judge 2 3 := ⟨by decide +kernel, ⟨by decide +kernel, by decide +kernel, by decide +kernel⟩, rfl, rfl, by decide, by decide, by decide⟩
theorem okL_law_X6_judge : okC ML MX6_judge 2 3 := ⟨by decide +kernel, ⟨by decide +kernel, by decide +kernel, by decide +kernel⟩, rfl, rfl, by decide, by decide, by decide⟩
theorem okL_law_X7_bar : okC ML MX7_bar 2 3 := ⟨by decide +kernel, ⟨by decide +kernel, by decide +kernel, by decide +kernel⟩, rfl, rfl, by decide, by decide, by decide⟩
theorem okL_law_X6_bar : okC ML MX6_bar 2 3 := ⟨by decide +kernel, ⟨by decide +kernel, by decide +kernel, by decide +kernel⟩, rfl, rfl, by decide, by decide, by decide⟩
theorem okL_law_X7_worth : okC ML MX7_worth 2 3 := ⟨by decide +kernel, ⟨by decide +kernel, by decide +kernel, by decide +kernel⟩, rfl, rfl, by decide, by decide, by decide⟩
theorem okL_law_X6_worth : okC ML MX6_worth 2 3 := ⟨by decide +kernel, ⟨by decide +kernel, by decide +kernel, by decide +kernel⟩, rfl, rfl, by decide, by decide, by decide⟩
theorem okL_law_X7_rank : okC ML MX7_rank 2 3 := ⟨by decide +kernel, ⟨by decide +kernel, by decide +kernel, by decide +kernel⟩, rfl, rfl, by decide, by decide, by decide⟩
theorem okL_law_X6_rank : okC ML MX6_rank 2 3 := ⟨by decide +kernel, ⟨by decide +kernel, by decide +kernel, by decide +kernel⟩, rfl, rfl, by decide, by decide, by decide⟩
theorem okL_law_X7_loan : okC ML MX7_loan 2 3 := ⟨by decide +kernel, ⟨by decide +kernel, by decide +kernel, by decide +kernel⟩, rfl, rfl, by decide, by decide, by decide⟩
theorem okL_law_X6_loan : okC ML MX6_loan 2 3 := ⟨by decide +kernel, ⟨by decide +kernel, by decide +kernel, by decide +kernel⟩, rfl, rfl, by decide, by decide, by decide⟩
theorem okL_law_X7_sale : okC ML MX7_sale 4 5 := ⟨by decide +kernel, ⟨by decide +kernel, by decide +kernel, by decide +kernel⟩, rfl, rfl, by decide, by decide, by decide⟩
theorem okL_law_X6_sale : okC ML MX6_sale 4 5 := ⟨by decide +kernel, ⟨by decide +kernel, by decide +kernel, by decide +kernel⟩, rfl, rfl, by decide, by decide, by decide⟩
theorem okL_law_X7_twice : okC ML MX7_twice 1 2 := ⟨by decide +kernel, ⟨by decide +kernel, by decide +kernel, by decide +kernel⟩, rfl, rfl, by decide, by decide, by decide⟩
theorem okL_law_X6_twice : okC ML MX6_twice 1 2 := ⟨by decide +kernel, ⟨by decide +kernel, by decide +kernel, by decide +kernel⟩, rfl, rfl, by decide, by decide, by decide⟩
theorem okL_law_X7_sign : okC ML MX7_sign 3 4 := ⟨by decide +kernel, ⟨by decide +kernel, by decide +kernel, by decide +kernel⟩, rfl, rfl, by decide, by decide, by decide⟩
theorem okL_law_X6_sign : okC ML MX6_sign 3 4 := ⟨by decide +kernel, ⟨by decide +kernel, by decide +kernel, by decide +kernel⟩, rfl, rfl, by decide, by decide, by decide⟩
theorem okL_law_X7_in : okC ML MX7_in 3 4 := ⟨by decide +kernel, ⟨by decide +kernel, by decide +kernel, by decide +kernel⟩, rfl, rfl, by decide, by decide, by decide⟩
theorem okL_law_X6_in : okC ML MX6_in 3 4 := ⟨by decide +kernel, ⟨by decide +kernel, by decide +kernel, by decide +kernel⟩, rfl, rfl, by decide, by decide, by decide⟩
theorem okL_law_X7_out : okC ML MX7_out 2 3 := ⟨by decide +kernel, ⟨by decide +kernel, by decide +kernel, by decide +kernel⟩, rfl, rfl, by decide, by decide, by decide⟩
theorem okL_law_X6_out : okC ML MX6_out 2 3 := ⟨by decide +kernel, ⟨by decide +kernel, by decide +kernel, by decide +kernel⟩, rfl, rfl, by decide, by decide, by decide⟩
theorem okL_law_X7_trace : okC ML MX7_trace 2 3 := ⟨by decide +kernel, ⟨by decide +kernel, by decide +kernel, by decide +kernel⟩, rfl, rfl, by decide, by decide, by decide⟩
theorem okL_law_X6_trace : okC ML MX6_trace 2 3 := ⟨by decide +kernel, ⟨by decide +kernel, by decide +kernel, by decide +kernel⟩, rfl, rfl, by decide, by decide, by decide⟩
theorem okL_law_X7_held : okC ML MX7_held 3 4 := ⟨by decide +kernel, ⟨by decide +kernel, by decide +kernel, by decide +kernel⟩, rfl, rfl, by decide, by decide, by decide⟩
theorem okL_law_X6_held : okC ML MX6_held 3 4 := ⟨by decide +kernel, ⟨by decide +kernel, by decide +kernel, by decide +kernel⟩, rfl, rfl, by decide, by decide, by decide⟩
theorem okL_law_X7_tell : okC ML MX7_tell 1 2 := ⟨by decide +kernel, ⟨by decide +kernel, by decide +kernel, by decide +kernel⟩, rfl, rfl, by decide, by decide, by decide⟩
theorem okL_law_X6_tell : okC ML MX6_tell 1 2 := ⟨by decide +kernel, ⟨by decide +kernel, by decide +kernel, by decide +kernel⟩, rfl, rfl, by decide, by decide, by decide⟩
theorem okL_law_X7_check : okC ML MX7_check 1 2 := ⟨by decide +kernel, ⟨by decide +kernel, by decide +kernel, by decide +kernel⟩, rfl, rfl, by decide, by decide, by decide⟩
theorem okL_law_X6_check : okC ML MX6_check 1 2 := ⟨by decide +kernel, ⟨by decide +kernel, by decide +kernel, by decide +kernel⟩, rfl, rfl, by decide, by decide, by decide⟩
theorem okL_law_X7_count : okC ML MX7_count 1 2 := ⟨by decide +kernel, ⟨by decide +kernel, by decide +kernel, by decide +kernel⟩, rfl, rfl, by decide, by decide, by decide⟩
theorem okL_law_X6_count : okC ML MX6_count 1 2 := ⟨by decide +kernel, ⟨by decide +kernel, by decide +kernel, by decide +kernel⟩, rfl, rfl, by decide, by decide, by decide⟩
theorem okL_law_X7_found : okC ML MX7_found 1 2 := ⟨by decide +kernel, ⟨by decide +kernel, by decide +kernel, by decide +kernel⟩, rfl, rfl, by decide, by decide, by decide⟩
theorem okL_law_X6_found : okC ML MX6_found 1 2 := ⟨by decide +kernel, ⟨by decide +kernel, by decide +kernel, by decide +kernel⟩, rfl, rfl, by decide, by decide, by decide⟩
theorem cwX0_34 : Cond.code MX0_take.1 MX0_take.2.1 MX0_take.2.2.1 MX0_take.2.2.2.1 ∈ tw ∧ Cond.initialized MX0_take.1.cls ∈ tw ∧ Cond.methodLink RX0 34 MX0_take.1 ∈ tw ∧ Cond.instanceMethod MX0_take.1 ∈ tw ∧ Cond.selects MX0_take.1.cls MX0_take.1 MX0_take.1 ∈ tw := ⟨t8, t9, t10, t11, t12⟩
theorem cwX0_30 : Cond.code MX0_spendForward.1 MX0_spendForward.2.1 MX0_spendForward.2.2.1 MX0_spendForward.2.2.2.1 ∈ tw ∧ Cond.initialized MX0_spendForward.1.cls ∈ tw ∧ Cond.methodLink RX0 30 MX0_spendForward.1 ∈ tw ∧ Cond.instanceMethod MX0_spendForward.1 ∈ tw ∧ Cond.selects MX0_spendForward.1.cls MX0_spendForward.1 MX0_spendForward.1 ∈ tw := ⟨t14, t9, t15, t16, t17⟩
theorem cwX1_32 : Cond.code MX6_within.1 MX6_within.2.1 MX6_within.2.2.1 MX6_within.2.2.2.1 ∈ tw ∧ Cond.initialized MX6_within.1.cls ∈ tw ∧ (∀ U : State, NW U → va_Nw (.methodLinkNest RX1 32 MX6_within.1 "LienTower") U) ∧ Cond.static MX6_within.1 ∈ tw := ⟨t19, t20, fun _ z => z.1.1, t21⟩
theorem cwX1_45 : Cond.code MX1_whosePayeeIs.1 MX1_whosePayeeIs.2.1 MX1_whosePayeeIs.2.2.1 MX1_whosePayeeIs.2.2.2.1 ∈ tw ∧ Cond.initialized MX1_whosePayeeIs.1.cls ∈ tw ∧ Cond.methodLink RX1 45 MX1_whosePayeeIs.1 ∈ tw ∧ Cond.instanceMethod MX1_whosePayeeIs.1 ∈ tw ∧ Cond.selects MX1_whosePayeeIs.1.cls MX1_whosePayeeIs.1 MX1_whosePayeeIs.1 ∈ tw := ⟨t29, t30, t31, t32, t33⟩
theorem cwX1_61 : Cond.code MX1_settleWaived.1 MX1_settleWaived.2.1 MX1_settleWaived.2.2.1 MX1_settleWaived.2.2.2.1 ∈ tw ∧ Cond.initialized MX1_settleWaived.1.cls ∈ tw ∧ Cond.methodLink RX1 61 MX1_settleWaived.1 ∈ tw ∧ Cond.instanceMethod MX1_settleWaived.1 ∈ tw ∧ Cond.selects MX1_settleWaived.1.cls MX1_settleWaived.1 MX1_settleWaived.1 ∈ tw := ⟨t43, t30, t44, t45, t46⟩
theorem cwX1_83 : Cond.code MX3_open.1 MX3_open.2.1 MX3_open.2.2.1 MX3_open.2.2.2.1 ∈ tw ∧ Cond.initialized MX3_open.1.cls ∈ tw ∧ Cond.methodLink RX1 83 MX3_open.1 ∈ tw ∧ Cond.instanceMethod MX3_open.1 ∈ tw ∧ Cond.selects MX3_open.1.cls MX3_open.1 MX3_open.1 ∈ tw := ⟨t54, t55, t56, t57, t58⟩
theorem cwX1_91 : Cond.code MX3_owing.1 MX3_owing.2.1 MX3_owing.2.2.1 MX3_owing.2.2.2.1 ∈ tw ∧ Cond.initialized MX3_owing.1.cls ∈ tw ∧ Cond.methodLink RX1 91 MX3_owing.1 ∈ tw ∧ Cond.instanceMethod MX3_owing.1 ∈ tw ∧ Cond.selects MX3_owing.1.cls MX3_owing.1 MX3_owing.1 ∈ tw := ⟨t60, t55, t61, t62, t63⟩
theorem cwX1_87 : Cond.code MX3_isBelow.1 MX3_isBelow.2.1 MX3_isBelow.2.2.1 MX3_isBelow.2.2.2.1 ∈ tw ∧ Cond.initialized MX3_isBelow.1.cls ∈ tw ∧ Cond.methodLink RX1 87 MX3_isBelow.1 ∈ tw ∧ Cond.instanceMethod MX3_isBelow.1 ∈ tw ∧ Cond.selects MX3_isBelow.1.cls MX3_isBelow.1 MX3_isBelow.1 ∈ tw := ⟨t64, t55, t65, t66, t67⟩
theorem cwX1_97 : Cond.code MJ6_bitCount_0f7a4.1 MJ6_bitCount_0f7a4.2.1 MJ6_bitCount_0f7a4.2.2.1 MJ6_bitCount_0f7a4.2.2.2.1 ∈ tw ∧ Cond.initialized MJ6_bitCount_0f7a4.1.cls ∈ tw ∧ Cond.methodLink RX1 97 MJ6_bitCount_0f7a4.1 ∈ tw ∧ Cond.static MJ6_bitCount_0f7a4.1 ∈ tw := ⟨t72, t73, t71, t74⟩
theorem cwX1_102 : Cond.code MX1_openOfSet.1 MX1_openOfSet.2.1 MX1_openOfSet.2.2.1 MX1_openOfSet.2.2.2.1 ∈ tw ∧ Cond.initialized MX1_openOfSet.1.cls ∈ tw ∧ Cond.methodLink RX1 102 MX1_openOfSet.1 ∈ tw ∧ Cond.instanceMethod MX1_openOfSet.1 ∈ tw ∧ Cond.selects MX1_openOfSet.1.cls MX1_openOfSet.1 MX1_openOfSet.1 ∈ tw := ⟨t75, t30, t76, t77, t78⟩
theorem cwX3_57 : Cond.code MX3_owing.1 MX3_owing.2.1 MX3_owing.2.2.1 MX3_owing.2.2.2.1 ∈ tw ∧ Cond.initialized MX3_owing.1.cls ∈ tw ∧ Cond.methodLink RX3 57 MX3_owing.1 ∈ tw ∧ Cond.instanceMethod MX3_owing.1 ∈ tw ∧ Cond.selects MX3_owing.1.cls MX3_owing.1 MX3_owing.1 ∈ tw := ⟨t60, t55, t83, t62, t63⟩
theorem cwX3_61 : Cond.code MX3_open.1 MX3_open.2.1 MX3_open.2.2.1 MX3_open.2.2.2.1 ∈ tw ∧ Cond.initialized MX3_open.1.cls ∈ tw ∧ Cond.methodLink RX3 61 MX3_open.1 ∈ tw ∧ Cond.instanceMethod MX3_open.1 ∈ tw ∧ Cond.selects MX3_open.1.cls MX3_open.1 MX3_open.1 ∈ tw := ⟨t54, t55, t84, t57, t58⟩
theorem cwX4_39 : Cond.code MX6_within.1 MX6_within.2.1 MX6_within.2.2.1 MX6_within.2.2.2.1 ∈ tw ∧ Cond.initialized MX6_within.1.cls ∈ tw ∧ (∀ U : State, NW U → va_Nw (.methodLinkNest RX4 39 MX6_within.1 "LienTower") U) ∧ Cond.static MX6_within.1 ∈ tw := ⟨t19, t20, fun _ z => z.1.2, t21⟩
theorem cwX4_70 : Cond.code MX4_lateness.1 MX4_lateness.2.1 MX4_lateness.2.2.1 MX4_lateness.2.2.2.1 ∈ tw ∧ Cond.initialized MX4_lateness.1.cls ∈ tw ∧ Cond.methodLink RX4 70 MX4_lateness.1 ∈ tw ∧ Cond.instanceMethod MX4_lateness.1 ∈ tw ∧ Cond.selects MX4_lateness.1.cls MX4_lateness.1 MX4_lateness.1 ∈ tw := ⟨t100, t101, t102, t103, t104⟩
theorem cwX4_81 : Cond.code MX3_open.1 MX3_open.2.1 MX3_open.2.2.1 MX3_open.2.2.2.1 ∈ tw ∧ Cond.initialized MX3_open.1.cls ∈ tw ∧ Cond.methodLink RX4 81 MX3_open.1 ∈ tw ∧ Cond.instanceMethod MX3_open.1 ∈ tw ∧ Cond.selects MX3_open.1.cls MX3_open.1 MX3_open.1 ∈ tw := ⟨t54, t55, t110, t57, t58⟩
theorem cwX4_77 : Cond.code MX4_isSuitLost.1 MX4_isSuitLost.2.1 MX4_isSuitLost.2.2.1 MX4_isSuitLost.2.2.2.1 ∈ tw ∧ Cond.initialized MX4_isSuitLost.1.cls ∈ tw ∧ Cond.methodLink RX4 77 MX4_isSuitLost.1 ∈ tw ∧ Cond.instanceMethod MX4_isSuitLost.1 ∈ tw ∧ Cond.selects MX4_isSuitLost.1.cls MX4_isSuitLost.1 MX4_isSuitLost.1 ∈ tw := ⟨t111, t101, t112, t113, t114⟩
theorem cwX4_58 : Cond.code MX4_noticeBar.1 MX4_noticeBar.2.1 MX4_noticeBar.2.2.1 MX4_noticeBar.2.2.2.1 ∈ tw ∧ Cond.initialized MX4_noticeBar.1.cls ∈ tw ∧ Cond.methodLink RX4 58 MX4_noticeBar.1 ∈ tw ∧ Cond.instanceMethod MX4_noticeBar.1 ∈ tw ∧ Cond.selects MX4_noticeBar.1.cls MX4_noticeBar.1 MX4_noticeBar.1 ∈ tw := ⟨t115, t101, t116, t117, t118⟩
theorem cwX4_98 : Cond.code MX1_boundOf.1 MX1_boundOf.2.1 MX1_boundOf.2.2.1 MX1_boundOf.2.2.2.1 ∈ tw ∧ Cond.initialized MX1_boundOf.1.cls ∈ tw ∧ Cond.methodLink RX4 98 MX1_boundOf.1 ∈ tw ∧ Cond.instanceMethod MX1_boundOf.1 ∈ tw ∧ Cond.selects MX1_boundOf.1.cls MX1_boundOf.1 MX1_boundOf.1 ∈ tw := ⟨t121, t30, t122, t123, t124⟩
theorem cwX4_106 : Cond.code MX4_verdictOfBar.1 MX4_verdictOfBar.2.1 MX4_verdictOfBar.2.2.1 MX4_verdictOfBar.2.2.2.1 ∈ tw ∧ Cond.initialized MX4_verdictOfBar.1.cls ∈ tw ∧ Cond.methodLink RX4 106 MX4_verdictOfBar.1 ∈ tw ∧ Cond.static MX4_verdictOfBar.1 ∈ tw := ⟨t129, t101, t128, t130⟩
theorem cwX4_102 : Cond.code MX4_barOn.1 MX4_barOn.2.1 MX4_barOn.2.2.1 MX4_barOn.2.2.2.1 ∈ tw ∧ Cond.initialized MX4_barOn.1.cls ∈ tw ∧ Cond.methodLink RX4 102 MX4_barOn.1 ∈ tw ∧ Cond.instanceMethod MX4_barOn.1 ∈ tw ∧ Cond.selects MX4_barOn.1.cls MX4_barOn.1 MX4_barOn.1 ∈ tw := ⟨t131, t101, t132, t133, t134⟩
theorem cwX4_115 : Cond.code MX4_weigh.1 MX4_weigh.2.1 MX4_weigh.2.2.1 MX4_weigh.2.2.2.1 ∈ tw ∧ Cond.initialized MX4_weigh.1.cls ∈ tw ∧ Cond.methodLink RX4 115 MX4_weigh.1 ∈ tw ∧ Cond.instanceMethod MX4_weigh.1 ∈ tw ∧ Cond.selects MX4_weigh.1.cls MX4_weigh.1 MX4_weigh.1 ∈ tw := ⟨t135, t101, t136, t137, t138⟩
theorem cwX4_119 : Cond.code MX3_isBelow.1 MX3_isBelow.2.1 MX3_isBelow.2.2.1 MX3_isBelow.2.2.2.1 ∈ tw ∧ Cond.initialized MX3_isBelow.1.cls ∈ tw ∧ Cond.methodLink RX4 119 MX3_isBelow.1 ∈ tw ∧ Cond.instanceMethod MX3_isBelow.1 ∈ tw ∧ Cond.selects MX3_isBelow.1.cls MX3_isBelow.1 MX3_isBelow.1 ∈ tw := ⟨t64, t55, t139, t66, t67⟩
theorem cwX4_123 : Cond.code MX1_firstSpade.1 MX1_firstSpade.2.1 MX1_firstSpade.2.2.1 MX1_firstSpade.2.2.2.1 ∈ tw ∧ Cond.initialized MX1_firstSpade.1.cls ∈ tw ∧ Cond.methodLink RX4 123 MX1_firstSpade.1 ∈ tw ∧ Cond.instanceMethod MX1_firstSpade.1 ∈ tw ∧ Cond.selects MX1_firstSpade.1.cls MX1_firstSpade.1 MX1_firstSpade.1 ∈ tw := ⟨t140, t30, t141, t142, t143⟩
theorem cwX5_53 : Cond.code MX4_weigh.1 MX4_weigh.2.1 MX4_weigh.2.2.1 MX4_weigh.2.2.2.1 ∈ tw ∧ Cond.initialized MX4_weigh.1.cls ∈ tw ∧ Cond.methodLink RX5 53 MX4_weigh.1 ∈ tw ∧ Cond.instanceMethod MX4_weigh.1 ∈ tw ∧ Cond.selects MX4_weigh.1.cls MX4_weigh.1 MX4_weigh.1 ∈ tw := ⟨t135, t101, t151, t137, t138⟩
theorem cwX5_74 : Cond.code MX4_rankDay.1 MX4_rankDay.2.1 MX4_rankDay.2.2.1 MX4_rankDay.2.2.2.1 ∈ tw ∧ Cond.initialized MX4_rankDay.1.cls ∈ tw ∧ Cond.methodLink RX5 74 MX4_rankDay.1 ∈ tw ∧ Cond.instanceMethod MX4_rankDay.1 ∈ tw ∧ Cond.selects MX4_rankDay.1.cls MX4_rankDay.1 MX4_rankDay.1 ∈ tw := ⟨t156, t101, t157, t158, t159⟩
theorem cwX5_58 : Cond.code MX4_has.1 MX4_has.2.1 MX4_has.2.2.1 MX4_has.2.2.2.1 ∈ tw ∧ Cond.initialized MX4_has.1.cls ∈ tw ∧ Cond.methodLink RX5 58 MX4_has.1 ∈ tw ∧ Cond.instanceMethod MX4_has.1 ∈ tw ∧ Cond.selects MX4_has.1.cls MX4_has.1 MX4_has.1 ∈ tw := ⟨t160, t101, t161, t162, t163⟩
theorem cwX5_82 : Cond.code MX5_payWhole.1 MX5_payWhole.2.1 MX5_payWhole.2.2.1 MX5_payWhole.2.2.2.1 ∈ tw ∧ Cond.initialized MX5_payWhole.1.cls ∈ tw ∧ Cond.methodLink RX5 82 MX5_payWhole.1 ∈ tw ∧ Cond.instanceMethod MX5_payWhole.1 ∈ tw ∧ Cond.selects MX5_payWhole.1.cls MX5_payWhole.1 MX5_payWhole.1 ∈ tw := ⟨t165, t166, t167, t168, t169⟩
theorem cwX5_79 : Cond.code MX5_shareLeft.1 MX5_shareLeft.2.1 MX5_shareLeft.2.2.1 MX5_shareLeft.2.2.2.1 ∈ tw ∧ Cond.initialized MX5_shareLeft.1.cls ∈ tw ∧ Cond.methodLink RX5 79 MX5_shareLeft.1 ∈ tw ∧ Cond.instanceMethod MX5_shareLeft.1 ∈ tw ∧ Cond.selects MX5_shareLeft.1.cls MX5_shareLeft.1 MX5_shareLeft.1 ∈ tw := ⟨t170, t166, t171, t172, t173⟩
theorem cwX5_45 : Cond.code MX5_rankAfter.1 MX5_rankAfter.2.1 MX5_rankAfter.2.2.1 MX5_rankAfter.2.2.2.1 ∈ tw ∧ Cond.initialized MX5_rankAfter.1.cls ∈ tw ∧ Cond.methodLink RX5 45 MX5_rankAfter.1 ∈ tw ∧ Cond.instanceMethod MX5_rankAfter.1 ∈ tw ∧ Cond.selects MX5_rankAfter.1.cls MX5_rankAfter.1 MX5_rankAfter.1 ∈ tw := ⟨t174, t166, t175, t176, t177⟩
theorem cwX5_41 : Cond.code MX5_enterClaims.1 MX5_enterClaims.2.1 MX5_enterClaims.2.2.1 MX5_enterClaims.2.2.2.1 ∈ tw ∧ Cond.initialized MX5_enterClaims.1.cls ∈ tw ∧ Cond.methodLink RX5 41 MX5_enterClaims.1 ∈ tw ∧ Cond.instanceMethod MX5_enterClaims.1 ∈ tw ∧ Cond.selects MX5_enterClaims.1.cls MX5_enterClaims.1 MX5_enterClaims.1 ∈ tw := ⟨t178, t166, t179, t180, t181⟩
theorem cwX5_38 : Cond.code MX5_enterLoans.1 MX5_enterLoans.2.1 MX5_enterLoans.2.2.1 MX5_enterLoans.2.2.2.1 ∈ tw ∧ Cond.initialized MX5_enterLoans.1.cls ∈ tw ∧ Cond.methodLink RX5 38 MX5_enterLoans.1 ∈ tw ∧ Cond.instanceMethod MX5_enterLoans.1 ∈ tw ∧ Cond.selects MX5_enterLoans.1.cls MX5_enterLoans.1 MX5_enterLoans.1 ∈ tw := ⟨t182, t166, t183, t184, t185⟩
theorem cwX5_49 : Cond.code MX5_payRank.1 MX5_payRank.2.1 MX5_payRank.2.2.1 MX5_payRank.2.2.2.1 ∈ tw ∧ Cond.initialized MX5_payRank.1.cls ∈ tw ∧ Cond.methodLink RX5 49 MX5_payRank.1 ∈ tw ∧ Cond.instanceMethod MX5_payRank.1 ∈ tw ∧ Cond.selects MX5_payRank.1.cls MX5_payRank.1 MX5_payRank.1 ∈ tw := ⟨t186, t166, t187, t188, t189⟩
theorem cwX6_74 : Cond.code MX6_within.1 MX6_within.2.1 MX6_within.2.2.1 MX6_within.2.2.2.1 ∈ tw ∧ Cond.initialized MX6_within.1.cls ∈ tw ∧ Cond.methodLink RX6 74 MX6_within.1 ∈ tw ∧ Cond.static MX6_within.1 ∈ tw := ⟨t19, t20, t190, t21⟩
theorem cwX6_59 : Cond.code MX6_finding.1 MX6_finding.2.1 MX6_finding.2.2.1 MX6_finding.2.2.2.1 ∈ tw ∧ Cond.initialized MX6_finding.1.cls ∈ tw ∧ Cond.methodLink RX6 59 MX6_finding.1 ∈ tw ∧ Cond.instanceMethod MX6_finding.1 ∈ tw ∧ Cond.selects MX6_finding.1.cls MX6_finding.1 MX6_finding.1 ∈ tw := ⟨t195, t20, t196, t197, t198⟩
theorem cwX6_55 : Cond.code MX6_isKindNumber.1 MX6_isKindNumber.2.1 MX6_isKindNumber.2.2.1 MX6_isKindNumber.2.2.2.1 ∈ tw ∧ Cond.initialized MX6_isKindNumber.1.cls ∈ tw ∧ Cond.methodLink RX6 55 MX6_isKindNumber.1 ∈ tw ∧ Cond.static MX6_isKindNumber.1 ∈ tw := ⟨t200, t20, t199, t201⟩
theorem cwX6_70 : Cond.code MX1_howManyPaidBy.1 MX1_howManyPaidBy.2.1 MX1_howManyPaidBy.2.2.1 MX1_howManyPaidBy.2.2.2.1 ∈ tw ∧ Cond.initialized MX1_howManyPaidBy.1.cls ∈ tw ∧ Cond.methodLink RX6 70 MX1_howManyPaidBy.1 ∈ tw ∧ Cond.instanceMethod MX1_howManyPaidBy.1 ∈ tw ∧ Cond.selects MX1_howManyPaidBy.1.cls MX1_howManyPaidBy.1 MX1_howManyPaidBy.1 ∈ tw := ⟨t203, t30, t204, t205, t206⟩
theorem cwX6_66 : Cond.code MX6_isOfKind.1 MX6_isOfKind.2.1 MX6_isOfKind.2.2.1 MX6_isOfKind.2.2.2.1 ∈ tw ∧ Cond.initialized MX6_isOfKind.1.cls ∈ tw ∧ Cond.methodLink RX6 66 MX6_isOfKind.1 ∈ tw ∧ Cond.instanceMethod MX6_isOfKind.1 ∈ tw ∧ Cond.selects MX6_isOfKind.1.cls MX6_isOfKind.1 MX6_isOfKind.1 ∈ tw := ⟨t207, t20, t208, t209, t210⟩
theorem cwX6_63 : Cond.code MX6_isParty.1 MX6_isParty.2.1 MX6_isParty.2.2.1 MX6_isParty.2.2.2.1 ∈ tw ∧ Cond.initialized MX6_isParty.1.cls ∈ tw ∧ Cond.methodLink RX6 63 MX6_isParty.1 ∈ tw ∧ Cond.instanceMethod MX6_isParty.1 ∈ tw ∧ Cond.selects MX6_isParty.1.cls MX6_isParty.1 MX6_isParty.1 ∈ tw := ⟨t211, t20, t212, t213, t214⟩
theorem cwX6_84 : Cond.code MX1_agree.1 MX1_agree.2.1 MX1_agree.2.2.1 MX1_agree.2.2.2.1 ∈ tw ∧ Cond.initialized MX1_agree.1.cls ∈ tw ∧ Cond.methodLink RX6 84 MX1_agree.1 ∈ tw ∧ Cond.instanceMethod MX1_agree.1 ∈ tw ∧ Cond.selects MX1_agree.1.cls MX1_agree.1 MX1_agree.1 ∈ tw := ⟨t217, t30, t218, t219, t220⟩
theorem cwX6_78 : Cond.code MX1_whosePayeeIs.1 MX1_whosePayeeIs.2.1 MX1_whosePayeeIs.2.2.1 MX1_whosePayeeIs.2.2.2.1 ∈ tw ∧ Cond.initialized MX1_whosePayeeIs.1.cls ∈ tw ∧ Cond.methodLink RX6 78 MX1_whosePayeeIs.1 ∈ tw ∧ Cond.instanceMethod MX1_whosePayeeIs.1 ∈ tw ∧ Cond.selects MX1_whosePayeeIs.1.cls MX1_whosePayeeIs.1 MX1_whosePayeeIs.1 ∈ tw := ⟨t29, t30, t221, t32, t33⟩
theorem cwX6_88 : Cond.code MX1_has.1 MX1_has.2.1 MX1_has.2.2.1 MX1_has.2.2.2.1 ∈ tw ∧ Cond.initialized MX1_has.1.cls ∈ tw ∧ Cond.methodLink RX6 88 MX1_has.1 ∈ tw ∧ Cond.instanceMethod MX1_has.1 ∈ tw ∧ Cond.selects MX1_has.1.cls MX1_has.1 MX1_has.1 ∈ tw := ⟨t225, t30, t226, t227, t228⟩
theorem cwX6_104 : Cond.code MX3_hasEnded.1 MX3_hasEnded.2.1 MX3_hasEnded.2.2.1 MX3_hasEnded.2.2.2.1 ∈ tw ∧ Cond.initialized MX3_hasEnded.1.cls ∈ tw ∧ Cond.methodLink RX6 104 MX3_hasEnded.1 ∈ tw ∧ Cond.instanceMethod MX3_hasEnded.1 ∈ tw ∧ Cond.selects MX3_hasEnded.1.cls MX3_hasEnded.1 MX3_hasEnded.1 ∈ tw := ⟨t232, t55, t233, t234, t235⟩
theorem cwX6_101 : Cond.code MX6_isSpanUpToToday.1 MX6_isSpanUpToToday.2.1 MX6_isSpanUpToToday.2.2.1 MX6_isSpanUpToToday.2.2.2.1 ∈ tw ∧ Cond.initialized MX6_isSpanUpToToday.1.cls ∈ tw ∧ Cond.methodLink RX6 101 MX6_isSpanUpToToday.1 ∈ tw ∧ Cond.instanceMethod MX6_isSpanUpToToday.1 ∈ tw ∧ Cond.selects MX6_isSpanUpToToday.1.cls MX6_isSpanUpToToday.1 MX6_isSpanUpToToday.1 ∈ tw := ⟨t236, t20, t237, t238, t239⟩
theorem cwX6_114 : Cond.code MX3_hasBegun.1 MX3_hasBegun.2.1 MX3_hasBegun.2.2.1 MX3_hasBegun.2.2.2.1 ∈ tw ∧ Cond.initialized MX3_hasBegun.1.cls ∈ tw ∧ Cond.methodLink RX6 114 MX3_hasBegun.1 ∈ tw ∧ Cond.instanceMethod MX3_hasBegun.1 ∈ tw ∧ Cond.selects MX3_hasBegun.1.cls MX3_hasBegun.1 MX3_hasBegun.1 ∈ tw := ⟨t242, t55, t243, t244, t245⟩
theorem cwX6_129 : Cond.code MX3_owing.1 MX3_owing.2.1 MX3_owing.2.2.1 MX3_owing.2.2.2.1 ∈ tw ∧ Cond.initialized MX3_owing.1.cls ∈ tw ∧ Cond.methodLink RX6 129 MX3_owing.1 ∈ tw ∧ Cond.instanceMethod MX3_owing.1 ∈ tw ∧ Cond.selects MX3_owing.1.cls MX3_owing.1 MX3_owing.1 ∈ tw := ⟨t60, t55, t248, t62, t63⟩
theorem cwX6_136 : Cond.code MX1_settleWaived.1 MX1_settleWaived.2.1 MX1_settleWaived.2.2.1 MX1_settleWaived.2.2.2.1 ∈ tw ∧ Cond.initialized MX1_settleWaived.1.cls ∈ tw ∧ Cond.methodLink RX6 136 MX1_settleWaived.1 ∈ tw ∧ Cond.instanceMethod MX1_settleWaived.1 ∈ tw ∧ Cond.selects MX1_settleWaived.1.cls MX1_settleWaived.1 MX1_settleWaived.1 ∈ tw := ⟨t43, t30, t249, t45, t46⟩
theorem cwX6_143 : Cond.code MX1_addWaiver.1 MX1_addWaiver.2.1 MX1_addWaiver.2.2.1 MX1_addWaiver.2.2.2.1 ∈ tw ∧ Cond.initialized MX1_addWaiver.1.cls ∈ tw ∧ Cond.methodLink RX6 143 MX1_addWaiver.1 ∈ tw ∧ Cond.instanceMethod MX1_addWaiver.1 ∈ tw ∧ Cond.selects MX1_addWaiver.1.cls MX1_addWaiver.1 MX1_addWaiver.1 ∈ tw := ⟨t252, t30, t253, t254, t255⟩
theorem cwX6_150 : Cond.code MX3_detail.1 MX3_detail.2.1 MX3_detail.2.2.1 MX3_detail.2.2.2.1 ∈ tw ∧ Cond.initialized MX3_detail.1.cls ∈ tw ∧ Cond.methodLink RX6 150 MX3_detail.1 ∈ tw ∧ Cond.instanceMethod MX3_detail.1 ∈ tw ∧ Cond.selects MX3_detail.1.cls MX3_detail.1 MX3_detail.1 ∈ tw := ⟨t256, t55, t257, t258, t259⟩
theorem cwX6_163 : Cond.code MX4_enter.1 MX4_enter.2.1 MX4_enter.2.2.1 MX4_enter.2.2.2.1 ∈ tw ∧ Cond.initialized MX4_enter.1.cls ∈ tw ∧ Cond.methodLink RX6 163 MX4_enter.1 ∈ tw ∧ Cond.instanceMethod MX4_enter.1 ∈ tw ∧ Cond.selects MX4_enter.1.cls MX4_enter.1 MX4_enter.1 ∈ tw := ⟨t265, t101, t266, t267, t268⟩
theorem cwX6_166 : Cond.code MX4_has.1 MX4_has.2.1 MX4_has.2.2.1 MX4_has.2.2.2.1 ∈ tw ∧ Cond.initialized MX4_has.1.cls ∈ tw ∧ Cond.methodLink RX6 166 MX4_has.1 ∈ tw ∧ Cond.instanceMethod MX4_has.1 ∈ tw ∧ Cond.selects MX4_has.1.cls MX4_has.1 MX4_has.1 ∈ tw := ⟨t160, t101, t271, t162, t163⟩
theorem cwX6_186 : Cond.code MX4_verdictOfBar.1 MX4_verdictOfBar.2.1 MX4_verdictOfBar.2.2.1 MX4_verdictOfBar.2.2.2.1 ∈ tw ∧ Cond.initialized MX4_verdictOfBar.1.cls ∈ tw ∧ Cond.methodLink RX6 186 MX4_verdictOfBar.1 ∈ tw ∧ Cond.static MX4_verdictOfBar.1 ∈ tw := ⟨t129, t101, t274, t130⟩
theorem cwX6_182 : Cond.code MX4_barOn.1 MX4_barOn.2.1 MX4_barOn.2.2.1 MX4_barOn.2.2.2.1 ∈ tw ∧ Cond.initialized MX4_barOn.1.cls ∈ tw ∧ Cond.methodLink RX6 182 MX4_barOn.1 ∈ tw ∧ Cond.instanceMethod MX4_barOn.1 ∈ tw ∧ Cond.selects MX4_barOn.1.cls MX4_barOn.1 MX4_barOn.1 ∈ tw := ⟨t131, t101, t275, t133, t134⟩
theorem cwX6_179 : Cond.code MX6_isJudgeable.1 MX6_isJudgeable.2.1 MX6_isJudgeable.2.2.1 MX6_isJudgeable.2.2.2.1 ∈ tw ∧ Cond.initialized MX6_isJudgeable.1.cls ∈ tw ∧ Cond.methodLink RX6 179 MX6_isJudgeable.1 ∈ tw ∧ Cond.instanceMethod MX6_isJudgeable.1 ∈ tw ∧ Cond.selects MX6_isJudgeable.1.cls MX6_isJudgeable.1 MX6_isJudgeable.1 ∈ tw := ⟨t276, t20, t277, t278, t279⟩
theorem cwX6_189 : Cond.code MX4_weigh.1 MX4_weigh.2.1 MX4_weigh.2.2.1 MX4_weigh.2.2.2.1 ∈ tw ∧ Cond.initialized MX4_weigh.1.cls ∈ tw ∧ Cond.methodLink RX6 189 MX4_weigh.1 ∈ tw ∧ Cond.instanceMethod MX4_weigh.1 ∈ tw ∧ Cond.selects MX4_weigh.1.cls MX4_weigh.1 MX4_weigh.1 ∈ tw := ⟨t135, t101, t281, t137, t138⟩
theorem cwX6_195 : Cond.code MX4_rankDay.1 MX4_rankDay.2.1 MX4_rankDay.2.2.1 MX4_rankDay.2.2.2.1 ∈ tw ∧ Cond.initialized MX4_rankDay.1.cls ∈ tw ∧ Cond.methodLink RX6 195 MX4_rankDay.1 ∈ tw ∧ Cond.instanceMethod MX4_rankDay.1 ∈ tw ∧ Cond.selects MX4_rankDay.1.cls MX4_rankDay.1 MX4_rankDay.1 ∈ tw := ⟨t156, t101, t282, t158, t159⟩
theorem cwX6_201 : Cond.code MX5_record.1 MX5_record.2.1 MX5_record.2.2.1 MX5_record.2.2.2.1 ∈ tw ∧ Cond.initialized MX5_record.1.cls ∈ tw ∧ Cond.methodLink RX6 201 MX5_record.1 ∈ tw ∧ Cond.instanceMethod MX5_record.1 ∈ tw ∧ Cond.selects MX5_record.1.cls MX5_record.1 MX5_record.1 ∈ tw := ⟨t285, t166, t286, t287, t288⟩
theorem cwX6_216 : Cond.code MX5_claimShare.1 MX5_claimShare.2.1 MX5_claimShare.2.2.1 MX5_claimShare.2.2.2.1 ∈ tw ∧ Cond.initialized MX5_claimShare.1.cls ∈ tw ∧ Cond.methodLink RX6 216 MX5_claimShare.1 ∈ tw ∧ Cond.instanceMethod MX5_claimShare.1 ∈ tw ∧ Cond.selects MX5_claimShare.1.cls MX5_claimShare.1 MX5_claimShare.1 ∈ tw := ⟨t291, t166, t292, t293, t294⟩
theorem cwX6_213 : Cond.code MX5_loanShare.1 MX5_loanShare.2.1 MX5_loanShare.2.2.1 MX5_loanShare.2.2.2.1 ∈ tw ∧ Cond.initialized MX5_loanShare.1.cls ∈ tw ∧ Cond.methodLink RX6 213 MX5_loanShare.1 ∈ tw ∧ Cond.instanceMethod MX5_loanShare.1 ∈ tw ∧ Cond.selects MX5_loanShare.1.cls MX5_loanShare.1 MX5_loanShare.1 ∈ tw := ⟨t295, t166, t296, t297, t298⟩
theorem cwX6_210 : Cond.code MX5_sell.1 MX5_sell.2.1 MX5_sell.2.2.1 MX5_sell.2.2.2.1 ∈ tw ∧ Cond.initialized MX5_sell.1.cls ∈ tw ∧ Cond.methodLink RX6 210 MX5_sell.1 ∈ tw ∧ Cond.instanceMethod MX5_sell.1 ∈ tw ∧ Cond.selects MX5_sell.1.cls MX5_sell.1 MX5_sell.1 ∈ tw := ⟨t299, t166, t300, t301, t302⟩
theorem cwX6_207 : Cond.code MX6_isSharer.1 MX6_isSharer.2.1 MX6_isSharer.2.2.1 MX6_isSharer.2.2.2.1 ∈ tw ∧ Cond.initialized MX6_isSharer.1.cls ∈ tw ∧ Cond.methodLink RX6 207 MX6_isSharer.1 ∈ tw ∧ Cond.instanceMethod MX6_isSharer.1 ∈ tw ∧ Cond.selects MX6_isSharer.1.cls MX6_isSharer.1 MX6_isSharer.1 ∈ tw := ⟨t303, t20, t304, t305, t306⟩
theorem cwX6_204 : Cond.code MX6_isSaleCoin.1 MX6_isSaleCoin.2.1 MX6_isSaleCoin.2.2.1 MX6_isSaleCoin.2.2.2.1 ∈ tw ∧ Cond.initialized MX6_isSaleCoin.1.cls ∈ tw ∧ Cond.methodLink RX6 204 MX6_isSaleCoin.1 ∈ tw ∧ Cond.static MX6_isSaleCoin.1 ∈ tw := ⟨t308, t20, t307, t309⟩
theorem cwX6_225 : Cond.code MX4_worthBelow.1 MX4_worthBelow.2.1 MX4_worthBelow.2.2.1 MX4_worthBelow.2.2.2.1 ∈ tw ∧ Cond.initialized MX4_worthBelow.1.cls ∈ tw ∧ Cond.methodLink RX6 225 MX4_worthBelow.1 ∈ tw ∧ Cond.instanceMethod MX4_worthBelow.1 ∈ tw ∧ Cond.selects MX4_worthBelow.1.cls MX4_worthBelow.1 MX4_worthBelow.1 ∈ tw := ⟨t312, t101, t313, t314, t315⟩
theorem cwX6_236 : Cond.code MJ6_bitCount_0f7a4.1 MJ6_bitCount_0f7a4.2.1 MJ6_bitCount_0f7a4.2.2.1 MJ6_bitCount_0f7a4.2.2.2.1 ∈ tw ∧ Cond.initialized MJ6_bitCount_0f7a4.1.cls ∈ tw ∧ Cond.methodLink RX6 236 MJ6_bitCount_0f7a4.1 ∈ tw ∧ Cond.static MJ6_bitCount_0f7a4.1 ∈ tw := ⟨t72, t73, t316, t74⟩
theorem cwX6_233 : Cond.code MX1_fewestSigners.1 MX1_fewestSigners.2.1 MX1_fewestSigners.2.2.1 MX1_fewestSigners.2.2.2.1 ∈ tw ∧ Cond.initialized MX1_fewestSigners.1.cls ∈ tw ∧ Cond.methodLink RX6 233 MX1_fewestSigners.1 ∈ tw ∧ Cond.instanceMethod MX1_fewestSigners.1 ∈ tw ∧ Cond.selects MX1_fewestSigners.1.cls MX1_fewestSigners.1 MX1_fewestSigners.1 ∈ tw := ⟨t317, t30, t318, t319, t320⟩
theorem cwX6_250 : Cond.code MX0_receive.1 MX0_receive.2.1 MX0_receive.2.2.1 MX0_receive.2.2.2.1 ∈ tw ∧ Cond.initialized MX0_receive.1.cls ∈ tw ∧ Cond.methodLink RX6 250 MX0_receive.1 ∈ tw ∧ Cond.instanceMethod MX0_receive.1 ∈ tw ∧ Cond.selects MX0_receive.1.cls MX0_receive.1 MX0_receive.1 ∈ tw := ⟨t323, t9, t324, t325, t326⟩
theorem cwX6_244 : Cond.code MX3_isSideOf.1 MX3_isSideOf.2.1 MX3_isSideOf.2.2.1 MX3_isSideOf.2.2.2.1 ∈ tw ∧ Cond.initialized MX3_isSideOf.1.cls ∈ tw ∧ Cond.methodLink RX6 244 MX3_isSideOf.1 ∈ tw ∧ Cond.instanceMethod MX3_isSideOf.1 ∈ tw ∧ Cond.selects MX3_isSideOf.1.cls MX3_isSideOf.1 MX3_isSideOf.1 ∈ tw := ⟨t327, t55, t328, t329, t330⟩
theorem cwX6_241 : Cond.code MX6_isPurpose.1 MX6_isPurpose.2.1 MX6_isPurpose.2.2.1 MX6_isPurpose.2.2.2.1 ∈ tw ∧ Cond.initialized MX6_isPurpose.1.cls ∈ tw ∧ Cond.methodLink RX6 241 MX6_isPurpose.1 ∈ tw ∧ Cond.instanceMethod MX6_isPurpose.1 ∈ tw ∧ Cond.selects MX6_isPurpose.1.cls MX6_isPurpose.1 MX6_isPurpose.1 ∈ tw := ⟨t331, t20, t332, t333, t334⟩
theorem cwX6_259 : Cond.code MX0_spend.1 MX0_spend.2.1 MX0_spend.2.2.1 MX0_spend.2.2.2.1 ∈ tw ∧ Cond.initialized MX0_spend.1.cls ∈ tw ∧ Cond.methodLink RX6 259 MX0_spend.1 ∈ tw ∧ Cond.instanceMethod MX0_spend.1 ∈ tw ∧ Cond.selects MX0_spend.1.cls MX0_spend.1 MX0_spend.1 ∈ tw := ⟨t336, t9, t337, t338, t339⟩
theorem cwX6_253 : Cond.code MX0_balance.1 MX0_balance.2.1 MX0_balance.2.2.1 MX0_balance.2.2.2.1 ∈ tw ∧ Cond.initialized MX0_balance.1.cls ∈ tw ∧ Cond.methodLink RX6 253 MX0_balance.1 ∈ tw ∧ Cond.instanceMethod MX0_balance.1 ∈ tw ∧ Cond.selects MX0_balance.1.cls MX0_balance.1 MX0_balance.1 ∈ tw := ⟨t340, t9, t341, t342, t343⟩
theorem cwX6_266 : Cond.code MX0_leftFor.1 MX0_leftFor.2.1 MX0_leftFor.2.2.1 MX0_leftFor.2.2.2.1 ∈ tw ∧ Cond.initialized MX0_leftFor.1.cls ∈ tw ∧ Cond.methodLink RX6 266 MX0_leftFor.1 ∈ tw ∧ Cond.instanceMethod MX0_leftFor.1 ∈ tw ∧ Cond.selects MX0_leftFor.1.cls MX0_leftFor.1 MX0_leftFor.1 ∈ tw := ⟨t345, t9, t346, t347, t348⟩
theorem cwX6_272 : Cond.code MX4_howManyGood.1 MX4_howManyGood.2.1 MX4_howManyGood.2.2.1 MX4_howManyGood.2.2.2.1 ∈ tw ∧ Cond.initialized MX4_howManyGood.1.cls ∈ tw ∧ Cond.methodLink RX6 272 MX4_howManyGood.1 ∈ tw ∧ Cond.instanceMethod MX4_howManyGood.1 ∈ tw ∧ Cond.selects MX4_howManyGood.1.cls MX4_howManyGood.1 MX4_howManyGood.1 ∈ tw := ⟨t351, t101, t352, t353, t354⟩
theorem cwX7_121 : Cond.code MX7_isIn.1 MX7_isIn.2.1 MX7_isIn.2.2.1 MX7_isIn.2.2.2.1 ∈ tw ∧ Cond.initialized MX7_isIn.1.cls ∈ tw ∧ Cond.methodLink RX7 121 MX7_isIn.1 ∈ tw ∧ Cond.static MX7_isIn.1 ∈ tw := ⟨t359, t360, t358, t361⟩
theorem cwX7_132 : Cond.code MX7_finds.1 MX7_finds.2.1 MX7_finds.2.2.1 MX7_finds.2.2.2.1 ∈ tw ∧ Cond.initialized MX7_finds.1.cls ∈ tw ∧ Cond.methodLink RX7 132 MX7_finds.1 ∈ tw ∧ Cond.instanceMethod MX7_finds.1 ∈ tw ∧ Cond.selects MX7_finds.1.cls MX7_finds.1 MX7_finds.1 ∈ tw := ⟨t366, t360, t367, t368, t369⟩
theorem cwX7_140 : Cond.code MX7_isUnder.1 MX7_isUnder.2.1 MX7_isUnder.2.2.1 MX7_isUnder.2.2.2.1 ∈ tw ∧ Cond.initialized MX7_isUnder.1.cls ∈ tw ∧ Cond.methodLink RX7 140 MX7_isUnder.1 ∈ tw ∧ Cond.static MX7_isUnder.1 ∈ tw := ⟨t373, t360, t372, t374⟩
theorem cwX7_136 : Cond.code MX7_isParty.1 MX7_isParty.2.1 MX7_isParty.2.2.1 MX7_isParty.2.2.2.1 ∈ tw ∧ Cond.initialized MX7_isParty.1.cls ∈ tw ∧ Cond.methodLink RX7 136 MX7_isParty.1 ∈ tw ∧ Cond.instanceMethod MX7_isParty.1 ∈ tw ∧ Cond.selects MX7_isParty.1.cls MX7_isParty.1 MX7_isParty.1 ∈ tw := ⟨t375, t360, t376, t377, t378⟩
theorem cwX7_146 : Cond.code MX7_contractTo.1 MX7_contractTo.2.1 MX7_contractTo.2.2.1 MX7_contractTo.2.2.2.1 ∈ tw ∧ Cond.initialized MX7_contractTo.1.cls ∈ tw ∧ Cond.methodLink RX7 146 MX7_contractTo.1 ∈ tw ∧ Cond.instanceMethod MX7_contractTo.1 ∈ tw ∧ Cond.selects MX7_contractTo.1.cls MX7_contractTo.1 MX7_contractTo.1 ∈ tw := ⟨t390, t360, t391, t392, t393⟩
theorem cwX7_150 : Cond.code MX7_isContract.1 MX7_isContract.2.1 MX7_isContract.2.2.1 MX7_isContract.2.2.2.1 ∈ tw ∧ Cond.initialized MX7_isContract.1.cls ∈ tw ∧ Cond.methodLink RX7 150 MX7_isContract.1 ∈ tw ∧ Cond.instanceMethod MX7_isContract.1 ∈ tw ∧ Cond.selects MX7_isContract.1.cls MX7_isContract.1 MX7_isContract.1 ∈ tw := ⟨t395, t360, t396, t397, t398⟩
theorem cwX7_157 : Cond.code MX7_isSpan.1 MX7_isSpan.2.1 MX7_isSpan.2.2.1 MX7_isSpan.2.2.2.1 ∈ tw ∧ Cond.initialized MX7_isSpan.1.cls ∈ tw ∧ Cond.methodLink RX7 157 MX7_isSpan.1 ∈ tw ∧ Cond.instanceMethod MX7_isSpan.1 ∈ tw ∧ Cond.selects MX7_isSpan.1.cls MX7_isSpan.1 MX7_isSpan.1 ∈ tw := ⟨t400, t360, t401, t402, t403⟩
theorem cwX7_160 : Cond.code MX7_owing.1 MX7_owing.2.1 MX7_owing.2.2.1 MX7_owing.2.2.2.1 ∈ tw ∧ Cond.initialized MX7_owing.1.cls ∈ tw ∧ Cond.methodLink RX7 160 MX7_owing.1 ∈ tw ∧ Cond.instanceMethod MX7_owing.1 ∈ tw ∧ Cond.selects MX7_owing.1.cls MX7_owing.1 MX7_owing.1 ∈ tw := ⟨t404, t360, t405, t406, t407⟩
theorem cwX7_166 : Cond.code MX7_waived.1 MX7_waived.2.1 MX7_waived.2.2.1 MX7_waived.2.2.2.1 ∈ tw ∧ Cond.initialized MX7_waived.1.cls ∈ tw ∧ Cond.methodLink RX7 166 MX7_waived.1 ∈ tw ∧ Cond.instanceMethod MX7_waived.1 ∈ tw ∧ Cond.selects MX7_waived.1.cls MX7_waived.1 MX7_waived.1 ∈ tw := ⟨t412, t360, t413, t414, t415⟩
theorem cwX7_169 : Cond.code MX7_upper.1 MX7_upper.2.1 MX7_upper.2.2.1 MX7_upper.2.2.2.1 ∈ tw ∧ Cond.initialized MX7_upper.1.cls ∈ tw ∧ Cond.methodLink RX7 169 MX7_upper.1 ∈ tw ∧ Cond.instanceMethod MX7_upper.1 ∈ tw ∧ Cond.selects MX7_upper.1.cls MX7_upper.1 MX7_upper.1 ∈ tw := ⟨t416, t360, t417, t418, t419⟩
theorem cwX7_172 : Cond.code MX7_open.1 MX7_open.2.1 MX7_open.2.2.1 MX7_open.2.2.2.1 ∈ tw ∧ Cond.initialized MX7_open.1.cls ∈ tw ∧ Cond.methodLink RX7 172 MX7_open.1 ∈ tw ∧ Cond.instanceMethod MX7_open.1 ∈ tw ∧ Cond.selects MX7_open.1.cls MX7_open.1 MX7_open.1 ∈ tw := ⟨t420, t360, t421, t422, t423⟩
theorem cwX7_175 : Cond.code MX7_degree.1 MX7_degree.2.1 MX7_degree.2.2.1 MX7_degree.2.2.2.1 ∈ tw ∧ Cond.initialized MX7_degree.1.cls ∈ tw ∧ Cond.methodLink RX7 175 MX7_degree.1 ∈ tw ∧ Cond.instanceMethod MX7_degree.1 ∈ tw ∧ Cond.selects MX7_degree.1.cls MX7_degree.1 MX7_degree.1 ∈ tw := ⟨t424, t360, t425, t426, t427⟩
theorem cwX7_178 : Cond.code MX7_mostOf.1 MX7_mostOf.2.1 MX7_mostOf.2.2.1 MX7_mostOf.2.2.2.1 ∈ tw ∧ Cond.initialized MX7_mostOf.1.cls ∈ tw ∧ Cond.methodLink RX7 178 MX7_mostOf.1 ∈ tw ∧ Cond.static MX7_mostOf.1 ∈ tw := ⟨t430, t360, t429, t431⟩
theorem cwX7_181 : Cond.code MX7_isClaim.1 MX7_isClaim.2.1 MX7_isClaim.2.2.1 MX7_isClaim.2.2.2.1 ∈ tw ∧ Cond.initialized MX7_isClaim.1.cls ∈ tw ∧ Cond.methodLink RX7 181 MX7_isClaim.1 ∈ tw ∧ Cond.instanceMethod MX7_isClaim.1 ∈ tw ∧ Cond.selects MX7_isClaim.1.cls MX7_isClaim.1 MX7_isClaim.1 ∈ tw := ⟨t437, t360, t438, t439, t440⟩
theorem cwX7_184 : Cond.code MX7_late.1 MX7_late.2.1 MX7_late.2.2.1 MX7_late.2.2.2.1 ∈ tw ∧ Cond.initialized MX7_late.1.cls ∈ tw ∧ Cond.methodLink RX7 184 MX7_late.1 ∈ tw ∧ Cond.static MX7_late.1 ∈ tw := ⟨t442, t360, t441, t443⟩
theorem cwX7_188 : Cond.code MX7_barred.1 MX7_barred.2.1 MX7_barred.2.2.1 MX7_barred.2.2.2.1 ∈ tw ∧ Cond.initialized MX7_barred.1.cls ∈ tw ∧ Cond.methodLink RX7 188 MX7_barred.1 ∈ tw ∧ Cond.instanceMethod MX7_barred.1 ∈ tw ∧ Cond.selects MX7_barred.1.cls MX7_barred.1 MX7_barred.1 ∈ tw := ⟨t444, t360, t445, t446, t447⟩
theorem cwX7_192 : Cond.code MX7_firstBar.1 MX7_firstBar.2.1 MX7_firstBar.2.2.1 MX7_firstBar.2.2.2.1 ∈ tw ∧ Cond.initialized MX7_firstBar.1.cls ∈ tw ∧ Cond.methodLink RX7 192 MX7_firstBar.1 ∈ tw ∧ Cond.instanceMethod MX7_firstBar.1 ∈ tw ∧ Cond.selects MX7_firstBar.1.cls MX7_firstBar.1 MX7_firstBar.1 ∈ tw := ⟨t448, t360, t449, t450, t451⟩
theorem cwX7_198 : Cond.code MX7_judged.1 MX7_judged.2.1 MX7_judged.2.2.1 MX7_judged.2.2.2.1 ∈ tw ∧ Cond.initialized MX7_judged.1.cls ∈ tw ∧ Cond.methodLink RX7 198 MX7_judged.1 ∈ tw ∧ Cond.instanceMethod MX7_judged.1 ∈ tw ∧ Cond.selects MX7_judged.1.cls MX7_judged.1 MX7_judged.1 ∈ tw := ⟨t452, t360, t453, t454, t455⟩
theorem cwX7_195 : Cond.code MX7_isJudgeable.1 MX7_isJudgeable.2.1 MX7_isJudgeable.2.2.1 MX7_isJudgeable.2.2.2.1 ∈ tw ∧ Cond.initialized MX7_isJudgeable.1.cls ∈ tw ∧ Cond.methodLink RX7 195 MX7_isJudgeable.1 ∈ tw ∧ Cond.instanceMethod MX7_isJudgeable.1 ∈ tw ∧ Cond.selects MX7_isJudgeable.1.cls MX7_isJudgeable.1 MX7_isJudgeable.1 ∈ tw := ⟨t456, t360, t457, t458, t459⟩
theorem cwX7_202 : Cond.code MX7_bound.1 MX7_bound.2.1 MX7_bound.2.2.1 MX7_bound.2.2.2.1 ∈ tw ∧ Cond.initialized MX7_bound.1.cls ∈ tw ∧ Cond.methodLink RX7 202 MX7_bound.1 ∈ tw ∧ Cond.instanceMethod MX7_bound.1 ∈ tw ∧ Cond.selects MX7_bound.1.cls MX7_bound.1 MX7_bound.1 ∈ tw := ⟨t460, t360, t461, t462, t463⟩
theorem cwX7_205 : Cond.code MX7_worthOf.1 MX7_worthOf.2.1 MX7_worthOf.2.2.1 MX7_worthOf.2.2.2.1 ∈ tw ∧ Cond.initialized MX7_worthOf.1.cls ∈ tw ∧ Cond.methodLink RX7 205 MX7_worthOf.1 ∈ tw ∧ Cond.instanceMethod MX7_worthOf.1 ∈ tw ∧ Cond.selects MX7_worthOf.1.cls MX7_worthOf.1 MX7_worthOf.1 ∈ tw := ⟨t464, t360, t465, t466, t467⟩
theorem cwX7_208 : Cond.code MX7_rankOf.1 MX7_rankOf.2.1 MX7_rankOf.2.2.1 MX7_rankOf.2.2.2.1 ∈ tw ∧ Cond.initialized MX7_rankOf.1.cls ∈ tw ∧ Cond.methodLink RX7 208 MX7_rankOf.1 ∈ tw ∧ Cond.instanceMethod MX7_rankOf.1 ∈ tw ∧ Cond.selects MX7_rankOf.1.cls MX7_rankOf.1 MX7_rankOf.1 ∈ tw := ⟨t468, t360, t469, t470, t471⟩
theorem cwX7_218 : Cond.code MX7_nextRank.1 MX7_nextRank.2.1 MX7_nextRank.2.2.1 MX7_nextRank.2.2.2.1 ∈ tw ∧ Cond.initialized MX7_nextRank.1.cls ∈ tw ∧ Cond.methodLink RX7 218 MX7_nextRank.1 ∈ tw ∧ Cond.instanceMethod MX7_nextRank.1 ∈ tw ∧ Cond.selects MX7_nextRank.1.cls MX7_nextRank.1 MX7_nextRank.1 ∈ tw := ⟨t479, t360, t480, t481, t482⟩
theorem cwX7_214 : Cond.code MX7_lines.1 MX7_lines.2.1 MX7_lines.2.2.1 MX7_lines.2.2.2.1 ∈ tw ∧ Cond.initialized MX7_lines.1.cls ∈ tw ∧ Cond.methodLink RX7 214 MX7_lines.1 ∈ tw ∧ Cond.instanceMethod MX7_lines.1 ∈ tw ∧ Cond.selects MX7_lines.1.cls MX7_lines.1 MX7_lines.1 ∈ tw := ⟨t483, t360, t484, t485, t486⟩
theorem cwX7_225 : Cond.code MX7_sell.1 MX7_sell.2.1 MX7_sell.2.2.1 MX7_sell.2.2.2.1 ∈ tw ∧ Cond.initialized MX7_sell.1.cls ∈ tw ∧ Cond.methodLink RX7 225 MX7_sell.1 ∈ tw ∧ Cond.instanceMethod MX7_sell.1 ∈ tw ∧ Cond.selects MX7_sell.1.cls MX7_sell.1 MX7_sell.1 ∈ tw := ⟨t489, t360, t490, t491, t492⟩
theorem cwX7_229 : Cond.code MX7_isBelow.1 MX7_isBelow.2.1 MX7_isBelow.2.2.1 MX7_isBelow.2.2.2.1 ∈ tw ∧ Cond.initialized MX7_isBelow.1.cls ∈ tw ∧ Cond.methodLink RX7 229 MX7_isBelow.1 ∈ tw ∧ Cond.instanceMethod MX7_isBelow.1 ∈ tw ∧ Cond.selects MX7_isBelow.1.cls MX7_isBelow.1 MX7_isBelow.1 ∈ tw := ⟨t493, t360, t494, t495, t496⟩
theorem cwX7_232 : Cond.code MX7_bits.1 MX7_bits.2.1 MX7_bits.2.2.1 MX7_bits.2.2.2.1 ∈ tw ∧ Cond.initialized MX7_bits.1.cls ∈ tw ∧ Cond.methodLink RX7 232 MX7_bits.1 ∈ tw ∧ Cond.static MX7_bits.1 ∈ tw := ⟨t499, t360, t498, t500⟩
theorem cwX7_235 : Cond.code MX7_isBuilder.1 MX7_isBuilder.2.1 MX7_isBuilder.2.2.1 MX7_isBuilder.2.2.2.1 ∈ tw ∧ Cond.initialized MX7_isBuilder.1.cls ∈ tw ∧ Cond.methodLink RX7 235 MX7_isBuilder.1 ∈ tw ∧ Cond.instanceMethod MX7_isBuilder.1 ∈ tw ∧ Cond.selects MX7_isBuilder.1.cls MX7_isBuilder.1 MX7_isBuilder.1 ∈ tw := ⟨t507, t360, t508, t509, t510⟩
theorem cwX7_247 : Cond.code MX7_account.1 MX7_account.2.1 MX7_account.2.2.1 MX7_account.2.2.2.1 ∈ tw ∧ Cond.initialized MX7_account.1.cls ∈ tw ∧ Cond.methodLink RX7 247 MX7_account.1 ∈ tw ∧ Cond.instanceMethod MX7_account.1 ∈ tw ∧ Cond.selects MX7_account.1.cls MX7_account.1 MX7_account.1 ∈ tw := ⟨t514, t360, t515, t516, t517⟩
theorem cwX7_250 : Cond.code MX7_goes.1 MX7_goes.2.1 MX7_goes.2.2.1 MX7_goes.2.2.2.1 ∈ tw ∧ Cond.initialized MX7_goes.1.cls ∈ tw ∧ Cond.methodLink RX7 250 MX7_goes.1 ∈ tw ∧ Cond.instanceMethod MX7_goes.1 ∈ tw ∧ Cond.selects MX7_goes.1.cls MX7_goes.1 MX7_goes.1 ∈ tw := ⟨t519, t360, t520, t521, t522⟩
theorem cwX7_254 : Cond.code MX7_traces.1 MX7_traces.2.1 MX7_traces.2.2.1 MX7_traces.2.2.2.1 ∈ tw ∧ Cond.initialized MX7_traces.1.cls ∈ tw ∧ Cond.methodLink RX7 254 MX7_traces.1 ∈ tw ∧ Cond.instanceMethod MX7_traces.1 ∈ tw ∧ Cond.selects MX7_traces.1.cls MX7_traces.1 MX7_traces.1 ∈ tw := ⟨t523, t360, t524, t525, t526⟩
theorem cwL_17 : Cond.code MX7_party.1 MX7_party.2.1 MX7_party.2.2.1 MX7_party.2.2.2.1 ∈ tw ∧ Cond.initialized MX7_party.1.cls ∈ tw ∧ Cond.methodLink RL 17 MX7_party.1 ∈ tw ∧ Cond.instanceMethod MX7_party.1 ∈ tw ∧ Cond.selects MX7_party.1.cls MX7_party.1 MX7_party.1 ∈ tw := ⟨t529, t360, t530, t531, t532⟩
theorem cwL_13 : Cond.code MX6_party.1 MX6_party.2.1 MX6_party.2.2.1 MX6_party.2.2.2.1 ∈ tw ∧ Cond.initialized MX6_party.1.cls ∈ tw ∧ Cond.methodLink RL 13 MX6_party.1 ∈ tw ∧ Cond.instanceMethod MX6_party.1 ∈ tw ∧ Cond.selects MX6_party.1.cls MX6_party.1 MX6_party.1 ∈ tw := ⟨t533, t20, t534, t535, t536⟩
theorem cwL_22 : Cond.code MX7_as.1 MX7_as.2.1 MX7_as.2.2.1 MX7_as.2.2.2.1 ∈ tw ∧ Cond.initialized MX7_as.1.cls ∈ tw ∧ Cond.methodLink RL 22 MX7_as.1 ∈ tw ∧ Cond.instanceMethod MX7_as.1 ∈ tw ∧ Cond.selects MX7_as.1.cls MX7_as.1 MX7_as.1 ∈ tw := ⟨t537, t360, t538, t539, t540⟩
theorem cwL_18 : Cond.code MX6_as.1 MX6_as.2.1 MX6_as.2.2.1 MX6_as.2.2.2.1 ∈ tw ∧ Cond.initialized MX6_as.1.cls ∈ tw ∧ Cond.methodLink RL 18 MX6_as.1 ∈ tw ∧ Cond.instanceMethod MX6_as.1 ∈ tw ∧ Cond.selects MX6_as.1.cls MX6_as.1 MX6_as.1 ∈ tw := ⟨t541, t20, t542, t543, t544⟩
theorem cwL_27 : Cond.code MX7_contract.1 MX7_contract.2.1 MX7_contract.2.2.1 MX7_contract.2.2.2.1 ∈ tw ∧ Cond.initialized MX7_contract.1.cls ∈ tw ∧ Cond.methodLink RL 27 MX7_contract.1 ∈ tw ∧ Cond.instanceMethod MX7_contract.1 ∈ tw ∧ Cond.selects MX7_contract.1.cls MX7_contract.1 MX7_contract.1 ∈ tw := ⟨t545, t360, t546, t547, t548⟩
theorem cwL_23 : Cond.code MX6_contract.1 MX6_contract.2.1 MX6_contract.2.2.1 MX6_contract.2.2.2.1 ∈ tw ∧ Cond.initialized MX6_contract.1.cls ∈ tw ∧ Cond.methodLink RL 23 MX6_contract.1 ∈ tw ∧ Cond.instanceMethod MX6_contract.1 ∈ tw ∧ Cond.selects MX6_contract.1.cls MX6_contract.1 MX6_contract.1 ∈ tw := ⟨t549, t20, t550, t551, t552⟩
theorem cwL_31 : Cond.code MX7_extra.1 MX7_extra.2.1 MX7_extra.2.2.1 MX7_extra.2.2.2.1 ∈ tw ∧ Cond.initialized MX7_extra.1.cls ∈ tw ∧ Cond.methodLink RL 31 MX7_extra.1 ∈ tw ∧ Cond.instanceMethod MX7_extra.1 ∈ tw ∧ Cond.selects MX7_extra.1.cls MX7_extra.1 MX7_extra.1 ∈ tw := ⟨t553, t360, t554, t555, t556⟩
theorem cwL_28 : Cond.code MX6_extra.1 MX6_extra.2.1 MX6_extra.2.2.1 MX6_extra.2.2.2.1 ∈ tw ∧ Cond.initialized MX6_extra.1.cls ∈ tw ∧ Cond.methodLink RL 28 MX6_extra.1 ∈ tw ∧ Cond.instanceMethod MX6_extra.1 ∈ tw ∧ Cond.selects MX6_extra.1.cls MX6_extra.1 MX6_extra.1 ∈ tw := ⟨t557, t20, t558, t559, t560⟩
theorem cwL_35 : Cond.code MX7_began.1 MX7_began.2.1 MX7_began.2.2.1 MX7_began.2.2.2.1 ∈ tw ∧ Cond.initialized MX7_began.1.cls ∈ tw ∧ Cond.methodLink RL 35 MX7_began.1 ∈ tw ∧ Cond.instanceMethod MX7_began.1 ∈ tw ∧ Cond.selects MX7_began.1.cls MX7_began.1 MX7_began.1 ∈ tw := ⟨t561, t360, t562, t563, t564⟩
theorem cwL_32 : Cond.code MX6_began.1 MX6_began.2.1 MX6_began.2.2.1 MX6_began.2.2.2.1 ∈ tw ∧ Cond.initialized MX6_began.1.cls ∈ tw ∧ Cond.methodLink RL 32 MX6_began.1 ∈ tw ∧ Cond.instanceMethod MX6_began.1 ∈ tw ∧ Cond.selects MX6_began.1.cls MX6_began.1 MX6_began.1 ∈ tw := ⟨t565, t20, t566, t567, t568⟩
theorem cwL_39 : Cond.code MX7_ended.1 MX7_ended.2.1 MX7_ended.2.2.1 MX7_ended.2.2.2.1 ∈ tw ∧ Cond.initialized MX7_ended.1.cls ∈ tw ∧ Cond.methodLink RL 39 MX7_ended.1 ∈ tw ∧ Cond.instanceMethod MX7_ended.1 ∈ tw ∧ Cond.selects MX7_ended.1.cls MX7_ended.1 MX7_ended.1 ∈ tw := ⟨t569, t360, t570, t571, t572⟩
theorem cwL_36 : Cond.code MX6_ended.1 MX6_ended.2.1 MX6_ended.2.2.1 MX6_ended.2.2.2.1 ∈ tw ∧ Cond.initialized MX6_ended.1.cls ∈ tw ∧ Cond.methodLink RL 36 MX6_ended.1 ∈ tw ∧ Cond.instanceMethod MX6_ended.1 ∈ tw ∧ Cond.selects MX6_ended.1.cls MX6_ended.1 MX6_ended.1 ∈ tw := ⟨t573, t20, t574, t575, t576⟩
theorem cwL_43 : Cond.code MX7_notice.1 MX7_notice.2.1 MX7_notice.2.2.1 MX7_notice.2.2.2.1 ∈ tw ∧ Cond.initialized MX7_notice.1.cls ∈ tw ∧ Cond.methodLink RL 43 MX7_notice.1 ∈ tw ∧ Cond.instanceMethod MX7_notice.1 ∈ tw ∧ Cond.selects MX7_notice.1.cls MX7_notice.1 MX7_notice.1 ∈ tw := ⟨t577, t360, t578, t579, t580⟩
theorem cwL_40 : Cond.code MX6_notice.1 MX6_notice.2.1 MX6_notice.2.2.1 MX6_notice.2.2.2.1 ∈ tw ∧ Cond.initialized MX6_notice.1.cls ∈ tw ∧ Cond.methodLink RL 40 MX6_notice.1 ∈ tw ∧ Cond.instanceMethod MX6_notice.1 ∈ tw ∧ Cond.selects MX6_notice.1.cls MX6_notice.1 MX6_notice.1 ∈ tw := ⟨t581, t20, t582, t583, t584⟩
theorem cwL_47 : Cond.code MX7_pay.1 MX7_pay.2.1 MX7_pay.2.2.1 MX7_pay.2.2.2.1 ∈ tw ∧ Cond.initialized MX7_pay.1.cls ∈ tw ∧ Cond.methodLink RL 47 MX7_pay.1 ∈ tw ∧ Cond.instanceMethod MX7_pay.1 ∈ tw ∧ Cond.selects MX7_pay.1.cls MX7_pay.1 MX7_pay.1 ∈ tw := ⟨t585, t360, t586, t587, t588⟩
theorem cwL_44 : Cond.code MX6_pay.1 MX6_pay.2.1 MX6_pay.2.2.1 MX6_pay.2.2.2.1 ∈ tw ∧ Cond.initialized MX6_pay.1.cls ∈ tw ∧ Cond.methodLink RL 44 MX6_pay.1 ∈ tw ∧ Cond.instanceMethod MX6_pay.1 ∈ tw ∧ Cond.selects MX6_pay.1.cls MX6_pay.1 MX6_pay.1 ∈ tw := ⟨t589, t20, t590, t591, t592⟩
theorem cwL_51 : Cond.code MX7_waive.1 MX7_waive.2.1 MX7_waive.2.2.1 MX7_waive.2.2.2.1 ∈ tw ∧ Cond.initialized MX7_waive.1.cls ∈ tw ∧ Cond.methodLink RL 51 MX7_waive.1 ∈ tw ∧ Cond.instanceMethod MX7_waive.1 ∈ tw ∧ Cond.selects MX7_waive.1.cls MX7_waive.1 MX7_waive.1 ∈ tw := ⟨t593, t360, t594, t595, t596⟩
theorem cwL_48 : Cond.code MX6_waive.1 MX6_waive.2.1 MX6_waive.2.2.1 MX6_waive.2.2.2.1 ∈ tw ∧ Cond.initialized MX6_waive.1.cls ∈ tw ∧ Cond.methodLink RL 48 MX6_waive.1 ∈ tw ∧ Cond.instanceMethod MX6_waive.1 ∈ tw ∧ Cond.selects MX6_waive.1.cls MX6_waive.1 MX6_waive.1 ∈ tw := ⟨t597, t20, t598, t599, t600⟩
theorem cwL_55 : Cond.code MX7_of.1 MX7_of.2.1 MX7_of.2.2.1 MX7_of.2.2.2.1 ∈ tw ∧ Cond.initialized MX7_of.1.cls ∈ tw ∧ Cond.methodLink RL 55 MX7_of.1 ∈ tw ∧ Cond.instanceMethod MX7_of.1 ∈ tw ∧ Cond.selects MX7_of.1.cls MX7_of.1 MX7_of.1 ∈ tw := ⟨t601, t360, t602, t603, t604⟩
theorem cwL_52 : Cond.code MX6_of.1 MX6_of.2.1 MX6_of.2.2.1 MX6_of.2.2.2.1 ∈ tw ∧ Cond.initialized MX6_of.1.cls ∈ tw ∧ Cond.methodLink RL 52 MX6_of.1 ∈ tw ∧ Cond.instanceMethod MX6_of.1 ∈ tw ∧ Cond.selects MX6_of.1.cls MX6_of.1 MX6_of.1 ∈ tw := ⟨t605, t20, t606, t607, t608⟩
theorem cwL_59 : Cond.code MX7_day.1 MX7_day.2.1 MX7_day.2.2.1 MX7_day.2.2.2.1 ∈ tw ∧ Cond.initialized MX7_day.1.cls ∈ tw ∧ Cond.methodLink RL 59 MX7_day.1 ∈ tw ∧ Cond.instanceMethod MX7_day.1 ∈ tw ∧ Cond.selects MX7_day.1.cls MX7_day.1 MX7_day.1 ∈ tw := ⟨t609, t360, t610, t611, t612⟩
theorem cwL_56 : Cond.code MX6_day.1 MX6_day.2.1 MX6_day.2.2.1 MX6_day.2.2.2.1 ∈ tw ∧ Cond.initialized MX6_day.1.cls ∈ tw ∧ Cond.methodLink RL 56 MX6_day.1 ∈ tw ∧ Cond.instanceMethod MX6_day.1 ∈ tw ∧ Cond.selects MX6_day.1.cls MX6_day.1 MX6_day.1 ∈ tw := ⟨t613, t20, t614, t615, t616⟩
theorem cwL_63 : Cond.code MX7_law.1 MX7_law.2.1 MX7_law.2.2.1 MX7_law.2.2.2.1 ∈ tw ∧ Cond.initialized MX7_law.1.cls ∈ tw ∧ Cond.methodLink RL 63 MX7_law.1 ∈ tw ∧ Cond.instanceMethod MX7_law.1 ∈ tw ∧ Cond.selects MX7_law.1.cls MX7_law.1 MX7_law.1 ∈ tw := ⟨t617, t360, t618, t619, t620⟩
theorem cwL_60 : Cond.code MX6_law.1 MX6_law.2.1 MX6_law.2.2.1 MX6_law.2.2.2.1 ∈ tw ∧ Cond.initialized MX6_law.1.cls ∈ tw ∧ Cond.methodLink RL 60 MX6_law.1 ∈ tw ∧ Cond.instanceMethod MX6_law.1 ∈ tw ∧ Cond.selects MX6_law.1.cls MX6_law.1 MX6_law.1 ∈ tw := ⟨t621, t20, t622, t623, t624⟩
theorem cwL_67 : Cond.code MX7_file.1 MX7_file.2.1 MX7_file.2.2.1 MX7_file.2.2.2.1 ∈ tw ∧ Cond.initialized MX7_file.1.cls ∈ tw ∧ Cond.methodLink RL 67 MX7_file.1 ∈ tw ∧ Cond.instanceMethod MX7_file.1 ∈ tw ∧ Cond.selects MX7_file.1.cls MX7_file.1 MX7_file.1 ∈ tw := ⟨t625, t360, t626, t627, t628⟩
theorem cwL_64 : Cond.code MX6_file.1 MX6_file.2.1 MX6_file.2.2.1 MX6_file.2.2.2.1 ∈ tw ∧ Cond.initialized MX6_file.1.cls ∈ tw ∧ Cond.methodLink RL 64 MX6_file.1 ∈ tw ∧ Cond.instanceMethod MX6_file.1 ∈ tw ∧ Cond.selects MX6_file.1.cls MX6_file.1 MX6_file.1 ∈ tw := ⟨t629, t20, t630, t631, t632⟩
theorem cwL_71 : Cond.code MX7_sue.1 MX7_sue.2.1 MX7_sue.2.2.1 MX7_sue.2.2.2.1 ∈ tw ∧ Cond.initialized MX7_sue.1.cls ∈ tw ∧ Cond.methodLink RL 71 MX7_sue.1 ∈ tw ∧ Cond.instanceMethod MX7_sue.1 ∈ tw ∧ Cond.selects MX7_sue.1.cls MX7_sue.1 MX7_sue.1 ∈ tw := ⟨t633, t360, t634, t635, t636⟩
theorem cwL_68 : Cond.code MX6_sue.1 MX6_sue.2.1 MX6_sue.2.2.1 MX6_sue.2.2.2.1 ∈ tw ∧ Cond.initialized MX6_sue.1.cls ∈ tw ∧ Cond.methodLink RL 68 MX6_sue.1 ∈ tw ∧ Cond.instanceMethod MX6_sue.1 ∈ tw ∧ Cond.selects MX6_sue.1.cls MX6_sue.1 MX6_sue.1 ∈ tw := ⟨t637, t20, t638, t639, t640⟩
theorem cwL_75 : Cond.code MX7_bond.1 MX7_bond.2.1 MX7_bond.2.2.1 MX7_bond.2.2.2.1 ∈ tw ∧ Cond.initialized MX7_bond.1.cls ∈ tw ∧ Cond.methodLink RL 75 MX7_bond.1 ∈ tw ∧ Cond.instanceMethod MX7_bond.1 ∈ tw ∧ Cond.selects MX7_bond.1.cls MX7_bond.1 MX7_bond.1 ∈ tw := ⟨t641, t360, t642, t643, t644⟩
theorem cwL_72 : Cond.code MX6_bond.1 MX6_bond.2.1 MX6_bond.2.2.1 MX6_bond.2.2.2.1 ∈ tw ∧ Cond.initialized MX6_bond.1.cls ∈ tw ∧ Cond.methodLink RL 72 MX6_bond.1 ∈ tw ∧ Cond.instanceMethod MX6_bond.1 ∈ tw ∧ Cond.selects MX6_bond.1.cls MX6_bond.1 MX6_bond.1 ∈ tw := ⟨t645, t20, t646, t647, t648⟩
theorem cwL_79 : Cond.code MX7_judge.1 MX7_judge.2.1 MX7_judge.2.2.1 MX7_judge.2.2.2.1 ∈ tw ∧ Cond.initialized MX7_judge.1.cls ∈ tw ∧ Cond.methodLink RL 79 MX7_judge.1 ∈ tw ∧ Cond.instanceMethod MX7_judge.1 ∈ tw ∧ Cond.selects MX7_judge.1.cls MX7_judge.1 MX7_judge.1 ∈ tw := ⟨t649, t360, t650, t651, t652⟩
theorem cwL_76 : Cond.code MX6_judge.1 MX6_judge.2.1 MX6_judge.2.2.1 MX6_judge.2.2.2.1 ∈ tw ∧ Cond.initialized MX6_judge.1.cls ∈ tw ∧ Cond.methodLink RL 76 MX6_judge.1 ∈ tw ∧ Cond.instanceMethod MX6_judge.1 ∈ tw ∧ Cond.selects MX6_judge.1.cls MX6_judge.1 MX6_judge.1 ∈ tw := ⟨t653, t20, t654, t655, t656⟩
theorem cwL_83 : Cond.code MX7_bar.1 MX7_bar.2.1 MX7_bar.2.2.1 MX7_bar.2.2.2.1 ∈ tw ∧ Cond.initialized MX7_bar.1.cls ∈ tw ∧ Cond.methodLink RL 83 MX7_bar.1 ∈ tw ∧ Cond.instanceMethod MX7_bar.1 ∈ tw ∧ Cond.selects MX7_bar.1.cls MX7_bar.1 MX7_bar.1 ∈ tw := ⟨t657, t360, t658, t659, t660⟩
theorem cwL_80 : Cond.code MX6_bar.1 MX6_bar.2.1 MX6_bar.2.2.1 MX6_bar.2.2.2.1 ∈ tw ∧ Cond.initialized MX6_bar.1.cls ∈ tw ∧ Cond.methodLink RL 80 MX6_bar.1 ∈ tw ∧ Cond.instanceMethod MX6_bar.1 ∈ tw ∧ Cond.selects MX6_bar.1.cls MX6_bar.1 MX6_bar.1 ∈ tw := ⟨t661, t20, t662, t663, t664⟩
theorem cwL_87 : Cond.code MX7_worth.1 MX7_worth.2.1 MX7_worth.2.2.1 MX7_worth.2.2.2.1 ∈ tw ∧ Cond.initialized MX7_worth.1.cls ∈ tw ∧ Cond.methodLink RL 87 MX7_worth.1 ∈ tw ∧ Cond.instanceMethod MX7_worth.1 ∈ tw ∧ Cond.selects MX7_worth.1.cls MX7_worth.1 MX7_worth.1 ∈ tw := ⟨t665, t360, t666, t667, t668⟩
theorem cwL_84 : Cond.code MX6_worth.1 MX6_worth.2.1 MX6_worth.2.2.1 MX6_worth.2.2.2.1 ∈ tw ∧ Cond.initialized MX6_worth.1.cls ∈ tw ∧ Cond.methodLink RL 84 MX6_worth.1 ∈ tw ∧ Cond.instanceMethod MX6_worth.1 ∈ tw ∧ Cond.selects MX6_worth.1.cls MX6_worth.1 MX6_worth.1 ∈ tw := ⟨t669, t20, t670, t671, t672⟩
theorem cwL_91 : Cond.code MX7_rank.1 MX7_rank.2.1 MX7_rank.2.2.1 MX7_rank.2.2.2.1 ∈ tw ∧ Cond.initialized MX7_rank.1.cls ∈ tw ∧ Cond.methodLink RL 91 MX7_rank.1 ∈ tw ∧ Cond.instanceMethod MX7_rank.1 ∈ tw ∧ Cond.selects MX7_rank.1.cls MX7_rank.1 MX7_rank.1 ∈ tw := ⟨t673, t360, t674, t675, t676⟩
theorem cwL_88 : Cond.code MX6_rank.1 MX6_rank.2.1 MX6_rank.2.2.1 MX6_rank.2.2.2.1 ∈ tw ∧ Cond.initialized MX6_rank.1.cls ∈ tw ∧ Cond.methodLink RL 88 MX6_rank.1 ∈ tw ∧ Cond.instanceMethod MX6_rank.1 ∈ tw ∧ Cond.selects MX6_rank.1.cls MX6_rank.1 MX6_rank.1 ∈ tw := ⟨t677, t20, t678, t679, t680⟩
theorem cwL_95 : Cond.code MX7_loan.1 MX7_loan.2.1 MX7_loan.2.2.1 MX7_loan.2.2.2.1 ∈ tw ∧ Cond.initialized MX7_loan.1.cls ∈ tw ∧ Cond.methodLink RL 95 MX7_loan.1 ∈ tw ∧ Cond.instanceMethod MX7_loan.1 ∈ tw ∧ Cond.selects MX7_loan.1.cls MX7_loan.1 MX7_loan.1 ∈ tw := ⟨t681, t360, t682, t683, t684⟩
theorem cwL_92 : Cond.code MX6_loan.1 MX6_loan.2.1 MX6_loan.2.2.1 MX6_loan.2.2.2.1 ∈ tw ∧ Cond.initialized MX6_loan.1.cls ∈ tw ∧ Cond.methodLink RL 92 MX6_loan.1 ∈ tw ∧ Cond.instanceMethod MX6_loan.1 ∈ tw ∧ Cond.selects MX6_loan.1.cls MX6_loan.1 MX6_loan.1 ∈ tw := ⟨t685, t20, t686, t687, t688⟩
theorem cwL_100 : Cond.code MX7_sale.1 MX7_sale.2.1 MX7_sale.2.2.1 MX7_sale.2.2.2.1 ∈ tw ∧ Cond.initialized MX7_sale.1.cls ∈ tw ∧ Cond.methodLink RL 100 MX7_sale.1 ∈ tw ∧ Cond.instanceMethod MX7_sale.1 ∈ tw ∧ Cond.selects MX7_sale.1.cls MX7_sale.1 MX7_sale.1 ∈ tw := ⟨t689, t360, t690, t691, t692⟩
theorem cwL_96 : Cond.code MX6_sale.1 MX6_sale.2.1 MX6_sale.2.2.1 MX6_sale.2.2.2.1 ∈ tw ∧ Cond.initialized MX6_sale.1.cls ∈ tw ∧ Cond.methodLink RL 96 MX6_sale.1 ∈ tw ∧ Cond.instanceMethod MX6_sale.1 ∈ tw ∧ Cond.selects MX6_sale.1.cls MX6_sale.1 MX6_sale.1 ∈ tw := ⟨t693, t20, t694, t695, t696⟩
theorem cwL_104 : Cond.code MX7_twice.1 MX7_twice.2.1 MX7_twice.2.2.1 MX7_twice.2.2.2.1 ∈ tw ∧ Cond.initialized MX7_twice.1.cls ∈ tw ∧ Cond.methodLink RL 104 MX7_twice.1 ∈ tw ∧ Cond.instanceMethod MX7_twice.1 ∈ tw ∧ Cond.selects MX7_twice.1.cls MX7_twice.1 MX7_twice.1 ∈ tw := ⟨t697, t360, t698, t699, t700⟩
theorem cwL_101 : Cond.code MX6_twice.1 MX6_twice.2.1 MX6_twice.2.2.1 MX6_twice.2.2.2.1 ∈ tw ∧ Cond.initialized MX6_twice.1.cls ∈ tw ∧ Cond.methodLink RL 101 MX6_twice.1 ∈ tw ∧ Cond.instanceMethod MX6_twice.1 ∈ tw ∧ Cond.selects MX6_twice.1.cls MX6_twice.1 MX6_twice.1 ∈ tw := ⟨t701, t20, t702, t703, t704⟩
theorem cwL_108 : Cond.code MX7_sign.1 MX7_sign.2.1 MX7_sign.2.2.1 MX7_sign.2.2.2.1 ∈ tw ∧ Cond.initialized MX7_sign.1.cls ∈ tw ∧ Cond.methodLink RL 108 MX7_sign.1 ∈ tw ∧ Cond.instanceMethod MX7_sign.1 ∈ tw ∧ Cond.selects MX7_sign.1.cls MX7_sign.1 MX7_sign.1 ∈ tw := ⟨t705, t360, t706, t707, t708⟩
theorem cwL_105 : Cond.code MX6_sign.1 MX6_sign.2.1 MX6_sign.2.2.1 MX6_sign.2.2.2.1 ∈ tw ∧ Cond.initialized MX6_sign.1.cls ∈ tw ∧ Cond.methodLink RL 105 MX6_sign.1 ∈ tw ∧ Cond.instanceMethod MX6_sign.1 ∈ tw ∧ Cond.selects MX6_sign.1.cls MX6_sign.1 MX6_sign.1 ∈ tw := ⟨t709, t20, t710, t711, t712⟩
theorem cwL_112 : Cond.code MX7_in.1 MX7_in.2.1 MX7_in.2.2.1 MX7_in.2.2.2.1 ∈ tw ∧ Cond.initialized MX7_in.1.cls ∈ tw ∧ Cond.methodLink RL 112 MX7_in.1 ∈ tw ∧ Cond.instanceMethod MX7_in.1 ∈ tw ∧ Cond.selects MX7_in.1.cls MX7_in.1 MX7_in.1 ∈ tw := ⟨t713, t360, t714, t715, t716⟩
theorem cwL_109 : Cond.code MX6_in.1 MX6_in.2.1 MX6_in.2.2.1 MX6_in.2.2.2.1 ∈ tw ∧ Cond.initialized MX6_in.1.cls ∈ tw ∧ Cond.methodLink RL 109 MX6_in.1 ∈ tw ∧ Cond.instanceMethod MX6_in.1 ∈ tw ∧ Cond.selects MX6_in.1.cls MX6_in.1 MX6_in.1 ∈ tw := ⟨t717, t20, t718, t719, t720⟩
theorem cwL_116 : Cond.code MX7_out.1 MX7_out.2.1 MX7_out.2.2.1 MX7_out.2.2.2.1 ∈ tw ∧ Cond.initialized MX7_out.1.cls ∈ tw ∧ Cond.methodLink RL 116 MX7_out.1 ∈ tw ∧ Cond.instanceMethod MX7_out.1 ∈ tw ∧ Cond.selects MX7_out.1.cls MX7_out.1 MX7_out.1 ∈ tw := ⟨t721, t360, t722, t723, t724⟩
theorem cwL_113 : Cond.code MX6_out.1 MX6_out.2.1 MX6_out.2.2.1 MX6_out.2.2.2.1 ∈ tw ∧ Cond.initialized MX6_out.1.cls ∈ tw ∧ Cond.methodLink RL 113 MX6_out.1 ∈ tw ∧ Cond.instanceMethod MX6_out.1 ∈ tw ∧ Cond.selects MX6_out.1.cls MX6_out.1 MX6_out.1 ∈ tw := ⟨t725, t20, t726, t727, t728⟩
theorem cwL_120 : Cond.code MX7_trace.1 MX7_trace.2.1 MX7_trace.2.2.1 MX7_trace.2.2.2.1 ∈ tw ∧ Cond.initialized MX7_trace.1.cls ∈ tw ∧ Cond.methodLink RL 120 MX7_trace.1 ∈ tw ∧ Cond.instanceMethod MX7_trace.1 ∈ tw ∧ Cond.selects MX7_trace.1.cls MX7_trace.1 MX7_trace.1 ∈ tw := ⟨t729, t360, t730, t731, t732⟩
theorem cwL_117 : Cond.code MX6_trace.1 MX6_trace.2.1 MX6_trace.2.2.1 MX6_trace.2.2.2.1 ∈ tw ∧ Cond.initialized MX6_trace.1.cls ∈ tw ∧ Cond.methodLink RL 117 MX6_trace.1 ∈ tw ∧ Cond.instanceMethod MX6_trace.1 ∈ tw ∧ Cond.selects MX6_trace.1.cls MX6_trace.1 MX6_trace.1 ∈ tw := ⟨t733, t20, t734, t735, t736⟩
theorem cwL_124 : Cond.code MX7_held.1 MX7_held.2.1 MX7_held.2.2.1 MX7_held.2.2.2.1 ∈ tw ∧ Cond.initialized MX7_held.1.cls ∈ tw ∧ Cond.methodLink RL 124 MX7_held.1 ∈ tw ∧ Cond.instanceMethod MX7_held.1 ∈ tw ∧ Cond.selects MX7_held.1.cls MX7_held.1 MX7_held.1 ∈ tw := ⟨t737, t360, t738, t739, t740⟩
theorem cwL_121 : Cond.code MX6_held.1 MX6_held.2.1 MX6_held.2.2.1 MX6_held.2.2.2.1 ∈ tw ∧ Cond.initialized MX6_held.1.cls ∈ tw ∧ Cond.methodLink RL 121 MX6_held.1 ∈ tw ∧ Cond.instanceMethod MX6_held.1 ∈ tw ∧ Cond.selects MX6_held.1.cls MX6_held.1 MX6_held.1 ∈ tw := ⟨t741, t20, t742, t743, t744⟩
theorem cwL_128 : Cond.code MX7_tell.1 MX7_tell.2.1 MX7_tell.2.2.1 MX7_tell.2.2.2.1 ∈ tw ∧ Cond.initialized MX7_tell.1.cls ∈ tw ∧ Cond.methodLink RL 128 MX7_tell.1 ∈ tw ∧ Cond.instanceMethod MX7_tell.1 ∈ tw ∧ Cond.selects MX7_tell.1.cls MX7_tell.1 MX7_tell.1 ∈ tw := ⟨t745, t360, t746, t747, t748⟩
theorem cwL_125 : Cond.code MX6_tell.1 MX6_tell.2.1 MX6_tell.2.2.1 MX6_tell.2.2.2.1 ∈ tw ∧ Cond.initialized MX6_tell.1.cls ∈ tw ∧ Cond.methodLink RL 125 MX6_tell.1 ∈ tw ∧ Cond.instanceMethod MX6_tell.1 ∈ tw ∧ Cond.selects MX6_tell.1.cls MX6_tell.1 MX6_tell.1 ∈ tw := ⟨t749, t20, t750, t751, t752⟩
theorem cwL_132 : Cond.code MX7_check.1 MX7_check.2.1 MX7_check.2.2.1 MX7_check.2.2.2.1 ∈ tw ∧ Cond.initialized MX7_check.1.cls ∈ tw ∧ Cond.methodLink RL 132 MX7_check.1 ∈ tw ∧ Cond.instanceMethod MX7_check.1 ∈ tw ∧ Cond.selects MX7_check.1.cls MX7_check.1 MX7_check.1 ∈ tw := ⟨t753, t360, t754, t755, t756⟩
theorem cwL_129 : Cond.code MX6_check.1 MX6_check.2.1 MX6_check.2.2.1 MX6_check.2.2.2.1 ∈ tw ∧ Cond.initialized MX6_check.1.cls ∈ tw ∧ Cond.methodLink RL 129 MX6_check.1 ∈ tw ∧ Cond.instanceMethod MX6_check.1 ∈ tw ∧ Cond.selects MX6_check.1.cls MX6_check.1 MX6_check.1 ∈ tw := ⟨t757, t20, t758, t759, t760⟩
theorem cwL_136 : Cond.code MX7_count.1 MX7_count.2.1 MX7_count.2.2.1 MX7_count.2.2.2.1 ∈ tw ∧ Cond.initialized MX7_count.1.cls ∈ tw ∧ Cond.methodLink RL 136 MX7_count.1 ∈ tw ∧ Cond.instanceMethod MX7_count.1 ∈ tw ∧ Cond.selects MX7_count.1.cls MX7_count.1 MX7_count.1 ∈ tw := ⟨t761, t360, t762, t763, t764⟩
theorem cwL_133 : Cond.code MX6_count.1 MX6_count.2.1 MX6_count.2.2.1 MX6_count.2.2.2.1 ∈ tw ∧ Cond.initialized MX6_count.1.cls ∈ tw ∧ Cond.methodLink RL 133 MX6_count.1 ∈ tw ∧ Cond.instanceMethod MX6_count.1 ∈ tw ∧ Cond.selects MX6_count.1.cls MX6_count.1 MX6_count.1 ∈ tw := ⟨t765, t20, t766, t767, t768⟩
theorem cwL_140 : Cond.code MX7_found.1 MX7_found.2.1 MX7_found.2.2.1 MX7_found.2.2.2.1 ∈ tw ∧ Cond.initialized MX7_found.1.cls ∈ tw ∧ Cond.methodLink RL 140 MX7_found.1 ∈ tw ∧ Cond.instanceMethod MX7_found.1 ∈ tw ∧ Cond.selects MX7_found.1.cls MX7_found.1 MX7_found.1 ∈ tw := ⟨t769, t360, t770, t771, t772⟩
theorem cwL_137 : Cond.code MX6_found.1 MX6_found.2.1 MX6_found.2.2.1 MX6_found.2.2.2.1 ∈ tw ∧ Cond.initialized MX6_found.1.cls ∈ tw ∧ Cond.methodLink RL 137 MX6_found.1 ∈ tw ∧ Cond.instanceMethod MX6_found.1 ∈ tw ∧ Cond.selects MX6_found.1.cls MX6_found.1 MX6_found.1 ∈ tw := ⟨t773, t20, t774, t775, t776⟩
theorem ltJ6_bitCount_0f7a4_0 : 0 < MJ6_bitCount_0f7a4.2.2.1 := by decide
theorem ltX5_enterLoans_1 : 1 < MX5_enterLoans.2.2.1 := by decide
theorem ltX7_bits_1 : 1 < MX7_bits.2.2.1 := by decide
theorem ltX0_balance_2 : 2 < MX0_balance.2.2.1 := by decide
theorem ltX1_firstSpade_2 : 2 < MX1_firstSpade.2.2.1 := by decide
theorem ltX1_howManyPaidBy_2 : 2 < MX1_howManyPaidBy.2.2.1 := by decide
theorem ltX1_openOfSet_2 : 2 < MX1_openOfSet.2.2.1 := by decide
theorem ltX1_settleWaived_2 : 2 < MX1_settleWaived.2.2.1 := by decide
theorem ltX1_whosePayeeIs_2 : 2 < MX1_whosePayeeIs.2.2.1 := by decide
theorem ltX4_howManyGood_2 : 2 < MX4_howManyGood.2.2.1 := by decide
theorem ltX4_weigh_2 : 2 < MX4_weigh.2.2.1 := by decide
theorem ltX5_payRank_2 : 2 < MX5_payRank.2.2.1 := by decide
theorem ltX5_payWhole_2 : 2 < MX5_payWhole.2.2.1 := by decide
theorem ltX5_rankAfter_2 : 2 < MX5_rankAfter.2.2.1 := by decide
theorem ltX6_check_2 : 2 < MX6_check.2.2.1 := by decide
theorem ltX6_day_2 : 2 < MX6_day.2.2.1 := by decide
theorem ltX6_notice_2 : 2 < MX6_notice.2.2.1 := by decide
theorem ltX6_sue_2 : 2 < MX6_sue.2.2.1 := by decide
theorem ltX6_twice_2 : 2 < MX6_twice.2.2.1 := by decide
theorem ltX7_account_2 : 2 < MX7_account.2.2.1 := by decide
theorem ltX7_bits_2 : 2 < MX7_bits.2.2.1 := by decide
theorem ltX7_bound_2 : 2 < MX7_bound.2.2.1 := by decide
theorem ltX7_check_2 : 2 < MX7_check.2.2.1 := by decide
theorem ltX7_contractTo_2 : 2 < MX7_contractTo.2.2.1 := by decide
theorem ltX7_count_2 : 2 < MX7_count.2.2.1 := by decide
theorem ltX7_day_2 : 2 < MX7_day.2.2.1 := by decide
theorem ltX7_degree_2 : 2 < MX7_degree.2.2.1 := by decide
theorem ltX7_lines_2 : 2 < MX7_lines.2.2.1 := by decide
theorem ltX7_nextRank_2 : 2 < MX7_nextRank.2.2.1 := by decide
theorem ltX7_open_2 : 2 < MX7_open.2.2.1 := by decide
theorem ltX7_traces_2 : 2 < MX7_traces.2.2.1 := by decide
theorem ltX7_twice_2 : 2 < MX7_twice.2.2.1 := by decide
theorem ltX7_waived_2 : 2 < MX7_waived.2.2.1 := by decide
theorem ltL_law_3 : 3 < ML.2.2.1 := by decide
theorem ltX0_balance_3 : 3 < MX0_balance.2.2.1 := by decide
theorem ltX0_spend_3 : 3 < MX0_spend.2.2.1 := by decide
theorem ltX1_boundOf_3 : 3 < MX1_boundOf.2.2.1 := by decide
theorem ltX1_firstSpade_3 : 3 < MX1_firstSpade.2.2.1 := by decide
theorem ltX1_howManyPaidBy_3 : 3 < MX1_howManyPaidBy.2.2.1 := by decide
theorem ltX1_openOfSet_3 : 3 < MX1_openOfSet.2.2.1 := by decide
theorem ltX1_settleWaived_3 : 3 < MX1_settleWaived.2.2.1 := by decide
theorem ltX4_barOn_3 : 3 < MX4_barOn.2.2.1 := by decide
theorem ltX4_howManyGood_3 : 3 < MX4_howManyGood.2.2.1 := by decide
theorem ltX4_isSuitLost_3 : 3 < MX4_isSuitLost.2.2.1 := by decide
theorem ltX4_rankDay_3 : 3 < MX4_rankDay.2.2.1 := by decide
theorem ltX4_weigh_3 : 3 < MX4_weigh.2.2.1 := by decide
theorem ltX4_worthBelow_3 : 3 < MX4_worthBelow.2.2.1 := by decide
theorem ltX5_enterClaims_3 : 3 < MX5_enterClaims.2.2.1 := by decide
theorem ltX5_payRank_3 : 3 < MX5_payRank.2.2.1 := by decide
theorem ltX5_rankAfter_3 : 3 < MX5_rankAfter.2.2.1 := by decide
theorem ltX6_bond_3 : 3 < MX6_bond.2.2.1 := by decide
theorem ltX6_check_3 : 3 < MX6_check.2.2.1 := by decide
theorem ltX6_extra_3 : 3 < MX6_extra.2.2.1 := by decide
theorem ltX6_isOfKind_3 : 3 < MX6_isOfKind.2.2.1 := by decide
theorem ltX6_law_3 : 3 < MX6_law.2.2.1 := by decide
theorem ltX6_out_3 : 3 < MX6_out.2.2.1 := by decide
theorem ltX6_pay_3 : 3 < MX6_pay.2.2.1 := by decide
theorem ltX7_account_3 : 3 < MX7_account.2.2.1 := by decide
theorem ltX7_as_3 : 3 < MX7_as.2.2.1 := by decide
theorem ltX7_bar_3 : 3 < MX7_bar.2.2.1 := by decide
theorem ltX7_bond_3 : 3 < MX7_bond.2.2.1 := by decide
theorem ltX7_bound_3 : 3 < MX7_bound.2.2.1 := by decide
theorem ltX7_check_3 : 3 < MX7_check.2.2.1 := by decide
theorem ltX7_contractTo_3 : 3 < MX7_contractTo.2.2.1 := by decide
theorem ltX7_count_3 : 3 < MX7_count.2.2.1 := by decide
theorem ltX7_degree_3 : 3 < MX7_degree.2.2.1 := by decide
theorem ltX7_isBelow_3 : 3 < MX7_isBelow.2.2.1 := by decide
theorem ltX7_law_3 : 3 < MX7_law.2.2.1 := by decide
theorem ltX7_lines_3 : 3 < MX7_lines.2.2.1 := by decide
theorem ltX7_nextRank_3 : 3 < MX7_nextRank.2.2.1 := by decide
theorem ltX7_open_3 : 3 < MX7_open.2.2.1 := by decide
theorem ltX7_rankOf_3 : 3 < MX7_rankOf.2.2.1 := by decide
theorem ltX7_traces_3 : 3 < MX7_traces.2.2.1 := by decide
theorem ltX7_twice_3 : 3 < MX7_twice.2.2.1 := by decide
theorem ltX7_waived_3 : 3 < MX7_waived.2.2.1 := by decide
theorem ltX7_worthOf_3 : 3 < MX7_worthOf.2.2.1 := by decide
theorem ltX0_leftFor_4 : 4 < MX0_leftFor.2.2.1 := by decide
theorem ltX0_receive_4 : 4 < MX0_receive.2.2.1 := by decide
theorem ltX0_spend_4 : 4 < MX0_spend.2.2.1 := by decide
theorem ltX0_spendForward_4 : 4 < MX0_spendForward.2.2.1 := by decide
theorem ltX1_agree_4 : 4 < MX1_agree.2.2.1 := by decide
theorem ltX1_boundOf_4 : 4 < MX1_boundOf.2.2.1 := by decide
theorem ltX1_fewestSigners_4 : 4 < MX1_fewestSigners.2.2.1 := by decide
theorem ltX1_firstSpade_4 : 4 < MX1_firstSpade.2.2.1 := by decide
theorem ltX1_settleWaived_4 : 4 < MX1_settleWaived.2.2.1 := by decide
theorem ltX4_barOn_4 : 4 < MX4_barOn.2.2.1 := by decide
theorem ltX4_enter_4 : 4 < MX4_enter.2.2.1 := by decide
theorem ltX4_isSuitLost_4 : 4 < MX4_isSuitLost.2.2.1 := by decide
theorem ltX4_rankDay_4 : 4 < MX4_rankDay.2.2.1 := by decide
theorem ltX4_weigh_4 : 4 < MX4_weigh.2.2.1 := by decide
theorem ltX4_worthBelow_4 : 4 < MX4_worthBelow.2.2.1 := by decide
theorem ltX5_enterClaims_4 : 4 < MX5_enterClaims.2.2.1 := by decide
theorem ltX5_sell_4 : 4 < MX5_sell.2.2.1 := by decide
theorem ltX6_began_4 : 4 < MX6_began.2.2.1 := by decide
theorem ltX6_bond_4 : 4 < MX6_bond.2.2.1 := by decide
theorem ltX6_contract_4 : 4 < MX6_contract.2.2.1 := by decide
theorem ltX6_ended_4 : 4 < MX6_ended.2.2.1 := by decide
theorem ltX6_sign_4 : 4 < MX6_sign.2.2.1 := by decide
theorem ltX7_as_4 : 4 < MX7_as.2.2.1 := by decide
theorem ltX7_bar_4 : 4 < MX7_bar.2.2.1 := by decide
theorem ltX7_barred_4 : 4 < MX7_barred.2.2.1 := by decide
theorem ltX7_contract_4 : 4 < MX7_contract.2.2.1 := by decide
theorem ltX7_firstBar_4 : 4 < MX7_firstBar.2.2.1 := by decide
theorem ltX7_held_4 : 4 < MX7_held.2.2.1 := by decide
theorem ltX7_isBelow_4 : 4 < MX7_isBelow.2.2.1 := by decide
theorem ltX7_rankOf_4 : 4 < MX7_rankOf.2.2.1 := by decide
theorem ltX7_sign_4 : 4 < MX7_sign.2.2.1 := by decide
theorem ltX7_traces_4 : 4 < MX7_traces.2.2.1 := by decide
theorem ltX7_waived_4 : 4 < MX7_waived.2.2.1 := by decide
theorem ltX7_worthOf_4 : 4 < MX7_worthOf.2.2.1 := by decide
theorem ltX0_leftFor_5 : 5 < MX0_leftFor.2.2.1 := by decide
theorem ltX0_spendForward_5 : 5 < MX0_spendForward.2.2.1 := by decide
theorem ltX0_take_5 : 5 < MX0_take.2.2.1 := by decide
theorem ltX1_fewestSigners_5 : 5 < MX1_fewestSigners.2.2.1 := by decide
theorem ltX4_barOn_5 : 5 < MX4_barOn.2.2.1 := by decide
theorem ltX5_enterClaims_5 : 5 < MX5_enterClaims.2.2.1 := by decide
theorem ltX5_sell_5 : 5 < MX5_sell.2.2.1 := by decide
theorem ltX5_shareLeft_5 : 5 < MX5_shareLeft.2.2.1 := by decide
theorem ltX7_held_5 : 5 < MX7_held.2.2.1 := by decide
theorem ltX7_rankOf_5 : 5 < MX7_rankOf.2.2.1 := by decide
theorem ltX7_sell_5 : 5 < MX7_sell.2.2.1 := by decide
theorem ltX7_sign_5 : 5 < MX7_sign.2.2.1 := by decide
theorem ltX7_traces_5 : 5 < MX7_traces.2.2.1 := by decide
theorem ltX7_worthOf_5 : 5 < MX7_worthOf.2.2.1 := by decide
theorem ltX1_fewestSigners_6 : 6 < MX1_fewestSigners.2.2.1 := by decide
theorem ltX4_barOn_6 : 6 < MX4_barOn.2.2.1 := by decide
theorem ltX5_enterClaims_6 : 6 < MX5_enterClaims.2.2.1 := by decide
theorem ltX7_goes_6 : 6 < MX7_goes.2.2.1 := by decide
theorem ltX7_sign_6 : 6 < MX7_sign.2.2.1 := by decide
theorem ltX7_worthOf_6 : 6 < MX7_worthOf.2.2.1 := by decide
theorem ltX1_fewestSigners_7 : 7 < MX1_fewestSigners.2.2.1 := by decide
theorem ltX7_goes_7 : 7 < MX7_goes.2.2.1 := by decide
theorem ltX7_sign_7 : 7 < MX7_sign.2.2.1 := by decide
theorem ltX7_worthOf_7 : 7 < MX7_worthOf.2.2.1 := by decide
theorem ltX1_fewestSigners_8 : 8 < MX1_fewestSigners.2.2.1 := by decide
theorem ltX7_goes_8 : 8 < MX7_goes.2.2.1 := by decide
theorem ltX7_sell_8 : 8 < MX7_sell.2.2.1 := by decide
theorem ltX7_sign_8 : 8 < MX7_sign.2.2.1 := by decide
theorem ltX7_goes_9 : 9 < MX7_goes.2.2.1 := by decide
theorem ltX7_sell_10 : 10 < MX7_sell.2.2.1 := by decide
theorem kbipush_10 : (Int8.ofInt 10).toInt32 = (10 : Int32) := by decide
theorem kbipush_100 : (Int8.ofInt 100).toInt32 = (100 : Int32) := by decide
theorem kbipush_12 : (Int8.ofInt 12).toInt32 = (12 : Int32) := by decide
theorem kbipush_13 : (Int8.ofInt 13).toInt32 = (13 : Int32) := by decide
theorem kbipush_16 : (Int8.ofInt 16).toInt32 = (16 : Int32) := by decide
theorem kbipush_20 : (Int8.ofInt 20).toInt32 = (20 : Int32) := by decide
theorem kbipush_22 : (Int8.ofInt 22).toInt32 = (22 : Int32) := by decide
theorem kbipush_31 : (Int8.ofInt 31).toInt32 = (31 : Int32) := by decide
theorem kbipush_40 : (Int8.ofInt 40).toInt32 = (40 : Int32) := by decide
theorem kbipush_6 : (Int8.ofInt 6).toInt32 = (6 : Int32) := by decide
theorem kbipush_63 : (Int8.ofInt 63).toInt32 = (63 : Int32) := by decide
theorem kbipush_8 : (Int8.ofInt 8).toInt32 = (8 : Int32) := by decide
theorem kbipush_9 : (Int8.ofInt 9).toInt32 = (9 : Int32) := by decide
theorem cl_0 : (0 : Int32).toNatClampNeg = 0 := by decide
theorem cl_1 : (1 : Int32).toNatClampNeg = 1 := by decide
theorem cl_2 : (2 : Int32).toNatClampNeg = 2 := by decide
theorem cl_3 : (3 : Int32).toNatClampNeg = 3 := by decide
theorem cl_4 : (4 : Int32).toNatClampNeg = 4 := by decide
theorem cl_5 : (5 : Int32).toNatClampNeg = 5 := by decide
theorem kiconst_m1 : Int32.ofInt (-1) = ((-1) : Int32) := by decide
theorem kiconst_0 : Int32.ofInt 0 = (0 : Int32) := by decide
theorem kiconst_1 : Int32.ofInt 1 = (1 : Int32) := by decide
theorem kiconst_2 : Int32.ofInt 2 = (2 : Int32) := by decide
theorem kiconst_3 : Int32.ofInt 3 = (3 : Int32) := by decide
theorem kiconst_4 : Int32.ofInt 4 = (4 : Int32) := by decide
theorem kiconst_5 : Int32.ofInt 5 = (5 : Int32) := by decide
theorem vi_0_3 : vp_in 0 3 := vp_c (by decide) (by decide)
theorem vi_0_6 : vp_in 0 6 := vp_c (by decide) (by decide)
theorem vi_1_6 : vp_in 1 6 := vp_c (by decide) (by decide)
theorem vi_2_6 : vp_in 2 6 := vp_c (by decide) (by decide)
theorem vi_3_6 : vp_in 3 6 := vp_c (by decide) (by decide)
theorem vi_4_6 : vp_in 4 6 := vp_c (by decide) (by decide)
theorem vi_5_6 : vp_in 5 6 := vp_c (by decide) (by decide)
theorem ksipush_1000 : (Int16.ofInt 1000).toInt32 = (1000 : Int32) := by decide
theorem ksipush_365 : (Int16.ofInt 365).toInt32 = (365 : Int32) := by decide
theorem ksipush_5000 : (Int16.ofInt 5000).toInt32 = (5000 : Int32) := by decide
