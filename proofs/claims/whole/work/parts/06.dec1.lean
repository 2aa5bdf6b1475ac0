theorem dX0_receive_0 : decode cX0_receive 0 = .ok (.aload_n 0, 1) := by decide +kernel
theorem dX0_receive_1 : decode cX0_receive 1 = .ok (.getfield 9, 3) := by decide +kernel
theorem dX0_receive_4 : decode cX0_receive 4 = .ok (.aload_n 0, 1) := by decide +kernel
theorem dX0_receive_5 : decode cX0_receive 5 = .ok (.getfield 23, 3) := by decide +kernel
theorem dX0_receive_8 : decode cX0_receive 8 = .ok (.iload_n 1, 1) := by decide +kernel
theorem dX0_receive_9 : decode cX0_receive 9 = .ok (.iastore, 1) := by decide +kernel
theorem dX0_receive_10 : decode cX0_receive 10 = .ok (.aload_n 0, 1) := by decide +kernel
theorem dX0_receive_11 : decode cX0_receive 11 = .ok (.getfield 15, 3) := by decide +kernel
theorem dX0_receive_14 : decode cX0_receive 14 = .ok (.aload_n 0, 1) := by decide +kernel
theorem dX0_receive_15 : decode cX0_receive 15 = .ok (.getfield 23, 3) := by decide +kernel
theorem dX0_receive_18 : decode cX0_receive 18 = .ok (.iload_n 2, 1) := by decide +kernel
theorem dX0_receive_19 : decode cX0_receive 19 = .ok (.iastore, 1) := by decide +kernel
theorem dX0_receive_20 : decode cX0_receive 20 = .ok (.iconst 0, 1) := by decide +kernel
theorem dX0_receive_21 : decode cX0_receive 21 = .ok (.istore 4, 2) := by decide +kernel
theorem dX0_receive_23 : decode cX0_receive 23 = .ok (.iload 4, 2) := by decide +kernel
theorem dX0_receive_25 : decode cX0_receive 25 = .ok (.iconst 3, 1) := by decide +kernel
theorem dX0_receive_26 : decode cX0_receive 26 = .ok (.if_icmp .ge 22, 3) := by decide +kernel
theorem dX0_receive_29 : decode cX0_receive 29 = .ok (.aload_n 0, 1) := by decide +kernel
theorem dX0_receive_30 : decode cX0_receive 30 = .ok (.getfield 20, 3) := by decide +kernel
theorem dX0_receive_33 : decode cX0_receive 33 = .ok (.iload 4, 2) := by decide +kernel
theorem dX0_receive_35 : decode cX0_receive 35 = .ok (.aaload, 1) := by decide +kernel
theorem dX0_receive_36 : decode cX0_receive 36 = .ok (.aload_n 0, 1) := by decide +kernel
theorem dX0_receive_37 : decode cX0_receive 37 = .ok (.getfield 23, 3) := by decide +kernel
theorem dX0_receive_40 : decode cX0_receive 40 = .ok (.iload_n 3, 1) := by decide +kernel
theorem dX0_receive_41 : decode cX0_receive 41 = .ok (.iastore, 1) := by decide +kernel
theorem dX0_receive_42 : decode cX0_receive 42 = .ok (.iinc 4 1, 3) := by decide +kernel
theorem dX0_receive_45 : decode cX0_receive 45 = .ok (.goto (-22), 3) := by decide +kernel
theorem dX0_receive_48 : decode cX0_receive 48 = .ok (.aload_n 0, 1) := by decide +kernel
theorem dX0_receive_49 : decode cX0_receive 49 = .ok (.dup, 1) := by decide +kernel
theorem dX0_receive_50 : decode cX0_receive 50 = .ok (.getfield 23, 3) := by decide +kernel
theorem dX0_receive_53 : decode cX0_receive 53 = .ok (.iconst 1, 1) := by decide +kernel
theorem dX0_receive_54 : decode cX0_receive 54 = .ok (.iadd, 1) := by decide +kernel
theorem dX0_receive_55 : decode cX0_receive 55 = .ok (.putfield 23, 3) := by decide +kernel
theorem dX0_receive_58 : decode cX0_receive 58 = .ok (.aload_n 0, 1) := by decide +kernel
theorem dX0_receive_59 : decode cX0_receive 59 = .ok (.getfield 23, 3) := by decide +kernel
theorem dX0_receive_62 : decode cX0_receive 62 = .ok (.iconst 1, 1) := by decide +kernel
theorem dX0_receive_63 : decode cX0_receive 63 = .ok (.isub, 1) := by decide +kernel
theorem dX0_receive_64 : decode cX0_receive 64 = .ok (.ireturn, 1) := by decide +kernel
theorem dX0_balance_0 : decode cX0_balance 0 = .ok (.iconst 0, 1) := by decide +kernel
theorem dX0_balance_1 : decode cX0_balance 1 = .ok (.istore_n 2, 1) := by decide +kernel
theorem dX0_balance_2 : decode cX0_balance 2 = .ok (.iconst 0, 1) := by decide +kernel
theorem dX0_balance_3 : decode cX0_balance 3 = .ok (.istore_n 3, 1) := by decide +kernel
theorem dX0_balance_4 : decode cX0_balance 4 = .ok (.iload_n 3, 1) := by decide +kernel
theorem dX0_balance_5 : decode cX0_balance 5 = .ok (.aload_n 0, 1) := by decide +kernel
theorem dX0_balance_6 : decode cX0_balance 6 = .ok (.getfield 23, 3) := by decide +kernel
theorem dX0_balance_9 : decode cX0_balance 9 = .ok (.if_icmp .ge 30, 3) := by decide +kernel
theorem dX0_balance_12 : decode cX0_balance 12 = .ok (.aload_n 0, 1) := by decide +kernel
theorem dX0_balance_13 : decode cX0_balance 13 = .ok (.getfield 9, 3) := by decide +kernel
theorem dX0_balance_16 : decode cX0_balance 16 = .ok (.iload_n 3, 1) := by decide +kernel
theorem dX0_balance_17 : decode cX0_balance 17 = .ok (.iaload, 1) := by decide +kernel
theorem dX0_balance_18 : decode cX0_balance 18 = .ok (.iload_n 1, 1) := by decide +kernel
theorem dX0_balance_19 : decode cX0_balance 19 = .ok (.if_icmp .ne 14, 3) := by decide +kernel
theorem dX0_balance_22 : decode cX0_balance 22 = .ok (.iload_n 2, 1) := by decide +kernel
theorem dX0_balance_23 : decode cX0_balance 23 = .ok (.aload_n 0, 1) := by decide +kernel
theorem dX0_balance_24 : decode cX0_balance 24 = .ok (.getfield 20, 3) := by decide +kernel
theorem dX0_balance_27 : decode cX0_balance 27 = .ok (.iconst 0, 1) := by decide +kernel
theorem dX0_balance_28 : decode cX0_balance 28 = .ok (.aaload, 1) := by decide +kernel
theorem dX0_balance_29 : decode cX0_balance 29 = .ok (.iload_n 3, 1) := by decide +kernel
theorem dX0_balance_30 : decode cX0_balance 30 = .ok (.iaload, 1) := by decide +kernel
theorem dX0_balance_31 : decode cX0_balance 31 = .ok (.iadd, 1) := by decide +kernel
theorem dX0_balance_32 : decode cX0_balance 32 = .ok (.istore_n 2, 1) := by decide +kernel
theorem dX0_balance_33 : decode cX0_balance 33 = .ok (.iinc 3 1, 3) := by decide +kernel
theorem dX0_balance_36 : decode cX0_balance 36 = .ok (.goto (-32), 3) := by decide +kernel
theorem dX0_balance_39 : decode cX0_balance 39 = .ok (.iload_n 2, 1) := by decide +kernel
theorem dX0_balance_40 : decode cX0_balance 40 = .ok (.ireturn, 1) := by decide +kernel
theorem dX0_leftFor_0 : decode cX0_leftFor 0 = .ok (.iconst 0, 1) := by decide +kernel
theorem dX0_leftFor_1 : decode cX0_leftFor 1 = .ok (.istore 4, 2) := by decide +kernel
theorem dX0_leftFor_3 : decode cX0_leftFor 3 = .ok (.iconst 0, 1) := by decide +kernel
theorem dX0_leftFor_4 : decode cX0_leftFor 4 = .ok (.istore 5, 2) := by decide +kernel
theorem dX0_leftFor_6 : decode cX0_leftFor 6 = .ok (.iload 5, 2) := by decide +kernel
theorem dX0_leftFor_8 : decode cX0_leftFor 8 = .ok (.aload_n 0, 1) := by decide +kernel
theorem dX0_leftFor_9 : decode cX0_leftFor 9 = .ok (.getfield 23, 3) := by decide +kernel
theorem dX0_leftFor_12 : decode cX0_leftFor 12 = .ok (.if_icmp .ge 45, 3) := by decide +kernel
theorem dX0_leftFor_15 : decode cX0_leftFor 15 = .ok (.aload_n 0, 1) := by decide +kernel
theorem dX0_leftFor_16 : decode cX0_leftFor 16 = .ok (.getfield 9, 3) := by decide +kernel
theorem dX0_leftFor_19 : decode cX0_leftFor 19 = .ok (.iload 5, 2) := by decide +kernel
theorem dX0_leftFor_21 : decode cX0_leftFor 21 = .ok (.iaload, 1) := by decide +kernel
theorem dX0_leftFor_22 : decode cX0_leftFor 22 = .ok (.iload_n 1, 1) := by decide +kernel
theorem dX0_leftFor_23 : decode cX0_leftFor 23 = .ok (.if_icmp .ne 28, 3) := by decide +kernel
theorem dX0_leftFor_26 : decode cX0_leftFor 26 = .ok (.aload_n 0, 1) := by decide +kernel
theorem dX0_leftFor_27 : decode cX0_leftFor 27 = .ok (.getfield 15, 3) := by decide +kernel
theorem dX0_leftFor_30 : decode cX0_leftFor 30 = .ok (.iload 5, 2) := by decide +kernel
theorem dX0_leftFor_32 : decode cX0_leftFor 32 = .ok (.iaload, 1) := by decide +kernel
theorem dX0_leftFor_33 : decode cX0_leftFor 33 = .ok (.iload_n 2, 1) := by decide +kernel
theorem dX0_leftFor_34 : decode cX0_leftFor 34 = .ok (.if_icmp .ne 17, 3) := by decide +kernel
theorem dX0_leftFor_37 : decode cX0_leftFor 37 = .ok (.iload 4, 2) := by decide +kernel
theorem dX0_leftFor_39 : decode cX0_leftFor 39 = .ok (.aload_n 0, 1) := by decide +kernel
theorem dX0_leftFor_40 : decode cX0_leftFor 40 = .ok (.getfield 20, 3) := by decide +kernel
theorem dX0_leftFor_43 : decode cX0_leftFor 43 = .ok (.iload_n 3, 1) := by decide +kernel
theorem dX0_leftFor_44 : decode cX0_leftFor 44 = .ok (.aaload, 1) := by decide +kernel
theorem dX0_leftFor_45 : decode cX0_leftFor 45 = .ok (.iload 5, 2) := by decide +kernel
theorem dX0_leftFor_47 : decode cX0_leftFor 47 = .ok (.iaload, 1) := by decide +kernel
theorem dX0_leftFor_48 : decode cX0_leftFor 48 = .ok (.iadd, 1) := by decide +kernel
theorem dX0_leftFor_49 : decode cX0_leftFor 49 = .ok (.istore 4, 2) := by decide +kernel
theorem dX0_leftFor_51 : decode cX0_leftFor 51 = .ok (.iinc 5 1, 3) := by decide +kernel
theorem dX0_leftFor_54 : decode cX0_leftFor 54 = .ok (.goto (-48), 3) := by decide +kernel
theorem dX0_leftFor_57 : decode cX0_leftFor 57 = .ok (.iload 4, 2) := by decide +kernel
theorem dX0_leftFor_59 : decode cX0_leftFor 59 = .ok (.ireturn, 1) := by decide +kernel
theorem dX0_take_0 : decode cX0_take 0 = .ok (.aload_n 0, 1) := by decide +kernel
theorem dX0_take_1 : decode cX0_take 1 = .ok (.getfield 9, 3) := by decide +kernel
theorem dX0_take_4 : decode cX0_take 4 = .ok (.iload_n 2, 1) := by decide +kernel
theorem dX0_take_5 : decode cX0_take 5 = .ok (.iaload, 1) := by decide +kernel
theorem dX0_take_6 : decode cX0_take 6 = .ok (.iload_n 3, 1) := by decide +kernel
theorem dX0_take_7 : decode cX0_take 7 = .ok (.if_icmp .eq 5, 3) := by decide +kernel
theorem dX0_take_10 : decode cX0_take 10 = .ok (.iconst 0, 1) := by decide +kernel
theorem dX0_take_11 : decode cX0_take 11 = .ok (.ireturn, 1) := by decide +kernel
theorem dX0_take_12 : decode cX0_take 12 = .ok (.aload_n 0, 1) := by decide +kernel
theorem dX0_take_13 : decode cX0_take 13 = .ok (.getfield 20, 3) := by decide +kernel
theorem dX0_take_16 : decode cX0_take 16 = .ok (.iload_n 1, 1) := by decide +kernel
theorem dX0_take_17 : decode cX0_take 17 = .ok (.aaload, 1) := by decide +kernel
theorem dX0_take_18 : decode cX0_take 18 = .ok (.iload_n 2, 1) := by decide +kernel
theorem dX0_take_19 : decode cX0_take 19 = .ok (.iaload, 1) := by decide +kernel
theorem dX0_take_20 : decode cX0_take 20 = .ok (.iload 4, 2) := by decide +kernel
theorem dX0_take_22 : decode cX0_take 22 = .ok (.invokestatic 38, 3) := by decide +kernel
theorem dX0_take_25 : decode cX0_take 25 = .ok (.istore 5, 2) := by decide +kernel
theorem dX0_take_27 : decode cX0_take 27 = .ok (.aload_n 0, 1) := by decide +kernel
theorem dX0_take_28 : decode cX0_take 28 = .ok (.getfield 20, 3) := by decide +kernel
theorem dX0_take_31 : decode cX0_take 31 = .ok (.iload_n 1, 1) := by decide +kernel
theorem dX0_take_32 : decode cX0_take 32 = .ok (.aaload, 1) := by decide +kernel
theorem dX0_take_33 : decode cX0_take 33 = .ok (.iload_n 2, 1) := by decide +kernel
theorem dX0_take_34 : decode cX0_take 34 = .ok (.dup2, 1) := by decide +kernel
theorem dX0_take_35 : decode cX0_take 35 = .ok (.iaload, 1) := by decide +kernel
theorem dX0_take_36 : decode cX0_take 36 = .ok (.iload 5, 2) := by decide +kernel
theorem dX0_take_38 : decode cX0_take 38 = .ok (.isub, 1) := by decide +kernel
theorem dX0_take_39 : decode cX0_take 39 = .ok (.iastore, 1) := by decide +kernel
theorem dX0_take_40 : decode cX0_take 40 = .ok (.iload 5, 2) := by decide +kernel
theorem dX0_take_42 : decode cX0_take 42 = .ok (.ireturn, 1) := by decide +kernel
theorem dX0_spendForward_0 : decode cX0_spendForward 0 = .ok (.iload_n 3, 1) := by decide +kernel
theorem dX0_spendForward_1 : decode cX0_spendForward 1 = .ok (.istore 4, 2) := by decide +kernel
theorem dX0_spendForward_3 : decode cX0_spendForward 3 = .ok (.iconst 0, 1) := by decide +kernel
theorem dX0_spendForward_4 : decode cX0_spendForward 4 = .ok (.istore 5, 2) := by decide +kernel
theorem dX0_spendForward_6 : decode cX0_spendForward 6 = .ok (.iload 5, 2) := by decide +kernel
theorem dX0_spendForward_8 : decode cX0_spendForward 8 = .ok (.aload_n 0, 1) := by decide +kernel
theorem dX0_spendForward_9 : decode cX0_spendForward 9 = .ok (.getfield 23, 3) := by decide +kernel
theorem dX0_spendForward_12 : decode cX0_spendForward 12 = .ok (.if_icmp .ge 24, 3) := by decide +kernel
theorem dX0_spendForward_15 : decode cX0_spendForward 15 = .ok (.iload 4, 2) := by decide +kernel
theorem dX0_spendForward_17 : decode cX0_spendForward 17 = .ok (.aload_n 0, 1) := by decide +kernel
theorem dX0_spendForward_18 : decode cX0_spendForward 18 = .ok (.iload_n 1, 1) := by decide +kernel
theorem dX0_spendForward_19 : decode cX0_spendForward 19 = .ok (.iload 5, 2) := by decide +kernel
theorem dX0_spendForward_21 : decode cX0_spendForward 21 = .ok (.iload_n 2, 1) := by decide +kernel
theorem dX0_spendForward_22 : decode cX0_spendForward 22 = .ok (.iload 4, 2) := by decide +kernel
theorem dX0_spendForward_24 : decode cX0_spendForward 24 = .ok (.invokevirtual 34, 3) := by decide +kernel
theorem dX0_spendForward_27 : decode cX0_spendForward 27 = .ok (.isub, 1) := by decide +kernel
theorem dX0_spendForward_28 : decode cX0_spendForward 28 = .ok (.istore 4, 2) := by decide +kernel
theorem dX0_spendForward_30 : decode cX0_spendForward 30 = .ok (.iinc 5 1, 3) := by decide +kernel
theorem dX0_spendForward_33 : decode cX0_spendForward 33 = .ok (.goto (-27), 3) := by decide +kernel
theorem dX0_spendForward_36 : decode cX0_spendForward 36 = .ok (.return_, 1) := by decide +kernel
theorem dX0_spend_0 : decode cX0_spend 0 = .ok (.aload_n 0, 1) := by decide +kernel
theorem dX0_spend_1 : decode cX0_spend 1 = .ok (.dup, 1) := by decide +kernel
theorem dX0_spend_2 : decode cX0_spend 2 = .ok (.getfield 27, 3) := by decide +kernel
theorem dX0_spend_5 : decode cX0_spend 5 = .ok (.iconst 1, 1) := by decide +kernel
theorem dX0_spend_6 : decode cX0_spend 6 = .ok (.iadd, 1) := by decide +kernel
theorem dX0_spend_7 : decode cX0_spend 7 = .ok (.putfield 27, 3) := by decide +kernel
theorem dX0_spend_10 : decode cX0_spend 10 = .ok (.aload_n 0, 1) := by decide +kernel
theorem dX0_spend_11 : decode cX0_spend 11 = .ok (.iconst 0, 1) := by decide +kernel
theorem dX0_spend_12 : decode cX0_spend 12 = .ok (.iload_n 1, 1) := by decide +kernel
theorem dX0_spend_13 : decode cX0_spend 13 = .ok (.iload_n 2, 1) := by decide +kernel
theorem dX0_spend_14 : decode cX0_spend 14 = .ok (.invokevirtual 30, 3) := by decide +kernel
theorem dX0_spend_17 : decode cX0_spend 17 = .ok (.iload_n 2, 1) := by decide +kernel
theorem dX0_spend_18 : decode cX0_spend 18 = .ok (.istore_n 3, 1) := by decide +kernel
theorem dX0_spend_19 : decode cX0_spend 19 = .ok (.aload_n 0, 1) := by decide +kernel
theorem dX0_spend_20 : decode cX0_spend 20 = .ok (.getfield 23, 3) := by decide +kernel
theorem dX0_spend_23 : decode cX0_spend 23 = .ok (.iconst 1, 1) := by decide +kernel
theorem dX0_spend_24 : decode cX0_spend 24 = .ok (.isub, 1) := by decide +kernel
theorem dX0_spend_25 : decode cX0_spend 25 = .ok (.istore 4, 2) := by decide +kernel
theorem dX0_spend_27 : decode cX0_spend 27 = .ok (.iload 4, 2) := by decide +kernel
theorem dX0_spend_29 : decode cX0_spend 29 = .ok (.ifCond .lt 21, 3) := by decide +kernel
theorem dX0_spend_32 : decode cX0_spend 32 = .ok (.iload_n 3, 1) := by decide +kernel
theorem dX0_spend_33 : decode cX0_spend 33 = .ok (.aload_n 0, 1) := by decide +kernel
theorem dX0_spend_34 : decode cX0_spend 34 = .ok (.iconst 1, 1) := by decide +kernel
theorem dX0_spend_35 : decode cX0_spend 35 = .ok (.iload 4, 2) := by decide +kernel
theorem dX0_spend_37 : decode cX0_spend 37 = .ok (.iload_n 1, 1) := by decide +kernel
theorem dX0_spend_38 : decode cX0_spend 38 = .ok (.iload_n 3, 1) := by decide +kernel
theorem dX0_spend_39 : decode cX0_spend 39 = .ok (.invokevirtual 34, 3) := by decide +kernel
theorem dX0_spend_42 : decode cX0_spend 42 = .ok (.isub, 1) := by decide +kernel
theorem dX0_spend_43 : decode cX0_spend 43 = .ok (.istore_n 3, 1) := by decide +kernel
theorem dX0_spend_44 : decode cX0_spend 44 = .ok (.iinc 4 (-1), 3) := by decide +kernel
theorem dX0_spend_47 : decode cX0_spend 47 = .ok (.goto (-20), 3) := by decide +kernel
theorem dX0_spend_50 : decode cX0_spend 50 = .ok (.iload_n 2, 1) := by decide +kernel
theorem dX0_spend_51 : decode cX0_spend 51 = .ok (.istore_n 3, 1) := by decide +kernel
theorem dX0_spend_52 : decode cX0_spend 52 = .ok (.iconst 0, 1) := by decide +kernel
theorem dX0_spend_53 : decode cX0_spend 53 = .ok (.istore 4, 2) := by decide +kernel
theorem dX0_spend_55 : decode cX0_spend 55 = .ok (.iload 4, 2) := by decide +kernel
theorem dX0_spend_57 : decode cX0_spend 57 = .ok (.aload_n 0, 1) := by decide +kernel
theorem dX0_spend_58 : decode cX0_spend 58 = .ok (.getfield 23, 3) := by decide +kernel
theorem dX0_spend_61 : decode cX0_spend 61 = .ok (.if_icmp .ge 32, 3) := by decide +kernel
theorem dX0_spend_64 : decode cX0_spend 64 = .ok (.aload_n 0, 1) := by decide +kernel
theorem dX0_spend_65 : decode cX0_spend 65 = .ok (.getfield 15, 3) := by decide +kernel
theorem dX0_spend_68 : decode cX0_spend 68 = .ok (.iload 4, 2) := by decide +kernel
theorem dX0_spend_70 : decode cX0_spend 70 = .ok (.iaload, 1) := by decide +kernel
theorem dX0_spend_71 : decode cX0_spend 71 = .ok (.iconst (-1), 1) := by decide +kernel
theorem dX0_spend_72 : decode cX0_spend 72 = .ok (.if_icmp .ne 15, 3) := by decide +kernel
theorem dX0_spend_75 : decode cX0_spend 75 = .ok (.iload_n 3, 1) := by decide +kernel
theorem dX0_spend_76 : decode cX0_spend 76 = .ok (.aload_n 0, 1) := by decide +kernel
theorem dX0_spend_77 : decode cX0_spend 77 = .ok (.iconst 2, 1) := by decide +kernel
theorem dX0_spend_78 : decode cX0_spend 78 = .ok (.iload 4, 2) := by decide +kernel
theorem dX0_spend_80 : decode cX0_spend 80 = .ok (.iload_n 1, 1) := by decide +kernel
theorem dX0_spend_81 : decode cX0_spend 81 = .ok (.iload_n 3, 1) := by decide +kernel
theorem dX0_spend_82 : decode cX0_spend 82 = .ok (.invokevirtual 34, 3) := by decide +kernel
theorem dX0_spend_85 : decode cX0_spend 85 = .ok (.isub, 1) := by decide +kernel
theorem dX0_spend_86 : decode cX0_spend 86 = .ok (.istore_n 3, 1) := by decide +kernel
theorem dX0_spend_87 : decode cX0_spend 87 = .ok (.iinc 4 1, 3) := by decide +kernel
theorem dX0_spend_90 : decode cX0_spend 90 = .ok (.goto (-35), 3) := by decide +kernel
theorem dX0_spend_93 : decode cX0_spend 93 = .ok (.aload_n 0, 1) := by decide +kernel
theorem dX0_spend_94 : decode cX0_spend 94 = .ok (.iconst 2, 1) := by decide +kernel
theorem dX0_spend_95 : decode cX0_spend 95 = .ok (.iload_n 1, 1) := by decide +kernel
theorem dX0_spend_96 : decode cX0_spend 96 = .ok (.iload_n 3, 1) := by decide +kernel
theorem dX0_spend_97 : decode cX0_spend 97 = .ok (.invokevirtual 30, 3) := by decide +kernel
theorem dX0_spend_100 : decode cX0_spend 100 = .ok (.return_, 1) := by decide +kernel
theorem dX6_within_0 : decode cX6_within 0 = .ok (.iload_n 0, 1) := by decide +kernel
theorem dX6_within_1 : decode cX6_within 1 = .ok (.iload_n 1, 1) := by decide +kernel
theorem dX6_within_2 : decode cX6_within 2 = .ok (.if_icmp .lt 12, 3) := by decide +kernel
theorem dX6_within_5 : decode cX6_within 5 = .ok (.iload_n 0, 1) := by decide +kernel
theorem dX6_within_6 : decode cX6_within 6 = .ok (.iload_n 2, 1) := by decide +kernel
theorem dX6_within_7 : decode cX6_within 7 = .ok (.if_icmp .gt 7, 3) := by decide +kernel
theorem dX6_within_10 : decode cX6_within 10 = .ok (.iconst 1, 1) := by decide +kernel
theorem dX6_within_11 : decode cX6_within 11 = .ok (.goto 4, 3) := by decide +kernel
theorem dX6_within_14 : decode cX6_within 14 = .ok (.iconst 0, 1) := by decide +kernel
theorem dX6_within_15 : decode cX6_within 15 = .ok (.ireturn, 1) := by decide +kernel
theorem dX1_has_0 : decode cX1_has 0 = .ok (.iload_n 1, 1) := by decide +kernel
theorem dX1_has_1 : decode cX1_has 1 = .ok (.iconst 0, 1) := by decide +kernel
theorem dX1_has_2 : decode cX1_has 2 = .ok (.aload_n 0, 1) := by decide +kernel
theorem dX1_has_3 : decode cX1_has 3 = .ok (.getfield 28, 3) := by decide +kernel
theorem dX1_has_6 : decode cX1_has 6 = .ok (.iconst 1, 1) := by decide +kernel
theorem dX1_has_7 : decode cX1_has 7 = .ok (.isub, 1) := by decide +kernel
theorem dX1_has_8 : decode cX1_has 8 = .ok (.invokestatic 32, 3) := by decide +kernel
theorem dX1_has_11 : decode cX1_has 11 = .ok (.ireturn, 1) := by decide +kernel
theorem dX1_whosePayeeIs_0 : decode cX1_whosePayeeIs 0 = .ok (.iconst 0, 1) := by decide +kernel
theorem dX1_whosePayeeIs_1 : decode cX1_whosePayeeIs 1 = .ok (.istore_n 2, 1) := by decide +kernel
theorem dX1_whosePayeeIs_2 : decode cX1_whosePayeeIs 2 = .ok (.iload_n 2, 1) := by decide +kernel
theorem dX1_whosePayeeIs_3 : decode cX1_whosePayeeIs 3 = .ok (.aload_n 0, 1) := by decide +kernel
theorem dX1_whosePayeeIs_4 : decode cX1_whosePayeeIs 4 = .ok (.getfield 28, 3) := by decide +kernel
theorem dX1_whosePayeeIs_7 : decode cX1_whosePayeeIs 7 = .ok (.if_icmp .ge 24, 3) := by decide +kernel
theorem dX1_whosePayeeIs_10 : decode cX1_whosePayeeIs 10 = .ok (.aload_n 0, 1) := by decide +kernel
theorem dX1_whosePayeeIs_11 : decode cX1_whosePayeeIs 11 = .ok (.getfield 11, 3) := by decide +kernel
theorem dX1_whosePayeeIs_14 : decode cX1_whosePayeeIs 14 = .ok (.iload_n 2, 1) := by decide +kernel
theorem dX1_whosePayeeIs_15 : decode cX1_whosePayeeIs 15 = .ok (.aaload, 1) := by decide +kernel
theorem dX1_whosePayeeIs_16 : decode cX1_whosePayeeIs 16 = .ok (.getfield 36, 3) := by decide +kernel
theorem dX1_whosePayeeIs_19 : decode cX1_whosePayeeIs 19 = .ok (.iload_n 1, 1) := by decide +kernel
theorem dX1_whosePayeeIs_20 : decode cX1_whosePayeeIs 20 = .ok (.if_icmp .ne 5, 3) := by decide +kernel
theorem dX1_whosePayeeIs_23 : decode cX1_whosePayeeIs 23 = .ok (.iload_n 2, 1) := by decide +kernel
theorem dX1_whosePayeeIs_24 : decode cX1_whosePayeeIs 24 = .ok (.ireturn, 1) := by decide +kernel
theorem dX1_whosePayeeIs_25 : decode cX1_whosePayeeIs 25 = .ok (.iinc 2 1, 3) := by decide +kernel
theorem dX1_whosePayeeIs_28 : decode cX1_whosePayeeIs 28 = .ok (.goto (-26), 3) := by decide +kernel
theorem dX1_whosePayeeIs_31 : decode cX1_whosePayeeIs 31 = .ok (.iconst (-1), 1) := by decide +kernel
theorem dX1_whosePayeeIs_32 : decode cX1_whosePayeeIs 32 = .ok (.ireturn, 1) := by decide +kernel
theorem dX1_howManyPaidBy_0 : decode cX1_howManyPaidBy 0 = .ok (.iconst 0, 1) := by decide +kernel
theorem dX1_howManyPaidBy_1 : decode cX1_howManyPaidBy 1 = .ok (.istore_n 2, 1) := by decide +kernel
theorem dX1_howManyPaidBy_2 : decode cX1_howManyPaidBy 2 = .ok (.iconst 0, 1) := by decide +kernel
theorem dX1_howManyPaidBy_3 : decode cX1_howManyPaidBy 3 = .ok (.istore_n 3, 1) := by decide +kernel
theorem dX1_howManyPaidBy_4 : decode cX1_howManyPaidBy 4 = .ok (.iload_n 3, 1) := by decide +kernel
theorem dX1_howManyPaidBy_5 : decode cX1_howManyPaidBy 5 = .ok (.aload_n 0, 1) := by decide +kernel
theorem dX1_howManyPaidBy_6 : decode cX1_howManyPaidBy 6 = .ok (.getfield 28, 3) := by decide +kernel
theorem dX1_howManyPaidBy_9 : decode cX1_howManyPaidBy 9 = .ok (.if_icmp .ge 25, 3) := by decide +kernel
theorem dX1_howManyPaidBy_12 : decode cX1_howManyPaidBy 12 = .ok (.aload_n 0, 1) := by decide +kernel
theorem dX1_howManyPaidBy_13 : decode cX1_howManyPaidBy 13 = .ok (.getfield 11, 3) := by decide +kernel
theorem dX1_howManyPaidBy_16 : decode cX1_howManyPaidBy 16 = .ok (.iload_n 3, 1) := by decide +kernel
theorem dX1_howManyPaidBy_17 : decode cX1_howManyPaidBy 17 = .ok (.aaload, 1) := by decide +kernel
theorem dX1_howManyPaidBy_18 : decode cX1_howManyPaidBy 18 = .ok (.getfield 39, 3) := by decide +kernel
theorem dX1_howManyPaidBy_21 : decode cX1_howManyPaidBy 21 = .ok (.iload_n 1, 1) := by decide +kernel
theorem dX1_howManyPaidBy_22 : decode cX1_howManyPaidBy 22 = .ok (.if_icmp .ne 6, 3) := by decide +kernel
theorem dX1_howManyPaidBy_25 : decode cX1_howManyPaidBy 25 = .ok (.iinc 2 1, 3) := by decide +kernel
theorem dX1_howManyPaidBy_28 : decode cX1_howManyPaidBy 28 = .ok (.iinc 3 1, 3) := by decide +kernel
theorem dX1_howManyPaidBy_31 : decode cX1_howManyPaidBy 31 = .ok (.goto (-27), 3) := by decide +kernel
theorem dX1_howManyPaidBy_34 : decode cX1_howManyPaidBy 34 = .ok (.iload_n 2, 1) := by decide +kernel
theorem dX1_howManyPaidBy_35 : decode cX1_howManyPaidBy 35 = .ok (.ireturn, 1) := by decide +kernel
theorem dX1_agree_0 : decode cX1_agree 0 = .ok (.aload_n 0, 1) := by decide +kernel
theorem dX1_agree_1 : decode cX1_agree 1 = .ok (.getfield 11, 3) := by decide +kernel
theorem dX1_agree_4 : decode cX1_agree 4 = .ok (.aload_n 0, 1) := by decide +kernel
theorem dX1_agree_5 : decode cX1_agree 5 = .ok (.getfield 28, 3) := by decide +kernel
theorem dX1_agree_8 : decode cX1_agree 8 = .ok (.aaload, 1) := by decide +kernel
theorem dX1_agree_9 : decode cX1_agree 9 = .ok (.astore 4, 2) := by decide +kernel
theorem dX1_agree_11 : decode cX1_agree 11 = .ok (.aload 4, 2) := by decide +kernel
theorem dX1_agree_13 : decode cX1_agree 13 = .ok (.iload_n 1, 1) := by decide +kernel
theorem dX1_agree_14 : decode cX1_agree 14 = .ok (.putfield 39, 3) := by decide +kernel
theorem dX1_agree_17 : decode cX1_agree 17 = .ok (.aload 4, 2) := by decide +kernel
theorem dX1_agree_19 : decode cX1_agree 19 = .ok (.iload_n 2, 1) := by decide +kernel
theorem dX1_agree_20 : decode cX1_agree 20 = .ok (.putfield 36, 3) := by decide +kernel
theorem dX1_agree_23 : decode cX1_agree 23 = .ok (.aload 4, 2) := by decide +kernel
theorem dX1_agree_25 : decode cX1_agree 25 = .ok (.iload_n 3, 1) := by decide +kernel
theorem dX1_agree_26 : decode cX1_agree 26 = .ok (.putfield 42, 3) := by decide +kernel
theorem dX1_agree_29 : decode cX1_agree 29 = .ok (.aload 4, 2) := by decide +kernel
theorem dX1_agree_31 : decode cX1_agree 31 = .ok (.aload_n 0, 1) := by decide +kernel
theorem dX1_agree_32 : decode cX1_agree 32 = .ok (.iload_n 1, 1) := by decide +kernel
theorem dX1_agree_33 : decode cX1_agree 33 = .ok (.invokevirtual 45, 3) := by decide +kernel
theorem dX1_agree_36 : decode cX1_agree 36 = .ok (.putfield 49, 3) := by decide +kernel
theorem dX1_agree_39 : decode cX1_agree 39 = .ok (.aload 4, 2) := by decide +kernel
theorem dX1_agree_41 : decode cX1_agree 41 = .ok (.getfield 49, 3) := by decide +kernel
theorem dX1_agree_44 : decode cX1_agree 44 = .ok (.iconst (-1), 1) := by decide +kernel
theorem dX1_agree_45 : decode cX1_agree 45 = .ok (.if_icmp .eq 49, 3) := by decide +kernel
theorem dX1_agree_48 : decode cX1_agree 48 = .ok (.aload 4, 2) := by decide +kernel
theorem dX1_agree_50 : decode cX1_agree 50 = .ok (.aload_n 0, 1) := by decide +kernel
theorem dX1_agree_51 : decode cX1_agree 51 = .ok (.getfield 11, 3) := by decide +kernel
theorem dX1_agree_54 : decode cX1_agree 54 = .ok (.aload 4, 2) := by decide +kernel
theorem dX1_agree_56 : decode cX1_agree 56 = .ok (.getfield 49, 3) := by decide +kernel
theorem dX1_agree_59 : decode cX1_agree 59 = .ok (.aaload, 1) := by decide +kernel
theorem dX1_agree_60 : decode cX1_agree 60 = .ok (.getfield 52, 3) := by decide +kernel
theorem dX1_agree_63 : decode cX1_agree 63 = .ok (.iconst 1, 1) := by decide +kernel
theorem dX1_agree_64 : decode cX1_agree 64 = .ok (.aload 4, 2) := by decide +kernel
theorem dX1_agree_66 : decode cX1_agree 66 = .ok (.getfield 49, 3) := by decide +kernel
theorem dX1_agree_69 : decode cX1_agree 69 = .ok (.ishl, 1) := by decide +kernel
theorem dX1_agree_70 : decode cX1_agree 70 = .ok (.ior, 1) := by decide +kernel
theorem dX1_agree_71 : decode cX1_agree 71 = .ok (.putfield 52, 3) := by decide +kernel
theorem dX1_agree_74 : decode cX1_agree 74 = .ok (.aload 4, 2) := by decide +kernel
theorem dX1_agree_76 : decode cX1_agree 76 = .ok (.aload_n 0, 1) := by decide +kernel
theorem dX1_agree_77 : decode cX1_agree 77 = .ok (.getfield 11, 3) := by decide +kernel
theorem dX1_agree_80 : decode cX1_agree 80 = .ok (.aload 4, 2) := by decide +kernel
theorem dX1_agree_82 : decode cX1_agree 82 = .ok (.getfield 49, 3) := by decide +kernel
theorem dX1_agree_85 : decode cX1_agree 85 = .ok (.aaload, 1) := by decide +kernel
theorem dX1_agree_86 : decode cX1_agree 86 = .ok (.getfield 55, 3) := by decide +kernel
theorem dX1_agree_89 : decode cX1_agree 89 = .ok (.iconst 1, 1) := by decide +kernel
theorem dX1_agree_90 : decode cX1_agree 90 = .ok (.iadd, 1) := by decide +kernel
theorem dX1_agree_91 : decode cX1_agree 91 = .ok (.putfield 55, 3) := by decide +kernel
theorem dX1_agree_94 : decode cX1_agree 94 = .ok (.aload_n 0, 1) := by decide +kernel
theorem dX1_agree_95 : decode cX1_agree 95 = .ok (.dup, 1) := by decide +kernel
theorem dX1_agree_96 : decode cX1_agree 96 = .ok (.getfield 28, 3) := by decide +kernel
theorem dX1_agree_99 : decode cX1_agree 99 = .ok (.iconst 1, 1) := by decide +kernel
theorem dX1_agree_100 : decode cX1_agree 100 = .ok (.iadd, 1) := by decide +kernel
theorem dX1_agree_101 : decode cX1_agree 101 = .ok (.putfield 28, 3) := by decide +kernel
theorem dX1_agree_104 : decode cX1_agree 104 = .ok (.aload_n 0, 1) := by decide +kernel
theorem dX1_agree_105 : decode cX1_agree 105 = .ok (.getfield 28, 3) := by decide +kernel
theorem dX1_agree_108 : decode cX1_agree 108 = .ok (.iconst 1, 1) := by decide +kernel
theorem dX1_agree_109 : decode cX1_agree 109 = .ok (.isub, 1) := by decide +kernel
theorem dX1_agree_110 : decode cX1_agree 110 = .ok (.ireturn, 1) := by decide +kernel
theorem dX1_settleWaived_0 : decode cX1_settleWaived 0 = .ok (.aload_n 0, 1) := by decide +kernel
theorem dX1_settleWaived_1 : decode cX1_settleWaived 1 = .ok (.getfield 11, 3) := by decide +kernel
theorem dX1_settleWaived_4 : decode cX1_settleWaived 4 = .ok (.iload_n 1, 1) := by decide +kernel
theorem dX1_settleWaived_5 : decode cX1_settleWaived 5 = .ok (.aaload, 1) := by decide +kernel
theorem dX1_settleWaived_6 : decode cX1_settleWaived 6 = .ok (.astore_n 2, 1) := by decide +kernel
theorem dX1_settleWaived_7 : decode cX1_settleWaived 7 = .ok (.iconst 0, 1) := by decide +kernel
theorem dX1_settleWaived_8 : decode cX1_settleWaived 8 = .ok (.istore_n 3, 1) := by decide +kernel
theorem dX1_settleWaived_9 : decode cX1_settleWaived 9 = .ok (.iload_n 3, 1) := by decide +kernel
theorem dX1_settleWaived_10 : decode cX1_settleWaived 10 = .ok (.aload_n 0, 1) := by decide +kernel
theorem dX1_settleWaived_11 : decode cX1_settleWaived 11 = .ok (.getfield 58, 3) := by decide +kernel
theorem dX1_settleWaived_14 : decode cX1_settleWaived 14 = .ok (.if_icmp .ge 70, 3) := by decide +kernel
theorem dX1_settleWaived_17 : decode cX1_settleWaived 17 = .ok (.aload_n 0, 1) := by decide +kernel
theorem dX1_settleWaived_18 : decode cX1_settleWaived 18 = .ok (.getfield 25, 3) := by decide +kernel
theorem dX1_settleWaived_21 : decode cX1_settleWaived 21 = .ok (.iload_n 3, 1) := by decide +kernel
theorem dX1_settleWaived_22 : decode cX1_settleWaived 22 = .ok (.iaload, 1) := by decide +kernel
theorem dX1_settleWaived_23 : decode cX1_settleWaived 23 = .ok (.ifCond .eq 16, 3) := by decide +kernel
theorem dX1_settleWaived_26 : decode cX1_settleWaived 26 = .ok (.aload_n 2, 1) := by decide +kernel
theorem dX1_settleWaived_27 : decode cX1_settleWaived 27 = .ok (.getfield 65, 3) := by decide +kernel
theorem dX1_settleWaived_30 : decode cX1_settleWaived 30 = .ok (.aload_n 0, 1) := by decide +kernel
theorem dX1_settleWaived_31 : decode cX1_settleWaived 31 = .ok (.getfield 22, 3) := by decide +kernel
theorem dX1_settleWaived_34 : decode cX1_settleWaived 34 = .ok (.iload_n 3, 1) := by decide +kernel
theorem dX1_settleWaived_35 : decode cX1_settleWaived 35 = .ok (.iaload, 1) := by decide +kernel
theorem dX1_settleWaived_36 : decode cX1_settleWaived 36 = .ok (.if_icmp .lt 7, 3) := by decide +kernel
theorem dX1_settleWaived_39 : decode cX1_settleWaived 39 = .ok (.iconst 1, 1) := by decide +kernel
theorem dX1_settleWaived_40 : decode cX1_settleWaived 40 = .ok (.goto 4, 3) := by decide +kernel
theorem dX1_settleWaived_43 : decode cX1_settleWaived 43 = .ok (.iconst 0, 1) := by decide +kernel
theorem dX1_settleWaived_44 : decode cX1_settleWaived 44 = .ok (.istore 4, 2) := by decide +kernel
theorem dX1_settleWaived_46 : decode cX1_settleWaived 46 = .ok (.aload_n 0, 1) := by decide +kernel
theorem dX1_settleWaived_47 : decode cX1_settleWaived 47 = .ok (.getfield 18, 3) := by decide +kernel
theorem dX1_settleWaived_50 : decode cX1_settleWaived 50 = .ok (.iload_n 3, 1) := by decide +kernel
theorem dX1_settleWaived_51 : decode cX1_settleWaived 51 = .ok (.iaload, 1) := by decide +kernel
theorem dX1_settleWaived_52 : decode cX1_settleWaived 52 = .ok (.iload_n 1, 1) := by decide +kernel
theorem dX1_settleWaived_53 : decode cX1_settleWaived 53 = .ok (.if_icmp .ne 25, 3) := by decide +kernel
theorem dX1_settleWaived_56 : decode cX1_settleWaived 56 = .ok (.iload 4, 2) := by decide +kernel
theorem dX1_settleWaived_58 : decode cX1_settleWaived 58 = .ok (.ifCond .eq 20, 3) := by decide +kernel
theorem dX1_settleWaived_61 : decode cX1_settleWaived 61 = .ok (.aload_n 2, 1) := by decide +kernel
theorem dX1_settleWaived_62 : decode cX1_settleWaived 62 = .ok (.aload_n 2, 1) := by decide +kernel
theorem dX1_settleWaived_63 : decode cX1_settleWaived 63 = .ok (.getfield 68, 3) := by decide +kernel
theorem dX1_settleWaived_66 : decode cX1_settleWaived 66 = .ok (.aload_n 0, 1) := by decide +kernel
theorem dX1_settleWaived_67 : decode cX1_settleWaived 67 = .ok (.getfield 22, 3) := by decide +kernel
theorem dX1_settleWaived_70 : decode cX1_settleWaived 70 = .ok (.iload_n 3, 1) := by decide +kernel
theorem dX1_settleWaived_71 : decode cX1_settleWaived 71 = .ok (.iaload, 1) := by decide +kernel
theorem dX1_settleWaived_72 : decode cX1_settleWaived 72 = .ok (.invokestatic 71, 3) := by decide +kernel
theorem dX1_settleWaived_75 : decode cX1_settleWaived 75 = .ok (.putfield 68, 3) := by decide +kernel
theorem dX1_settleWaived_78 : decode cX1_settleWaived 78 = .ok (.iinc 3 1, 3) := by decide +kernel
theorem dX1_settleWaived_81 : decode cX1_settleWaived 81 = .ok (.goto (-72), 3) := by decide +kernel
theorem dX1_settleWaived_84 : decode cX1_settleWaived 84 = .ok (.return_, 1) := by decide +kernel
theorem dX1_addWaiver_0 : decode cX1_addWaiver 0 = .ok (.aload_n 0, 1) := by decide +kernel
theorem dX1_addWaiver_1 : decode cX1_addWaiver 1 = .ok (.getfield 18, 3) := by decide +kernel
theorem dX1_addWaiver_4 : decode cX1_addWaiver 4 = .ok (.aload_n 0, 1) := by decide +kernel
theorem dX1_addWaiver_5 : decode cX1_addWaiver 5 = .ok (.getfield 58, 3) := by decide +kernel
theorem dX1_addWaiver_8 : decode cX1_addWaiver 8 = .ok (.iload_n 1, 1) := by decide +kernel
theorem dX1_addWaiver_9 : decode cX1_addWaiver 9 = .ok (.iastore, 1) := by decide +kernel
theorem dX1_addWaiver_10 : decode cX1_addWaiver 10 = .ok (.aload_n 0, 1) := by decide +kernel
theorem dX1_addWaiver_11 : decode cX1_addWaiver 11 = .ok (.getfield 22, 3) := by decide +kernel
theorem dX1_addWaiver_14 : decode cX1_addWaiver 14 = .ok (.aload_n 0, 1) := by decide +kernel
theorem dX1_addWaiver_15 : decode cX1_addWaiver 15 = .ok (.getfield 58, 3) := by decide +kernel
theorem dX1_addWaiver_18 : decode cX1_addWaiver 18 = .ok (.iload_n 2, 1) := by decide +kernel
theorem dX1_addWaiver_19 : decode cX1_addWaiver 19 = .ok (.iastore, 1) := by decide +kernel
theorem dX1_addWaiver_20 : decode cX1_addWaiver 20 = .ok (.aload_n 0, 1) := by decide +kernel
theorem dX1_addWaiver_21 : decode cX1_addWaiver 21 = .ok (.getfield 25, 3) := by decide +kernel
theorem dX1_addWaiver_24 : decode cX1_addWaiver 24 = .ok (.aload_n 0, 1) := by decide +kernel
theorem dX1_addWaiver_25 : decode cX1_addWaiver 25 = .ok (.getfield 58, 3) := by decide +kernel
theorem dX1_addWaiver_28 : decode cX1_addWaiver 28 = .ok (.iload_n 3, 1) := by decide +kernel
theorem dX1_addWaiver_29 : decode cX1_addWaiver 29 = .ok (.iastore, 1) := by decide +kernel
theorem dX1_addWaiver_30 : decode cX1_addWaiver 30 = .ok (.aload_n 0, 1) := by decide +kernel
theorem dX1_addWaiver_31 : decode cX1_addWaiver 31 = .ok (.dup, 1) := by decide +kernel
theorem dX1_addWaiver_32 : decode cX1_addWaiver 32 = .ok (.getfield 58, 3) := by decide +kernel
theorem dX1_addWaiver_35 : decode cX1_addWaiver 35 = .ok (.iconst 1, 1) := by decide +kernel
theorem dX1_addWaiver_36 : decode cX1_addWaiver 36 = .ok (.iadd, 1) := by decide +kernel
theorem dX1_addWaiver_37 : decode cX1_addWaiver 37 = .ok (.putfield 58, 3) := by decide +kernel
theorem dX1_addWaiver_40 : decode cX1_addWaiver 40 = .ok (.aload_n 0, 1) := by decide +kernel
theorem dX1_addWaiver_41 : decode cX1_addWaiver 41 = .ok (.iload_n 1, 1) := by decide +kernel
theorem dX1_addWaiver_42 : decode cX1_addWaiver 42 = .ok (.invokevirtual 61, 3) := by decide +kernel
theorem dX1_addWaiver_45 : decode cX1_addWaiver 45 = .ok (.return_, 1) := by decide +kernel
theorem dX1_firstSpade_0 : decode cX1_firstSpade 0 = .ok (.iconst (-1), 1) := by decide +kernel
theorem dX1_firstSpade_1 : decode cX1_firstSpade 1 = .ok (.istore_n 2, 1) := by decide +kernel
theorem dX1_firstSpade_2 : decode cX1_firstSpade 2 = .ok (.iconst 0, 1) := by decide +kernel
theorem dX1_firstSpade_3 : decode cX1_firstSpade 3 = .ok (.istore_n 3, 1) := by decide +kernel
theorem dX1_firstSpade_4 : decode cX1_firstSpade 4 = .ok (.iload_n 3, 1) := by decide +kernel
theorem dX1_firstSpade_5 : decode cX1_firstSpade 5 = .ok (.aload_n 0, 1) := by decide +kernel
theorem dX1_firstSpade_6 : decode cX1_firstSpade 6 = .ok (.getfield 28, 3) := by decide +kernel
theorem dX1_firstSpade_9 : decode cX1_firstSpade 9 = .ok (.if_icmp .ge 56, 3) := by decide +kernel
theorem dX1_firstSpade_12 : decode cX1_firstSpade 12 = .ok (.iload_n 1, 1) := by decide +kernel
theorem dX1_firstSpade_13 : decode cX1_firstSpade 13 = .ok (.ifCond .ne 15, 3) := by decide +kernel
theorem dX1_firstSpade_16 : decode cX1_firstSpade 16 = .ok (.aload_n 0, 1) := by decide +kernel
theorem dX1_firstSpade_17 : decode cX1_firstSpade 17 = .ok (.getfield 11, 3) := by decide +kernel
theorem dX1_firstSpade_20 : decode cX1_firstSpade 20 = .ok (.iload_n 3, 1) := by decide +kernel
theorem dX1_firstSpade_21 : decode cX1_firstSpade 21 = .ok (.aaload, 1) := by decide +kernel
theorem dX1_firstSpade_22 : decode cX1_firstSpade 22 = .ok (.getfield 77, 3) := by decide +kernel
theorem dX1_firstSpade_25 : decode cX1_firstSpade 25 = .ok (.goto 12, 3) := by decide +kernel
theorem dX1_firstSpade_28 : decode cX1_firstSpade 28 = .ok (.aload_n 0, 1) := by decide +kernel
theorem dX1_firstSpade_29 : decode cX1_firstSpade 29 = .ok (.getfield 11, 3) := by decide +kernel
theorem dX1_firstSpade_32 : decode cX1_firstSpade 32 = .ok (.iload_n 3, 1) := by decide +kernel
theorem dX1_firstSpade_33 : decode cX1_firstSpade 33 = .ok (.aaload, 1) := by decide +kernel
theorem dX1_firstSpade_34 : decode cX1_firstSpade 34 = .ok (.getfield 80, 3) := by decide +kernel
theorem dX1_firstSpade_37 : decode cX1_firstSpade 37 = .ok (.istore 4, 2) := by decide +kernel
theorem dX1_firstSpade_39 : decode cX1_firstSpade 39 = .ok (.iload 4, 2) := by decide +kernel
theorem dX1_firstSpade_41 : decode cX1_firstSpade 41 = .ok (.iconst (-1), 1) := by decide +kernel
theorem dX1_firstSpade_42 : decode cX1_firstSpade 42 = .ok (.if_icmp .eq 17, 3) := by decide +kernel
theorem dX1_firstSpade_45 : decode cX1_firstSpade 45 = .ok (.iload_n 2, 1) := by decide +kernel
theorem dX1_firstSpade_46 : decode cX1_firstSpade 46 = .ok (.iconst (-1), 1) := by decide +kernel
theorem dX1_firstSpade_47 : decode cX1_firstSpade 47 = .ok (.if_icmp .eq 9, 3) := by decide +kernel
theorem dX1_firstSpade_50 : decode cX1_firstSpade 50 = .ok (.iload 4, 2) := by decide +kernel
theorem dX1_firstSpade_52 : decode cX1_firstSpade 52 = .ok (.iload_n 2, 1) := by decide +kernel
theorem dX1_firstSpade_53 : decode cX1_firstSpade 53 = .ok (.if_icmp .ge 6, 3) := by decide +kernel
theorem dX1_firstSpade_56 : decode cX1_firstSpade 56 = .ok (.iload 4, 2) := by decide +kernel
theorem dX1_firstSpade_58 : decode cX1_firstSpade 58 = .ok (.istore_n 2, 1) := by decide +kernel
theorem dX1_firstSpade_59 : decode cX1_firstSpade 59 = .ok (.iinc 3 1, 3) := by decide +kernel
theorem dX1_firstSpade_62 : decode cX1_firstSpade 62 = .ok (.goto (-58), 3) := by decide +kernel
theorem dX1_firstSpade_65 : decode cX1_firstSpade 65 = .ok (.iload_n 2, 1) := by decide +kernel
theorem dX1_firstSpade_66 : decode cX1_firstSpade 66 = .ok (.ireturn, 1) := by decide +kernel
theorem dX3_open_0 : decode cX3_open 0 = .ok (.iconst 0, 1) := by decide +kernel
theorem dX3_open_1 : decode cX3_open 1 = .ok (.aload_n 0, 1) := by decide +kernel
theorem dX3_open_2 : decode cX3_open 2 = .ok (.getfield 33, 3) := by decide +kernel
theorem dX3_open_5 : decode cX3_open 5 = .ok (.aload_n 0, 1) := by decide +kernel
theorem dX3_open_6 : decode cX3_open 6 = .ok (.getfield 36, 3) := by decide +kernel
theorem dX3_open_9 : decode cX3_open 9 = .ok (.aload_n 0, 1) := by decide +kernel
theorem dX3_open_10 : decode cX3_open 10 = .ok (.getfield 39, 3) := by decide +kernel
theorem dX3_open_13 : decode cX3_open 13 = .ok (.invokestatic 42, 3) := by decide +kernel
theorem dX3_open_16 : decode cX3_open 16 = .ok (.isub, 1) := by decide +kernel
theorem dX3_open_17 : decode cX3_open 17 = .ok (.invokestatic 42, 3) := by decide +kernel
theorem dX3_open_20 : decode cX3_open 20 = .ok (.ireturn, 1) := by decide +kernel
theorem dX3_isBelow_0 : decode cX3_isBelow 0 = .ok (.aload_n 0, 1) := by decide +kernel
theorem dX3_isBelow_1 : decode cX3_isBelow 1 = .ok (.getfield 48, 3) := by decide +kernel
theorem dX3_isBelow_4 : decode cX3_isBelow 4 = .ok (.iload_n 1, 1) := by decide +kernel
theorem dX3_isBelow_5 : decode cX3_isBelow 5 = .ok (.ishr, 1) := by decide +kernel
theorem dX3_isBelow_6 : decode cX3_isBelow 6 = .ok (.iconst 1, 1) := by decide +kernel
theorem dX3_isBelow_7 : decode cX3_isBelow 7 = .ok (.iand, 1) := by decide +kernel
theorem dX3_isBelow_8 : decode cX3_isBelow 8 = .ok (.iconst 1, 1) := by decide +kernel
theorem dX3_isBelow_9 : decode cX3_isBelow 9 = .ok (.if_icmp .ne 7, 3) := by decide +kernel
theorem dX3_isBelow_12 : decode cX3_isBelow 12 = .ok (.iconst 1, 1) := by decide +kernel
theorem dX3_isBelow_13 : decode cX3_isBelow 13 = .ok (.goto 4, 3) := by decide +kernel
theorem dX3_isBelow_16 : decode cX3_isBelow 16 = .ok (.iconst 0, 1) := by decide +kernel
theorem dX3_isBelow_17 : decode cX3_isBelow 17 = .ok (.ireturn, 1) := by decide +kernel
theorem dX3_owing_0 : decode cX3_owing 0 = .ok (.aload_n 0, 1) := by decide +kernel
theorem dX3_owing_1 : decode cX3_owing 1 = .ok (.getfield 33, 3) := by decide +kernel
theorem dX3_owing_4 : decode cX3_owing 4 = .ok (.aload_n 0, 1) := by decide +kernel
theorem dX3_owing_5 : decode cX3_owing 5 = .ok (.getfield 36, 3) := by decide +kernel
theorem dX3_owing_8 : decode cX3_owing 8 = .ok (.isub, 1) := by decide +kernel
theorem dX3_owing_9 : decode cX3_owing 9 = .ok (.ireturn, 1) := by decide +kernel
theorem dX1_boundOf_0 : decode cX1_boundOf 0 = .ok (.aload_n 1, 1) := by decide +kernel
theorem dX1_boundOf_1 : decode cX1_boundOf 1 = .ok (.invokevirtual 83, 3) := by decide +kernel
theorem dX1_boundOf_4 : decode cX1_boundOf 4 = .ok (.istore_n 3, 1) := by decide +kernel
theorem dX1_boundOf_5 : decode cX1_boundOf 5 = .ok (.iload_n 2, 1) := by decide +kernel
theorem dX1_boundOf_6 : decode cX1_boundOf 6 = .ok (.ifCond .eq 45, 3) := by decide +kernel
theorem dX1_boundOf_9 : decode cX1_boundOf 9 = .ok (.iconst 0, 1) := by decide +kernel
theorem dX1_boundOf_10 : decode cX1_boundOf 10 = .ok (.istore 4, 2) := by decide +kernel
theorem dX1_boundOf_12 : decode cX1_boundOf 12 = .ok (.iload 4, 2) := by decide +kernel
theorem dX1_boundOf_14 : decode cX1_boundOf 14 = .ok (.aload_n 0, 1) := by decide +kernel
theorem dX1_boundOf_15 : decode cX1_boundOf 15 = .ok (.getfield 28, 3) := by decide +kernel
theorem dX1_boundOf_18 : decode cX1_boundOf 18 = .ok (.if_icmp .ge 33, 3) := by decide +kernel
theorem dX1_boundOf_21 : decode cX1_boundOf 21 = .ok (.aload_n 1, 1) := by decide +kernel
theorem dX1_boundOf_22 : decode cX1_boundOf 22 = .ok (.iload 4, 2) := by decide +kernel
theorem dX1_boundOf_24 : decode cX1_boundOf 24 = .ok (.invokevirtual 87, 3) := by decide +kernel
theorem dX1_boundOf_27 : decode cX1_boundOf 27 = .ok (.ifCond .eq 18, 3) := by decide +kernel
theorem dX1_boundOf_30 : decode cX1_boundOf 30 = .ok (.iload_n 3, 1) := by decide +kernel
theorem dX1_boundOf_31 : decode cX1_boundOf 31 = .ok (.aload_n 0, 1) := by decide +kernel
theorem dX1_boundOf_32 : decode cX1_boundOf 32 = .ok (.getfield 11, 3) := by decide +kernel
theorem dX1_boundOf_35 : decode cX1_boundOf 35 = .ok (.iload 4, 2) := by decide +kernel
theorem dX1_boundOf_37 : decode cX1_boundOf 37 = .ok (.aaload, 1) := by decide +kernel
theorem dX1_boundOf_38 : decode cX1_boundOf 38 = .ok (.invokevirtual 91, 3) := by decide +kernel
theorem dX1_boundOf_41 : decode cX1_boundOf 41 = .ok (.invokestatic 94, 3) := by decide +kernel
theorem dX1_boundOf_44 : decode cX1_boundOf 44 = .ok (.istore_n 3, 1) := by decide +kernel
theorem dX1_boundOf_45 : decode cX1_boundOf 45 = .ok (.iinc 4 1, 3) := by decide +kernel
theorem dX1_boundOf_48 : decode cX1_boundOf 48 = .ok (.goto (-36), 3) := by decide +kernel
theorem dX1_boundOf_51 : decode cX1_boundOf 51 = .ok (.iload_n 3, 1) := by decide +kernel
theorem dX1_boundOf_52 : decode cX1_boundOf 52 = .ok (.ireturn, 1) := by decide +kernel
theorem dJ6_bitCount_0f7a4_0 : decode cJ6_bitCount_0f7a4 0 = .ok (.iload_n 0, 1) := by decide +kernel
theorem dJ6_bitCount_0f7a4_1 : decode cJ6_bitCount_0f7a4 1 = .ok (.iload_n 0, 1) := by decide +kernel
theorem dJ6_bitCount_0f7a4_2 : decode cJ6_bitCount_0f7a4 2 = .ok (.iconst 1, 1) := by decide +kernel
theorem dJ6_bitCount_0f7a4_3 : decode cJ6_bitCount_0f7a4 3 = .ok (.iushr, 1) := by decide +kernel
theorem dJ6_bitCount_0f7a4_4 : decode cJ6_bitCount_0f7a4 4 = .ok (.ldc_w 265, 3) := by decide +kernel
theorem dJ6_bitCount_0f7a4_7 : decode cJ6_bitCount_0f7a4 7 = .ok (.iand, 1) := by decide +kernel
theorem dJ6_bitCount_0f7a4_8 : decode cJ6_bitCount_0f7a4 8 = .ok (.isub, 1) := by decide +kernel
theorem dJ6_bitCount_0f7a4_9 : decode cJ6_bitCount_0f7a4 9 = .ok (.istore_n 0, 1) := by decide +kernel
theorem dJ6_bitCount_0f7a4_10 : decode cJ6_bitCount_0f7a4 10 = .ok (.iload_n 0, 1) := by decide +kernel
theorem dJ6_bitCount_0f7a4_11 : decode cJ6_bitCount_0f7a4 11 = .ok (.ldc_w 266, 3) := by decide +kernel
theorem dJ6_bitCount_0f7a4_14 : decode cJ6_bitCount_0f7a4 14 = .ok (.iand, 1) := by decide +kernel
theorem dJ6_bitCount_0f7a4_15 : decode cJ6_bitCount_0f7a4 15 = .ok (.iload_n 0, 1) := by decide +kernel
theorem dJ6_bitCount_0f7a4_16 : decode cJ6_bitCount_0f7a4 16 = .ok (.iconst 2, 1) := by decide +kernel
theorem dJ6_bitCount_0f7a4_17 : decode cJ6_bitCount_0f7a4 17 = .ok (.iushr, 1) := by decide +kernel
theorem dJ6_bitCount_0f7a4_18 : decode cJ6_bitCount_0f7a4 18 = .ok (.ldc_w 266, 3) := by decide +kernel
theorem dJ6_bitCount_0f7a4_21 : decode cJ6_bitCount_0f7a4 21 = .ok (.iand, 1) := by decide +kernel
theorem dJ6_bitCount_0f7a4_22 : decode cJ6_bitCount_0f7a4 22 = .ok (.iadd, 1) := by decide +kernel
theorem dJ6_bitCount_0f7a4_23 : decode cJ6_bitCount_0f7a4 23 = .ok (.istore_n 0, 1) := by decide +kernel
theorem dJ6_bitCount_0f7a4_24 : decode cJ6_bitCount_0f7a4 24 = .ok (.iload_n 0, 1) := by decide +kernel
theorem dJ6_bitCount_0f7a4_25 : decode cJ6_bitCount_0f7a4 25 = .ok (.iload_n 0, 1) := by decide +kernel
theorem dJ6_bitCount_0f7a4_26 : decode cJ6_bitCount_0f7a4 26 = .ok (.iconst 4, 1) := by decide +kernel
theorem dJ6_bitCount_0f7a4_27 : decode cJ6_bitCount_0f7a4 27 = .ok (.iushr, 1) := by decide +kernel
theorem dJ6_bitCount_0f7a4_28 : decode cJ6_bitCount_0f7a4 28 = .ok (.iadd, 1) := by decide +kernel
theorem dJ6_bitCount_0f7a4_29 : decode cJ6_bitCount_0f7a4 29 = .ok (.ldc_w 267, 3) := by decide +kernel
theorem dJ6_bitCount_0f7a4_32 : decode cJ6_bitCount_0f7a4 32 = .ok (.iand, 1) := by decide +kernel
theorem dJ6_bitCount_0f7a4_33 : decode cJ6_bitCount_0f7a4 33 = .ok (.istore_n 0, 1) := by decide +kernel
theorem dJ6_bitCount_0f7a4_34 : decode cJ6_bitCount_0f7a4 34 = .ok (.iload_n 0, 1) := by decide +kernel
theorem dJ6_bitCount_0f7a4_35 : decode cJ6_bitCount_0f7a4 35 = .ok (.iload_n 0, 1) := by decide +kernel
theorem dJ6_bitCount_0f7a4_36 : decode cJ6_bitCount_0f7a4 36 = .ok (.bipush 8, 2) := by decide +kernel
theorem dJ6_bitCount_0f7a4_38 : decode cJ6_bitCount_0f7a4 38 = .ok (.iushr, 1) := by decide +kernel
theorem dJ6_bitCount_0f7a4_39 : decode cJ6_bitCount_0f7a4 39 = .ok (.iadd, 1) := by decide +kernel
theorem dJ6_bitCount_0f7a4_40 : decode cJ6_bitCount_0f7a4 40 = .ok (.istore_n 0, 1) := by decide +kernel
theorem dJ6_bitCount_0f7a4_41 : decode cJ6_bitCount_0f7a4 41 = .ok (.iload_n 0, 1) := by decide +kernel
theorem dJ6_bitCount_0f7a4_42 : decode cJ6_bitCount_0f7a4 42 = .ok (.iload_n 0, 1) := by decide +kernel
theorem dJ6_bitCount_0f7a4_43 : decode cJ6_bitCount_0f7a4 43 = .ok (.bipush 16, 2) := by decide +kernel
theorem dJ6_bitCount_0f7a4_45 : decode cJ6_bitCount_0f7a4 45 = .ok (.iushr, 1) := by decide +kernel
theorem dJ6_bitCount_0f7a4_46 : decode cJ6_bitCount_0f7a4 46 = .ok (.iadd, 1) := by decide +kernel
theorem dJ6_bitCount_0f7a4_47 : decode cJ6_bitCount_0f7a4 47 = .ok (.istore_n 0, 1) := by decide +kernel
theorem dJ6_bitCount_0f7a4_48 : decode cJ6_bitCount_0f7a4 48 = .ok (.iload_n 0, 1) := by decide +kernel
theorem dJ6_bitCount_0f7a4_49 : decode cJ6_bitCount_0f7a4 49 = .ok (.bipush 63, 2) := by decide +kernel
theorem dJ6_bitCount_0f7a4_51 : decode cJ6_bitCount_0f7a4 51 = .ok (.iand, 1) := by decide +kernel
theorem dJ6_bitCount_0f7a4_52 : decode cJ6_bitCount_0f7a4 52 = .ok (.ireturn, 1) := by decide +kernel
theorem dX1_openOfSet_0 : decode cX1_openOfSet 0 = .ok (.iconst 0, 1) := by decide +kernel
theorem dX1_openOfSet_1 : decode cX1_openOfSet 1 = .ok (.istore_n 2, 1) := by decide +kernel
theorem dX1_openOfSet_2 : decode cX1_openOfSet 2 = .ok (.iconst 0, 1) := by decide +kernel
theorem dX1_openOfSet_3 : decode cX1_openOfSet 3 = .ok (.istore_n 3, 1) := by decide +kernel
theorem dX1_openOfSet_4 : decode cX1_openOfSet 4 = .ok (.iload_n 3, 1) := by decide +kernel
theorem dX1_openOfSet_5 : decode cX1_openOfSet 5 = .ok (.aload_n 0, 1) := by decide +kernel
theorem dX1_openOfSet_6 : decode cX1_openOfSet 6 = .ok (.getfield 28, 3) := by decide +kernel
theorem dX1_openOfSet_9 : decode cX1_openOfSet 9 = .ok (.if_icmp .ge 30, 3) := by decide +kernel
theorem dX1_openOfSet_12 : decode cX1_openOfSet 12 = .ok (.iload_n 1, 1) := by decide +kernel
theorem dX1_openOfSet_13 : decode cX1_openOfSet 13 = .ok (.iload_n 3, 1) := by decide +kernel
theorem dX1_openOfSet_14 : decode cX1_openOfSet 14 = .ok (.ishr, 1) := by decide +kernel
theorem dX1_openOfSet_15 : decode cX1_openOfSet 15 = .ok (.iconst 1, 1) := by decide +kernel
theorem dX1_openOfSet_16 : decode cX1_openOfSet 16 = .ok (.iand, 1) := by decide +kernel
theorem dX1_openOfSet_17 : decode cX1_openOfSet 17 = .ok (.iconst 1, 1) := by decide +kernel
theorem dX1_openOfSet_18 : decode cX1_openOfSet 18 = .ok (.if_icmp .ne 15, 3) := by decide +kernel
theorem dX1_openOfSet_21 : decode cX1_openOfSet 21 = .ok (.iload_n 2, 1) := by decide +kernel
theorem dX1_openOfSet_22 : decode cX1_openOfSet 22 = .ok (.aload_n 0, 1) := by decide +kernel
theorem dX1_openOfSet_23 : decode cX1_openOfSet 23 = .ok (.getfield 11, 3) := by decide +kernel
theorem dX1_openOfSet_26 : decode cX1_openOfSet 26 = .ok (.iload_n 3, 1) := by decide +kernel
theorem dX1_openOfSet_27 : decode cX1_openOfSet 27 = .ok (.aaload, 1) := by decide +kernel
theorem dX1_openOfSet_28 : decode cX1_openOfSet 28 = .ok (.invokevirtual 83, 3) := by decide +kernel
theorem dX1_openOfSet_31 : decode cX1_openOfSet 31 = .ok (.iadd, 1) := by decide +kernel
theorem dX1_openOfSet_32 : decode cX1_openOfSet 32 = .ok (.istore_n 2, 1) := by decide +kernel
theorem dX1_openOfSet_33 : decode cX1_openOfSet 33 = .ok (.iinc 3 1, 3) := by decide +kernel
theorem dX1_openOfSet_36 : decode cX1_openOfSet 36 = .ok (.goto (-32), 3) := by decide +kernel
theorem dX1_openOfSet_39 : decode cX1_openOfSet 39 = .ok (.iload_n 2, 1) := by decide +kernel
theorem dX1_openOfSet_40 : decode cX1_openOfSet 40 = .ok (.ireturn, 1) := by decide +kernel
theorem dX1_fewestSigners_0 : decode cX1_fewestSigners 0 = .ok (.iconst 0, 1) := by decide +kernel
theorem dX1_fewestSigners_1 : decode cX1_fewestSigners 1 = .ok (.istore 4, 2) := by decide +kernel
theorem dX1_fewestSigners_3 : decode cX1_fewestSigners 3 = .ok (.iconst 0, 1) := by decide +kernel
theorem dX1_fewestSigners_4 : decode cX1_fewestSigners 4 = .ok (.istore 5, 2) := by decide +kernel
theorem dX1_fewestSigners_6 : decode cX1_fewestSigners 6 = .ok (.iconst 0, 1) := by decide +kernel
theorem dX1_fewestSigners_7 : decode cX1_fewestSigners 7 = .ok (.istore 6, 2) := by decide +kernel
theorem dX1_fewestSigners_9 : decode cX1_fewestSigners 9 = .ok (.iload 6, 2) := by decide +kernel
theorem dX1_fewestSigners_11 : decode cX1_fewestSigners 11 = .ok (.aload_n 0, 1) := by decide +kernel
theorem dX1_fewestSigners_12 : decode cX1_fewestSigners 12 = .ok (.getfield 28, 3) := by decide +kernel
theorem dX1_fewestSigners_15 : decode cX1_fewestSigners 15 = .ok (.if_icmp .ge 61, 3) := by decide +kernel
theorem dX1_fewestSigners_18 : decode cX1_fewestSigners 18 = .ok (.aload_n 0, 1) := by decide +kernel
theorem dX1_fewestSigners_19 : decode cX1_fewestSigners 19 = .ok (.getfield 11, 3) := by decide +kernel
theorem dX1_fewestSigners_22 : decode cX1_fewestSigners 22 = .ok (.iload 6, 2) := by decide +kernel
theorem dX1_fewestSigners_24 : decode cX1_fewestSigners 24 = .ok (.aaload, 1) := by decide +kernel
theorem dX1_fewestSigners_25 : decode cX1_fewestSigners 25 = .ok (.iload_n 1, 1) := by decide +kernel
theorem dX1_fewestSigners_26 : decode cX1_fewestSigners 26 = .ok (.invokevirtual 87, 3) := by decide +kernel
theorem dX1_fewestSigners_29 : decode cX1_fewestSigners 29 = .ok (.ifCond .eq 41, 3) := by decide +kernel
theorem dX1_fewestSigners_32 : decode cX1_fewestSigners 32 = .ok (.aload_n 0, 1) := by decide +kernel
theorem dX1_fewestSigners_33 : decode cX1_fewestSigners 33 = .ok (.getfield 11, 3) := by decide +kernel
theorem dX1_fewestSigners_36 : decode cX1_fewestSigners 36 = .ok (.iload 6, 2) := by decide +kernel
theorem dX1_fewestSigners_38 : decode cX1_fewestSigners 38 = .ok (.aaload, 1) := by decide +kernel
theorem dX1_fewestSigners_39 : decode cX1_fewestSigners 39 = .ok (.getfield 55, 3) := by decide +kernel
theorem dX1_fewestSigners_42 : decode cX1_fewestSigners 42 = .ok (.iload_n 3, 1) := by decide +kernel
theorem dX1_fewestSigners_43 : decode cX1_fewestSigners 43 = .ok (.if_icmp .gt 27, 3) := by decide +kernel
theorem dX1_fewestSigners_46 : decode cX1_fewestSigners 46 = .ok (.iload 4, 2) := by decide +kernel
theorem dX1_fewestSigners_48 : decode cX1_fewestSigners 48 = .ok (.iconst 1, 1) := by decide +kernel
theorem dX1_fewestSigners_49 : decode cX1_fewestSigners 49 = .ok (.iload 6, 2) := by decide +kernel
theorem dX1_fewestSigners_51 : decode cX1_fewestSigners 51 = .ok (.ishl, 1) := by decide +kernel
theorem dX1_fewestSigners_52 : decode cX1_fewestSigners 52 = .ok (.ior, 1) := by decide +kernel
theorem dX1_fewestSigners_53 : decode cX1_fewestSigners 53 = .ok (.istore 4, 2) := by decide +kernel
theorem dX1_fewestSigners_55 : decode cX1_fewestSigners 55 = .ok (.iload 5, 2) := by decide +kernel
theorem dX1_fewestSigners_57 : decode cX1_fewestSigners 57 = .ok (.aload_n 0, 1) := by decide +kernel
theorem dX1_fewestSigners_58 : decode cX1_fewestSigners 58 = .ok (.getfield 11, 3) := by decide +kernel
theorem dX1_fewestSigners_61 : decode cX1_fewestSigners 61 = .ok (.iload 6, 2) := by decide +kernel
theorem dX1_fewestSigners_63 : decode cX1_fewestSigners 63 = .ok (.aaload, 1) := by decide +kernel
theorem dX1_fewestSigners_64 : decode cX1_fewestSigners 64 = .ok (.invokevirtual 83, 3) := by decide +kernel
theorem dX1_fewestSigners_67 : decode cX1_fewestSigners 67 = .ok (.iadd, 1) := by decide +kernel
theorem dX1_fewestSigners_68 : decode cX1_fewestSigners 68 = .ok (.istore 5, 2) := by decide +kernel
theorem dX1_fewestSigners_70 : decode cX1_fewestSigners 70 = .ok (.iinc 6 1, 3) := by decide +kernel
theorem dX1_fewestSigners_73 : decode cX1_fewestSigners 73 = .ok (.goto (-64), 3) := by decide +kernel
theorem dX1_fewestSigners_76 : decode cX1_fewestSigners 76 = .ok (.iload 4, 2) := by decide +kernel
theorem dX1_fewestSigners_78 : decode cX1_fewestSigners 78 = .ok (.istore 6, 2) := by decide +kernel
theorem dX1_fewestSigners_80 : decode cX1_fewestSigners 80 = .ok (.iload 4, 2) := by decide +kernel
theorem dX1_fewestSigners_82 : decode cX1_fewestSigners 82 = .ok (.invokestatic 97, 3) := by decide +kernel
theorem dX1_fewestSigners_85 : decode cX1_fewestSigners 85 = .ok (.istore 7, 2) := by decide +kernel
theorem dX1_fewestSigners_87 : decode cX1_fewestSigners 87 = .ok (.iconst 0, 1) := by decide +kernel
theorem dX1_fewestSigners_88 : decode cX1_fewestSigners 88 = .ok (.istore 8, 2) := by decide +kernel
theorem dX1_fewestSigners_90 : decode cX1_fewestSigners 90 = .ok (.iload 8, 2) := by decide +kernel
theorem dX1_fewestSigners_92 : decode cX1_fewestSigners 92 = .ok (.iload 4, 2) := by decide +kernel
theorem dX1_fewestSigners_94 : decode cX1_fewestSigners 94 = .ok (.if_icmp .ge 53, 3) := by decide +kernel
theorem dX1_fewestSigners_97 : decode cX1_fewestSigners 97 = .ok (.iload 8, 2) := by decide +kernel
theorem dX1_fewestSigners_99 : decode cX1_fewestSigners 99 = .ok (.iload 4, 2) := by decide +kernel
theorem dX1_fewestSigners_101 : decode cX1_fewestSigners 101 = .ok (.iconst (-1), 1) := by decide +kernel
theorem dX1_fewestSigners_102 : decode cX1_fewestSigners 102 = .ok (.ixor, 1) := by decide +kernel
theorem dX1_fewestSigners_103 : decode cX1_fewestSigners 103 = .ok (.iand, 1) := by decide +kernel
theorem dX1_fewestSigners_104 : decode cX1_fewestSigners 104 = .ok (.ifCond .ne 37, 3) := by decide +kernel
theorem dX1_fewestSigners_107 : decode cX1_fewestSigners 107 = .ok (.iload 8, 2) := by decide +kernel
theorem dX1_fewestSigners_109 : decode cX1_fewestSigners 109 = .ok (.invokestatic 97, 3) := by decide +kernel
theorem dX1_fewestSigners_112 : decode cX1_fewestSigners 112 = .ok (.iload 7, 2) := by decide +kernel
theorem dX1_fewestSigners_114 : decode cX1_fewestSigners 114 = .ok (.if_icmp .ge 27, 3) := by decide +kernel
theorem dX1_fewestSigners_117 : decode cX1_fewestSigners 117 = .ok (.iload 5, 2) := by decide +kernel
theorem dX1_fewestSigners_119 : decode cX1_fewestSigners 119 = .ok (.aload_n 0, 1) := by decide +kernel
theorem dX1_fewestSigners_120 : decode cX1_fewestSigners 120 = .ok (.iload 8, 2) := by decide +kernel
theorem dX1_fewestSigners_122 : decode cX1_fewestSigners 122 = .ok (.invokevirtual 102, 3) := by decide +kernel
theorem dX1_fewestSigners_125 : decode cX1_fewestSigners 125 = .ok (.isub, 1) := by decide +kernel
theorem dX1_fewestSigners_126 : decode cX1_fewestSigners 126 = .ok (.iload_n 2, 1) := by decide +kernel
theorem dX1_fewestSigners_127 : decode cX1_fewestSigners 127 = .ok (.if_icmp .gt 14, 3) := by decide +kernel
theorem dX1_fewestSigners_130 : decode cX1_fewestSigners 130 = .ok (.iload 8, 2) := by decide +kernel
theorem dX1_fewestSigners_132 : decode cX1_fewestSigners 132 = .ok (.istore 6, 2) := by decide +kernel
theorem dX1_fewestSigners_134 : decode cX1_fewestSigners 134 = .ok (.iload 8, 2) := by decide +kernel
theorem dX1_fewestSigners_136 : decode cX1_fewestSigners 136 = .ok (.invokestatic 97, 3) := by decide +kernel
theorem dX1_fewestSigners_139 : decode cX1_fewestSigners 139 = .ok (.istore 7, 2) := by decide +kernel
theorem dX1_fewestSigners_141 : decode cX1_fewestSigners 141 = .ok (.iinc 8 1, 3) := by decide +kernel
theorem dX1_fewestSigners_144 : decode cX1_fewestSigners 144 = .ok (.goto (-54), 3) := by decide +kernel
theorem dX1_fewestSigners_147 : decode cX1_fewestSigners 147 = .ok (.iload 6, 2) := by decide +kernel
theorem dX1_fewestSigners_149 : decode cX1_fewestSigners 149 = .ok (.ireturn, 1) := by decide +kernel
theorem dX3_hasBegun_0 : decode cX3_hasBegun 0 = .ok (.aload_n 0, 1) := by decide +kernel
theorem dX3_hasBegun_1 : decode cX3_hasBegun 1 = .ok (.getfield 21, 3) := by decide +kernel
theorem dX3_hasBegun_4 : decode cX3_hasBegun 4 = .ok (.iconst (-1), 1) := by decide +kernel
theorem dX3_hasBegun_5 : decode cX3_hasBegun 5 = .ok (.if_icmp .eq 7, 3) := by decide +kernel
theorem dX3_hasBegun_8 : decode cX3_hasBegun 8 = .ok (.iconst 1, 1) := by decide +kernel
theorem dX3_hasBegun_9 : decode cX3_hasBegun 9 = .ok (.goto 4, 3) := by decide +kernel
theorem dX3_hasBegun_12 : decode cX3_hasBegun 12 = .ok (.iconst 0, 1) := by decide +kernel
theorem dX3_hasBegun_13 : decode cX3_hasBegun 13 = .ok (.ireturn, 1) := by decide +kernel
theorem dX3_hasEnded_0 : decode cX3_hasEnded 0 = .ok (.aload_n 0, 1) := by decide +kernel
theorem dX3_hasEnded_1 : decode cX3_hasEnded 1 = .ok (.getfield 27, 3) := by decide +kernel
theorem dX3_hasEnded_4 : decode cX3_hasEnded 4 = .ok (.iconst (-1), 1) := by decide +kernel
theorem dX3_hasEnded_5 : decode cX3_hasEnded 5 = .ok (.if_icmp .eq 7, 3) := by decide +kernel
theorem dX3_hasEnded_8 : decode cX3_hasEnded 8 = .ok (.iconst 1, 1) := by decide +kernel
theorem dX3_hasEnded_9 : decode cX3_hasEnded 9 = .ok (.goto 4, 3) := by decide +kernel
theorem dX3_hasEnded_12 : decode cX3_hasEnded 12 = .ok (.iconst 0, 1) := by decide +kernel
theorem dX3_hasEnded_13 : decode cX3_hasEnded 13 = .ok (.ireturn, 1) := by decide +kernel
theorem dX3_isSideOf_0 : decode cX3_isSideOf 0 = .ok (.aload_n 0, 1) := by decide +kernel
theorem dX3_isSideOf_1 : decode cX3_isSideOf 1 = .ok (.getfield 51, 3) := by decide +kernel
theorem dX3_isSideOf_4 : decode cX3_isSideOf 4 = .ok (.iload_n 1, 1) := by decide +kernel
theorem dX3_isSideOf_5 : decode cX3_isSideOf 5 = .ok (.if_icmp .eq 11, 3) := by decide +kernel
theorem dX3_isSideOf_8 : decode cX3_isSideOf 8 = .ok (.aload_n 0, 1) := by decide +kernel
theorem dX3_isSideOf_9 : decode cX3_isSideOf 9 = .ok (.getfield 54, 3) := by decide +kernel
theorem dX3_isSideOf_12 : decode cX3_isSideOf 12 = .ok (.iload_n 1, 1) := by decide +kernel
theorem dX3_isSideOf_13 : decode cX3_isSideOf 13 = .ok (.if_icmp .ne 7, 3) := by decide +kernel
theorem dX3_isSideOf_16 : decode cX3_isSideOf 16 = .ok (.iconst 1, 1) := by decide +kernel
theorem dX3_isSideOf_17 : decode cX3_isSideOf 17 = .ok (.goto 4, 3) := by decide +kernel
theorem dX3_isSideOf_20 : decode cX3_isSideOf 20 = .ok (.iconst 0, 1) := by decide +kernel
theorem dX3_isSideOf_21 : decode cX3_isSideOf 21 = .ok (.ireturn, 1) := by decide +kernel
theorem dX3_detail_0 : decode cX3_detail 0 = .ok (.iload_n 1, 1) := by decide +kernel
theorem dX3_detail_1 : decode cX3_detail 1 = .ok (.tableswitch 132 0 12 #[67, 72, 77, 82, 87, 92, 97, 102, 107, 112, 117, 122, 127], 67) := by decide +kernel
theorem dX3_detail_68 : decode cX3_detail 68 = .ok (.aload_n 0, 1) := by decide +kernel
theorem dX3_detail_69 : decode cX3_detail 69 = .ok (.getfield 51, 3) := by decide +kernel
theorem dX3_detail_72 : decode cX3_detail 72 = .ok (.ireturn, 1) := by decide +kernel
theorem dX3_detail_73 : decode cX3_detail 73 = .ok (.aload_n 0, 1) := by decide +kernel
theorem dX3_detail_74 : decode cX3_detail 74 = .ok (.getfield 54, 3) := by decide +kernel
theorem dX3_detail_77 : decode cX3_detail 77 = .ok (.ireturn, 1) := by decide +kernel
theorem dX3_detail_78 : decode cX3_detail 78 = .ok (.aload_n 0, 1) := by decide +kernel
theorem dX3_detail_79 : decode cX3_detail 79 = .ok (.getfield 33, 3) := by decide +kernel
theorem dX3_detail_82 : decode cX3_detail 82 = .ok (.ireturn, 1) := by decide +kernel
theorem dX3_detail_83 : decode cX3_detail 83 = .ok (.aload_n 0, 1) := by decide +kernel
theorem dX3_detail_84 : decode cX3_detail 84 = .ok (.getfield 36, 3) := by decide +kernel
theorem dX3_detail_87 : decode cX3_detail 87 = .ok (.ireturn, 1) := by decide +kernel
theorem dX3_detail_88 : decode cX3_detail 88 = .ok (.aload_n 0, 1) := by decide +kernel
theorem dX3_detail_89 : decode cX3_detail 89 = .ok (.invokevirtual 57, 3) := by decide +kernel
theorem dX3_detail_92 : decode cX3_detail 92 = .ok (.ireturn, 1) := by decide +kernel
theorem dX3_detail_93 : decode cX3_detail 93 = .ok (.aload_n 0, 1) := by decide +kernel
theorem dX3_detail_94 : decode cX3_detail 94 = .ok (.getfield 39, 3) := by decide +kernel
theorem dX3_detail_97 : decode cX3_detail 97 = .ok (.ireturn, 1) := by decide +kernel
theorem dX3_detail_98 : decode cX3_detail 98 = .ok (.aload_n 0, 1) := by decide +kernel
theorem dX3_detail_99 : decode cX3_detail 99 = .ok (.invokevirtual 61, 3) := by decide +kernel
theorem dX3_detail_102 : decode cX3_detail 102 = .ok (.ireturn, 1) := by decide +kernel
theorem dX3_detail_103 : decode cX3_detail 103 = .ok (.aload_n 0, 1) := by decide +kernel
theorem dX3_detail_104 : decode cX3_detail 104 = .ok (.getfield 15, 3) := by decide +kernel
theorem dX3_detail_107 : decode cX3_detail 107 = .ok (.ireturn, 1) := by decide +kernel
theorem dX3_detail_108 : decode cX3_detail 108 = .ok (.aload_n 0, 1) := by decide +kernel
theorem dX3_detail_109 : decode cX3_detail 109 = .ok (.getfield 9, 3) := by decide +kernel
theorem dX3_detail_112 : decode cX3_detail 112 = .ok (.ireturn, 1) := by decide +kernel
theorem dX3_detail_113 : decode cX3_detail 113 = .ok (.aload_n 0, 1) := by decide +kernel
theorem dX3_detail_114 : decode cX3_detail 114 = .ok (.getfield 18, 3) := by decide +kernel
theorem dX3_detail_117 : decode cX3_detail 117 = .ok (.ireturn, 1) := by decide +kernel
theorem dX3_detail_118 : decode cX3_detail 118 = .ok (.aload_n 0, 1) := by decide +kernel
theorem dX3_detail_119 : decode cX3_detail 119 = .ok (.getfield 21, 3) := by decide +kernel
theorem dX3_detail_122 : decode cX3_detail 122 = .ok (.ireturn, 1) := by decide +kernel
theorem dX3_detail_123 : decode cX3_detail 123 = .ok (.aload_n 0, 1) := by decide +kernel
theorem dX3_detail_124 : decode cX3_detail 124 = .ok (.getfield 24, 3) := by decide +kernel
theorem dX3_detail_127 : decode cX3_detail 127 = .ok (.ireturn, 1) := by decide +kernel
theorem dX3_detail_128 : decode cX3_detail 128 = .ok (.aload_n 0, 1) := by decide +kernel
theorem dX3_detail_129 : decode cX3_detail 129 = .ok (.getfield 27, 3) := by decide +kernel
theorem dX3_detail_132 : decode cX3_detail 132 = .ok (.ireturn, 1) := by decide +kernel
theorem dX3_detail_133 : decode cX3_detail 133 = .ok (.aload_n 0, 1) := by decide +kernel
theorem dX3_detail_134 : decode cX3_detail 134 = .ok (.getfield 30, 3) := by decide +kernel
theorem dX3_detail_137 : decode cX3_detail 137 = .ok (.ireturn, 1) := by decide +kernel
theorem dX4_has_0 : decode cX4_has 0 = .ok (.iload_n 1, 1) := by decide +kernel
theorem dX4_has_1 : decode cX4_has 1 = .ok (.iconst 0, 1) := by decide +kernel
theorem dX4_has_2 : decode cX4_has 2 = .ok (.aload_n 0, 1) := by decide +kernel
theorem dX4_has_3 : decode cX4_has 3 = .ok (.getfield 35, 3) := by decide +kernel
theorem dX4_has_6 : decode cX4_has 6 = .ok (.iconst 1, 1) := by decide +kernel
theorem dX4_has_7 : decode cX4_has 7 = .ok (.isub, 1) := by decide +kernel
theorem dX4_has_8 : decode cX4_has 8 = .ok (.invokestatic 39, 3) := by decide +kernel
theorem dX4_has_11 : decode cX4_has 11 = .ok (.ireturn, 1) := by decide +kernel
theorem dX4_enter_0 : decode cX4_enter 0 = .ok (.aload_n 0, 1) := by decide +kernel
theorem dX4_enter_1 : decode cX4_enter 1 = .ok (.getfield 21, 3) := by decide +kernel
theorem dX4_enter_4 : decode cX4_enter 4 = .ok (.aload_n 0, 1) := by decide +kernel
theorem dX4_enter_5 : decode cX4_enter 5 = .ok (.getfield 35, 3) := by decide +kernel
theorem dX4_enter_8 : decode cX4_enter 8 = .ok (.aaload, 1) := by decide +kernel
theorem dX4_enter_9 : decode cX4_enter 9 = .ok (.astore 4, 2) := by decide +kernel
theorem dX4_enter_11 : decode cX4_enter 11 = .ok (.aload 4, 2) := by decide +kernel
theorem dX4_enter_13 : decode cX4_enter 13 = .ok (.iload_n 1, 1) := by decide +kernel
theorem dX4_enter_14 : decode cX4_enter 14 = .ok (.putfield 43, 3) := by decide +kernel
theorem dX4_enter_17 : decode cX4_enter 17 = .ok (.aload 4, 2) := by decide +kernel
theorem dX4_enter_19 : decode cX4_enter 19 = .ok (.iload_n 2, 1) := by decide +kernel
theorem dX4_enter_20 : decode cX4_enter 20 = .ok (.putfield 46, 3) := by decide +kernel
theorem dX4_enter_23 : decode cX4_enter 23 = .ok (.aload 4, 2) := by decide +kernel
theorem dX4_enter_25 : decode cX4_enter 25 = .ok (.iload_n 3, 1) := by decide +kernel
theorem dX4_enter_26 : decode cX4_enter 26 = .ok (.putfield 49, 3) := by decide +kernel
theorem dX4_enter_29 : decode cX4_enter 29 = .ok (.aload_n 0, 1) := by decide +kernel
theorem dX4_enter_30 : decode cX4_enter 30 = .ok (.dup, 1) := by decide +kernel
theorem dX4_enter_31 : decode cX4_enter 31 = .ok (.getfield 35, 3) := by decide +kernel
theorem dX4_enter_34 : decode cX4_enter 34 = .ok (.iconst 1, 1) := by decide +kernel
theorem dX4_enter_35 : decode cX4_enter 35 = .ok (.iadd, 1) := by decide +kernel
theorem dX4_enter_36 : decode cX4_enter 36 = .ok (.putfield 35, 3) := by decide +kernel
theorem dX4_enter_39 : decode cX4_enter 39 = .ok (.aload_n 0, 1) := by decide +kernel
theorem dX4_enter_40 : decode cX4_enter 40 = .ok (.getfield 35, 3) := by decide +kernel
theorem dX4_enter_43 : decode cX4_enter 43 = .ok (.iconst 1, 1) := by decide +kernel
theorem dX4_enter_44 : decode cX4_enter 44 = .ok (.isub, 1) := by decide +kernel
theorem dX4_enter_45 : decode cX4_enter 45 = .ok (.ireturn, 1) := by decide +kernel
theorem dX4_lateness_0 : decode cX4_lateness 0 = .ok (.iload_n 2, 1) := by decide +kernel
theorem dX4_lateness_1 : decode cX4_lateness 1 = .ok (.iconst (-1), 1) := by decide +kernel
theorem dX4_lateness_2 : decode cX4_lateness 2 = .ok (.if_icmp .eq 16, 3) := by decide +kernel
theorem dX4_lateness_5 : decode cX4_lateness 5 = .ok (.iload_n 1, 1) := by decide +kernel
theorem dX4_lateness_6 : decode cX4_lateness 6 = .ok (.iload_n 2, 1) := by decide +kernel
theorem dX4_lateness_7 : decode cX4_lateness 7 = .ok (.aload_n 0, 1) := by decide +kernel
theorem dX4_lateness_8 : decode cX4_lateness 8 = .ok (.getfield 15, 3) := by decide +kernel
theorem dX4_lateness_11 : decode cX4_lateness 11 = .ok (.iload 4, 2) := by decide +kernel
theorem dX4_lateness_13 : decode cX4_lateness 13 = .ok (.iaload, 1) := by decide +kernel
theorem dX4_lateness_14 : decode cX4_lateness 14 = .ok (.iadd, 1) := by decide +kernel
theorem dX4_lateness_15 : decode cX4_lateness 15 = .ok (.if_icmp .gt 5, 3) := by decide +kernel
theorem dX4_lateness_18 : decode cX4_lateness 18 = .ok (.iconst 0, 1) := by decide +kernel
theorem dX4_lateness_19 : decode cX4_lateness 19 = .ok (.ireturn, 1) := by decide +kernel
theorem dX4_lateness_20 : decode cX4_lateness 20 = .ok (.iload_n 1, 1) := by decide +kernel
theorem dX4_lateness_21 : decode cX4_lateness 21 = .ok (.iload_n 3, 1) := by decide +kernel
theorem dX4_lateness_22 : decode cX4_lateness 22 = .ok (.aload_n 0, 1) := by decide +kernel
theorem dX4_lateness_23 : decode cX4_lateness 23 = .ok (.getfield 15, 3) := by decide +kernel
theorem dX4_lateness_26 : decode cX4_lateness 26 = .ok (.iload 4, 2) := by decide +kernel
theorem dX4_lateness_28 : decode cX4_lateness 28 = .ok (.iaload, 1) := by decide +kernel
theorem dX4_lateness_29 : decode cX4_lateness 29 = .ok (.iadd, 1) := by decide +kernel
theorem dX4_lateness_30 : decode cX4_lateness 30 = .ok (.if_icmp .le 7, 3) := by decide +kernel
theorem dX4_lateness_33 : decode cX4_lateness 33 = .ok (.iconst 2, 1) := by decide +kernel
theorem dX4_lateness_34 : decode cX4_lateness 34 = .ok (.goto 4, 3) := by decide +kernel
theorem dX4_lateness_37 : decode cX4_lateness 37 = .ok (.iconst 1, 1) := by decide +kernel
theorem dX4_lateness_38 : decode cX4_lateness 38 = .ok (.ireturn, 1) := by decide +kernel
theorem dX4_noticeBar_0 : decode cX4_noticeBar 0 = .ok (.aload_n 1, 1) := by decide +kernel
theorem dX4_noticeBar_1 : decode cX4_noticeBar 1 = .ok (.getfield 74, 3) := by decide +kernel
theorem dX4_noticeBar_4 : decode cX4_noticeBar 4 = .ok (.iconst 2, 1) := by decide +kernel
theorem dX4_noticeBar_5 : decode cX4_noticeBar 5 = .ok (.if_icmp .ge 5, 3) := by decide +kernel
theorem dX4_noticeBar_8 : decode cX4_noticeBar 8 = .ok (.iconst 0, 1) := by decide +kernel
theorem dX4_noticeBar_9 : decode cX4_noticeBar 9 = .ok (.ireturn, 1) := by decide +kernel
theorem dX4_noticeBar_10 : decode cX4_noticeBar 10 = .ok (.aload_n 1, 1) := by decide +kernel
theorem dX4_noticeBar_11 : decode cX4_noticeBar 11 = .ok (.getfield 85, 3) := by decide +kernel
theorem dX4_noticeBar_14 : decode cX4_noticeBar 14 = .ok (.iconst (-1), 1) := by decide +kernel
theorem dX4_noticeBar_15 : decode cX4_noticeBar 15 = .ok (.if_icmp .ne 5, 3) := by decide +kernel
theorem dX4_noticeBar_18 : decode cX4_noticeBar 18 = .ok (.iconst 2, 1) := by decide +kernel
theorem dX4_noticeBar_19 : decode cX4_noticeBar 19 = .ok (.ireturn, 1) := by decide +kernel
theorem dX4_noticeBar_20 : decode cX4_noticeBar 20 = .ok (.aload_n 0, 1) := by decide +kernel
theorem dX4_noticeBar_21 : decode cX4_noticeBar 21 = .ok (.aload_n 1, 1) := by decide +kernel
theorem dX4_noticeBar_22 : decode cX4_noticeBar 22 = .ok (.getfield 85, 3) := by decide +kernel
theorem dX4_noticeBar_25 : decode cX4_noticeBar 25 = .ok (.aload_n 1, 1) := by decide +kernel
theorem dX4_noticeBar_26 : decode cX4_noticeBar 26 = .ok (.getfield 88, 3) := by decide +kernel
theorem dX4_noticeBar_29 : decode cX4_noticeBar 29 = .ok (.aload_n 1, 1) := by decide +kernel
theorem dX4_noticeBar_30 : decode cX4_noticeBar 30 = .ok (.getfield 91, 3) := by decide +kernel
theorem dX4_noticeBar_33 : decode cX4_noticeBar 33 = .ok (.iconst 0, 1) := by decide +kernel
theorem dX4_noticeBar_34 : decode cX4_noticeBar 34 = .ok (.invokevirtual 70, 3) := by decide +kernel
theorem dX4_noticeBar_37 : decode cX4_noticeBar 37 = .ok (.ireturn, 1) := by decide +kernel
theorem dX4_isSuitLost_0 : decode cX4_isSuitLost 0 = .ok (.aload_n 1, 1) := by decide +kernel
theorem dX4_isSuitLost_1 : decode cX4_isSuitLost 1 = .ok (.getfield 49, 3) := by decide +kernel
theorem dX4_isSuitLost_4 : decode cX4_isSuitLost 4 = .ok (.aload_n 0, 1) := by decide +kernel
theorem dX4_isSuitLost_5 : decode cX4_isSuitLost 5 = .ok (.getfield 15, 3) := by decide +kernel
theorem dX4_isSuitLost_8 : decode cX4_isSuitLost 8 = .ok (.iconst 2, 1) := by decide +kernel
theorem dX4_isSuitLost_9 : decode cX4_isSuitLost 9 = .ok (.iaload, 1) := by decide +kernel
theorem dX4_isSuitLost_10 : decode cX4_isSuitLost 10 = .ok (.iadd, 1) := by decide +kernel
theorem dX4_isSuitLost_11 : decode cX4_isSuitLost 11 = .ok (.istore_n 3, 1) := by decide +kernel
theorem dX4_isSuitLost_12 : decode cX4_isSuitLost 12 = .ok (.aload_n 1, 1) := by decide +kernel
theorem dX4_isSuitLost_13 : decode cX4_isSuitLost 13 = .ok (.getfield 94, 3) := by decide +kernel
theorem dX4_isSuitLost_16 : decode cX4_isSuitLost 16 = .ok (.iconst (-1), 1) := by decide +kernel
theorem dX4_isSuitLost_17 : decode cX4_isSuitLost 17 = .ok (.if_icmp .eq 15, 3) := by decide +kernel
theorem dX4_isSuitLost_20 : decode cX4_isSuitLost 20 = .ok (.aload_n 1, 1) := by decide +kernel
theorem dX4_isSuitLost_21 : decode cX4_isSuitLost 21 = .ok (.getfield 94, 3) := by decide +kernel
theorem dX4_isSuitLost_24 : decode cX4_isSuitLost 24 = .ok (.iload_n 3, 1) := by decide +kernel
theorem dX4_isSuitLost_25 : decode cX4_isSuitLost 25 = .ok (.if_icmp .gt 7, 3) := by decide +kernel
theorem dX4_isSuitLost_28 : decode cX4_isSuitLost 28 = .ok (.iconst 1, 1) := by decide +kernel
theorem dX4_isSuitLost_29 : decode cX4_isSuitLost 29 = .ok (.goto 4, 3) := by decide +kernel
theorem dX4_isSuitLost_32 : decode cX4_isSuitLost 32 = .ok (.iconst 0, 1) := by decide +kernel
theorem dX4_isSuitLost_33 : decode cX4_isSuitLost 33 = .ok (.istore 4, 2) := by decide +kernel
theorem dX4_isSuitLost_35 : decode cX4_isSuitLost 35 = .ok (.iload_n 2, 1) := by decide +kernel
theorem dX4_isSuitLost_36 : decode cX4_isSuitLost 36 = .ok (.iload_n 3, 1) := by decide +kernel
theorem dX4_isSuitLost_37 : decode cX4_isSuitLost 37 = .ok (.if_icmp .le 12, 3) := by decide +kernel
theorem dX4_isSuitLost_40 : decode cX4_isSuitLost 40 = .ok (.iload 4, 2) := by decide +kernel
theorem dX4_isSuitLost_42 : decode cX4_isSuitLost 42 = .ok (.ifCond .ne 7, 3) := by decide +kernel
theorem dX4_isSuitLost_45 : decode cX4_isSuitLost 45 = .ok (.iconst 1, 1) := by decide +kernel
theorem dX4_isSuitLost_46 : decode cX4_isSuitLost 46 = .ok (.goto 4, 3) := by decide +kernel
theorem dX4_isSuitLost_49 : decode cX4_isSuitLost 49 = .ok (.iconst 0, 1) := by decide +kernel
theorem dX4_isSuitLost_50 : decode cX4_isSuitLost 50 = .ok (.ireturn, 1) := by decide +kernel
theorem dX4_barOn_0 : decode cX4_barOn 0 = .ok (.aload_n 0, 1) := by decide +kernel
theorem dX4_barOn_1 : decode cX4_barOn 1 = .ok (.getfield 21, 3) := by decide +kernel
theorem dX4_barOn_4 : decode cX4_barOn 4 = .ok (.iload_n 1, 1) := by decide +kernel
theorem dX4_barOn_5 : decode cX4_barOn 5 = .ok (.aaload, 1) := by decide +kernel
theorem dX4_barOn_6 : decode cX4_barOn 6 = .ok (.astore_n 3, 1) := by decide +kernel
theorem dX4_barOn_7 : decode cX4_barOn 7 = .ok (.aload_n 0, 1) := by decide +kernel
theorem dX4_barOn_8 : decode cX4_barOn 8 = .ok (.getfield 9, 3) := by decide +kernel
theorem dX4_barOn_11 : decode cX4_barOn 11 = .ok (.getfield 52, 3) := by decide +kernel
theorem dX4_barOn_14 : decode cX4_barOn 14 = .ok (.aload_n 3, 1) := by decide +kernel
theorem dX4_barOn_15 : decode cX4_barOn 15 = .ok (.getfield 43, 3) := by decide +kernel
theorem dX4_barOn_18 : decode cX4_barOn 18 = .ok (.aaload, 1) := by decide +kernel
theorem dX4_barOn_19 : decode cX4_barOn 19 = .ok (.astore 4, 2) := by decide +kernel
theorem dX4_barOn_21 : decode cX4_barOn 21 = .ok (.aload_n 0, 1) := by decide +kernel
theorem dX4_barOn_22 : decode cX4_barOn 22 = .ok (.aload 4, 2) := by decide +kernel
theorem dX4_barOn_24 : decode cX4_barOn 24 = .ok (.invokevirtual 58, 3) := by decide +kernel
theorem dX4_barOn_27 : decode cX4_barOn 27 = .ok (.istore 5, 2) := by decide +kernel
theorem dX4_barOn_29 : decode cX4_barOn 29 = .ok (.aload_n 0, 1) := by decide +kernel
theorem dX4_barOn_30 : decode cX4_barOn 30 = .ok (.aload_n 3, 1) := by decide +kernel
theorem dX4_barOn_31 : decode cX4_barOn 31 = .ok (.getfield 49, 3) := by decide +kernel
theorem dX4_barOn_34 : decode cX4_barOn 34 = .ok (.aload 4, 2) := by decide +kernel
theorem dX4_barOn_36 : decode cX4_barOn 36 = .ok (.getfield 62, 3) := by decide +kernel
theorem dX4_barOn_39 : decode cX4_barOn 39 = .ok (.aload 4, 2) := by decide +kernel
theorem dX4_barOn_41 : decode cX4_barOn 41 = .ok (.getfield 67, 3) := by decide +kernel
theorem dX4_barOn_44 : decode cX4_barOn 44 = .ok (.iconst 1, 1) := by decide +kernel
theorem dX4_barOn_45 : decode cX4_barOn 45 = .ok (.invokevirtual 70, 3) := by decide +kernel
theorem dX4_barOn_48 : decode cX4_barOn 48 = .ok (.istore 6, 2) := by decide +kernel
theorem dX4_barOn_50 : decode cX4_barOn 50 = .ok (.aload 4, 2) := by decide +kernel
theorem dX4_barOn_52 : decode cX4_barOn 52 = .ok (.getfield 74, 3) := by decide +kernel
theorem dX4_barOn_55 : decode cX4_barOn 55 = .ok (.aload_n 0, 1) := by decide +kernel
theorem dX4_barOn_56 : decode cX4_barOn 56 = .ok (.getfield 15, 3) := by decide +kernel
theorem dX4_barOn_59 : decode cX4_barOn 59 = .ok (.iconst 3, 1) := by decide +kernel
theorem dX4_barOn_60 : decode cX4_barOn 60 = .ok (.iaload, 1) := by decide +kernel
theorem dX4_barOn_61 : decode cX4_barOn 61 = .ok (.if_icmp .le 5, 3) := by decide +kernel
theorem dX4_barOn_64 : decode cX4_barOn 64 = .ok (.iconst 1, 1) := by decide +kernel
theorem dX4_barOn_65 : decode cX4_barOn 65 = .ok (.ireturn, 1) := by decide +kernel
theorem dX4_barOn_66 : decode cX4_barOn 66 = .ok (.iload 5, 2) := by decide +kernel
theorem dX4_barOn_68 : decode cX4_barOn 68 = .ok (.iconst 2, 1) := by decide +kernel
theorem dX4_barOn_69 : decode cX4_barOn 69 = .ok (.if_icmp .ne 5, 3) := by decide +kernel
theorem dX4_barOn_72 : decode cX4_barOn 72 = .ok (.iconst 2, 1) := by decide +kernel
theorem dX4_barOn_73 : decode cX4_barOn 73 = .ok (.ireturn, 1) := by decide +kernel
theorem dX4_barOn_74 : decode cX4_barOn 74 = .ok (.iload 6, 2) := by decide +kernel
theorem dX4_barOn_76 : decode cX4_barOn 76 = .ok (.iconst 2, 1) := by decide +kernel
theorem dX4_barOn_77 : decode cX4_barOn 77 = .ok (.if_icmp .ne 5, 3) := by decide +kernel
theorem dX4_barOn_80 : decode cX4_barOn 80 = .ok (.iconst 3, 1) := by decide +kernel
theorem dX4_barOn_81 : decode cX4_barOn 81 = .ok (.ireturn, 1) := by decide +kernel
theorem dX4_barOn_82 : decode cX4_barOn 82 = .ok (.aload_n 0, 1) := by decide +kernel
theorem dX4_barOn_83 : decode cX4_barOn 83 = .ok (.aload_n 3, 1) := by decide +kernel
theorem dX4_barOn_84 : decode cX4_barOn 84 = .ok (.iload_n 2, 1) := by decide +kernel
theorem dX4_barOn_85 : decode cX4_barOn 85 = .ok (.invokevirtual 77, 3) := by decide +kernel
theorem dX4_barOn_88 : decode cX4_barOn 88 = .ok (.ifCond .eq 5, 3) := by decide +kernel
theorem dX4_barOn_91 : decode cX4_barOn 91 = .ok (.iconst 4, 1) := by decide +kernel
theorem dX4_barOn_92 : decode cX4_barOn 92 = .ok (.ireturn, 1) := by decide +kernel
theorem dX4_barOn_93 : decode cX4_barOn 93 = .ok (.aload 4, 2) := by decide +kernel
theorem dX4_barOn_95 : decode cX4_barOn 95 = .ok (.invokevirtual 81, 3) := by decide +kernel
theorem dX4_barOn_98 : decode cX4_barOn 98 = .ok (.ifCond .ne 5, 3) := by decide +kernel
theorem dX4_barOn_101 : decode cX4_barOn 101 = .ok (.iconst 5, 1) := by decide +kernel
theorem dX4_barOn_102 : decode cX4_barOn 102 = .ok (.ireturn, 1) := by decide +kernel
theorem dX4_barOn_103 : decode cX4_barOn 103 = .ok (.iload 5, 2) := by decide +kernel
theorem dX4_barOn_105 : decode cX4_barOn 105 = .ok (.iconst 1, 1) := by decide +kernel
theorem dX4_barOn_106 : decode cX4_barOn 106 = .ok (.if_icmp .ne 6, 3) := by decide +kernel
theorem dX4_barOn_109 : decode cX4_barOn 109 = .ok (.bipush 12, 2) := by decide +kernel
theorem dX4_barOn_111 : decode cX4_barOn 111 = .ok (.ireturn, 1) := by decide +kernel
theorem dX4_barOn_112 : decode cX4_barOn 112 = .ok (.iload 6, 2) := by decide +kernel
theorem dX4_barOn_114 : decode cX4_barOn 114 = .ok (.iconst 1, 1) := by decide +kernel
theorem dX4_barOn_115 : decode cX4_barOn 115 = .ok (.if_icmp .ne 8, 3) := by decide +kernel
theorem dX4_barOn_118 : decode cX4_barOn 118 = .ok (.bipush 13, 2) := by decide +kernel
theorem dX4_barOn_120 : decode cX4_barOn 120 = .ok (.goto 4, 3) := by decide +kernel
theorem dX4_barOn_123 : decode cX4_barOn 123 = .ok (.iconst 0, 1) := by decide +kernel
theorem dX4_barOn_124 : decode cX4_barOn 124 = .ok (.ireturn, 1) := by decide +kernel
theorem dX4_verdictOfBar_0 : decode cX4_verdictOfBar 0 = .ok (.iload_n 0, 1) := by decide +kernel
theorem dX4_verdictOfBar_1 : decode cX4_verdictOfBar 1 = .ok (.ifCond .ne 5, 3) := by decide +kernel
theorem dX4_verdictOfBar_4 : decode cX4_verdictOfBar 4 = .ok (.iconst 2, 1) := by decide +kernel
theorem dX4_verdictOfBar_5 : decode cX4_verdictOfBar 5 = .ok (.ireturn, 1) := by decide +kernel
theorem dX4_verdictOfBar_6 : decode cX4_verdictOfBar 6 = .ok (.iload_n 0, 1) := by decide +kernel
theorem dX4_verdictOfBar_7 : decode cX4_verdictOfBar 7 = .ok (.bipush 10, 2) := by decide +kernel
theorem dX4_verdictOfBar_9 : decode cX4_verdictOfBar 9 = .ok (.if_icmp .le 7, 3) := by decide +kernel
theorem dX4_verdictOfBar_12 : decode cX4_verdictOfBar 12 = .ok (.iconst 1, 1) := by decide +kernel
theorem dX4_verdictOfBar_13 : decode cX4_verdictOfBar 13 = .ok (.goto 4, 3) := by decide +kernel
theorem dX4_verdictOfBar_16 : decode cX4_verdictOfBar 16 = .ok (.iconst 0, 1) := by decide +kernel
theorem dX4_verdictOfBar_17 : decode cX4_verdictOfBar 17 = .ok (.ireturn, 1) := by decide +kernel
theorem dX4_weigh_0 : decode cX4_weigh 0 = .ok (.iconst 0, 1) := by decide +kernel
theorem dX4_weigh_1 : decode cX4_weigh 1 = .ok (.istore_n 2, 1) := by decide +kernel
theorem dX4_weigh_2 : decode cX4_weigh 2 = .ok (.iload_n 2, 1) := by decide +kernel
theorem dX4_weigh_3 : decode cX4_weigh 3 = .ok (.aload_n 0, 1) := by decide +kernel
theorem dX4_weigh_4 : decode cX4_weigh 4 = .ok (.getfield 9, 3) := by decide +kernel
theorem dX4_weigh_7 : decode cX4_weigh 7 = .ok (.getfield 97, 3) := by decide +kernel
theorem dX4_weigh_10 : decode cX4_weigh 10 = .ok (.if_icmp .ge 46, 3) := by decide +kernel
theorem dX4_weigh_13 : decode cX4_weigh 13 = .ok (.aload_n 0, 1) := by decide +kernel
theorem dX4_weigh_14 : decode cX4_weigh 14 = .ok (.getfield 32, 3) := by decide +kernel
theorem dX4_weigh_17 : decode cX4_weigh 17 = .ok (.iload_n 2, 1) := by decide +kernel
theorem dX4_weigh_18 : decode cX4_weigh 18 = .ok (.aload_n 0, 1) := by decide +kernel
theorem dX4_weigh_19 : decode cX4_weigh 19 = .ok (.getfield 9, 3) := by decide +kernel
theorem dX4_weigh_22 : decode cX4_weigh 22 = .ok (.aload_n 0, 1) := by decide +kernel
theorem dX4_weigh_23 : decode cX4_weigh 23 = .ok (.getfield 9, 3) := by decide +kernel
theorem dX4_weigh_26 : decode cX4_weigh 26 = .ok (.getfield 52, 3) := by decide +kernel
theorem dX4_weigh_29 : decode cX4_weigh 29 = .ok (.iload_n 2, 1) := by decide +kernel
theorem dX4_weigh_30 : decode cX4_weigh 30 = .ok (.aaload, 1) := by decide +kernel
theorem dX4_weigh_31 : decode cX4_weigh 31 = .ok (.aload_n 0, 1) := by decide +kernel
theorem dX4_weigh_32 : decode cX4_weigh 32 = .ok (.getfield 15, 3) := by decide +kernel
theorem dX4_weigh_35 : decode cX4_weigh 35 = .ok (.iconst 5, 1) := by decide +kernel
theorem dX4_weigh_36 : decode cX4_weigh 36 = .ok (.iaload, 1) := by decide +kernel
theorem dX4_weigh_37 : decode cX4_weigh 37 = .ok (.iconst 1, 1) := by decide +kernel
theorem dX4_weigh_38 : decode cX4_weigh 38 = .ok (.if_icmp .ne 7, 3) := by decide +kernel
theorem dX4_weigh_41 : decode cX4_weigh 41 = .ok (.iconst 1, 1) := by decide +kernel
theorem dX4_weigh_42 : decode cX4_weigh 42 = .ok (.goto 4, 3) := by decide +kernel
theorem dX4_weigh_45 : decode cX4_weigh 45 = .ok (.iconst 0, 1) := by decide +kernel
theorem dX4_weigh_46 : decode cX4_weigh 46 = .ok (.invokevirtual 98, 3) := by decide +kernel
theorem dX4_weigh_49 : decode cX4_weigh 49 = .ok (.iastore, 1) := by decide +kernel
theorem dX4_weigh_50 : decode cX4_weigh 50 = .ok (.iinc 2 1, 3) := by decide +kernel
theorem dX4_weigh_53 : decode cX4_weigh 53 = .ok (.goto (-51), 3) := by decide +kernel
theorem dX4_weigh_56 : decode cX4_weigh 56 = .ok (.iconst 0, 1) := by decide +kernel
theorem dX4_weigh_57 : decode cX4_weigh 57 = .ok (.istore_n 2, 1) := by decide +kernel
theorem dX4_weigh_58 : decode cX4_weigh 58 = .ok (.iload_n 2, 1) := by decide +kernel
theorem dX4_weigh_59 : decode cX4_weigh 59 = .ok (.aload_n 0, 1) := by decide +kernel
theorem dX4_weigh_60 : decode cX4_weigh 60 = .ok (.getfield 35, 3) := by decide +kernel
theorem dX4_weigh_63 : decode cX4_weigh 63 = .ok (.if_icmp .ge 111, 3) := by decide +kernel
theorem dX4_weigh_66 : decode cX4_weigh 66 = .ok (.aload_n 0, 1) := by decide +kernel
theorem dX4_weigh_67 : decode cX4_weigh 67 = .ok (.getfield 21, 3) := by decide +kernel
theorem dX4_weigh_70 : decode cX4_weigh 70 = .ok (.iload_n 2, 1) := by decide +kernel
theorem dX4_weigh_71 : decode cX4_weigh 71 = .ok (.aaload, 1) := by decide +kernel
theorem dX4_weigh_72 : decode cX4_weigh 72 = .ok (.astore_n 3, 1) := by decide +kernel
theorem dX4_weigh_73 : decode cX4_weigh 73 = .ok (.aload_n 3, 1) := by decide +kernel
theorem dX4_weigh_74 : decode cX4_weigh 74 = .ok (.getfield 49, 3) := by decide +kernel
theorem dX4_weigh_77 : decode cX4_weigh 77 = .ok (.iload_n 1, 1) := by decide +kernel
theorem dX4_weigh_78 : decode cX4_weigh 78 = .ok (.if_icmp .gt 7, 3) := by decide +kernel
theorem dX4_weigh_81 : decode cX4_weigh 81 = .ok (.iconst 1, 1) := by decide +kernel
theorem dX4_weigh_82 : decode cX4_weigh 82 = .ok (.goto 4, 3) := by decide +kernel
theorem dX4_weigh_85 : decode cX4_weigh 85 = .ok (.iconst 0, 1) := by decide +kernel
theorem dX4_weigh_86 : decode cX4_weigh 86 = .ok (.istore 4, 2) := by decide +kernel
theorem dX4_weigh_88 : decode cX4_weigh 88 = .ok (.aload_n 0, 1) := by decide +kernel
theorem dX4_weigh_89 : decode cX4_weigh 89 = .ok (.getfield 26, 3) := by decide +kernel
theorem dX4_weigh_92 : decode cX4_weigh 92 = .ok (.iload_n 2, 1) := by decide +kernel
theorem dX4_weigh_93 : decode cX4_weigh 93 = .ok (.iload 4, 2) := by decide +kernel
theorem dX4_weigh_95 : decode cX4_weigh 95 = .ok (.ifCond .eq 15, 3) := by decide +kernel
theorem dX4_weigh_98 : decode cX4_weigh 98 = .ok (.aload_n 0, 1) := by decide +kernel
theorem dX4_weigh_99 : decode cX4_weigh 99 = .ok (.iload_n 2, 1) := by decide +kernel
theorem dX4_weigh_100 : decode cX4_weigh 100 = .ok (.iload_n 1, 1) := by decide +kernel
theorem dX4_weigh_101 : decode cX4_weigh 101 = .ok (.invokevirtual 102, 3) := by decide +kernel
theorem dX4_weigh_104 : decode cX4_weigh 104 = .ok (.invokestatic 106, 3) := by decide +kernel
theorem dX4_weigh_107 : decode cX4_weigh 107 = .ok (.goto 4, 3) := by decide +kernel
theorem dX4_weigh_110 : decode cX4_weigh 110 = .ok (.iconst 0, 1) := by decide +kernel
theorem dX4_weigh_111 : decode cX4_weigh 111 = .ok (.iastore, 1) := by decide +kernel
theorem dX4_weigh_112 : decode cX4_weigh 112 = .ok (.aload_n 0, 1) := by decide +kernel
theorem dX4_weigh_113 : decode cX4_weigh 113 = .ok (.getfield 29, 3) := by decide +kernel
theorem dX4_weigh_116 : decode cX4_weigh 116 = .ok (.iload_n 2, 1) := by decide +kernel
theorem dX4_weigh_117 : decode cX4_weigh 117 = .ok (.iconst 0, 1) := by decide +kernel
theorem dX4_weigh_118 : decode cX4_weigh 118 = .ok (.iastore, 1) := by decide +kernel
theorem dX4_weigh_119 : decode cX4_weigh 119 = .ok (.aload_n 0, 1) := by decide +kernel
theorem dX4_weigh_120 : decode cX4_weigh 120 = .ok (.getfield 26, 3) := by decide +kernel
theorem dX4_weigh_123 : decode cX4_weigh 123 = .ok (.iload_n 2, 1) := by decide +kernel
theorem dX4_weigh_124 : decode cX4_weigh 124 = .ok (.iaload, 1) := by decide +kernel
theorem dX4_weigh_125 : decode cX4_weigh 125 = .ok (.ifCond .eq 43, 3) := by decide +kernel
theorem dX4_weigh_128 : decode cX4_weigh 128 = .ok (.aload_n 0, 1) := by decide +kernel
theorem dX4_weigh_129 : decode cX4_weigh 129 = .ok (.getfield 29, 3) := by decide +kernel
theorem dX4_weigh_132 : decode cX4_weigh 132 = .ok (.iload_n 2, 1) := by decide +kernel
theorem dX4_weigh_133 : decode cX4_weigh 133 = .ok (.aload_n 3, 1) := by decide +kernel
theorem dX4_weigh_134 : decode cX4_weigh 134 = .ok (.getfield 46, 3) := by decide +kernel
theorem dX4_weigh_137 : decode cX4_weigh 137 = .ok (.aload_n 0, 1) := by decide +kernel
theorem dX4_weigh_138 : decode cX4_weigh 138 = .ok (.getfield 32, 3) := by decide +kernel
theorem dX4_weigh_141 : decode cX4_weigh 141 = .ok (.aload_n 3, 1) := by decide +kernel
theorem dX4_weigh_142 : decode cX4_weigh 142 = .ok (.getfield 43, 3) := by decide +kernel
theorem dX4_weigh_145 : decode cX4_weigh 145 = .ok (.iaload, 1) := by decide +kernel
theorem dX4_weigh_146 : decode cX4_weigh 146 = .ok (.invokestatic 110, 3) := by decide +kernel
theorem dX4_weigh_149 : decode cX4_weigh 149 = .ok (.iastore, 1) := by decide +kernel
theorem dX4_weigh_150 : decode cX4_weigh 150 = .ok (.aload_n 0, 1) := by decide +kernel
theorem dX4_weigh_151 : decode cX4_weigh 151 = .ok (.getfield 32, 3) := by decide +kernel
theorem dX4_weigh_154 : decode cX4_weigh 154 = .ok (.aload_n 3, 1) := by decide +kernel
theorem dX4_weigh_155 : decode cX4_weigh 155 = .ok (.getfield 43, 3) := by decide +kernel
theorem dX4_weigh_158 : decode cX4_weigh 158 = .ok (.dup2, 1) := by decide +kernel
theorem dX4_weigh_159 : decode cX4_weigh 159 = .ok (.iaload, 1) := by decide +kernel
theorem dX4_weigh_160 : decode cX4_weigh 160 = .ok (.aload_n 0, 1) := by decide +kernel
theorem dX4_weigh_161 : decode cX4_weigh 161 = .ok (.getfield 29, 3) := by decide +kernel
theorem dX4_weigh_164 : decode cX4_weigh 164 = .ok (.iload_n 2, 1) := by decide +kernel
theorem dX4_weigh_165 : decode cX4_weigh 165 = .ok (.iaload, 1) := by decide +kernel
theorem dX4_weigh_166 : decode cX4_weigh 166 = .ok (.isub, 1) := by decide +kernel
theorem dX4_weigh_167 : decode cX4_weigh 167 = .ok (.iastore, 1) := by decide +kernel
theorem dX4_weigh_168 : decode cX4_weigh 168 = .ok (.iinc 2 1, 3) := by decide +kernel
theorem dX4_weigh_171 : decode cX4_weigh 171 = .ok (.goto (-113), 3) := by decide +kernel
theorem dX4_weigh_174 : decode cX4_weigh 174 = .ok (.return_, 1) := by decide +kernel
theorem dX4_worthBelow_0 : decode cX4_worthBelow 0 = .ok (.aload_n 0, 1) := by decide +kernel
theorem dX4_worthBelow_1 : decode cX4_worthBelow 1 = .ok (.iload_n 2, 1) := by decide +kernel
theorem dX4_worthBelow_2 : decode cX4_worthBelow 2 = .ok (.invokevirtual 115, 3) := by decide +kernel
theorem dX4_worthBelow_5 : decode cX4_worthBelow 5 = .ok (.iconst 0, 1) := by decide +kernel
theorem dX4_worthBelow_6 : decode cX4_worthBelow 6 = .ok (.istore_n 3, 1) := by decide +kernel
theorem dX4_worthBelow_7 : decode cX4_worthBelow 7 = .ok (.iconst 0, 1) := by decide +kernel
theorem dX4_worthBelow_8 : decode cX4_worthBelow 8 = .ok (.istore 4, 2) := by decide +kernel
theorem dX4_worthBelow_10 : decode cX4_worthBelow 10 = .ok (.iload 4, 2) := by decide +kernel
theorem dX4_worthBelow_12 : decode cX4_worthBelow 12 = .ok (.aload_n 0, 1) := by decide +kernel
theorem dX4_worthBelow_13 : decode cX4_worthBelow 13 = .ok (.getfield 35, 3) := by decide +kernel
theorem dX4_worthBelow_16 : decode cX4_worthBelow 16 = .ok (.if_icmp .ge 44, 3) := by decide +kernel
theorem dX4_worthBelow_19 : decode cX4_worthBelow 19 = .ok (.aload_n 0, 1) := by decide +kernel
theorem dX4_worthBelow_20 : decode cX4_worthBelow 20 = .ok (.getfield 9, 3) := by decide +kernel
theorem dX4_worthBelow_23 : decode cX4_worthBelow 23 = .ok (.getfield 52, 3) := by decide +kernel
theorem dX4_worthBelow_26 : decode cX4_worthBelow 26 = .ok (.aload_n 0, 1) := by decide +kernel
theorem dX4_worthBelow_27 : decode cX4_worthBelow 27 = .ok (.getfield 21, 3) := by decide +kernel
theorem dX4_worthBelow_30 : decode cX4_worthBelow 30 = .ok (.iload 4, 2) := by decide +kernel
theorem dX4_worthBelow_32 : decode cX4_worthBelow 32 = .ok (.aaload, 1) := by decide +kernel
theorem dX4_worthBelow_33 : decode cX4_worthBelow 33 = .ok (.getfield 43, 3) := by decide +kernel
theorem dX4_worthBelow_36 : decode cX4_worthBelow 36 = .ok (.aaload, 1) := by decide +kernel
theorem dX4_worthBelow_37 : decode cX4_worthBelow 37 = .ok (.iload_n 1, 1) := by decide +kernel
theorem dX4_worthBelow_38 : decode cX4_worthBelow 38 = .ok (.invokevirtual 119, 3) := by decide +kernel
theorem dX4_worthBelow_41 : decode cX4_worthBelow 41 = .ok (.ifCond .eq 13, 3) := by decide +kernel
theorem dX4_worthBelow_44 : decode cX4_worthBelow 44 = .ok (.iload_n 3, 1) := by decide +kernel
theorem dX4_worthBelow_45 : decode cX4_worthBelow 45 = .ok (.aload_n 0, 1) := by decide +kernel
theorem dX4_worthBelow_46 : decode cX4_worthBelow 46 = .ok (.getfield 29, 3) := by decide +kernel
theorem dX4_worthBelow_49 : decode cX4_worthBelow 49 = .ok (.iload 4, 2) := by decide +kernel
theorem dX4_worthBelow_51 : decode cX4_worthBelow 51 = .ok (.iaload, 1) := by decide +kernel
theorem dX4_worthBelow_52 : decode cX4_worthBelow 52 = .ok (.iadd, 1) := by decide +kernel
theorem dX4_worthBelow_53 : decode cX4_worthBelow 53 = .ok (.istore_n 3, 1) := by decide +kernel
theorem dX4_worthBelow_54 : decode cX4_worthBelow 54 = .ok (.iinc 4 1, 3) := by decide +kernel
theorem dX4_worthBelow_57 : decode cX4_worthBelow 57 = .ok (.goto (-47), 3) := by decide +kernel
theorem dX4_worthBelow_60 : decode cX4_worthBelow 60 = .ok (.iload_n 3, 1) := by decide +kernel
theorem dX4_worthBelow_61 : decode cX4_worthBelow 61 = .ok (.ireturn, 1) := by decide +kernel
theorem dX4_howManyGood_0 : decode cX4_howManyGood 0 = .ok (.aload_n 0, 1) := by decide +kernel
theorem dX4_howManyGood_1 : decode cX4_howManyGood 1 = .ok (.iload_n 1, 1) := by decide +kernel
theorem dX4_howManyGood_2 : decode cX4_howManyGood 2 = .ok (.invokevirtual 115, 3) := by decide +kernel
theorem dX4_howManyGood_5 : decode cX4_howManyGood 5 = .ok (.iconst 0, 1) := by decide +kernel
theorem dX4_howManyGood_6 : decode cX4_howManyGood 6 = .ok (.istore_n 2, 1) := by decide +kernel
theorem dX4_howManyGood_7 : decode cX4_howManyGood 7 = .ok (.iconst 0, 1) := by decide +kernel
theorem dX4_howManyGood_8 : decode cX4_howManyGood 8 = .ok (.istore_n 3, 1) := by decide +kernel
theorem dX4_howManyGood_9 : decode cX4_howManyGood 9 = .ok (.iload_n 3, 1) := by decide +kernel
theorem dX4_howManyGood_10 : decode cX4_howManyGood 10 = .ok (.aload_n 0, 1) := by decide +kernel
theorem dX4_howManyGood_11 : decode cX4_howManyGood 11 = .ok (.getfield 35, 3) := by decide +kernel
theorem dX4_howManyGood_14 : decode cX4_howManyGood 14 = .ok (.if_icmp .ge 22, 3) := by decide +kernel
theorem dX4_howManyGood_17 : decode cX4_howManyGood 17 = .ok (.aload_n 0, 1) := by decide +kernel
theorem dX4_howManyGood_18 : decode cX4_howManyGood 18 = .ok (.getfield 26, 3) := by decide +kernel
theorem dX4_howManyGood_21 : decode cX4_howManyGood 21 = .ok (.iload_n 3, 1) := by decide +kernel
theorem dX4_howManyGood_22 : decode cX4_howManyGood 22 = .ok (.iaload, 1) := by decide +kernel
theorem dX4_howManyGood_23 : decode cX4_howManyGood 23 = .ok (.iconst 2, 1) := by decide +kernel
theorem dX4_howManyGood_24 : decode cX4_howManyGood 24 = .ok (.if_icmp .ne 6, 3) := by decide +kernel
theorem dX4_howManyGood_27 : decode cX4_howManyGood 27 = .ok (.iinc 2 1, 3) := by decide +kernel
theorem dX4_howManyGood_30 : decode cX4_howManyGood 30 = .ok (.iinc 3 1, 3) := by decide +kernel
theorem dX4_howManyGood_33 : decode cX4_howManyGood 33 = .ok (.goto (-24), 3) := by decide +kernel
theorem dX4_howManyGood_36 : decode cX4_howManyGood 36 = .ok (.iload_n 2, 1) := by decide +kernel
theorem dX4_howManyGood_37 : decode cX4_howManyGood 37 = .ok (.ireturn, 1) := by decide +kernel
theorem dX4_rankDay_0 : decode cX4_rankDay 0 = .ok (.aload_n 0, 1) := by decide +kernel
theorem dX4_rankDay_1 : decode cX4_rankDay 1 = .ok (.getfield 21, 3) := by decide +kernel
theorem dX4_rankDay_4 : decode cX4_rankDay 4 = .ok (.iload_n 1, 1) := by decide +kernel
theorem dX4_rankDay_5 : decode cX4_rankDay 5 = .ok (.aaload, 1) := by decide +kernel
theorem dX4_rankDay_6 : decode cX4_rankDay 6 = .ok (.astore_n 3, 1) := by decide +kernel
theorem dX4_rankDay_7 : decode cX4_rankDay 7 = .ok (.aload_n 0, 1) := by decide +kernel
theorem dX4_rankDay_8 : decode cX4_rankDay 8 = .ok (.getfield 15, 3) := by decide +kernel
theorem dX4_rankDay_11 : decode cX4_rankDay 11 = .ok (.iconst 4, 1) := by decide +kernel
theorem dX4_rankDay_12 : decode cX4_rankDay 12 = .ok (.iaload, 1) := by decide +kernel
theorem dX4_rankDay_13 : decode cX4_rankDay 13 = .ok (.ifCond .ne 35, 3) := by decide +kernel
theorem dX4_rankDay_16 : decode cX4_rankDay 16 = .ok (.aload_n 0, 1) := by decide +kernel
theorem dX4_rankDay_17 : decode cX4_rankDay 17 = .ok (.getfield 9, 3) := by decide +kernel
theorem dX4_rankDay_20 : decode cX4_rankDay 20 = .ok (.getfield 52, 3) := by decide +kernel
theorem dX4_rankDay_23 : decode cX4_rankDay 23 = .ok (.aload_n 3, 1) := by decide +kernel
theorem dX4_rankDay_24 : decode cX4_rankDay 24 = .ok (.getfield 43, 3) := by decide +kernel
theorem dX4_rankDay_27 : decode cX4_rankDay 27 = .ok (.aaload, 1) := by decide +kernel
theorem dX4_rankDay_28 : decode cX4_rankDay 28 = .ok (.astore 4, 2) := by decide +kernel
theorem dX4_rankDay_30 : decode cX4_rankDay 30 = .ok (.iload_n 2, 1) := by decide +kernel
theorem dX4_rankDay_31 : decode cX4_rankDay 31 = .ok (.ifCond .ne 11, 3) := by decide +kernel
theorem dX4_rankDay_34 : decode cX4_rankDay 34 = .ok (.aload 4, 2) := by decide +kernel
theorem dX4_rankDay_36 : decode cX4_rankDay 36 = .ok (.getfield 88, 3) := by decide +kernel
theorem dX4_rankDay_39 : decode cX4_rankDay 39 = .ok (.goto 8, 3) := by decide +kernel
theorem dX4_rankDay_42 : decode cX4_rankDay 42 = .ok (.aload 4, 2) := by decide +kernel
theorem dX4_rankDay_44 : decode cX4_rankDay 44 = .ok (.getfield 91, 3) := by decide +kernel
theorem dX4_rankDay_47 : decode cX4_rankDay 47 = .ok (.ireturn, 1) := by decide +kernel
theorem dX4_rankDay_48 : decode cX4_rankDay 48 = .ok (.aload_n 0, 1) := by decide +kernel
theorem dX4_rankDay_49 : decode cX4_rankDay 49 = .ok (.getfield 15, 3) := by decide +kernel
theorem dX4_rankDay_52 : decode cX4_rankDay 52 = .ok (.iconst 4, 1) := by decide +kernel
theorem dX4_rankDay_53 : decode cX4_rankDay 53 = .ok (.iaload, 1) := by decide +kernel
theorem dX4_rankDay_54 : decode cX4_rankDay 54 = .ok (.iconst 1, 1) := by decide +kernel
theorem dX4_rankDay_55 : decode cX4_rankDay 55 = .ok (.if_icmp .ne 14, 3) := by decide +kernel
theorem dX4_rankDay_58 : decode cX4_rankDay 58 = .ok (.aload_n 0, 1) := by decide +kernel
theorem dX4_rankDay_59 : decode cX4_rankDay 59 = .ok (.getfield 9, 3) := by decide +kernel
theorem dX4_rankDay_62 : decode cX4_rankDay 62 = .ok (.iload_n 2, 1) := by decide +kernel
theorem dX4_rankDay_63 : decode cX4_rankDay 63 = .ok (.invokevirtual 123, 3) := by decide +kernel
theorem dX4_rankDay_66 : decode cX4_rankDay 66 = .ok (.goto 7, 3) := by decide +kernel
theorem dX4_rankDay_69 : decode cX4_rankDay 69 = .ok (.aload_n 3, 1) := by decide +kernel
theorem dX4_rankDay_70 : decode cX4_rankDay 70 = .ok (.getfield 49, 3) := by decide +kernel
theorem dX4_rankDay_73 : decode cX4_rankDay 73 = .ok (.ireturn, 1) := by decide +kernel
theorem dX5_record_0 : decode cX5_record 0 = .ok (.aload_n 0, 1) := by decide +kernel
theorem dX5_record_1 : decode cX5_record 1 = .ok (.getfield 15, 3) := by decide +kernel
theorem dX5_record_4 : decode cX5_record 4 = .ok (.aload_n 0, 1) := by decide +kernel
theorem dX5_record_5 : decode cX5_record 5 = .ok (.getfield 31, 3) := by decide +kernel
theorem dX5_record_8 : decode cX5_record 8 = .ok (.iload_n 1, 1) := by decide +kernel
theorem dX5_record_9 : decode cX5_record 9 = .ok (.iastore, 1) := by decide +kernel
theorem dX5_record_10 : decode cX5_record 10 = .ok (.aload_n 0, 1) := by decide +kernel
theorem dX5_record_11 : decode cX5_record 11 = .ok (.getfield 19, 3) := by decide +kernel
theorem dX5_record_14 : decode cX5_record 14 = .ok (.aload_n 0, 1) := by decide +kernel
theorem dX5_record_15 : decode cX5_record 15 = .ok (.getfield 31, 3) := by decide +kernel
theorem dX5_record_18 : decode cX5_record 18 = .ok (.iload_n 2, 1) := by decide +kernel
theorem dX5_record_19 : decode cX5_record 19 = .ok (.iastore, 1) := by decide +kernel
theorem dX5_record_20 : decode cX5_record 20 = .ok (.aload_n 0, 1) := by decide +kernel
theorem dX5_record_21 : decode cX5_record 21 = .ok (.dup, 1) := by decide +kernel
theorem dX5_record_22 : decode cX5_record 22 = .ok (.getfield 31, 3) := by decide +kernel
theorem dX5_record_25 : decode cX5_record 25 = .ok (.iconst 1, 1) := by decide +kernel
theorem dX5_record_26 : decode cX5_record 26 = .ok (.iadd, 1) := by decide +kernel
theorem dX5_record_27 : decode cX5_record 27 = .ok (.putfield 31, 3) := by decide +kernel
theorem dX5_record_30 : decode cX5_record 30 = .ok (.aload_n 0, 1) := by decide +kernel
theorem dX5_record_31 : decode cX5_record 31 = .ok (.getfield 31, 3) := by decide +kernel
theorem dX5_record_34 : decode cX5_record 34 = .ok (.iconst 1, 1) := by decide +kernel
theorem dX5_record_35 : decode cX5_record 35 = .ok (.isub, 1) := by decide +kernel
theorem dX5_record_36 : decode cX5_record 36 = .ok (.ireturn, 1) := by decide +kernel
theorem dX5_loanShare_0 : decode cX5_loanShare 0 = .ok (.aload_n 0, 1) := by decide +kernel
theorem dX5_loanShare_1 : decode cX5_loanShare 1 = .ok (.getfield 28, 3) := by decide +kernel
theorem dX5_loanShare_4 : decode cX5_loanShare 4 = .ok (.iload_n 1, 1) := by decide +kernel
theorem dX5_loanShare_5 : decode cX5_loanShare 5 = .ok (.iaload, 1) := by decide +kernel
theorem dX5_loanShare_6 : decode cX5_loanShare 6 = .ok (.ireturn, 1) := by decide +kernel
theorem dX5_claimShare_0 : decode cX5_claimShare 0 = .ok (.aload_n 0, 1) := by decide +kernel
theorem dX5_claimShare_1 : decode cX5_claimShare 1 = .ok (.getfield 28, 3) := by decide +kernel
theorem dX5_claimShare_4 : decode cX5_claimShare 4 = .ok (.bipush 6, 2) := by decide +kernel
theorem dX5_claimShare_6 : decode cX5_claimShare 6 = .ok (.iload_n 1, 1) := by decide +kernel
theorem dX5_claimShare_7 : decode cX5_claimShare 7 = .ok (.iadd, 1) := by decide +kernel
theorem dX5_claimShare_8 : decode cX5_claimShare 8 = .ok (.iaload, 1) := by decide +kernel
theorem dX5_claimShare_9 : decode cX5_claimShare 9 = .ok (.ireturn, 1) := by decide +kernel
theorem dX5_enterLoans_0 : decode cX5_enterLoans 0 = .ok (.iconst 0, 1) := by decide +kernel
theorem dX5_enterLoans_1 : decode cX5_enterLoans 1 = .ok (.istore_n 1, 1) := by decide +kernel
theorem dX5_enterLoans_2 : decode cX5_enterLoans 2 = .ok (.iload_n 1, 1) := by decide +kernel
theorem dX5_enterLoans_3 : decode cX5_enterLoans 3 = .ok (.bipush 6, 2) := by decide +kernel
theorem dX5_enterLoans_5 : decode cX5_enterLoans 5 = .ok (.if_icmp .ge 52, 3) := by decide +kernel
theorem dX5_enterLoans_8 : decode cX5_enterLoans 8 = .ok (.aload_n 0, 1) := by decide +kernel
theorem dX5_enterLoans_9 : decode cX5_enterLoans 9 = .ok (.getfield 22, 3) := by decide +kernel
theorem dX5_enterLoans_12 : decode cX5_enterLoans 12 = .ok (.iload_n 1, 1) := by decide +kernel
theorem dX5_enterLoans_13 : decode cX5_enterLoans 13 = .ok (.iload_n 1, 1) := by decide +kernel
theorem dX5_enterLoans_14 : decode cX5_enterLoans 14 = .ok (.aload_n 0, 1) := by decide +kernel
theorem dX5_enterLoans_15 : decode cX5_enterLoans 15 = .ok (.getfield 31, 3) := by decide +kernel
theorem dX5_enterLoans_18 : decode cX5_enterLoans 18 = .ok (.if_icmp .ge 12, 3) := by decide +kernel
theorem dX5_enterLoans_21 : decode cX5_enterLoans 21 = .ok (.aload_n 0, 1) := by decide +kernel
theorem dX5_enterLoans_22 : decode cX5_enterLoans 22 = .ok (.getfield 19, 3) := by decide +kernel
theorem dX5_enterLoans_25 : decode cX5_enterLoans 25 = .ok (.iload_n 1, 1) := by decide +kernel
theorem dX5_enterLoans_26 : decode cX5_enterLoans 26 = .ok (.iaload, 1) := by decide +kernel
theorem dX5_enterLoans_27 : decode cX5_enterLoans 27 = .ok (.goto 4, 3) := by decide +kernel
theorem dX5_enterLoans_30 : decode cX5_enterLoans 30 = .ok (.iconst (-1), 1) := by decide +kernel
theorem dX5_enterLoans_31 : decode cX5_enterLoans 31 = .ok (.iastore, 1) := by decide +kernel
theorem dX5_enterLoans_32 : decode cX5_enterLoans 32 = .ok (.aload_n 0, 1) := by decide +kernel
theorem dX5_enterLoans_33 : decode cX5_enterLoans 33 = .ok (.getfield 25, 3) := by decide +kernel
theorem dX5_enterLoans_36 : decode cX5_enterLoans 36 = .ok (.iload_n 1, 1) := by decide +kernel
theorem dX5_enterLoans_37 : decode cX5_enterLoans 37 = .ok (.aload_n 0, 1) := by decide +kernel
theorem dX5_enterLoans_38 : decode cX5_enterLoans 38 = .ok (.getfield 15, 3) := by decide +kernel
theorem dX5_enterLoans_41 : decode cX5_enterLoans 41 = .ok (.iload_n 1, 1) := by decide +kernel
theorem dX5_enterLoans_42 : decode cX5_enterLoans 42 = .ok (.iaload, 1) := by decide +kernel
theorem dX5_enterLoans_43 : decode cX5_enterLoans 43 = .ok (.iastore, 1) := by decide +kernel
theorem dX5_enterLoans_44 : decode cX5_enterLoans 44 = .ok (.aload_n 0, 1) := by decide +kernel
theorem dX5_enterLoans_45 : decode cX5_enterLoans 45 = .ok (.getfield 28, 3) := by decide +kernel
theorem dX5_enterLoans_48 : decode cX5_enterLoans 48 = .ok (.iload_n 1, 1) := by decide +kernel
theorem dX5_enterLoans_49 : decode cX5_enterLoans 49 = .ok (.iconst 0, 1) := by decide +kernel
theorem dX5_enterLoans_50 : decode cX5_enterLoans 50 = .ok (.iastore, 1) := by decide +kernel
theorem dX5_enterLoans_51 : decode cX5_enterLoans 51 = .ok (.iinc 1 1, 3) := by decide +kernel
theorem dX5_enterLoans_54 : decode cX5_enterLoans 54 = .ok (.goto (-52), 3) := by decide +kernel
theorem dX5_enterLoans_57 : decode cX5_enterLoans 57 = .ok (.return_, 1) := by decide +kernel
theorem dX5_enterClaims_0 : decode cX5_enterClaims 0 = .ok (.aload_n 0, 1) := by decide +kernel
theorem dX5_enterClaims_1 : decode cX5_enterClaims 1 = .ok (.getfield 9, 3) := by decide +kernel
theorem dX5_enterClaims_4 : decode cX5_enterClaims 4 = .ok (.iload_n 2, 1) := by decide +kernel
theorem dX5_enterClaims_5 : decode cX5_enterClaims 5 = .ok (.invokevirtual 53, 3) := by decide +kernel
theorem dX5_enterClaims_8 : decode cX5_enterClaims 8 = .ok (.iload_n 1, 1) := by decide +kernel
theorem dX5_enterClaims_9 : decode cX5_enterClaims 9 = .ok (.ifCond .ne 7, 3) := by decide +kernel
theorem dX5_enterClaims_12 : decode cX5_enterClaims 12 = .ok (.iconst 1, 1) := by decide +kernel
theorem dX5_enterClaims_13 : decode cX5_enterClaims 13 = .ok (.goto 4, 3) := by decide +kernel
theorem dX5_enterClaims_16 : decode cX5_enterClaims 16 = .ok (.iconst 2, 1) := by decide +kernel
theorem dX5_enterClaims_17 : decode cX5_enterClaims 17 = .ok (.istore_n 3, 1) := by decide +kernel
theorem dX5_enterClaims_18 : decode cX5_enterClaims 18 = .ok (.iconst 0, 1) := by decide +kernel
theorem dX5_enterClaims_19 : decode cX5_enterClaims 19 = .ok (.istore 4, 2) := by decide +kernel
theorem dX5_enterClaims_21 : decode cX5_enterClaims 21 = .ok (.iload 4, 2) := by decide +kernel
theorem dX5_enterClaims_23 : decode cX5_enterClaims 23 = .ok (.bipush 16, 2) := by decide +kernel
theorem dX5_enterClaims_25 : decode cX5_enterClaims 25 = .ok (.if_icmp .ge 116, 3) := by decide +kernel
theorem dX5_enterClaims_28 : decode cX5_enterClaims 28 = .ok (.bipush 6, 2) := by decide +kernel
theorem dX5_enterClaims_30 : decode cX5_enterClaims 30 = .ok (.iload 4, 2) := by decide +kernel
theorem dX5_enterClaims_32 : decode cX5_enterClaims 32 = .ok (.iadd, 1) := by decide +kernel
theorem dX5_enterClaims_33 : decode cX5_enterClaims 33 = .ok (.istore 5, 2) := by decide +kernel
theorem dX5_enterClaims_35 : decode cX5_enterClaims 35 = .ok (.aload_n 0, 1) := by decide +kernel
theorem dX5_enterClaims_36 : decode cX5_enterClaims 36 = .ok (.getfield 9, 3) := by decide +kernel
theorem dX5_enterClaims_39 : decode cX5_enterClaims 39 = .ok (.iload 4, 2) := by decide +kernel
theorem dX5_enterClaims_41 : decode cX5_enterClaims 41 = .ok (.invokevirtual 58, 3) := by decide +kernel
theorem dX5_enterClaims_44 : decode cX5_enterClaims 44 = .ok (.ifCond .eq 37, 3) := by decide +kernel
theorem dX5_enterClaims_47 : decode cX5_enterClaims 47 = .ok (.aload_n 0, 1) := by decide +kernel
theorem dX5_enterClaims_48 : decode cX5_enterClaims 48 = .ok (.getfield 9, 3) := by decide +kernel
theorem dX5_enterClaims_51 : decode cX5_enterClaims 51 = .ok (.getfield 62, 3) := by decide +kernel
theorem dX5_enterClaims_54 : decode cX5_enterClaims 54 = .ok (.iload 4, 2) := by decide +kernel
theorem dX5_enterClaims_56 : decode cX5_enterClaims 56 = .ok (.aaload, 1) := by decide +kernel
theorem dX5_enterClaims_57 : decode cX5_enterClaims 57 = .ok (.getfield 66, 3) := by decide +kernel
theorem dX5_enterClaims_60 : decode cX5_enterClaims 60 = .ok (.ifCond .ne 21, 3) := by decide +kernel
theorem dX5_enterClaims_63 : decode cX5_enterClaims 63 = .ok (.aload_n 0, 1) := by decide +kernel
theorem dX5_enterClaims_64 : decode cX5_enterClaims 64 = .ok (.getfield 9, 3) := by decide +kernel
theorem dX5_enterClaims_67 : decode cX5_enterClaims 67 = .ok (.getfield 71, 3) := by decide +kernel
theorem dX5_enterClaims_70 : decode cX5_enterClaims 70 = .ok (.iload 4, 2) := by decide +kernel
theorem dX5_enterClaims_72 : decode cX5_enterClaims 72 = .ok (.iaload, 1) := by decide +kernel
theorem dX5_enterClaims_73 : decode cX5_enterClaims 73 = .ok (.iload_n 3, 1) := by decide +kernel
theorem dX5_enterClaims_74 : decode cX5_enterClaims 74 = .ok (.if_icmp .lt 7, 3) := by decide +kernel
theorem dX5_enterClaims_77 : decode cX5_enterClaims 77 = .ok (.iconst 1, 1) := by decide +kernel
theorem dX5_enterClaims_78 : decode cX5_enterClaims 78 = .ok (.goto 4, 3) := by decide +kernel
theorem dX5_enterClaims_81 : decode cX5_enterClaims 81 = .ok (.iconst 0, 1) := by decide +kernel
theorem dX5_enterClaims_82 : decode cX5_enterClaims 82 = .ok (.istore 6, 2) := by decide +kernel
theorem dX5_enterClaims_84 : decode cX5_enterClaims 84 = .ok (.aload_n 0, 1) := by decide +kernel
theorem dX5_enterClaims_85 : decode cX5_enterClaims 85 = .ok (.getfield 22, 3) := by decide +kernel
theorem dX5_enterClaims_88 : decode cX5_enterClaims 88 = .ok (.iload 5, 2) := by decide +kernel
theorem dX5_enterClaims_90 : decode cX5_enterClaims 90 = .ok (.iload 6, 2) := by decide +kernel
theorem dX5_enterClaims_92 : decode cX5_enterClaims 92 = .ok (.ifCond .eq 16, 3) := by decide +kernel
theorem dX5_enterClaims_95 : decode cX5_enterClaims 95 = .ok (.aload_n 0, 1) := by decide +kernel
theorem dX5_enterClaims_96 : decode cX5_enterClaims 96 = .ok (.getfield 9, 3) := by decide +kernel
theorem dX5_enterClaims_99 : decode cX5_enterClaims 99 = .ok (.iload 4, 2) := by decide +kernel
theorem dX5_enterClaims_101 : decode cX5_enterClaims 101 = .ok (.iload_n 1, 1) := by decide +kernel
theorem dX5_enterClaims_102 : decode cX5_enterClaims 102 = .ok (.invokevirtual 74, 3) := by decide +kernel
theorem dX5_enterClaims_105 : decode cX5_enterClaims 105 = .ok (.goto 4, 3) := by decide +kernel
theorem dX5_enterClaims_108 : decode cX5_enterClaims 108 = .ok (.iconst (-1), 1) := by decide +kernel
theorem dX5_enterClaims_109 : decode cX5_enterClaims 109 = .ok (.iastore, 1) := by decide +kernel
theorem dX5_enterClaims_110 : decode cX5_enterClaims 110 = .ok (.aload_n 0, 1) := by decide +kernel
theorem dX5_enterClaims_111 : decode cX5_enterClaims 111 = .ok (.getfield 25, 3) := by decide +kernel
theorem dX5_enterClaims_114 : decode cX5_enterClaims 114 = .ok (.iload 5, 2) := by decide +kernel
theorem dX5_enterClaims_116 : decode cX5_enterClaims 116 = .ok (.aload_n 0, 1) := by decide +kernel
theorem dX5_enterClaims_117 : decode cX5_enterClaims 117 = .ok (.getfield 9, 3) := by decide +kernel
theorem dX5_enterClaims_120 : decode cX5_enterClaims 120 = .ok (.getfield 78, 3) := by decide +kernel
theorem dX5_enterClaims_123 : decode cX5_enterClaims 123 = .ok (.iload 4, 2) := by decide +kernel
theorem dX5_enterClaims_125 : decode cX5_enterClaims 125 = .ok (.iaload, 1) := by decide +kernel
theorem dX5_enterClaims_126 : decode cX5_enterClaims 126 = .ok (.iastore, 1) := by decide +kernel
theorem dX5_enterClaims_127 : decode cX5_enterClaims 127 = .ok (.aload_n 0, 1) := by decide +kernel
theorem dX5_enterClaims_128 : decode cX5_enterClaims 128 = .ok (.getfield 28, 3) := by decide +kernel
theorem dX5_enterClaims_131 : decode cX5_enterClaims 131 = .ok (.iload 5, 2) := by decide +kernel
theorem dX5_enterClaims_133 : decode cX5_enterClaims 133 = .ok (.iconst 0, 1) := by decide +kernel
theorem dX5_enterClaims_134 : decode cX5_enterClaims 134 = .ok (.iastore, 1) := by decide +kernel
theorem dX5_enterClaims_135 : decode cX5_enterClaims 135 = .ok (.iinc 4 1, 3) := by decide +kernel
theorem dX5_enterClaims_138 : decode cX5_enterClaims 138 = .ok (.goto (-117), 3) := by decide +kernel
theorem dX5_enterClaims_141 : decode cX5_enterClaims 141 = .ok (.return_, 1) := by decide +kernel
theorem dX5_rankAfter_0 : decode cX5_rankAfter 0 = .ok (.iconst (-1), 1) := by decide +kernel
theorem dX5_rankAfter_1 : decode cX5_rankAfter 1 = .ok (.istore_n 2, 1) := by decide +kernel
theorem dX5_rankAfter_2 : decode cX5_rankAfter 2 = .ok (.iconst 0, 1) := by decide +kernel
theorem dX5_rankAfter_3 : decode cX5_rankAfter 3 = .ok (.istore_n 3, 1) := by decide +kernel
theorem dX5_rankAfter_4 : decode cX5_rankAfter 4 = .ok (.iload_n 3, 1) := by decide +kernel
theorem dX5_rankAfter_5 : decode cX5_rankAfter 5 = .ok (.bipush 22, 2) := by decide +kernel
theorem dX5_rankAfter_7 : decode cX5_rankAfter 7 = .ok (.if_icmp .ge 41, 3) := by decide +kernel
theorem dX5_rankAfter_10 : decode cX5_rankAfter 10 = .ok (.aload_n 0, 1) := by decide +kernel
theorem dX5_rankAfter_11 : decode cX5_rankAfter 11 = .ok (.getfield 22, 3) := by decide +kernel
theorem dX5_rankAfter_14 : decode cX5_rankAfter 14 = .ok (.iload_n 3, 1) := by decide +kernel
theorem dX5_rankAfter_15 : decode cX5_rankAfter 15 = .ok (.iaload, 1) := by decide +kernel
theorem dX5_rankAfter_16 : decode cX5_rankAfter 16 = .ok (.iload_n 1, 1) := by decide +kernel
theorem dX5_rankAfter_17 : decode cX5_rankAfter 17 = .ok (.if_icmp .le 25, 3) := by decide +kernel
theorem dX5_rankAfter_20 : decode cX5_rankAfter 20 = .ok (.iload_n 2, 1) := by decide +kernel
theorem dX5_rankAfter_21 : decode cX5_rankAfter 21 = .ok (.iconst (-1), 1) := by decide +kernel
theorem dX5_rankAfter_22 : decode cX5_rankAfter 22 = .ok (.if_icmp .eq 13, 3) := by decide +kernel
theorem dX5_rankAfter_25 : decode cX5_rankAfter 25 = .ok (.aload_n 0, 1) := by decide +kernel
theorem dX5_rankAfter_26 : decode cX5_rankAfter 26 = .ok (.getfield 22, 3) := by decide +kernel
theorem dX5_rankAfter_29 : decode cX5_rankAfter 29 = .ok (.iload_n 3, 1) := by decide +kernel
theorem dX5_rankAfter_30 : decode cX5_rankAfter 30 = .ok (.iaload, 1) := by decide +kernel
theorem dX5_rankAfter_31 : decode cX5_rankAfter 31 = .ok (.iload_n 2, 1) := by decide +kernel
theorem dX5_rankAfter_32 : decode cX5_rankAfter 32 = .ok (.if_icmp .ge 10, 3) := by decide +kernel
theorem dX5_rankAfter_35 : decode cX5_rankAfter 35 = .ok (.aload_n 0, 1) := by decide +kernel
theorem dX5_rankAfter_36 : decode cX5_rankAfter 36 = .ok (.getfield 22, 3) := by decide +kernel
theorem dX5_rankAfter_39 : decode cX5_rankAfter 39 = .ok (.iload_n 3, 1) := by decide +kernel
theorem dX5_rankAfter_40 : decode cX5_rankAfter 40 = .ok (.iaload, 1) := by decide +kernel
theorem dX5_rankAfter_41 : decode cX5_rankAfter 41 = .ok (.istore_n 2, 1) := by decide +kernel
theorem dX5_rankAfter_42 : decode cX5_rankAfter 42 = .ok (.iinc 3 1, 3) := by decide +kernel
theorem dX5_rankAfter_45 : decode cX5_rankAfter 45 = .ok (.goto (-41), 3) := by decide +kernel
theorem dX5_rankAfter_48 : decode cX5_rankAfter 48 = .ok (.iload_n 2, 1) := by decide +kernel
theorem dX5_rankAfter_49 : decode cX5_rankAfter 49 = .ok (.ireturn, 1) := by decide +kernel
theorem dX5_shareLeft_0 : decode cX5_shareLeft 0 = .ok (.aload_n 0, 1) := by decide +kernel
theorem dX5_shareLeft_1 : decode cX5_shareLeft 1 = .ok (.getfield 35, 3) := by decide +kernel
theorem dX5_shareLeft_4 : decode cX5_shareLeft 4 = .ok (.i2l, 1) := by decide +kernel
theorem dX5_shareLeft_5 : decode cX5_shareLeft 5 = .ok (.lstore_n 3, 1) := by decide +kernel
theorem dX5_shareLeft_6 : decode cX5_shareLeft 6 = .ok (.iconst 0, 1) := by decide +kernel
theorem dX5_shareLeft_7 : decode cX5_shareLeft 7 = .ok (.istore 5, 2) := by decide +kernel
theorem dX5_shareLeft_9 : decode cX5_shareLeft 9 = .ok (.iload 5, 2) := by decide +kernel
theorem dX5_shareLeft_11 : decode cX5_shareLeft 11 = .ok (.bipush 22, 2) := by decide +kernel
theorem dX5_shareLeft_13 : decode cX5_shareLeft 13 = .ok (.if_icmp .ge 57, 3) := by decide +kernel
theorem dX5_shareLeft_16 : decode cX5_shareLeft 16 = .ok (.aload_n 0, 1) := by decide +kernel
theorem dX5_shareLeft_17 : decode cX5_shareLeft 17 = .ok (.getfield 22, 3) := by decide +kernel
theorem dX5_shareLeft_20 : decode cX5_shareLeft 20 = .ok (.iload 5, 2) := by decide +kernel
theorem dX5_shareLeft_22 : decode cX5_shareLeft 22 = .ok (.iaload, 1) := by decide +kernel
theorem dX5_shareLeft_23 : decode cX5_shareLeft 23 = .ok (.iload_n 1, 1) := by decide +kernel
theorem dX5_shareLeft_24 : decode cX5_shareLeft 24 = .ok (.if_icmp .ne 40, 3) := by decide +kernel
theorem dX5_shareLeft_27 : decode cX5_shareLeft 27 = .ok (.aload_n 0, 1) := by decide +kernel
theorem dX5_shareLeft_28 : decode cX5_shareLeft 28 = .ok (.getfield 28, 3) := by decide +kernel
theorem dX5_shareLeft_31 : decode cX5_shareLeft 31 = .ok (.iload 5, 2) := by decide +kernel
theorem dX5_shareLeft_33 : decode cX5_shareLeft 33 = .ok (.lload_n 3, 1) := by decide +kernel
theorem dX5_shareLeft_34 : decode cX5_shareLeft 34 = .ok (.aload_n 0, 1) := by decide +kernel
theorem dX5_shareLeft_35 : decode cX5_shareLeft 35 = .ok (.getfield 25, 3) := by decide +kernel
theorem dX5_shareLeft_38 : decode cX5_shareLeft 38 = .ok (.iload 5, 2) := by decide +kernel
theorem dX5_shareLeft_40 : decode cX5_shareLeft 40 = .ok (.iaload, 1) := by decide +kernel
theorem dX5_shareLeft_41 : decode cX5_shareLeft 41 = .ok (.i2l, 1) := by decide +kernel
theorem dX5_shareLeft_42 : decode cX5_shareLeft 42 = .ok (.lmul, 1) := by decide +kernel
theorem dX5_shareLeft_43 : decode cX5_shareLeft 43 = .ok (.iload_n 2, 1) := by decide +kernel
theorem dX5_shareLeft_44 : decode cX5_shareLeft 44 = .ok (.i2l, 1) := by decide +kernel
theorem dX5_shareLeft_45 : decode cX5_shareLeft 45 = .ok (.ldiv, 1) := by decide +kernel
theorem dX5_shareLeft_46 : decode cX5_shareLeft 46 = .ok (.l2i, 1) := by decide +kernel
theorem dX5_shareLeft_47 : decode cX5_shareLeft 47 = .ok (.iastore, 1) := by decide +kernel
theorem dX5_shareLeft_48 : decode cX5_shareLeft 48 = .ok (.aload_n 0, 1) := by decide +kernel
theorem dX5_shareLeft_49 : decode cX5_shareLeft 49 = .ok (.dup, 1) := by decide +kernel
theorem dX5_shareLeft_50 : decode cX5_shareLeft 50 = .ok (.getfield 35, 3) := by decide +kernel
theorem dX5_shareLeft_53 : decode cX5_shareLeft 53 = .ok (.aload_n 0, 1) := by decide +kernel
theorem dX5_shareLeft_54 : decode cX5_shareLeft 54 = .ok (.getfield 28, 3) := by decide +kernel
theorem dX5_shareLeft_57 : decode cX5_shareLeft 57 = .ok (.iload 5, 2) := by decide +kernel
theorem dX5_shareLeft_59 : decode cX5_shareLeft 59 = .ok (.iaload, 1) := by decide +kernel
theorem dX5_shareLeft_60 : decode cX5_shareLeft 60 = .ok (.isub, 1) := by decide +kernel
theorem dX5_shareLeft_61 : decode cX5_shareLeft 61 = .ok (.putfield 35, 3) := by decide +kernel
theorem dX5_shareLeft_64 : decode cX5_shareLeft 64 = .ok (.iinc 5 1, 3) := by decide +kernel
theorem dX5_shareLeft_67 : decode cX5_shareLeft 67 = .ok (.goto (-58), 3) := by decide +kernel
theorem dX5_shareLeft_70 : decode cX5_shareLeft 70 = .ok (.iconst 0, 1) := by decide +kernel
theorem dX5_shareLeft_71 : decode cX5_shareLeft 71 = .ok (.istore 5, 2) := by decide +kernel
theorem dX5_shareLeft_73 : decode cX5_shareLeft 73 = .ok (.iload 5, 2) := by decide +kernel
theorem dX5_shareLeft_75 : decode cX5_shareLeft 75 = .ok (.bipush 22, 2) := by decide +kernel
theorem dX5_shareLeft_77 : decode cX5_shareLeft 77 = .ok (.if_icmp .ge 48, 3) := by decide +kernel
theorem dX5_shareLeft_80 : decode cX5_shareLeft 80 = .ok (.aload_n 0, 1) := by decide +kernel
theorem dX5_shareLeft_81 : decode cX5_shareLeft 81 = .ok (.getfield 35, 3) := by decide +kernel
theorem dX5_shareLeft_84 : decode cX5_shareLeft 84 = .ok (.ifCond .le 41, 3) := by decide +kernel
theorem dX5_shareLeft_87 : decode cX5_shareLeft 87 = .ok (.aload_n 0, 1) := by decide +kernel
theorem dX5_shareLeft_88 : decode cX5_shareLeft 88 = .ok (.getfield 22, 3) := by decide +kernel
theorem dX5_shareLeft_91 : decode cX5_shareLeft 91 = .ok (.iload 5, 2) := by decide +kernel
theorem dX5_shareLeft_93 : decode cX5_shareLeft 93 = .ok (.iaload, 1) := by decide +kernel
theorem dX5_shareLeft_94 : decode cX5_shareLeft 94 = .ok (.iload_n 1, 1) := by decide +kernel
theorem dX5_shareLeft_95 : decode cX5_shareLeft 95 = .ok (.if_icmp .ne 24, 3) := by decide +kernel
theorem dX5_shareLeft_98 : decode cX5_shareLeft 98 = .ok (.aload_n 0, 1) := by decide +kernel
theorem dX5_shareLeft_99 : decode cX5_shareLeft 99 = .ok (.getfield 28, 3) := by decide +kernel
theorem dX5_shareLeft_102 : decode cX5_shareLeft 102 = .ok (.iload 5, 2) := by decide +kernel
theorem dX5_shareLeft_104 : decode cX5_shareLeft 104 = .ok (.dup2, 1) := by decide +kernel
theorem dX5_shareLeft_105 : decode cX5_shareLeft 105 = .ok (.iaload, 1) := by decide +kernel
theorem dX5_shareLeft_106 : decode cX5_shareLeft 106 = .ok (.iconst 1, 1) := by decide +kernel
theorem dX5_shareLeft_107 : decode cX5_shareLeft 107 = .ok (.iadd, 1) := by decide +kernel
theorem dX5_shareLeft_108 : decode cX5_shareLeft 108 = .ok (.iastore, 1) := by decide +kernel
theorem dX5_shareLeft_109 : decode cX5_shareLeft 109 = .ok (.aload_n 0, 1) := by decide +kernel
theorem dX5_shareLeft_110 : decode cX5_shareLeft 110 = .ok (.dup, 1) := by decide +kernel
theorem dX5_shareLeft_111 : decode cX5_shareLeft 111 = .ok (.getfield 35, 3) := by decide +kernel
theorem dX5_shareLeft_114 : decode cX5_shareLeft 114 = .ok (.iconst 1, 1) := by decide +kernel
theorem dX5_shareLeft_115 : decode cX5_shareLeft 115 = .ok (.isub, 1) := by decide +kernel
theorem dX5_shareLeft_116 : decode cX5_shareLeft 116 = .ok (.putfield 35, 3) := by decide +kernel
theorem dX5_shareLeft_119 : decode cX5_shareLeft 119 = .ok (.iinc 5 1, 3) := by decide +kernel
theorem dX5_shareLeft_122 : decode cX5_shareLeft 122 = .ok (.goto (-49), 3) := by decide +kernel
theorem dX5_shareLeft_125 : decode cX5_shareLeft 125 = .ok (.return_, 1) := by decide +kernel
theorem dX5_payWhole_0 : decode cX5_payWhole 0 = .ok (.iconst 0, 1) := by decide +kernel
theorem dX5_payWhole_1 : decode cX5_payWhole 1 = .ok (.istore_n 2, 1) := by decide +kernel
theorem dX5_payWhole_2 : decode cX5_payWhole 2 = .ok (.iload_n 2, 1) := by decide +kernel
theorem dX5_payWhole_3 : decode cX5_payWhole 3 = .ok (.bipush 22, 2) := by decide +kernel
theorem dX5_payWhole_5 : decode cX5_payWhole 5 = .ok (.if_icmp .ge 46, 3) := by decide +kernel
theorem dX5_payWhole_8 : decode cX5_payWhole 8 = .ok (.aload_n 0, 1) := by decide +kernel
theorem dX5_payWhole_9 : decode cX5_payWhole 9 = .ok (.getfield 22, 3) := by decide +kernel
theorem dX5_payWhole_12 : decode cX5_payWhole 12 = .ok (.iload_n 2, 1) := by decide +kernel
theorem dX5_payWhole_13 : decode cX5_payWhole 13 = .ok (.iaload, 1) := by decide +kernel
theorem dX5_payWhole_14 : decode cX5_payWhole 14 = .ok (.iload_n 1, 1) := by decide +kernel
theorem dX5_payWhole_15 : decode cX5_payWhole 15 = .ok (.if_icmp .ne 30, 3) := by decide +kernel
theorem dX5_payWhole_18 : decode cX5_payWhole 18 = .ok (.aload_n 0, 1) := by decide +kernel
theorem dX5_payWhole_19 : decode cX5_payWhole 19 = .ok (.getfield 28, 3) := by decide +kernel
theorem dX5_payWhole_22 : decode cX5_payWhole 22 = .ok (.iload_n 2, 1) := by decide +kernel
theorem dX5_payWhole_23 : decode cX5_payWhole 23 = .ok (.aload_n 0, 1) := by decide +kernel
theorem dX5_payWhole_24 : decode cX5_payWhole 24 = .ok (.getfield 25, 3) := by decide +kernel
theorem dX5_payWhole_27 : decode cX5_payWhole 27 = .ok (.iload_n 2, 1) := by decide +kernel
theorem dX5_payWhole_28 : decode cX5_payWhole 28 = .ok (.iaload, 1) := by decide +kernel
theorem dX5_payWhole_29 : decode cX5_payWhole 29 = .ok (.iastore, 1) := by decide +kernel
theorem dX5_payWhole_30 : decode cX5_payWhole 30 = .ok (.aload_n 0, 1) := by decide +kernel
theorem dX5_payWhole_31 : decode cX5_payWhole 31 = .ok (.dup, 1) := by decide +kernel
theorem dX5_payWhole_32 : decode cX5_payWhole 32 = .ok (.getfield 35, 3) := by decide +kernel
theorem dX5_payWhole_35 : decode cX5_payWhole 35 = .ok (.aload_n 0, 1) := by decide +kernel
theorem dX5_payWhole_36 : decode cX5_payWhole 36 = .ok (.getfield 25, 3) := by decide +kernel
theorem dX5_payWhole_39 : decode cX5_payWhole 39 = .ok (.iload_n 2, 1) := by decide +kernel
theorem dX5_payWhole_40 : decode cX5_payWhole 40 = .ok (.iaload, 1) := by decide +kernel
theorem dX5_payWhole_41 : decode cX5_payWhole 41 = .ok (.isub, 1) := by decide +kernel
theorem dX5_payWhole_42 : decode cX5_payWhole 42 = .ok (.putfield 35, 3) := by decide +kernel
theorem dX5_payWhole_45 : decode cX5_payWhole 45 = .ok (.iinc 2 1, 3) := by decide +kernel
theorem dX5_payWhole_48 : decode cX5_payWhole 48 = .ok (.goto (-46), 3) := by decide +kernel
theorem dX5_payWhole_51 : decode cX5_payWhole 51 = .ok (.return_, 1) := by decide +kernel
theorem dX5_payRank_0 : decode cX5_payRank 0 = .ok (.iconst 0, 1) := by decide +kernel
theorem dX5_payRank_1 : decode cX5_payRank 1 = .ok (.istore_n 2, 1) := by decide +kernel
theorem dX5_payRank_2 : decode cX5_payRank 2 = .ok (.iconst 0, 1) := by decide +kernel
theorem dX5_payRank_3 : decode cX5_payRank 3 = .ok (.istore_n 3, 1) := by decide +kernel
theorem dX5_payRank_4 : decode cX5_payRank 4 = .ok (.iload_n 3, 1) := by decide +kernel
theorem dX5_payRank_5 : decode cX5_payRank 5 = .ok (.bipush 22, 2) := by decide +kernel
theorem dX5_payRank_7 : decode cX5_payRank 7 = .ok (.if_icmp .ge 28, 3) := by decide +kernel
theorem dX5_payRank_10 : decode cX5_payRank 10 = .ok (.aload_n 0, 1) := by decide +kernel
theorem dX5_payRank_11 : decode cX5_payRank 11 = .ok (.getfield 22, 3) := by decide +kernel
theorem dX5_payRank_14 : decode cX5_payRank 14 = .ok (.iload_n 3, 1) := by decide +kernel
theorem dX5_payRank_15 : decode cX5_payRank 15 = .ok (.iaload, 1) := by decide +kernel
theorem dX5_payRank_16 : decode cX5_payRank 16 = .ok (.iload_n 1, 1) := by decide +kernel
theorem dX5_payRank_17 : decode cX5_payRank 17 = .ok (.if_icmp .ne 12, 3) := by decide +kernel
theorem dX5_payRank_20 : decode cX5_payRank 20 = .ok (.iload_n 2, 1) := by decide +kernel
theorem dX5_payRank_21 : decode cX5_payRank 21 = .ok (.aload_n 0, 1) := by decide +kernel
theorem dX5_payRank_22 : decode cX5_payRank 22 = .ok (.getfield 25, 3) := by decide +kernel
theorem dX5_payRank_25 : decode cX5_payRank 25 = .ok (.iload_n 3, 1) := by decide +kernel
theorem dX5_payRank_26 : decode cX5_payRank 26 = .ok (.iaload, 1) := by decide +kernel
theorem dX5_payRank_27 : decode cX5_payRank 27 = .ok (.iadd, 1) := by decide +kernel
theorem dX5_payRank_28 : decode cX5_payRank 28 = .ok (.istore_n 2, 1) := by decide +kernel
theorem dX5_payRank_29 : decode cX5_payRank 29 = .ok (.iinc 3 1, 3) := by decide +kernel
theorem dX5_payRank_32 : decode cX5_payRank 32 = .ok (.goto (-28), 3) := by decide +kernel
theorem dX5_payRank_35 : decode cX5_payRank 35 = .ok (.iload_n 2, 1) := by decide +kernel
theorem dX5_payRank_36 : decode cX5_payRank 36 = .ok (.aload_n 0, 1) := by decide +kernel
theorem dX5_payRank_37 : decode cX5_payRank 37 = .ok (.getfield 35, 3) := by decide +kernel
theorem dX5_payRank_40 : decode cX5_payRank 40 = .ok (.if_icmp .le 16, 3) := by decide +kernel
theorem dX5_payRank_43 : decode cX5_payRank 43 = .ok (.iload_n 2, 1) := by decide +kernel
theorem dX5_payRank_44 : decode cX5_payRank 44 = .ok (.ifCond .le 12, 3) := by decide +kernel
theorem dX5_payRank_47 : decode cX5_payRank 47 = .ok (.aload_n 0, 1) := by decide +kernel
theorem dX5_payRank_48 : decode cX5_payRank 48 = .ok (.iload_n 1, 1) := by decide +kernel
theorem dX5_payRank_49 : decode cX5_payRank 49 = .ok (.iload_n 2, 1) := by decide +kernel
theorem dX5_payRank_50 : decode cX5_payRank 50 = .ok (.invokevirtual 79, 3) := by decide +kernel
theorem dX5_payRank_53 : decode cX5_payRank 53 = .ok (.goto 8, 3) := by decide +kernel
theorem dX5_payRank_56 : decode cX5_payRank 56 = .ok (.aload_n 0, 1) := by decide +kernel
theorem dX5_payRank_57 : decode cX5_payRank 57 = .ok (.iload_n 1, 1) := by decide +kernel
theorem dX5_payRank_58 : decode cX5_payRank 58 = .ok (.invokevirtual 82, 3) := by decide +kernel
theorem dX5_payRank_61 : decode cX5_payRank 61 = .ok (.return_, 1) := by decide +kernel
theorem dX5_sell_0 : decode cX5_sell 0 = .ok (.aload_n 0, 1) := by decide +kernel
theorem dX5_sell_1 : decode cX5_sell 1 = .ok (.iload_n 1, 1) := by decide +kernel
theorem dX5_sell_2 : decode cX5_sell 2 = .ok (.putfield 35, 3) := by decide +kernel
theorem dX5_sell_5 : decode cX5_sell 5 = .ok (.aload_n 0, 1) := by decide +kernel
theorem dX5_sell_6 : decode cX5_sell 6 = .ok (.invokevirtual 38, 3) := by decide +kernel
theorem dX5_sell_9 : decode cX5_sell 9 = .ok (.aload_n 0, 1) := by decide +kernel
theorem dX5_sell_10 : decode cX5_sell 10 = .ok (.iload_n 2, 1) := by decide +kernel
theorem dX5_sell_11 : decode cX5_sell 11 = .ok (.iload_n 3, 1) := by decide +kernel
theorem dX5_sell_12 : decode cX5_sell 12 = .ok (.invokevirtual 41, 3) := by decide +kernel
theorem dX5_sell_15 : decode cX5_sell 15 = .ok (.aload_n 0, 1) := by decide +kernel
theorem dX5_sell_16 : decode cX5_sell 16 = .ok (.iconst (-1), 1) := by decide +kernel
theorem dX5_sell_17 : decode cX5_sell 17 = .ok (.invokevirtual 45, 3) := by decide +kernel
theorem dX5_sell_20 : decode cX5_sell 20 = .ok (.istore 4, 2) := by decide +kernel
theorem dX5_sell_22 : decode cX5_sell 22 = .ok (.iconst 0, 1) := by decide +kernel
theorem dX5_sell_23 : decode cX5_sell 23 = .ok (.istore 5, 2) := by decide +kernel
theorem dX5_sell_25 : decode cX5_sell 25 = .ok (.iload 5, 2) := by decide +kernel
theorem dX5_sell_27 : decode cX5_sell 27 = .ok (.bipush 22, 2) := by decide +kernel
theorem dX5_sell_29 : decode cX5_sell 29 = .ok (.if_icmp .ge 29, 3) := by decide +kernel
theorem dX5_sell_32 : decode cX5_sell 32 = .ok (.iload 4, 2) := by decide +kernel
theorem dX5_sell_34 : decode cX5_sell 34 = .ok (.iconst (-1), 1) := by decide +kernel
theorem dX5_sell_35 : decode cX5_sell 35 = .ok (.if_icmp .eq 23, 3) := by decide +kernel
theorem dX5_sell_38 : decode cX5_sell 38 = .ok (.aload_n 0, 1) := by decide +kernel
theorem dX5_sell_39 : decode cX5_sell 39 = .ok (.iload 4, 2) := by decide +kernel
theorem dX5_sell_41 : decode cX5_sell 41 = .ok (.invokevirtual 49, 3) := by decide +kernel
theorem dX5_sell_44 : decode cX5_sell 44 = .ok (.aload_n 0, 1) := by decide +kernel
theorem dX5_sell_45 : decode cX5_sell 45 = .ok (.iload 4, 2) := by decide +kernel
theorem dX5_sell_47 : decode cX5_sell 47 = .ok (.invokevirtual 45, 3) := by decide +kernel
theorem dX5_sell_50 : decode cX5_sell 50 = .ok (.istore 4, 2) := by decide +kernel
theorem dX5_sell_52 : decode cX5_sell 52 = .ok (.iinc 5 1, 3) := by decide +kernel
theorem dX5_sell_55 : decode cX5_sell 55 = .ok (.goto (-30), 3) := by decide +kernel
theorem dX5_sell_58 : decode cX5_sell 58 = .ok (.return_, 1) := by decide +kernel
