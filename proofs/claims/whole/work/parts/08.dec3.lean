theorem dX7_isIn_0 : decode cX7_isIn 0 = .ok (.iload_n 0, 1) := by decide +kernel
theorem dX7_isIn_1 : decode cX7_isIn 1 = .ok (.iload_n 1, 1) := by decide +kernel
theorem dX7_isIn_2 : decode cX7_isIn 2 = .ok (.if_icmp .lt 12, 3) := by decide +kernel
theorem dX7_isIn_5 : decode cX7_isIn 5 = .ok (.iload_n 0, 1) := by decide +kernel
theorem dX7_isIn_6 : decode cX7_isIn 6 = .ok (.iload_n 2, 1) := by decide +kernel
theorem dX7_isIn_7 : decode cX7_isIn 7 = .ok (.if_icmp .gt 7, 3) := by decide +kernel
theorem dX7_isIn_10 : decode cX7_isIn 10 = .ok (.iconst 1, 1) := by decide +kernel
theorem dX7_isIn_11 : decode cX7_isIn 11 = .ok (.goto 4, 3) := by decide +kernel
theorem dX7_isIn_14 : decode cX7_isIn 14 = .ok (.iconst 0, 1) := by decide +kernel
theorem dX7_isIn_15 : decode cX7_isIn 15 = .ok (.ireturn, 1) := by decide +kernel
theorem dX7_finds_0 : decode cX7_finds 0 = .ok (.aload_n 0, 1) := by decide +kernel
theorem dX7_finds_1 : decode cX7_finds 1 = .ok (.getfield 99, 3) := by decide +kernel
theorem dX7_finds_4 : decode cX7_finds 4 = .ok (.ldc 120, 2) := by decide +kernel
theorem dX7_finds_6 : decode cX7_finds 6 = .ok (.iload_n 1, 1) := by decide +kernel
theorem dX7_finds_7 : decode cX7_finds 7 = .ok (.isub, 1) := by decide +kernel
theorem dX7_finds_8 : decode cX7_finds 8 = .ok (.dup2, 1) := by decide +kernel
theorem dX7_finds_9 : decode cX7_finds 9 = .ok (.iaload, 1) := by decide +kernel
theorem dX7_finds_10 : decode cX7_finds 10 = .ok (.iconst 1, 1) := by decide +kernel
theorem dX7_finds_11 : decode cX7_finds 11 = .ok (.iadd, 1) := by decide +kernel
theorem dX7_finds_12 : decode cX7_finds 12 = .ok (.iastore, 1) := by decide +kernel
theorem dX7_finds_13 : decode cX7_finds 13 = .ok (.iload_n 1, 1) := by decide +kernel
theorem dX7_finds_14 : decode cX7_finds 14 = .ok (.ireturn, 1) := by decide +kernel
theorem dX7_isParty_0 : decode cX7_isParty 0 = .ok (.iload_n 1, 1) := by decide +kernel
theorem dX7_isParty_1 : decode cX7_isParty 1 = .ok (.iconst 0, 1) := by decide +kernel
theorem dX7_isParty_2 : decode cX7_isParty 2 = .ok (.aload_n 0, 1) := by decide +kernel
theorem dX7_isParty_3 : decode cX7_isParty 3 = .ok (.getfield 7, 3) := by decide +kernel
theorem dX7_isParty_6 : decode cX7_isParty 6 = .ok (.iconst 1, 1) := by decide +kernel
theorem dX7_isParty_7 : decode cX7_isParty 7 = .ok (.isub, 1) := by decide +kernel
theorem dX7_isParty_8 : decode cX7_isParty 8 = .ok (.invokestatic 121, 3) := by decide +kernel
theorem dX7_isParty_11 : decode cX7_isParty 11 = .ok (.ireturn, 1) := by decide +kernel
theorem dX7_isContract_0 : decode cX7_isContract 0 = .ok (.iload_n 1, 1) := by decide +kernel
theorem dX7_isContract_1 : decode cX7_isContract 1 = .ok (.iconst 0, 1) := by decide +kernel
theorem dX7_isContract_2 : decode cX7_isContract 2 = .ok (.aload_n 0, 1) := by decide +kernel
theorem dX7_isContract_3 : decode cX7_isContract 3 = .ok (.getfield 125, 3) := by decide +kernel
theorem dX7_isContract_6 : decode cX7_isContract 6 = .ok (.iconst 1, 1) := by decide +kernel
theorem dX7_isContract_7 : decode cX7_isContract 7 = .ok (.isub, 1) := by decide +kernel
theorem dX7_isContract_8 : decode cX7_isContract 8 = .ok (.invokestatic 121, 3) := by decide +kernel
theorem dX7_isContract_11 : decode cX7_isContract 11 = .ok (.ireturn, 1) := by decide +kernel
theorem dX7_isClaim_0 : decode cX7_isClaim 0 = .ok (.iload_n 1, 1) := by decide +kernel
theorem dX7_isClaim_1 : decode cX7_isClaim 1 = .ok (.iconst 0, 1) := by decide +kernel
theorem dX7_isClaim_2 : decode cX7_isClaim 2 = .ok (.aload_n 0, 1) := by decide +kernel
theorem dX7_isClaim_3 : decode cX7_isClaim 3 = .ok (.getfield 128, 3) := by decide +kernel
theorem dX7_isClaim_6 : decode cX7_isClaim 6 = .ok (.iconst 1, 1) := by decide +kernel
theorem dX7_isClaim_7 : decode cX7_isClaim 7 = .ok (.isub, 1) := by decide +kernel
theorem dX7_isClaim_8 : decode cX7_isClaim 8 = .ok (.invokestatic 121, 3) := by decide +kernel
theorem dX7_isClaim_11 : decode cX7_isClaim 11 = .ok (.ireturn, 1) := by decide +kernel
theorem dX7_isUnder_0 : decode cX7_isUnder 0 = .ok (.iload_n 1, 1) := by decide +kernel
theorem dX7_isUnder_1 : decode cX7_isUnder 1 = .ok (.ifCond .eq 18, 3) := by decide +kernel
theorem dX7_isUnder_4 : decode cX7_isUnder 4 = .ok (.iload_n 0, 1) := by decide +kernel
theorem dX7_isUnder_5 : decode cX7_isUnder 5 = .ok (.iload_n 1, 1) := by decide +kernel
theorem dX7_isUnder_6 : decode cX7_isUnder 6 = .ok (.if_icmp .eq 13, 3) := by decide +kernel
theorem dX7_isUnder_9 : decode cX7_isUnder 9 = .ok (.iload_n 0, 1) := by decide +kernel
theorem dX7_isUnder_10 : decode cX7_isUnder 10 = .ok (.iconst 3, 1) := by decide +kernel
theorem dX7_isUnder_11 : decode cX7_isUnder 11 = .ok (.if_icmp .ne 12, 3) := by decide +kernel
theorem dX7_isUnder_14 : decode cX7_isUnder 14 = .ok (.iload_n 1, 1) := by decide +kernel
theorem dX7_isUnder_15 : decode cX7_isUnder 15 = .ok (.iconst 2, 1) := by decide +kernel
theorem dX7_isUnder_16 : decode cX7_isUnder 16 = .ok (.if_icmp .ne 7, 3) := by decide +kernel
theorem dX7_isUnder_19 : decode cX7_isUnder 19 = .ok (.iconst 1, 1) := by decide +kernel
theorem dX7_isUnder_20 : decode cX7_isUnder 20 = .ok (.goto 4, 3) := by decide +kernel
theorem dX7_isUnder_23 : decode cX7_isUnder 23 = .ok (.iconst 0, 1) := by decide +kernel
theorem dX7_isUnder_24 : decode cX7_isUnder 24 = .ok (.ireturn, 1) := by decide +kernel
theorem dX7_party_0 : decode cX7_party 0 = .ok (.iload_n 1, 1) := by decide +kernel
theorem dX7_party_1 : decode cX7_party 1 = .ok (.iconst 0, 1) := by decide +kernel
theorem dX7_party_2 : decode cX7_party 2 = .ok (.iconst 3, 1) := by decide +kernel
theorem dX7_party_3 : decode cX7_party 3 = .ok (.invokestatic 121, 3) := by decide +kernel
theorem dX7_party_6 : decode cX7_party 6 = .ok (.ifCond .ne 10, 3) := by decide +kernel
theorem dX7_party_9 : decode cX7_party 9 = .ok (.aload_n 0, 1) := by decide +kernel
theorem dX7_party_10 : decode cX7_party 10 = .ok (.ldc 131, 2) := by decide +kernel
theorem dX7_party_12 : decode cX7_party 12 = .ok (.invokevirtual 132, 3) := by decide +kernel
theorem dX7_party_15 : decode cX7_party 15 = .ok (.ireturn, 1) := by decide +kernel
theorem dX7_party_16 : decode cX7_party 16 = .ok (.aload_n 0, 1) := by decide +kernel
theorem dX7_party_17 : decode cX7_party 17 = .ok (.getfield 7, 3) := by decide +kernel
theorem dX7_party_20 : decode cX7_party 20 = .ok (.bipush 12, 2) := by decide +kernel
theorem dX7_party_22 : decode cX7_party 22 = .ok (.if_icmp .ne 10, 3) := by decide +kernel
theorem dX7_party_25 : decode cX7_party 25 = .ok (.aload_n 0, 1) := by decide +kernel
theorem dX7_party_26 : decode cX7_party 26 = .ok (.ldc 135, 2) := by decide +kernel
theorem dX7_party_28 : decode cX7_party 28 = .ok (.invokevirtual 132, 3) := by decide +kernel
theorem dX7_party_31 : decode cX7_party 31 = .ok (.ireturn, 1) := by decide +kernel
theorem dX7_party_32 : decode cX7_party 32 = .ok (.aload_n 0, 1) := by decide +kernel
theorem dX7_party_33 : decode cX7_party 33 = .ok (.getfield 13, 3) := by decide +kernel
theorem dX7_party_36 : decode cX7_party 36 = .ok (.aload_n 0, 1) := by decide +kernel
theorem dX7_party_37 : decode cX7_party 37 = .ok (.getfield 7, 3) := by decide +kernel
theorem dX7_party_40 : decode cX7_party 40 = .ok (.iload_n 1, 1) := by decide +kernel
theorem dX7_party_41 : decode cX7_party 41 = .ok (.iastore, 1) := by decide +kernel
theorem dX7_party_42 : decode cX7_party 42 = .ok (.aload_n 0, 1) := by decide +kernel
theorem dX7_party_43 : decode cX7_party 43 = .ok (.dup, 1) := by decide +kernel
theorem dX7_party_44 : decode cX7_party 44 = .ok (.getfield 7, 3) := by decide +kernel
theorem dX7_party_47 : decode cX7_party 47 = .ok (.iconst 1, 1) := by decide +kernel
theorem dX7_party_48 : decode cX7_party 48 = .ok (.iadd, 1) := by decide +kernel
theorem dX7_party_49 : decode cX7_party 49 = .ok (.putfield 7, 3) := by decide +kernel
theorem dX7_party_52 : decode cX7_party 52 = .ok (.aload_n 0, 1) := by decide +kernel
theorem dX7_party_53 : decode cX7_party 53 = .ok (.getfield 7, 3) := by decide +kernel
theorem dX7_party_56 : decode cX7_party 56 = .ok (.iconst 1, 1) := by decide +kernel
theorem dX7_party_57 : decode cX7_party 57 = .ok (.isub, 1) := by decide +kernel
theorem dX7_party_58 : decode cX7_party 58 = .ok (.ireturn, 1) := by decide +kernel
theorem dX7_as_0 : decode cX7_as 0 = .ok (.aload_n 0, 1) := by decide +kernel
theorem dX7_as_1 : decode cX7_as 1 = .ok (.iload_n 1, 1) := by decide +kernel
theorem dX7_as_2 : decode cX7_as 2 = .ok (.invokevirtual 136, 3) := by decide +kernel
theorem dX7_as_5 : decode cX7_as 5 = .ok (.ifCond .eq 12, 3) := by decide +kernel
theorem dX7_as_8 : decode cX7_as 8 = .ok (.iload_n 2, 1) := by decide +kernel
theorem dX7_as_9 : decode cX7_as 9 = .ok (.iconst 0, 1) := by decide +kernel
theorem dX7_as_10 : decode cX7_as 10 = .ok (.iconst 3, 1) := by decide +kernel
theorem dX7_as_11 : decode cX7_as 11 = .ok (.invokestatic 121, 3) := by decide +kernel
theorem dX7_as_14 : decode cX7_as 14 = .ok (.ifCond .ne 10, 3) := by decide +kernel
theorem dX7_as_17 : decode cX7_as 17 = .ok (.aload_n 0, 1) := by decide +kernel
theorem dX7_as_18 : decode cX7_as 18 = .ok (.ldc 131, 2) := by decide +kernel
theorem dX7_as_20 : decode cX7_as 20 = .ok (.invokevirtual 132, 3) := by decide +kernel
theorem dX7_as_23 : decode cX7_as 23 = .ok (.ireturn, 1) := by decide +kernel
theorem dX7_as_24 : decode cX7_as 24 = .ok (.aload_n 0, 1) := by decide +kernel
theorem dX7_as_25 : decode cX7_as 25 = .ok (.getfield 13, 3) := by decide +kernel
theorem dX7_as_28 : decode cX7_as 28 = .ok (.iload_n 1, 1) := by decide +kernel
theorem dX7_as_29 : decode cX7_as 29 = .ok (.iaload, 1) := by decide +kernel
theorem dX7_as_30 : decode cX7_as 30 = .ok (.iload_n 2, 1) := by decide +kernel
theorem dX7_as_31 : decode cX7_as 31 = .ok (.invokestatic 140, 3) := by decide +kernel
theorem dX7_as_34 : decode cX7_as 34 = .ok (.ifCond .ne 10, 3) := by decide +kernel
theorem dX7_as_37 : decode cX7_as 37 = .ok (.aload_n 0, 1) := by decide +kernel
theorem dX7_as_38 : decode cX7_as 38 = .ok (.ldc 144, 2) := by decide +kernel
theorem dX7_as_40 : decode cX7_as 40 = .ok (.invokevirtual 132, 3) := by decide +kernel
theorem dX7_as_43 : decode cX7_as 43 = .ok (.ireturn, 1) := by decide +kernel
theorem dX7_as_44 : decode cX7_as 44 = .ok (.iconst 0, 1) := by decide +kernel
theorem dX7_as_45 : decode cX7_as 45 = .ok (.istore_n 3, 1) := by decide +kernel
theorem dX7_as_46 : decode cX7_as 46 = .ok (.iconst 0, 1) := by decide +kernel
theorem dX7_as_47 : decode cX7_as 47 = .ok (.istore 4, 2) := by decide +kernel
theorem dX7_as_49 : decode cX7_as 49 = .ok (.iload 4, 2) := by decide +kernel
theorem dX7_as_51 : decode cX7_as 51 = .ok (.aload_n 0, 1) := by decide +kernel
theorem dX7_as_52 : decode cX7_as 52 = .ok (.getfield 125, 3) := by decide +kernel
theorem dX7_as_55 : decode cX7_as 55 = .ok (.if_icmp .ge 28, 3) := by decide +kernel
theorem dX7_as_58 : decode cX7_as 58 = .ok (.iload_n 3, 1) := by decide +kernel
theorem dX7_as_59 : decode cX7_as 59 = .ok (.aload_n 0, 1) := by decide +kernel
theorem dX7_as_60 : decode cX7_as 60 = .ok (.getfield 17, 3) := by decide +kernel
theorem dX7_as_63 : decode cX7_as 63 = .ok (.iload 4, 2) := by decide +kernel
theorem dX7_as_65 : decode cX7_as 65 = .ok (.iaload, 1) := by decide +kernel
theorem dX7_as_66 : decode cX7_as 66 = .ok (.iload_n 1, 1) := by decide +kernel
theorem dX7_as_67 : decode cX7_as 67 = .ok (.if_icmp .ne 7, 3) := by decide +kernel
theorem dX7_as_70 : decode cX7_as 70 = .ok (.iconst 1, 1) := by decide +kernel
theorem dX7_as_71 : decode cX7_as 71 = .ok (.goto 4, 3) := by decide +kernel
theorem dX7_as_74 : decode cX7_as 74 = .ok (.iconst 0, 1) := by decide +kernel
theorem dX7_as_75 : decode cX7_as 75 = .ok (.iadd, 1) := by decide +kernel
theorem dX7_as_76 : decode cX7_as 76 = .ok (.istore_n 3, 1) := by decide +kernel
theorem dX7_as_77 : decode cX7_as 77 = .ok (.iinc 4 1, 3) := by decide +kernel
theorem dX7_as_80 : decode cX7_as 80 = .ok (.goto (-31), 3) := by decide +kernel
theorem dX7_as_83 : decode cX7_as 83 = .ok (.iload_n 3, 1) := by decide +kernel
theorem dX7_as_84 : decode cX7_as 84 = .ok (.ireturn, 1) := by decide +kernel
theorem dX7_contractTo_0 : decode cX7_contractTo 0 = .ok (.iconst (-1), 1) := by decide +kernel
theorem dX7_contractTo_1 : decode cX7_contractTo 1 = .ok (.istore_n 2, 1) := by decide +kernel
theorem dX7_contractTo_2 : decode cX7_contractTo 2 = .ok (.iconst 0, 1) := by decide +kernel
theorem dX7_contractTo_3 : decode cX7_contractTo 3 = .ok (.istore_n 3, 1) := by decide +kernel
theorem dX7_contractTo_4 : decode cX7_contractTo 4 = .ok (.iload_n 3, 1) := by decide +kernel
theorem dX7_contractTo_5 : decode cX7_contractTo 5 = .ok (.aload_n 0, 1) := by decide +kernel
theorem dX7_contractTo_6 : decode cX7_contractTo 6 = .ok (.getfield 125, 3) := by decide +kernel
theorem dX7_contractTo_9 : decode cX7_contractTo 9 = .ok (.if_icmp .ge 25, 3) := by decide +kernel
theorem dX7_contractTo_12 : decode cX7_contractTo 12 = .ok (.aload_n 0, 1) := by decide +kernel
theorem dX7_contractTo_13 : decode cX7_contractTo 13 = .ok (.getfield 20, 3) := by decide +kernel
theorem dX7_contractTo_16 : decode cX7_contractTo 16 = .ok (.iload_n 3, 1) := by decide +kernel
theorem dX7_contractTo_17 : decode cX7_contractTo 17 = .ok (.iaload, 1) := by decide +kernel
theorem dX7_contractTo_18 : decode cX7_contractTo 18 = .ok (.iload_n 1, 1) := by decide +kernel
theorem dX7_contractTo_19 : decode cX7_contractTo 19 = .ok (.if_icmp .ne 7, 3) := by decide +kernel
theorem dX7_contractTo_22 : decode cX7_contractTo 22 = .ok (.iload_n 3, 1) := by decide +kernel
theorem dX7_contractTo_23 : decode cX7_contractTo 23 = .ok (.goto 4, 3) := by decide +kernel
theorem dX7_contractTo_26 : decode cX7_contractTo 26 = .ok (.iload_n 2, 1) := by decide +kernel
theorem dX7_contractTo_27 : decode cX7_contractTo 27 = .ok (.istore_n 2, 1) := by decide +kernel
theorem dX7_contractTo_28 : decode cX7_contractTo 28 = .ok (.iinc 3 1, 3) := by decide +kernel
theorem dX7_contractTo_31 : decode cX7_contractTo 31 = .ok (.goto (-27), 3) := by decide +kernel
theorem dX7_contractTo_34 : decode cX7_contractTo 34 = .ok (.iload_n 2, 1) := by decide +kernel
theorem dX7_contractTo_35 : decode cX7_contractTo 35 = .ok (.ireturn, 1) := by decide +kernel
theorem dX7_contract_0 : decode cX7_contract 0 = .ok (.aload_n 0, 1) := by decide +kernel
theorem dX7_contract_1 : decode cX7_contract 1 = .ok (.iload_n 1, 1) := by decide +kernel
theorem dX7_contract_2 : decode cX7_contract 2 = .ok (.invokevirtual 136, 3) := by decide +kernel
theorem dX7_contract_5 : decode cX7_contract 5 = .ok (.ifCond .eq 21, 3) := by decide +kernel
theorem dX7_contract_8 : decode cX7_contract 8 = .ok (.aload_n 0, 1) := by decide +kernel
theorem dX7_contract_9 : decode cX7_contract 9 = .ok (.iload_n 2, 1) := by decide +kernel
theorem dX7_contract_10 : decode cX7_contract 10 = .ok (.invokevirtual 136, 3) := by decide +kernel
theorem dX7_contract_13 : decode cX7_contract 13 = .ok (.ifCond .eq 13, 3) := by decide +kernel
theorem dX7_contract_16 : decode cX7_contract 16 = .ok (.iload_n 3, 1) := by decide +kernel
theorem dX7_contract_17 : decode cX7_contract 17 = .ok (.iconst 1, 1) := by decide +kernel
theorem dX7_contract_18 : decode cX7_contract 18 = .ok (.ldc 145, 2) := by decide +kernel
theorem dX7_contract_20 : decode cX7_contract 20 = .ok (.invokestatic 121, 3) := by decide +kernel
theorem dX7_contract_23 : decode cX7_contract 23 = .ok (.ifCond .ne 10, 3) := by decide +kernel
theorem dX7_contract_26 : decode cX7_contract 26 = .ok (.aload_n 0, 1) := by decide +kernel
theorem dX7_contract_27 : decode cX7_contract 27 = .ok (.ldc 131, 2) := by decide +kernel
theorem dX7_contract_29 : decode cX7_contract 29 = .ok (.invokevirtual 132, 3) := by decide +kernel
theorem dX7_contract_32 : decode cX7_contract 32 = .ok (.ireturn, 1) := by decide +kernel
theorem dX7_contract_33 : decode cX7_contract 33 = .ok (.aload_n 0, 1) := by decide +kernel
theorem dX7_contract_34 : decode cX7_contract 34 = .ok (.getfield 13, 3) := by decide +kernel
theorem dX7_contract_37 : decode cX7_contract 37 = .ok (.iload_n 2, 1) := by decide +kernel
theorem dX7_contract_38 : decode cX7_contract 38 = .ok (.iaload, 1) := by decide +kernel
theorem dX7_contract_39 : decode cX7_contract 39 = .ok (.iconst 2, 1) := by decide +kernel
theorem dX7_contract_40 : decode cX7_contract 40 = .ok (.invokestatic 140, 3) := by decide +kernel
theorem dX7_contract_43 : decode cX7_contract 43 = .ok (.ifCond .eq 17, 3) := by decide +kernel
theorem dX7_contract_46 : decode cX7_contract 46 = .ok (.iload_n 1, 1) := by decide +kernel
theorem dX7_contract_47 : decode cX7_contract 47 = .ok (.ifCond .eq 20, 3) := by decide +kernel
theorem dX7_contract_50 : decode cX7_contract 50 = .ok (.aload_n 0, 1) := by decide +kernel
theorem dX7_contract_51 : decode cX7_contract 51 = .ok (.getfield 13, 3) := by decide +kernel
theorem dX7_contract_54 : decode cX7_contract 54 = .ok (.iload_n 1, 1) := by decide +kernel
theorem dX7_contract_55 : decode cX7_contract 55 = .ok (.iaload, 1) := by decide +kernel
theorem dX7_contract_56 : decode cX7_contract 56 = .ok (.iconst 2, 1) := by decide +kernel
theorem dX7_contract_57 : decode cX7_contract 57 = .ok (.if_icmp .eq 10, 3) := by decide +kernel
theorem dX7_contract_60 : decode cX7_contract 60 = .ok (.aload_n 0, 1) := by decide +kernel
theorem dX7_contract_61 : decode cX7_contract 61 = .ok (.ldc 144, 2) := by decide +kernel
theorem dX7_contract_63 : decode cX7_contract 63 = .ok (.invokevirtual 132, 3) := by decide +kernel
theorem dX7_contract_66 : decode cX7_contract 66 = .ok (.ireturn, 1) := by decide +kernel
theorem dX7_contract_67 : decode cX7_contract 67 = .ok (.aload_n 0, 1) := by decide +kernel
theorem dX7_contract_68 : decode cX7_contract 68 = .ok (.iload_n 2, 1) := by decide +kernel
theorem dX7_contract_69 : decode cX7_contract 69 = .ok (.invokevirtual 146, 3) := by decide +kernel
theorem dX7_contract_72 : decode cX7_contract 72 = .ok (.iconst (-1), 1) := by decide +kernel
theorem dX7_contract_73 : decode cX7_contract 73 = .ok (.if_icmp .ne 21, 3) := by decide +kernel
theorem dX7_contract_76 : decode cX7_contract 76 = .ok (.iload_n 1, 1) := by decide +kernel
theorem dX7_contract_77 : decode cX7_contract 77 = .ok (.ifCond .eq 12, 3) := by decide +kernel
theorem dX7_contract_80 : decode cX7_contract 80 = .ok (.aload_n 0, 1) := by decide +kernel
theorem dX7_contract_81 : decode cX7_contract 81 = .ok (.iload_n 1, 1) := by decide +kernel
theorem dX7_contract_82 : decode cX7_contract 82 = .ok (.invokevirtual 146, 3) := by decide +kernel
theorem dX7_contract_85 : decode cX7_contract 85 = .ok (.iconst (-1), 1) := by decide +kernel
theorem dX7_contract_86 : decode cX7_contract 86 = .ok (.if_icmp .eq 8, 3) := by decide +kernel
theorem dX7_contract_89 : decode cX7_contract 89 = .ok (.iload_n 1, 1) := by decide +kernel
theorem dX7_contract_90 : decode cX7_contract 90 = .ok (.iload_n 2, 1) := by decide +kernel
theorem dX7_contract_91 : decode cX7_contract 91 = .ok (.if_icmp .ne 10, 3) := by decide +kernel
theorem dX7_contract_94 : decode cX7_contract 94 = .ok (.aload_n 0, 1) := by decide +kernel
theorem dX7_contract_95 : decode cX7_contract 95 = .ok (.ldc 149, 2) := by decide +kernel
theorem dX7_contract_97 : decode cX7_contract 97 = .ok (.invokevirtual 132, 3) := by decide +kernel
theorem dX7_contract_100 : decode cX7_contract 100 = .ok (.ireturn, 1) := by decide +kernel
theorem dX7_contract_101 : decode cX7_contract 101 = .ok (.aload_n 0, 1) := by decide +kernel
theorem dX7_contract_102 : decode cX7_contract 102 = .ok (.getfield 125, 3) := by decide +kernel
theorem dX7_contract_105 : decode cX7_contract 105 = .ok (.bipush 10, 2) := by decide +kernel
theorem dX7_contract_107 : decode cX7_contract 107 = .ok (.if_icmp .ne 10, 3) := by decide +kernel
theorem dX7_contract_110 : decode cX7_contract 110 = .ok (.aload_n 0, 1) := by decide +kernel
theorem dX7_contract_111 : decode cX7_contract 111 = .ok (.ldc 135, 2) := by decide +kernel
theorem dX7_contract_113 : decode cX7_contract 113 = .ok (.invokevirtual 132, 3) := by decide +kernel
theorem dX7_contract_116 : decode cX7_contract 116 = .ok (.ireturn, 1) := by decide +kernel
theorem dX7_contract_117 : decode cX7_contract 117 = .ok (.aload_n 0, 1) := by decide +kernel
theorem dX7_contract_118 : decode cX7_contract 118 = .ok (.getfield 125, 3) := by decide +kernel
theorem dX7_contract_121 : decode cX7_contract 121 = .ok (.istore 4, 2) := by decide +kernel
theorem dX7_contract_123 : decode cX7_contract 123 = .ok (.aload_n 0, 1) := by decide +kernel
theorem dX7_contract_124 : decode cX7_contract 124 = .ok (.getfield 17, 3) := by decide +kernel
theorem dX7_contract_127 : decode cX7_contract 127 = .ok (.iload 4, 2) := by decide +kernel
theorem dX7_contract_129 : decode cX7_contract 129 = .ok (.iload_n 1, 1) := by decide +kernel
theorem dX7_contract_130 : decode cX7_contract 130 = .ok (.iastore, 1) := by decide +kernel
theorem dX7_contract_131 : decode cX7_contract 131 = .ok (.aload_n 0, 1) := by decide +kernel
theorem dX7_contract_132 : decode cX7_contract 132 = .ok (.getfield 20, 3) := by decide +kernel
theorem dX7_contract_135 : decode cX7_contract 135 = .ok (.iload 4, 2) := by decide +kernel
theorem dX7_contract_137 : decode cX7_contract 137 = .ok (.iload_n 2, 1) := by decide +kernel
theorem dX7_contract_138 : decode cX7_contract 138 = .ok (.iastore, 1) := by decide +kernel
theorem dX7_contract_139 : decode cX7_contract 139 = .ok (.aload_n 0, 1) := by decide +kernel
theorem dX7_contract_140 : decode cX7_contract 140 = .ok (.getfield 23, 3) := by decide +kernel
theorem dX7_contract_143 : decode cX7_contract 143 = .ok (.iload 4, 2) := by decide +kernel
theorem dX7_contract_145 : decode cX7_contract 145 = .ok (.iload_n 3, 1) := by decide +kernel
theorem dX7_contract_146 : decode cX7_contract 146 = .ok (.iastore, 1) := by decide +kernel
theorem dX7_contract_147 : decode cX7_contract 147 = .ok (.aload_n 0, 1) := by decide +kernel
theorem dX7_contract_148 : decode cX7_contract 148 = .ok (.getfield 26, 3) := by decide +kernel
theorem dX7_contract_151 : decode cX7_contract 151 = .ok (.iload 4, 2) := by decide +kernel
theorem dX7_contract_153 : decode cX7_contract 153 = .ok (.iconst 0, 1) := by decide +kernel
theorem dX7_contract_154 : decode cX7_contract 154 = .ok (.iastore, 1) := by decide +kernel
theorem dX7_contract_155 : decode cX7_contract 155 = .ok (.aload_n 0, 1) := by decide +kernel
theorem dX7_contract_156 : decode cX7_contract 156 = .ok (.getfield 29, 3) := by decide +kernel
theorem dX7_contract_159 : decode cX7_contract 159 = .ok (.iload 4, 2) := by decide +kernel
theorem dX7_contract_161 : decode cX7_contract 161 = .ok (.iconst (-1), 1) := by decide +kernel
theorem dX7_contract_162 : decode cX7_contract 162 = .ok (.iastore, 1) := by decide +kernel
theorem dX7_contract_163 : decode cX7_contract 163 = .ok (.aload_n 0, 1) := by decide +kernel
theorem dX7_contract_164 : decode cX7_contract 164 = .ok (.getfield 32, 3) := by decide +kernel
theorem dX7_contract_167 : decode cX7_contract 167 = .ok (.iload 4, 2) := by decide +kernel
theorem dX7_contract_169 : decode cX7_contract 169 = .ok (.iconst (-1), 1) := by decide +kernel
theorem dX7_contract_170 : decode cX7_contract 170 = .ok (.iastore, 1) := by decide +kernel
theorem dX7_contract_171 : decode cX7_contract 171 = .ok (.aload_n 0, 1) := by decide +kernel
theorem dX7_contract_172 : decode cX7_contract 172 = .ok (.getfield 35, 3) := by decide +kernel
theorem dX7_contract_175 : decode cX7_contract 175 = .ok (.iload 4, 2) := by decide +kernel
theorem dX7_contract_177 : decode cX7_contract 177 = .ok (.iconst (-1), 1) := by decide +kernel
theorem dX7_contract_178 : decode cX7_contract 178 = .ok (.iastore, 1) := by decide +kernel
theorem dX7_contract_179 : decode cX7_contract 179 = .ok (.aload_n 0, 1) := by decide +kernel
theorem dX7_contract_180 : decode cX7_contract 180 = .ok (.getfield 38, 3) := by decide +kernel
theorem dX7_contract_183 : decode cX7_contract 183 = .ok (.iload 4, 2) := by decide +kernel
theorem dX7_contract_185 : decode cX7_contract 185 = .ok (.iconst (-1), 1) := by decide +kernel
theorem dX7_contract_186 : decode cX7_contract 186 = .ok (.iastore, 1) := by decide +kernel
theorem dX7_contract_187 : decode cX7_contract 187 = .ok (.aload_n 0, 1) := by decide +kernel
theorem dX7_contract_188 : decode cX7_contract 188 = .ok (.getfield 41, 3) := by decide +kernel
theorem dX7_contract_191 : decode cX7_contract 191 = .ok (.iload 4, 2) := by decide +kernel
theorem dX7_contract_193 : decode cX7_contract 193 = .ok (.iconst (-1), 1) := by decide +kernel
theorem dX7_contract_194 : decode cX7_contract 194 = .ok (.iastore, 1) := by decide +kernel
theorem dX7_contract_195 : decode cX7_contract 195 = .ok (.aload_n 0, 1) := by decide +kernel
theorem dX7_contract_196 : decode cX7_contract 196 = .ok (.dup, 1) := by decide +kernel
theorem dX7_contract_197 : decode cX7_contract 197 = .ok (.getfield 125, 3) := by decide +kernel
theorem dX7_contract_200 : decode cX7_contract 200 = .ok (.iconst 1, 1) := by decide +kernel
theorem dX7_contract_201 : decode cX7_contract 201 = .ok (.iadd, 1) := by decide +kernel
theorem dX7_contract_202 : decode cX7_contract 202 = .ok (.putfield 125, 3) := by decide +kernel
theorem dX7_contract_205 : decode cX7_contract 205 = .ok (.iload 4, 2) := by decide +kernel
theorem dX7_contract_207 : decode cX7_contract 207 = .ok (.ireturn, 1) := by decide +kernel
theorem dX7_extra_0 : decode cX7_extra 0 = .ok (.aload_n 0, 1) := by decide +kernel
theorem dX7_extra_1 : decode cX7_extra 1 = .ok (.iload_n 1, 1) := by decide +kernel
theorem dX7_extra_2 : decode cX7_extra 2 = .ok (.invokevirtual 150, 3) := by decide +kernel
theorem dX7_extra_5 : decode cX7_extra 5 = .ok (.ifCond .eq 13, 3) := by decide +kernel
theorem dX7_extra_8 : decode cX7_extra 8 = .ok (.iload_n 2, 1) := by decide +kernel
theorem dX7_extra_9 : decode cX7_extra 9 = .ok (.iconst 1, 1) := by decide +kernel
theorem dX7_extra_10 : decode cX7_extra 10 = .ok (.ldc 145, 2) := by decide +kernel
theorem dX7_extra_12 : decode cX7_extra 12 = .ok (.invokestatic 121, 3) := by decide +kernel
theorem dX7_extra_15 : decode cX7_extra 15 = .ok (.ifCond .ne 10, 3) := by decide +kernel
theorem dX7_extra_18 : decode cX7_extra 18 = .ok (.aload_n 0, 1) := by decide +kernel
theorem dX7_extra_19 : decode cX7_extra 19 = .ok (.ldc 131, 2) := by decide +kernel
theorem dX7_extra_21 : decode cX7_extra 21 = .ok (.invokevirtual 132, 3) := by decide +kernel
theorem dX7_extra_24 : decode cX7_extra 24 = .ok (.ireturn, 1) := by decide +kernel
theorem dX7_extra_25 : decode cX7_extra 25 = .ok (.aload_n 0, 1) := by decide +kernel
theorem dX7_extra_26 : decode cX7_extra 26 = .ok (.getfield 23, 3) := by decide +kernel
theorem dX7_extra_29 : decode cX7_extra 29 = .ok (.iload_n 1, 1) := by decide +kernel
theorem dX7_extra_30 : decode cX7_extra 30 = .ok (.iaload, 1) := by decide +kernel
theorem dX7_extra_31 : decode cX7_extra 31 = .ok (.iload_n 2, 1) := by decide +kernel
theorem dX7_extra_32 : decode cX7_extra 32 = .ok (.iadd, 1) := by decide +kernel
theorem dX7_extra_33 : decode cX7_extra 33 = .ok (.ldc 153, 2) := by decide +kernel
theorem dX7_extra_35 : decode cX7_extra 35 = .ok (.if_icmp .le 10, 3) := by decide +kernel
theorem dX7_extra_38 : decode cX7_extra 38 = .ok (.aload_n 0, 1) := by decide +kernel
theorem dX7_extra_39 : decode cX7_extra 39 = .ok (.ldc 135, 2) := by decide +kernel
theorem dX7_extra_41 : decode cX7_extra 41 = .ok (.invokevirtual 132, 3) := by decide +kernel
theorem dX7_extra_44 : decode cX7_extra 44 = .ok (.ireturn, 1) := by decide +kernel
theorem dX7_extra_45 : decode cX7_extra 45 = .ok (.aload_n 0, 1) := by decide +kernel
theorem dX7_extra_46 : decode cX7_extra 46 = .ok (.getfield 23, 3) := by decide +kernel
theorem dX7_extra_49 : decode cX7_extra 49 = .ok (.iload_n 1, 1) := by decide +kernel
theorem dX7_extra_50 : decode cX7_extra 50 = .ok (.dup2, 1) := by decide +kernel
theorem dX7_extra_51 : decode cX7_extra 51 = .ok (.iaload, 1) := by decide +kernel
theorem dX7_extra_52 : decode cX7_extra 52 = .ok (.iload_n 2, 1) := by decide +kernel
theorem dX7_extra_53 : decode cX7_extra 53 = .ok (.iadd, 1) := by decide +kernel
theorem dX7_extra_54 : decode cX7_extra 54 = .ok (.iastore, 1) := by decide +kernel
theorem dX7_extra_55 : decode cX7_extra 55 = .ok (.aload_n 0, 1) := by decide +kernel
theorem dX7_extra_56 : decode cX7_extra 56 = .ok (.getfield 23, 3) := by decide +kernel
theorem dX7_extra_59 : decode cX7_extra 59 = .ok (.iload_n 1, 1) := by decide +kernel
theorem dX7_extra_60 : decode cX7_extra 60 = .ok (.iaload, 1) := by decide +kernel
theorem dX7_extra_61 : decode cX7_extra 61 = .ok (.ireturn, 1) := by decide +kernel
theorem dX7_isSpan_0 : decode cX7_isSpan 0 = .ok (.iload_n 1, 1) := by decide +kernel
theorem dX7_isSpan_1 : decode cX7_isSpan 1 = .ok (.ifCond .lt 20, 3) := by decide +kernel
theorem dX7_isSpan_4 : decode cX7_isSpan 4 = .ok (.iload_n 1, 1) := by decide +kernel
theorem dX7_isSpan_5 : decode cX7_isSpan 5 = .ok (.iload_n 2, 1) := by decide +kernel
theorem dX7_isSpan_6 : decode cX7_isSpan 6 = .ok (.if_icmp .gt 15, 3) := by decide +kernel
theorem dX7_isSpan_9 : decode cX7_isSpan 9 = .ok (.iload_n 2, 1) := by decide +kernel
theorem dX7_isSpan_10 : decode cX7_isSpan 10 = .ok (.aload_n 0, 1) := by decide +kernel
theorem dX7_isSpan_11 : decode cX7_isSpan 11 = .ok (.getfield 154, 3) := by decide +kernel
theorem dX7_isSpan_14 : decode cX7_isSpan 14 = .ok (.if_icmp .gt 7, 3) := by decide +kernel
theorem dX7_isSpan_17 : decode cX7_isSpan 17 = .ok (.iconst 1, 1) := by decide +kernel
theorem dX7_isSpan_18 : decode cX7_isSpan 18 = .ok (.goto 4, 3) := by decide +kernel
theorem dX7_isSpan_21 : decode cX7_isSpan 21 = .ok (.iconst 0, 1) := by decide +kernel
theorem dX7_isSpan_22 : decode cX7_isSpan 22 = .ok (.ireturn, 1) := by decide +kernel
theorem dX7_began_0 : decode cX7_began 0 = .ok (.aload_n 0, 1) := by decide +kernel
theorem dX7_began_1 : decode cX7_began 1 = .ok (.iload_n 1, 1) := by decide +kernel
theorem dX7_began_2 : decode cX7_began 2 = .ok (.invokevirtual 150, 3) := by decide +kernel
theorem dX7_began_5 : decode cX7_began 5 = .ok (.ifCond .eq 12, 3) := by decide +kernel
theorem dX7_began_8 : decode cX7_began 8 = .ok (.aload_n 0, 1) := by decide +kernel
theorem dX7_began_9 : decode cX7_began 9 = .ok (.iload_n 2, 1) := by decide +kernel
theorem dX7_began_10 : decode cX7_began 10 = .ok (.iload_n 3, 1) := by decide +kernel
theorem dX7_began_11 : decode cX7_began 11 = .ok (.invokevirtual 157, 3) := by decide +kernel
theorem dX7_began_14 : decode cX7_began 14 = .ok (.ifCond .ne 10, 3) := by decide +kernel
theorem dX7_began_17 : decode cX7_began 17 = .ok (.aload_n 0, 1) := by decide +kernel
theorem dX7_began_18 : decode cX7_began 18 = .ok (.ldc 131, 2) := by decide +kernel
theorem dX7_began_20 : decode cX7_began 20 = .ok (.invokevirtual 132, 3) := by decide +kernel
theorem dX7_began_23 : decode cX7_began 23 = .ok (.ireturn, 1) := by decide +kernel
theorem dX7_began_24 : decode cX7_began 24 = .ok (.aload_n 0, 1) := by decide +kernel
theorem dX7_began_25 : decode cX7_began 25 = .ok (.getfield 38, 3) := by decide +kernel
theorem dX7_began_28 : decode cX7_began 28 = .ok (.iload_n 1, 1) := by decide +kernel
theorem dX7_began_29 : decode cX7_began 29 = .ok (.iaload, 1) := by decide +kernel
theorem dX7_began_30 : decode cX7_began 30 = .ok (.iconst (-1), 1) := by decide +kernel
theorem dX7_began_31 : decode cX7_began 31 = .ok (.if_icmp .eq 10, 3) := by decide +kernel
theorem dX7_began_34 : decode cX7_began 34 = .ok (.aload_n 0, 1) := by decide +kernel
theorem dX7_began_35 : decode cX7_began 35 = .ok (.ldc 149, 2) := by decide +kernel
theorem dX7_began_37 : decode cX7_began 37 = .ok (.invokevirtual 132, 3) := by decide +kernel
theorem dX7_began_40 : decode cX7_began 40 = .ok (.ireturn, 1) := by decide +kernel
theorem dX7_began_41 : decode cX7_began 41 = .ok (.aload_n 0, 1) := by decide +kernel
theorem dX7_began_42 : decode cX7_began 42 = .ok (.getfield 32, 3) := by decide +kernel
theorem dX7_began_45 : decode cX7_began 45 = .ok (.iload_n 1, 1) := by decide +kernel
theorem dX7_began_46 : decode cX7_began 46 = .ok (.iload_n 2, 1) := by decide +kernel
theorem dX7_began_47 : decode cX7_began 47 = .ok (.iastore, 1) := by decide +kernel
theorem dX7_began_48 : decode cX7_began 48 = .ok (.aload_n 0, 1) := by decide +kernel
theorem dX7_began_49 : decode cX7_began 49 = .ok (.getfield 35, 3) := by decide +kernel
theorem dX7_began_52 : decode cX7_began 52 = .ok (.iload_n 1, 1) := by decide +kernel
theorem dX7_began_53 : decode cX7_began 53 = .ok (.iload_n 3, 1) := by decide +kernel
theorem dX7_began_54 : decode cX7_began 54 = .ok (.iastore, 1) := by decide +kernel
theorem dX7_began_55 : decode cX7_began 55 = .ok (.iconst 1, 1) := by decide +kernel
theorem dX7_began_56 : decode cX7_began 56 = .ok (.ireturn, 1) := by decide +kernel
theorem dX7_ended_0 : decode cX7_ended 0 = .ok (.aload_n 0, 1) := by decide +kernel
theorem dX7_ended_1 : decode cX7_ended 1 = .ok (.iload_n 1, 1) := by decide +kernel
theorem dX7_ended_2 : decode cX7_ended 2 = .ok (.invokevirtual 150, 3) := by decide +kernel
theorem dX7_ended_5 : decode cX7_ended 5 = .ok (.ifCond .eq 22, 3) := by decide +kernel
theorem dX7_ended_8 : decode cX7_ended 8 = .ok (.aload_n 0, 1) := by decide +kernel
theorem dX7_ended_9 : decode cX7_ended 9 = .ok (.iload_n 2, 1) := by decide +kernel
theorem dX7_ended_10 : decode cX7_ended 10 = .ok (.iload_n 3, 1) := by decide +kernel
theorem dX7_ended_11 : decode cX7_ended 11 = .ok (.invokevirtual 157, 3) := by decide +kernel
theorem dX7_ended_14 : decode cX7_ended 14 = .ok (.ifCond .eq 13, 3) := by decide +kernel
theorem dX7_ended_17 : decode cX7_ended 17 = .ok (.iload_n 2, 1) := by decide +kernel
theorem dX7_ended_18 : decode cX7_ended 18 = .ok (.aload_n 0, 1) := by decide +kernel
theorem dX7_ended_19 : decode cX7_ended 19 = .ok (.getfield 32, 3) := by decide +kernel
theorem dX7_ended_22 : decode cX7_ended 22 = .ok (.iload_n 1, 1) := by decide +kernel
theorem dX7_ended_23 : decode cX7_ended 23 = .ok (.iaload, 1) := by decide +kernel
theorem dX7_ended_24 : decode cX7_ended 24 = .ok (.if_icmp .ge 10, 3) := by decide +kernel
theorem dX7_ended_27 : decode cX7_ended 27 = .ok (.aload_n 0, 1) := by decide +kernel
theorem dX7_ended_28 : decode cX7_ended 28 = .ok (.ldc 131, 2) := by decide +kernel
theorem dX7_ended_30 : decode cX7_ended 30 = .ok (.invokevirtual 132, 3) := by decide +kernel
theorem dX7_ended_33 : decode cX7_ended 33 = .ok (.ireturn, 1) := by decide +kernel
theorem dX7_ended_34 : decode cX7_ended 34 = .ok (.aload_n 0, 1) := by decide +kernel
theorem dX7_ended_35 : decode cX7_ended 35 = .ok (.getfield 32, 3) := by decide +kernel
theorem dX7_ended_38 : decode cX7_ended 38 = .ok (.iload_n 1, 1) := by decide +kernel
theorem dX7_ended_39 : decode cX7_ended 39 = .ok (.iaload, 1) := by decide +kernel
theorem dX7_ended_40 : decode cX7_ended 40 = .ok (.iconst (-1), 1) := by decide +kernel
theorem dX7_ended_41 : decode cX7_ended 41 = .ok (.if_icmp .ne 10, 3) := by decide +kernel
theorem dX7_ended_44 : decode cX7_ended 44 = .ok (.aload_n 0, 1) := by decide +kernel
theorem dX7_ended_45 : decode cX7_ended 45 = .ok (.ldc 149, 2) := by decide +kernel
theorem dX7_ended_47 : decode cX7_ended 47 = .ok (.invokevirtual 132, 3) := by decide +kernel
theorem dX7_ended_50 : decode cX7_ended 50 = .ok (.ireturn, 1) := by decide +kernel
theorem dX7_ended_51 : decode cX7_ended 51 = .ok (.aload_n 0, 1) := by decide +kernel
theorem dX7_ended_52 : decode cX7_ended 52 = .ok (.getfield 38, 3) := by decide +kernel
theorem dX7_ended_55 : decode cX7_ended 55 = .ok (.iload_n 1, 1) := by decide +kernel
theorem dX7_ended_56 : decode cX7_ended 56 = .ok (.iload_n 2, 1) := by decide +kernel
theorem dX7_ended_57 : decode cX7_ended 57 = .ok (.iastore, 1) := by decide +kernel
theorem dX7_ended_58 : decode cX7_ended 58 = .ok (.aload_n 0, 1) := by decide +kernel
theorem dX7_ended_59 : decode cX7_ended 59 = .ok (.getfield 41, 3) := by decide +kernel
theorem dX7_ended_62 : decode cX7_ended 62 = .ok (.iload_n 1, 1) := by decide +kernel
theorem dX7_ended_63 : decode cX7_ended 63 = .ok (.iload_n 3, 1) := by decide +kernel
theorem dX7_ended_64 : decode cX7_ended 64 = .ok (.iastore, 1) := by decide +kernel
theorem dX7_ended_65 : decode cX7_ended 65 = .ok (.iconst 1, 1) := by decide +kernel
theorem dX7_ended_66 : decode cX7_ended 66 = .ok (.ireturn, 1) := by decide +kernel
theorem dX7_notice_0 : decode cX7_notice 0 = .ok (.aload_n 0, 1) := by decide +kernel
theorem dX7_notice_1 : decode cX7_notice 1 = .ok (.iload_n 1, 1) := by decide +kernel
theorem dX7_notice_2 : decode cX7_notice 2 = .ok (.invokevirtual 150, 3) := by decide +kernel
theorem dX7_notice_5 : decode cX7_notice 5 = .ok (.ifCond .ne 10, 3) := by decide +kernel
theorem dX7_notice_8 : decode cX7_notice 8 = .ok (.aload_n 0, 1) := by decide +kernel
theorem dX7_notice_9 : decode cX7_notice 9 = .ok (.ldc 131, 2) := by decide +kernel
theorem dX7_notice_11 : decode cX7_notice 11 = .ok (.invokevirtual 132, 3) := by decide +kernel
theorem dX7_notice_14 : decode cX7_notice 14 = .ok (.ireturn, 1) := by decide +kernel
theorem dX7_notice_15 : decode cX7_notice 15 = .ok (.aload_n 0, 1) := by decide +kernel
theorem dX7_notice_16 : decode cX7_notice 16 = .ok (.getfield 29, 3) := by decide +kernel
theorem dX7_notice_19 : decode cX7_notice 19 = .ok (.iload_n 1, 1) := by decide +kernel
theorem dX7_notice_20 : decode cX7_notice 20 = .ok (.iaload, 1) := by decide +kernel
theorem dX7_notice_21 : decode cX7_notice 21 = .ok (.iconst (-1), 1) := by decide +kernel
theorem dX7_notice_22 : decode cX7_notice 22 = .ok (.if_icmp .eq 10, 3) := by decide +kernel
theorem dX7_notice_25 : decode cX7_notice 25 = .ok (.aload_n 0, 1) := by decide +kernel
theorem dX7_notice_26 : decode cX7_notice 26 = .ok (.ldc 149, 2) := by decide +kernel
theorem dX7_notice_28 : decode cX7_notice 28 = .ok (.invokevirtual 132, 3) := by decide +kernel
theorem dX7_notice_31 : decode cX7_notice 31 = .ok (.ireturn, 1) := by decide +kernel
theorem dX7_notice_32 : decode cX7_notice 32 = .ok (.aload_n 0, 1) := by decide +kernel
theorem dX7_notice_33 : decode cX7_notice 33 = .ok (.getfield 29, 3) := by decide +kernel
theorem dX7_notice_36 : decode cX7_notice 36 = .ok (.iload_n 1, 1) := by decide +kernel
theorem dX7_notice_37 : decode cX7_notice 37 = .ok (.aload_n 0, 1) := by decide +kernel
theorem dX7_notice_38 : decode cX7_notice 38 = .ok (.getfield 154, 3) := by decide +kernel
theorem dX7_notice_41 : decode cX7_notice 41 = .ok (.iastore, 1) := by decide +kernel
theorem dX7_notice_42 : decode cX7_notice 42 = .ok (.iconst 1, 1) := by decide +kernel
theorem dX7_notice_43 : decode cX7_notice 43 = .ok (.ireturn, 1) := by decide +kernel
theorem dX7_owing_0 : decode cX7_owing 0 = .ok (.aload_n 0, 1) := by decide +kernel
theorem dX7_owing_1 : decode cX7_owing 1 = .ok (.getfield 23, 3) := by decide +kernel
theorem dX7_owing_4 : decode cX7_owing 4 = .ok (.iload_n 1, 1) := by decide +kernel
theorem dX7_owing_5 : decode cX7_owing 5 = .ok (.iaload, 1) := by decide +kernel
theorem dX7_owing_6 : decode cX7_owing 6 = .ok (.aload_n 0, 1) := by decide +kernel
theorem dX7_owing_7 : decode cX7_owing 7 = .ok (.getfield 26, 3) := by decide +kernel
theorem dX7_owing_10 : decode cX7_owing 10 = .ok (.iload_n 1, 1) := by decide +kernel
theorem dX7_owing_11 : decode cX7_owing 11 = .ok (.iaload, 1) := by decide +kernel
theorem dX7_owing_12 : decode cX7_owing 12 = .ok (.isub, 1) := by decide +kernel
theorem dX7_owing_13 : decode cX7_owing 13 = .ok (.ireturn, 1) := by decide +kernel
theorem dX7_pay_0 : decode cX7_pay 0 = .ok (.aload_n 0, 1) := by decide +kernel
theorem dX7_pay_1 : decode cX7_pay 1 = .ok (.iload_n 1, 1) := by decide +kernel
theorem dX7_pay_2 : decode cX7_pay 2 = .ok (.invokevirtual 150, 3) := by decide +kernel
theorem dX7_pay_5 : decode cX7_pay 5 = .ok (.ifCond .eq 13, 3) := by decide +kernel
theorem dX7_pay_8 : decode cX7_pay 8 = .ok (.iload_n 2, 1) := by decide +kernel
theorem dX7_pay_9 : decode cX7_pay 9 = .ok (.iconst 1, 1) := by decide +kernel
theorem dX7_pay_10 : decode cX7_pay 10 = .ok (.ldc 145, 2) := by decide +kernel
theorem dX7_pay_12 : decode cX7_pay 12 = .ok (.invokestatic 121, 3) := by decide +kernel
theorem dX7_pay_15 : decode cX7_pay 15 = .ok (.ifCond .ne 10, 3) := by decide +kernel
theorem dX7_pay_18 : decode cX7_pay 18 = .ok (.aload_n 0, 1) := by decide +kernel
theorem dX7_pay_19 : decode cX7_pay 19 = .ok (.ldc 131, 2) := by decide +kernel
theorem dX7_pay_21 : decode cX7_pay 21 = .ok (.invokevirtual 132, 3) := by decide +kernel
theorem dX7_pay_24 : decode cX7_pay 24 = .ok (.ireturn, 1) := by decide +kernel
theorem dX7_pay_25 : decode cX7_pay 25 = .ok (.aload_n 0, 1) := by decide +kernel
theorem dX7_pay_26 : decode cX7_pay 26 = .ok (.getfield 26, 3) := by decide +kernel
theorem dX7_pay_29 : decode cX7_pay 29 = .ok (.iload_n 1, 1) := by decide +kernel
theorem dX7_pay_30 : decode cX7_pay 30 = .ok (.iaload, 1) := by decide +kernel
theorem dX7_pay_31 : decode cX7_pay 31 = .ok (.iload_n 2, 1) := by decide +kernel
theorem dX7_pay_32 : decode cX7_pay 32 = .ok (.iadd, 1) := by decide +kernel
theorem dX7_pay_33 : decode cX7_pay 33 = .ok (.aload_n 0, 1) := by decide +kernel
theorem dX7_pay_34 : decode cX7_pay 34 = .ok (.getfield 23, 3) := by decide +kernel
theorem dX7_pay_37 : decode cX7_pay 37 = .ok (.iload_n 1, 1) := by decide +kernel
theorem dX7_pay_38 : decode cX7_pay 38 = .ok (.iaload, 1) := by decide +kernel
theorem dX7_pay_39 : decode cX7_pay 39 = .ok (.if_icmp .le 10, 3) := by decide +kernel
theorem dX7_pay_42 : decode cX7_pay 42 = .ok (.aload_n 0, 1) := by decide +kernel
theorem dX7_pay_43 : decode cX7_pay 43 = .ok (.ldc 149, 2) := by decide +kernel
theorem dX7_pay_45 : decode cX7_pay 45 = .ok (.invokevirtual 132, 3) := by decide +kernel
theorem dX7_pay_48 : decode cX7_pay 48 = .ok (.ireturn, 1) := by decide +kernel
theorem dX7_pay_49 : decode cX7_pay 49 = .ok (.aload_n 0, 1) := by decide +kernel
theorem dX7_pay_50 : decode cX7_pay 50 = .ok (.getfield 26, 3) := by decide +kernel
theorem dX7_pay_53 : decode cX7_pay 53 = .ok (.iload_n 1, 1) := by decide +kernel
theorem dX7_pay_54 : decode cX7_pay 54 = .ok (.dup2, 1) := by decide +kernel
theorem dX7_pay_55 : decode cX7_pay 55 = .ok (.iaload, 1) := by decide +kernel
theorem dX7_pay_56 : decode cX7_pay 56 = .ok (.iload_n 2, 1) := by decide +kernel
theorem dX7_pay_57 : decode cX7_pay 57 = .ok (.iadd, 1) := by decide +kernel
theorem dX7_pay_58 : decode cX7_pay 58 = .ok (.iastore, 1) := by decide +kernel
theorem dX7_pay_59 : decode cX7_pay 59 = .ok (.aload_n 0, 1) := by decide +kernel
theorem dX7_pay_60 : decode cX7_pay 60 = .ok (.iload_n 1, 1) := by decide +kernel
theorem dX7_pay_61 : decode cX7_pay 61 = .ok (.invokevirtual 160, 3) := by decide +kernel
theorem dX7_pay_64 : decode cX7_pay 64 = .ok (.ireturn, 1) := by decide +kernel
theorem dX7_waived_0 : decode cX7_waived 0 = .ok (.iconst 0, 1) := by decide +kernel
theorem dX7_waived_1 : decode cX7_waived 1 = .ok (.istore_n 2, 1) := by decide +kernel
theorem dX7_waived_2 : decode cX7_waived 2 = .ok (.iconst 0, 1) := by decide +kernel
theorem dX7_waived_3 : decode cX7_waived 3 = .ok (.istore_n 3, 1) := by decide +kernel
theorem dX7_waived_4 : decode cX7_waived 4 = .ok (.iload_n 3, 1) := by decide +kernel
theorem dX7_waived_5 : decode cX7_waived 5 = .ok (.aload_n 0, 1) := by decide +kernel
theorem dX7_waived_6 : decode cX7_waived 6 = .ok (.getfield 163, 3) := by decide +kernel
theorem dX7_waived_9 : decode cX7_waived 9 = .ok (.if_icmp .ge 76, 3) := by decide +kernel
theorem dX7_waived_12 : decode cX7_waived 12 = .ok (.aload_n 0, 1) := by decide +kernel
theorem dX7_waived_13 : decode cX7_waived 13 = .ok (.getfield 44, 3) := by decide +kernel
theorem dX7_waived_16 : decode cX7_waived 16 = .ok (.iload_n 3, 1) := by decide +kernel
theorem dX7_waived_17 : decode cX7_waived 17 = .ok (.iaload, 1) := by decide +kernel
theorem dX7_waived_18 : decode cX7_waived 18 = .ok (.iload_n 1, 1) := by decide +kernel
theorem dX7_waived_19 : decode cX7_waived 19 = .ok (.if_icmp .ne 31, 3) := by decide +kernel
theorem dX7_waived_22 : decode cX7_waived 22 = .ok (.aload_n 0, 1) := by decide +kernel
theorem dX7_waived_23 : decode cX7_waived 23 = .ok (.getfield 50, 3) := by decide +kernel
theorem dX7_waived_26 : decode cX7_waived 26 = .ok (.iload_n 3, 1) := by decide +kernel
theorem dX7_waived_27 : decode cX7_waived 27 = .ok (.baload, 1) := by decide +kernel
theorem dX7_waived_28 : decode cX7_waived 28 = .ok (.ifCond .eq 18, 3) := by decide +kernel
theorem dX7_waived_31 : decode cX7_waived 31 = .ok (.aload_n 0, 1) := by decide +kernel
theorem dX7_waived_32 : decode cX7_waived 32 = .ok (.getfield 26, 3) := by decide +kernel
theorem dX7_waived_35 : decode cX7_waived 35 = .ok (.iload_n 1, 1) := by decide +kernel
theorem dX7_waived_36 : decode cX7_waived 36 = .ok (.iaload, 1) := by decide +kernel
theorem dX7_waived_37 : decode cX7_waived 37 = .ok (.aload_n 0, 1) := by decide +kernel
theorem dX7_waived_38 : decode cX7_waived 38 = .ok (.getfield 47, 3) := by decide +kernel
theorem dX7_waived_41 : decode cX7_waived 41 = .ok (.iload_n 3, 1) := by decide +kernel
theorem dX7_waived_42 : decode cX7_waived 42 = .ok (.iaload, 1) := by decide +kernel
theorem dX7_waived_43 : decode cX7_waived 43 = .ok (.if_icmp .lt 7, 3) := by decide +kernel
theorem dX7_waived_46 : decode cX7_waived 46 = .ok (.iconst 1, 1) := by decide +kernel
theorem dX7_waived_47 : decode cX7_waived 47 = .ok (.goto 4, 3) := by decide +kernel
theorem dX7_waived_50 : decode cX7_waived 50 = .ok (.iconst 0, 1) := by decide +kernel
theorem dX7_waived_51 : decode cX7_waived 51 = .ok (.istore 4, 2) := by decide +kernel
theorem dX7_waived_53 : decode cX7_waived 53 = .ok (.iload 4, 2) := by decide +kernel
theorem dX7_waived_55 : decode cX7_waived 55 = .ok (.ifCond .eq 22, 3) := by decide +kernel
theorem dX7_waived_58 : decode cX7_waived 58 = .ok (.aload_n 0, 1) := by decide +kernel
theorem dX7_waived_59 : decode cX7_waived 59 = .ok (.getfield 47, 3) := by decide +kernel
theorem dX7_waived_62 : decode cX7_waived 62 = .ok (.iload_n 3, 1) := by decide +kernel
theorem dX7_waived_63 : decode cX7_waived 63 = .ok (.iaload, 1) := by decide +kernel
theorem dX7_waived_64 : decode cX7_waived 64 = .ok (.iload_n 2, 1) := by decide +kernel
theorem dX7_waived_65 : decode cX7_waived 65 = .ok (.if_icmp .le 12, 3) := by decide +kernel
theorem dX7_waived_68 : decode cX7_waived 68 = .ok (.aload_n 0, 1) := by decide +kernel
theorem dX7_waived_69 : decode cX7_waived 69 = .ok (.getfield 47, 3) := by decide +kernel
theorem dX7_waived_72 : decode cX7_waived 72 = .ok (.iload_n 3, 1) := by decide +kernel
theorem dX7_waived_73 : decode cX7_waived 73 = .ok (.iaload, 1) := by decide +kernel
theorem dX7_waived_74 : decode cX7_waived 74 = .ok (.goto 4, 3) := by decide +kernel
theorem dX7_waived_77 : decode cX7_waived 77 = .ok (.iload_n 2, 1) := by decide +kernel
theorem dX7_waived_78 : decode cX7_waived 78 = .ok (.istore_n 2, 1) := by decide +kernel
theorem dX7_waived_79 : decode cX7_waived 79 = .ok (.iinc 3 1, 3) := by decide +kernel
theorem dX7_waived_82 : decode cX7_waived 82 = .ok (.goto (-78), 3) := by decide +kernel
theorem dX7_waived_85 : decode cX7_waived 85 = .ok (.iload_n 2, 1) := by decide +kernel
theorem dX7_waived_86 : decode cX7_waived 86 = .ok (.ireturn, 1) := by decide +kernel
theorem dX7_waive_0 : decode cX7_waive 0 = .ok (.aload_n 0, 1) := by decide +kernel
theorem dX7_waive_1 : decode cX7_waive 1 = .ok (.iload_n 1, 1) := by decide +kernel
theorem dX7_waive_2 : decode cX7_waive 2 = .ok (.invokevirtual 150, 3) := by decide +kernel
theorem dX7_waive_5 : decode cX7_waive 5 = .ok (.ifCond .eq 22, 3) := by decide +kernel
theorem dX7_waive_8 : decode cX7_waive 8 = .ok (.iload_n 2, 1) := by decide +kernel
theorem dX7_waive_9 : decode cX7_waive 9 = .ok (.iconst 0, 1) := by decide +kernel
theorem dX7_waive_10 : decode cX7_waive 10 = .ok (.ldc 153, 2) := by decide +kernel
theorem dX7_waive_12 : decode cX7_waive 12 = .ok (.invokestatic 121, 3) := by decide +kernel
theorem dX7_waive_15 : decode cX7_waive 15 = .ok (.ifCond .eq 12, 3) := by decide +kernel
theorem dX7_waive_18 : decode cX7_waive 18 = .ok (.iload_n 3, 1) := by decide +kernel
theorem dX7_waive_19 : decode cX7_waive 19 = .ok (.iconst 0, 1) := by decide +kernel
theorem dX7_waive_20 : decode cX7_waive 20 = .ok (.iconst 1, 1) := by decide +kernel
theorem dX7_waive_21 : decode cX7_waive 21 = .ok (.invokestatic 121, 3) := by decide +kernel
theorem dX7_waive_24 : decode cX7_waive 24 = .ok (.ifCond .ne 10, 3) := by decide +kernel
theorem dX7_waive_27 : decode cX7_waive 27 = .ok (.aload_n 0, 1) := by decide +kernel
theorem dX7_waive_28 : decode cX7_waive 28 = .ok (.ldc 131, 2) := by decide +kernel
theorem dX7_waive_30 : decode cX7_waive 30 = .ok (.invokevirtual 132, 3) := by decide +kernel
theorem dX7_waive_33 : decode cX7_waive 33 = .ok (.ireturn, 1) := by decide +kernel
theorem dX7_waive_34 : decode cX7_waive 34 = .ok (.aload_n 0, 1) := by decide +kernel
theorem dX7_waive_35 : decode cX7_waive 35 = .ok (.getfield 163, 3) := by decide +kernel
theorem dX7_waive_38 : decode cX7_waive 38 = .ok (.bipush 20, 2) := by decide +kernel
theorem dX7_waive_40 : decode cX7_waive 40 = .ok (.if_icmp .ne 10, 3) := by decide +kernel
theorem dX7_waive_43 : decode cX7_waive 43 = .ok (.aload_n 0, 1) := by decide +kernel
theorem dX7_waive_44 : decode cX7_waive 44 = .ok (.ldc 135, 2) := by decide +kernel
theorem dX7_waive_46 : decode cX7_waive 46 = .ok (.invokevirtual 132, 3) := by decide +kernel
theorem dX7_waive_49 : decode cX7_waive 49 = .ok (.ireturn, 1) := by decide +kernel
theorem dX7_waive_50 : decode cX7_waive 50 = .ok (.aload_n 0, 1) := by decide +kernel
theorem dX7_waive_51 : decode cX7_waive 51 = .ok (.getfield 44, 3) := by decide +kernel
theorem dX7_waive_54 : decode cX7_waive 54 = .ok (.aload_n 0, 1) := by decide +kernel
theorem dX7_waive_55 : decode cX7_waive 55 = .ok (.getfield 163, 3) := by decide +kernel
theorem dX7_waive_58 : decode cX7_waive 58 = .ok (.iload_n 1, 1) := by decide +kernel
theorem dX7_waive_59 : decode cX7_waive 59 = .ok (.iastore, 1) := by decide +kernel
theorem dX7_waive_60 : decode cX7_waive 60 = .ok (.aload_n 0, 1) := by decide +kernel
theorem dX7_waive_61 : decode cX7_waive 61 = .ok (.getfield 47, 3) := by decide +kernel
theorem dX7_waive_64 : decode cX7_waive 64 = .ok (.aload_n 0, 1) := by decide +kernel
theorem dX7_waive_65 : decode cX7_waive 65 = .ok (.getfield 163, 3) := by decide +kernel
theorem dX7_waive_68 : decode cX7_waive 68 = .ok (.iload_n 2, 1) := by decide +kernel
theorem dX7_waive_69 : decode cX7_waive 69 = .ok (.iastore, 1) := by decide +kernel
theorem dX7_waive_70 : decode cX7_waive 70 = .ok (.aload_n 0, 1) := by decide +kernel
theorem dX7_waive_71 : decode cX7_waive 71 = .ok (.getfield 50, 3) := by decide +kernel
theorem dX7_waive_74 : decode cX7_waive 74 = .ok (.aload_n 0, 1) := by decide +kernel
theorem dX7_waive_75 : decode cX7_waive 75 = .ok (.getfield 163, 3) := by decide +kernel
theorem dX7_waive_78 : decode cX7_waive 78 = .ok (.iload_n 3, 1) := by decide +kernel
theorem dX7_waive_79 : decode cX7_waive 79 = .ok (.iconst 1, 1) := by decide +kernel
theorem dX7_waive_80 : decode cX7_waive 80 = .ok (.if_icmp .ne 7, 3) := by decide +kernel
theorem dX7_waive_83 : decode cX7_waive 83 = .ok (.iconst 1, 1) := by decide +kernel
theorem dX7_waive_84 : decode cX7_waive 84 = .ok (.goto 4, 3) := by decide +kernel
theorem dX7_waive_87 : decode cX7_waive 87 = .ok (.iconst 0, 1) := by decide +kernel
theorem dX7_waive_88 : decode cX7_waive 88 = .ok (.bastore, 1) := by decide +kernel
theorem dX7_waive_89 : decode cX7_waive 89 = .ok (.aload_n 0, 1) := by decide +kernel
theorem dX7_waive_90 : decode cX7_waive 90 = .ok (.dup, 1) := by decide +kernel
theorem dX7_waive_91 : decode cX7_waive 91 = .ok (.getfield 163, 3) := by decide +kernel
theorem dX7_waive_94 : decode cX7_waive 94 = .ok (.iconst 1, 1) := by decide +kernel
theorem dX7_waive_95 : decode cX7_waive 95 = .ok (.iadd, 1) := by decide +kernel
theorem dX7_waive_96 : decode cX7_waive 96 = .ok (.putfield 163, 3) := by decide +kernel
theorem dX7_waive_99 : decode cX7_waive 99 = .ok (.aload_n 0, 1) := by decide +kernel
theorem dX7_waive_100 : decode cX7_waive 100 = .ok (.iload_n 1, 1) := by decide +kernel
theorem dX7_waive_101 : decode cX7_waive 101 = .ok (.invokevirtual 166, 3) := by decide +kernel
theorem dX7_waive_104 : decode cX7_waive 104 = .ok (.ireturn, 1) := by decide +kernel
theorem dX7_open_0 : decode cX7_open 0 = .ok (.aload_n 0, 1) := by decide +kernel
theorem dX7_open_1 : decode cX7_open 1 = .ok (.iload_n 1, 1) := by decide +kernel
theorem dX7_open_2 : decode cX7_open 2 = .ok (.invokevirtual 166, 3) := by decide +kernel
theorem dX7_open_5 : decode cX7_open 5 = .ok (.istore_n 2, 1) := by decide +kernel
theorem dX7_open_6 : decode cX7_open 6 = .ok (.aload_n 0, 1) := by decide +kernel
theorem dX7_open_7 : decode cX7_open 7 = .ok (.getfield 26, 3) := by decide +kernel
theorem dX7_open_10 : decode cX7_open 10 = .ok (.iload_n 1, 1) := by decide +kernel
theorem dX7_open_11 : decode cX7_open 11 = .ok (.iaload, 1) := by decide +kernel
theorem dX7_open_12 : decode cX7_open 12 = .ok (.iload_n 2, 1) := by decide +kernel
theorem dX7_open_13 : decode cX7_open 13 = .ok (.if_icmp .le 12, 3) := by decide +kernel
theorem dX7_open_16 : decode cX7_open 16 = .ok (.aload_n 0, 1) := by decide +kernel
theorem dX7_open_17 : decode cX7_open 17 = .ok (.getfield 26, 3) := by decide +kernel
theorem dX7_open_20 : decode cX7_open 20 = .ok (.iload_n 1, 1) := by decide +kernel
theorem dX7_open_21 : decode cX7_open 21 = .ok (.iaload, 1) := by decide +kernel
theorem dX7_open_22 : decode cX7_open 22 = .ok (.goto 4, 3) := by decide +kernel
theorem dX7_open_25 : decode cX7_open 25 = .ok (.iload_n 2, 1) := by decide +kernel
theorem dX7_open_26 : decode cX7_open 26 = .ok (.istore_n 3, 1) := by decide +kernel
theorem dX7_open_27 : decode cX7_open 27 = .ok (.aload_n 0, 1) := by decide +kernel
theorem dX7_open_28 : decode cX7_open 28 = .ok (.getfield 23, 3) := by decide +kernel
theorem dX7_open_31 : decode cX7_open 31 = .ok (.iload_n 1, 1) := by decide +kernel
theorem dX7_open_32 : decode cX7_open 32 = .ok (.iaload, 1) := by decide +kernel
theorem dX7_open_33 : decode cX7_open 33 = .ok (.iload_n 3, 1) := by decide +kernel
theorem dX7_open_34 : decode cX7_open 34 = .ok (.if_icmp .le 14, 3) := by decide +kernel
theorem dX7_open_37 : decode cX7_open 37 = .ok (.aload_n 0, 1) := by decide +kernel
theorem dX7_open_38 : decode cX7_open 38 = .ok (.getfield 23, 3) := by decide +kernel
theorem dX7_open_41 : decode cX7_open 41 = .ok (.iload_n 1, 1) := by decide +kernel
theorem dX7_open_42 : decode cX7_open 42 = .ok (.iaload, 1) := by decide +kernel
theorem dX7_open_43 : decode cX7_open 43 = .ok (.iload_n 3, 1) := by decide +kernel
theorem dX7_open_44 : decode cX7_open 44 = .ok (.isub, 1) := by decide +kernel
theorem dX7_open_45 : decode cX7_open 45 = .ok (.goto 4, 3) := by decide +kernel
theorem dX7_open_48 : decode cX7_open 48 = .ok (.iconst 0, 1) := by decide +kernel
theorem dX7_open_49 : decode cX7_open 49 = .ok (.ireturn, 1) := by decide +kernel
theorem dX7_upper_0 : decode cX7_upper 0 = .ok (.aload_n 0, 1) := by decide +kernel
theorem dX7_upper_1 : decode cX7_upper 1 = .ok (.getfield 17, 3) := by decide +kernel
theorem dX7_upper_4 : decode cX7_upper 4 = .ok (.iload_n 1, 1) := by decide +kernel
theorem dX7_upper_5 : decode cX7_upper 5 = .ok (.iaload, 1) := by decide +kernel
theorem dX7_upper_6 : decode cX7_upper 6 = .ok (.ifCond .ne 7, 3) := by decide +kernel
theorem dX7_upper_9 : decode cX7_upper 9 = .ok (.iconst (-1), 1) := by decide +kernel
theorem dX7_upper_10 : decode cX7_upper 10 = .ok (.goto 13, 3) := by decide +kernel
theorem dX7_upper_13 : decode cX7_upper 13 = .ok (.aload_n 0, 1) := by decide +kernel
theorem dX7_upper_14 : decode cX7_upper 14 = .ok (.aload_n 0, 1) := by decide +kernel
theorem dX7_upper_15 : decode cX7_upper 15 = .ok (.getfield 17, 3) := by decide +kernel
theorem dX7_upper_18 : decode cX7_upper 18 = .ok (.iload_n 1, 1) := by decide +kernel
theorem dX7_upper_19 : decode cX7_upper 19 = .ok (.iaload, 1) := by decide +kernel
theorem dX7_upper_20 : decode cX7_upper 20 = .ok (.invokevirtual 146, 3) := by decide +kernel
theorem dX7_upper_23 : decode cX7_upper 23 = .ok (.ireturn, 1) := by decide +kernel
theorem dX7_degree_0 : decode cX7_degree 0 = .ok (.iconst 1, 1) := by decide +kernel
theorem dX7_degree_1 : decode cX7_degree 1 = .ok (.istore_n 2, 1) := by decide +kernel
theorem dX7_degree_2 : decode cX7_degree 2 = .ok (.aload_n 0, 1) := by decide +kernel
theorem dX7_degree_3 : decode cX7_degree 3 = .ok (.iload_n 1, 1) := by decide +kernel
theorem dX7_degree_4 : decode cX7_degree 4 = .ok (.invokevirtual 169, 3) := by decide +kernel
theorem dX7_degree_7 : decode cX7_degree 7 = .ok (.istore_n 3, 1) := by decide +kernel
theorem dX7_degree_8 : decode cX7_degree 8 = .ok (.iload_n 3, 1) := by decide +kernel
theorem dX7_degree_9 : decode cX7_degree 9 = .ok (.iconst (-1), 1) := by decide +kernel
theorem dX7_degree_10 : decode cX7_degree 10 = .ok (.if_icmp .eq 15, 3) := by decide +kernel
theorem dX7_degree_13 : decode cX7_degree 13 = .ok (.iinc 2 1, 3) := by decide +kernel
theorem dX7_degree_16 : decode cX7_degree 16 = .ok (.aload_n 0, 1) := by decide +kernel
theorem dX7_degree_17 : decode cX7_degree 17 = .ok (.iload_n 3, 1) := by decide +kernel
theorem dX7_degree_18 : decode cX7_degree 18 = .ok (.invokevirtual 169, 3) := by decide +kernel
theorem dX7_degree_21 : decode cX7_degree 21 = .ok (.istore_n 3, 1) := by decide +kernel
theorem dX7_degree_22 : decode cX7_degree 22 = .ok (.goto (-14), 3) := by decide +kernel
theorem dX7_degree_25 : decode cX7_degree 25 = .ok (.iload_n 2, 1) := by decide +kernel
theorem dX7_degree_26 : decode cX7_degree 26 = .ok (.ireturn, 1) := by decide +kernel
theorem dX7_of_0 : decode cX7_of 0 = .ok (.aload_n 0, 1) := by decide +kernel
theorem dX7_of_1 : decode cX7_of 1 = .ok (.iload_n 1, 1) := by decide +kernel
theorem dX7_of_2 : decode cX7_of 2 = .ok (.invokevirtual 150, 3) := by decide +kernel
theorem dX7_of_5 : decode cX7_of 5 = .ok (.ifCond .ne 10, 3) := by decide +kernel
theorem dX7_of_8 : decode cX7_of 8 = .ok (.aload_n 0, 1) := by decide +kernel
theorem dX7_of_9 : decode cX7_of 9 = .ok (.ldc 131, 2) := by decide +kernel
theorem dX7_of_11 : decode cX7_of 11 = .ok (.invokevirtual 132, 3) := by decide +kernel
theorem dX7_of_14 : decode cX7_of 14 = .ok (.ireturn, 1) := by decide +kernel
theorem dX7_of_15 : decode cX7_of 15 = .ok (.iload_n 2, 1) := by decide +kernel
theorem dX7_of_16 : decode cX7_of 16 = .ok (.tableswitch 165 0 13 #[72, 79, 86, 93, 100, 106, 112, 118, 124, 130, 137, 144, 151, 158], 72) := by decide +kernel
theorem dX7_of_88 : decode cX7_of 88 = .ok (.aload_n 0, 1) := by decide +kernel
theorem dX7_of_89 : decode cX7_of 89 = .ok (.getfield 17, 3) := by decide +kernel
theorem dX7_of_92 : decode cX7_of 92 = .ok (.iload_n 1, 1) := by decide +kernel
theorem dX7_of_93 : decode cX7_of 93 = .ok (.iaload, 1) := by decide +kernel
theorem dX7_of_94 : decode cX7_of 94 = .ok (.ireturn, 1) := by decide +kernel
theorem dX7_of_95 : decode cX7_of 95 = .ok (.aload_n 0, 1) := by decide +kernel
theorem dX7_of_96 : decode cX7_of 96 = .ok (.getfield 20, 3) := by decide +kernel
theorem dX7_of_99 : decode cX7_of 99 = .ok (.iload_n 1, 1) := by decide +kernel
theorem dX7_of_100 : decode cX7_of 100 = .ok (.iaload, 1) := by decide +kernel
theorem dX7_of_101 : decode cX7_of 101 = .ok (.ireturn, 1) := by decide +kernel
theorem dX7_of_102 : decode cX7_of 102 = .ok (.aload_n 0, 1) := by decide +kernel
theorem dX7_of_103 : decode cX7_of 103 = .ok (.getfield 23, 3) := by decide +kernel
theorem dX7_of_106 : decode cX7_of 106 = .ok (.iload_n 1, 1) := by decide +kernel
theorem dX7_of_107 : decode cX7_of 107 = .ok (.iaload, 1) := by decide +kernel
theorem dX7_of_108 : decode cX7_of 108 = .ok (.ireturn, 1) := by decide +kernel
theorem dX7_of_109 : decode cX7_of 109 = .ok (.aload_n 0, 1) := by decide +kernel
theorem dX7_of_110 : decode cX7_of 110 = .ok (.getfield 26, 3) := by decide +kernel
theorem dX7_of_113 : decode cX7_of 113 = .ok (.iload_n 1, 1) := by decide +kernel
theorem dX7_of_114 : decode cX7_of 114 = .ok (.iaload, 1) := by decide +kernel
theorem dX7_of_115 : decode cX7_of 115 = .ok (.ireturn, 1) := by decide +kernel
theorem dX7_of_116 : decode cX7_of 116 = .ok (.aload_n 0, 1) := by decide +kernel
theorem dX7_of_117 : decode cX7_of 117 = .ok (.iload_n 1, 1) := by decide +kernel
theorem dX7_of_118 : decode cX7_of 118 = .ok (.invokevirtual 160, 3) := by decide +kernel
theorem dX7_of_121 : decode cX7_of 121 = .ok (.ireturn, 1) := by decide +kernel
theorem dX7_of_122 : decode cX7_of 122 = .ok (.aload_n 0, 1) := by decide +kernel
theorem dX7_of_123 : decode cX7_of 123 = .ok (.iload_n 1, 1) := by decide +kernel
theorem dX7_of_124 : decode cX7_of 124 = .ok (.invokevirtual 166, 3) := by decide +kernel
theorem dX7_of_127 : decode cX7_of 127 = .ok (.ireturn, 1) := by decide +kernel
theorem dX7_of_128 : decode cX7_of 128 = .ok (.aload_n 0, 1) := by decide +kernel
theorem dX7_of_129 : decode cX7_of 129 = .ok (.iload_n 1, 1) := by decide +kernel
theorem dX7_of_130 : decode cX7_of 130 = .ok (.invokevirtual 172, 3) := by decide +kernel
theorem dX7_of_133 : decode cX7_of 133 = .ok (.ireturn, 1) := by decide +kernel
theorem dX7_of_134 : decode cX7_of 134 = .ok (.aload_n 0, 1) := by decide +kernel
theorem dX7_of_135 : decode cX7_of 135 = .ok (.iload_n 1, 1) := by decide +kernel
theorem dX7_of_136 : decode cX7_of 136 = .ok (.invokevirtual 175, 3) := by decide +kernel
theorem dX7_of_139 : decode cX7_of 139 = .ok (.ireturn, 1) := by decide +kernel
theorem dX7_of_140 : decode cX7_of 140 = .ok (.aload_n 0, 1) := by decide +kernel
theorem dX7_of_141 : decode cX7_of 141 = .ok (.iload_n 1, 1) := by decide +kernel
theorem dX7_of_142 : decode cX7_of 142 = .ok (.invokevirtual 169, 3) := by decide +kernel
theorem dX7_of_145 : decode cX7_of 145 = .ok (.ireturn, 1) := by decide +kernel
theorem dX7_of_146 : decode cX7_of 146 = .ok (.aload_n 0, 1) := by decide +kernel
theorem dX7_of_147 : decode cX7_of 147 = .ok (.getfield 29, 3) := by decide +kernel
theorem dX7_of_150 : decode cX7_of 150 = .ok (.iload_n 1, 1) := by decide +kernel
theorem dX7_of_151 : decode cX7_of 151 = .ok (.iaload, 1) := by decide +kernel
theorem dX7_of_152 : decode cX7_of 152 = .ok (.ireturn, 1) := by decide +kernel
theorem dX7_of_153 : decode cX7_of 153 = .ok (.aload_n 0, 1) := by decide +kernel
theorem dX7_of_154 : decode cX7_of 154 = .ok (.getfield 32, 3) := by decide +kernel
theorem dX7_of_157 : decode cX7_of 157 = .ok (.iload_n 1, 1) := by decide +kernel
theorem dX7_of_158 : decode cX7_of 158 = .ok (.iaload, 1) := by decide +kernel
theorem dX7_of_159 : decode cX7_of 159 = .ok (.ireturn, 1) := by decide +kernel
theorem dX7_of_160 : decode cX7_of 160 = .ok (.aload_n 0, 1) := by decide +kernel
theorem dX7_of_161 : decode cX7_of 161 = .ok (.getfield 35, 3) := by decide +kernel
theorem dX7_of_164 : decode cX7_of 164 = .ok (.iload_n 1, 1) := by decide +kernel
theorem dX7_of_165 : decode cX7_of 165 = .ok (.iaload, 1) := by decide +kernel
theorem dX7_of_166 : decode cX7_of 166 = .ok (.ireturn, 1) := by decide +kernel
theorem dX7_of_167 : decode cX7_of 167 = .ok (.aload_n 0, 1) := by decide +kernel
theorem dX7_of_168 : decode cX7_of 168 = .ok (.getfield 38, 3) := by decide +kernel
theorem dX7_of_171 : decode cX7_of 171 = .ok (.iload_n 1, 1) := by decide +kernel
theorem dX7_of_172 : decode cX7_of 172 = .ok (.iaload, 1) := by decide +kernel
theorem dX7_of_173 : decode cX7_of 173 = .ok (.ireturn, 1) := by decide +kernel
theorem dX7_of_174 : decode cX7_of 174 = .ok (.aload_n 0, 1) := by decide +kernel
theorem dX7_of_175 : decode cX7_of 175 = .ok (.getfield 41, 3) := by decide +kernel
theorem dX7_of_178 : decode cX7_of 178 = .ok (.iload_n 1, 1) := by decide +kernel
theorem dX7_of_179 : decode cX7_of 179 = .ok (.iaload, 1) := by decide +kernel
theorem dX7_of_180 : decode cX7_of 180 = .ok (.ireturn, 1) := by decide +kernel
theorem dX7_of_181 : decode cX7_of 181 = .ok (.aload_n 0, 1) := by decide +kernel
theorem dX7_of_182 : decode cX7_of 182 = .ok (.ldc 131, 2) := by decide +kernel
theorem dX7_of_184 : decode cX7_of 184 = .ok (.invokevirtual 132, 3) := by decide +kernel
theorem dX7_of_187 : decode cX7_of 187 = .ok (.ireturn, 1) := by decide +kernel
theorem dX7_day_0 : decode cX7_day 0 = .ok (.iload_n 1, 1) := by decide +kernel
theorem dX7_day_1 : decode cX7_day 1 = .ok (.aload_n 0, 1) := by decide +kernel
theorem dX7_day_2 : decode cX7_day 2 = .ok (.getfield 154, 3) := by decide +kernel
theorem dX7_day_5 : decode cX7_day 5 = .ok (.sipush 5000, 3) := by decide +kernel
theorem dX7_day_8 : decode cX7_day 8 = .ok (.invokestatic 121, 3) := by decide +kernel
theorem dX7_day_11 : decode cX7_day 11 = .ok (.ifCond .ne 10, 3) := by decide +kernel
theorem dX7_day_14 : decode cX7_day 14 = .ok (.aload_n 0, 1) := by decide +kernel
theorem dX7_day_15 : decode cX7_day 15 = .ok (.ldc 131, 2) := by decide +kernel
theorem dX7_day_17 : decode cX7_day 17 = .ok (.invokevirtual 132, 3) := by decide +kernel
theorem dX7_day_20 : decode cX7_day 20 = .ok (.ireturn, 1) := by decide +kernel
theorem dX7_day_21 : decode cX7_day 21 = .ok (.iload_n 1, 1) := by decide +kernel
theorem dX7_day_22 : decode cX7_day 22 = .ok (.aload_n 0, 1) := by decide +kernel
theorem dX7_day_23 : decode cX7_day 23 = .ok (.getfield 154, 3) := by decide +kernel
theorem dX7_day_26 : decode cX7_day 26 = .ok (.isub, 1) := by decide +kernel
theorem dX7_day_27 : decode cX7_day 27 = .ok (.istore_n 2, 1) := by decide +kernel
theorem dX7_day_28 : decode cX7_day 28 = .ok (.aload_n 0, 1) := by decide +kernel
theorem dX7_day_29 : decode cX7_day 29 = .ok (.iload_n 1, 1) := by decide +kernel
theorem dX7_day_30 : decode cX7_day 30 = .ok (.putfield 154, 3) := by decide +kernel
theorem dX7_day_33 : decode cX7_day 33 = .ok (.iload_n 2, 1) := by decide +kernel
theorem dX7_day_34 : decode cX7_day 34 = .ok (.ireturn, 1) := by decide +kernel
theorem dX7_mostOf_0 : decode cX7_mostOf 0 = .ok (.iload_n 0, 1) := by decide +kernel
theorem dX7_mostOf_1 : decode cX7_mostOf 1 = .ok (.tableswitch 42 2 5 #[31, 35, 38, 40], 31) := by decide +kernel
theorem dX7_mostOf_32 : decode cX7_mostOf 32 = .ok (.sipush 1000, 3) := by decide +kernel
theorem dX7_mostOf_35 : decode cX7_mostOf 35 = .ok (.ireturn, 1) := by decide +kernel
theorem dX7_mostOf_36 : decode cX7_mostOf 36 = .ok (.bipush 9, 2) := by decide +kernel
theorem dX7_mostOf_38 : decode cX7_mostOf 38 = .ok (.ireturn, 1) := by decide +kernel
theorem dX7_mostOf_39 : decode cX7_mostOf 39 = .ok (.iconst 2, 1) := by decide +kernel
theorem dX7_mostOf_40 : decode cX7_mostOf 40 = .ok (.ireturn, 1) := by decide +kernel
theorem dX7_mostOf_41 : decode cX7_mostOf 41 = .ok (.iconst 1, 1) := by decide +kernel
theorem dX7_mostOf_42 : decode cX7_mostOf 42 = .ok (.ireturn, 1) := by decide +kernel
theorem dX7_mostOf_43 : decode cX7_mostOf 43 = .ok (.sipush 365, 3) := by decide +kernel
theorem dX7_mostOf_46 : decode cX7_mostOf 46 = .ok (.ireturn, 1) := by decide +kernel
theorem dX7_law_0 : decode cX7_law 0 = .ok (.iload_n 1, 1) := by decide +kernel
theorem dX7_law_1 : decode cX7_law 1 = .ok (.iconst 0, 1) := by decide +kernel
theorem dX7_law_2 : decode cX7_law 2 = .ok (.iconst 5, 1) := by decide +kernel
theorem dX7_law_3 : decode cX7_law 3 = .ok (.invokestatic 121, 3) := by decide +kernel
theorem dX7_law_6 : decode cX7_law 6 = .ok (.ifCond .eq 24, 3) := by decide +kernel
theorem dX7_law_9 : decode cX7_law 9 = .ok (.iload_n 2, 1) := by decide +kernel
theorem dX7_law_10 : decode cX7_law 10 = .ok (.iload_n 1, 1) := by decide +kernel
theorem dX7_law_11 : decode cX7_law 11 = .ok (.iconst 3, 1) := by decide +kernel
theorem dX7_law_12 : decode cX7_law 12 = .ok (.if_icmp .ne 7, 3) := by decide +kernel
theorem dX7_law_15 : decode cX7_law 15 = .ok (.iconst 1, 1) := by decide +kernel
theorem dX7_law_16 : decode cX7_law 16 = .ok (.goto 4, 3) := by decide +kernel
theorem dX7_law_19 : decode cX7_law 19 = .ok (.iconst 0, 1) := by decide +kernel
theorem dX7_law_20 : decode cX7_law 20 = .ok (.iload_n 1, 1) := by decide +kernel
theorem dX7_law_21 : decode cX7_law 21 = .ok (.invokestatic 178, 3) := by decide +kernel
theorem dX7_law_24 : decode cX7_law 24 = .ok (.invokestatic 121, 3) := by decide +kernel
theorem dX7_law_27 : decode cX7_law 27 = .ok (.ifCond .ne 10, 3) := by decide +kernel
theorem dX7_law_30 : decode cX7_law 30 = .ok (.aload_n 0, 1) := by decide +kernel
theorem dX7_law_31 : decode cX7_law 31 = .ok (.ldc 131, 2) := by decide +kernel
theorem dX7_law_33 : decode cX7_law 33 = .ok (.invokevirtual 132, 3) := by decide +kernel
theorem dX7_law_36 : decode cX7_law 36 = .ok (.ireturn, 1) := by decide +kernel
theorem dX7_law_37 : decode cX7_law 37 = .ok (.aload_n 0, 1) := by decide +kernel
theorem dX7_law_38 : decode cX7_law 38 = .ok (.getfield 54, 3) := by decide +kernel
theorem dX7_law_41 : decode cX7_law 41 = .ok (.iload_n 1, 1) := by decide +kernel
theorem dX7_law_42 : decode cX7_law 42 = .ok (.iaload, 1) := by decide +kernel
theorem dX7_law_43 : decode cX7_law 43 = .ok (.istore_n 3, 1) := by decide +kernel
theorem dX7_law_44 : decode cX7_law 44 = .ok (.aload_n 0, 1) := by decide +kernel
theorem dX7_law_45 : decode cX7_law 45 = .ok (.getfield 54, 3) := by decide +kernel
theorem dX7_law_48 : decode cX7_law 48 = .ok (.iload_n 1, 1) := by decide +kernel
theorem dX7_law_49 : decode cX7_law 49 = .ok (.iload_n 2, 1) := by decide +kernel
theorem dX7_law_50 : decode cX7_law 50 = .ok (.iastore, 1) := by decide +kernel
theorem dX7_law_51 : decode cX7_law 51 = .ok (.iload_n 3, 1) := by decide +kernel
theorem dX7_law_52 : decode cX7_law 52 = .ok (.ireturn, 1) := by decide +kernel
theorem dX7_file_0 : decode cX7_file 0 = .ok (.aload_n 0, 1) := by decide +kernel
theorem dX7_file_1 : decode cX7_file 1 = .ok (.iload_n 1, 1) := by decide +kernel
theorem dX7_file_2 : decode cX7_file 2 = .ok (.invokevirtual 150, 3) := by decide +kernel
theorem dX7_file_5 : decode cX7_file 5 = .ok (.ifCond .eq 13, 3) := by decide +kernel
theorem dX7_file_8 : decode cX7_file 8 = .ok (.iload_n 2, 1) := by decide +kernel
theorem dX7_file_9 : decode cX7_file 9 = .ok (.iconst 1, 1) := by decide +kernel
theorem dX7_file_10 : decode cX7_file 10 = .ok (.ldc 153, 2) := by decide +kernel
theorem dX7_file_12 : decode cX7_file 12 = .ok (.invokestatic 121, 3) := by decide +kernel
theorem dX7_file_15 : decode cX7_file 15 = .ok (.ifCond .ne 10, 3) := by decide +kernel
theorem dX7_file_18 : decode cX7_file 18 = .ok (.aload_n 0, 1) := by decide +kernel
theorem dX7_file_19 : decode cX7_file 19 = .ok (.ldc 131, 2) := by decide +kernel
theorem dX7_file_21 : decode cX7_file 21 = .ok (.invokevirtual 132, 3) := by decide +kernel
theorem dX7_file_24 : decode cX7_file 24 = .ok (.ireturn, 1) := by decide +kernel
theorem dX7_file_25 : decode cX7_file 25 = .ok (.aload_n 0, 1) := by decide +kernel
theorem dX7_file_26 : decode cX7_file 26 = .ok (.getfield 32, 3) := by decide +kernel
theorem dX7_file_29 : decode cX7_file 29 = .ok (.iload_n 1, 1) := by decide +kernel
theorem dX7_file_30 : decode cX7_file 30 = .ok (.iaload, 1) := by decide +kernel
theorem dX7_file_31 : decode cX7_file 31 = .ok (.iconst (-1), 1) := by decide +kernel
theorem dX7_file_32 : decode cX7_file 32 = .ok (.if_icmp .ne 10, 3) := by decide +kernel
theorem dX7_file_35 : decode cX7_file 35 = .ok (.aload_n 0, 1) := by decide +kernel
theorem dX7_file_36 : decode cX7_file 36 = .ok (.ldc 149, 2) := by decide +kernel
theorem dX7_file_38 : decode cX7_file 38 = .ok (.invokevirtual 132, 3) := by decide +kernel
theorem dX7_file_41 : decode cX7_file 41 = .ok (.ireturn, 1) := by decide +kernel
theorem dX7_file_42 : decode cX7_file 42 = .ok (.aload_n 0, 1) := by decide +kernel
theorem dX7_file_43 : decode cX7_file 43 = .ok (.getfield 128, 3) := by decide +kernel
theorem dX7_file_46 : decode cX7_file 46 = .ok (.bipush 16, 2) := by decide +kernel
theorem dX7_file_48 : decode cX7_file 48 = .ok (.if_icmp .ne 10, 3) := by decide +kernel
theorem dX7_file_51 : decode cX7_file 51 = .ok (.aload_n 0, 1) := by decide +kernel
theorem dX7_file_52 : decode cX7_file 52 = .ok (.ldc 135, 2) := by decide +kernel
theorem dX7_file_54 : decode cX7_file 54 = .ok (.invokevirtual 132, 3) := by decide +kernel
theorem dX7_file_57 : decode cX7_file 57 = .ok (.ireturn, 1) := by decide +kernel
theorem dX7_file_58 : decode cX7_file 58 = .ok (.aload_n 0, 1) := by decide +kernel
theorem dX7_file_59 : decode cX7_file 59 = .ok (.getfield 57, 3) := by decide +kernel
theorem dX7_file_62 : decode cX7_file 62 = .ok (.aload_n 0, 1) := by decide +kernel
theorem dX7_file_63 : decode cX7_file 63 = .ok (.getfield 128, 3) := by decide +kernel
theorem dX7_file_66 : decode cX7_file 66 = .ok (.iload_n 1, 1) := by decide +kernel
theorem dX7_file_67 : decode cX7_file 67 = .ok (.iastore, 1) := by decide +kernel
theorem dX7_file_68 : decode cX7_file 68 = .ok (.aload_n 0, 1) := by decide +kernel
theorem dX7_file_69 : decode cX7_file 69 = .ok (.getfield 60, 3) := by decide +kernel
theorem dX7_file_72 : decode cX7_file 72 = .ok (.aload_n 0, 1) := by decide +kernel
theorem dX7_file_73 : decode cX7_file 73 = .ok (.getfield 128, 3) := by decide +kernel
theorem dX7_file_76 : decode cX7_file 76 = .ok (.iload_n 2, 1) := by decide +kernel
theorem dX7_file_77 : decode cX7_file 77 = .ok (.iastore, 1) := by decide +kernel
theorem dX7_file_78 : decode cX7_file 78 = .ok (.aload_n 0, 1) := by decide +kernel
theorem dX7_file_79 : decode cX7_file 79 = .ok (.getfield 63, 3) := by decide +kernel
theorem dX7_file_82 : decode cX7_file 82 = .ok (.aload_n 0, 1) := by decide +kernel
theorem dX7_file_83 : decode cX7_file 83 = .ok (.getfield 128, 3) := by decide +kernel
theorem dX7_file_86 : decode cX7_file 86 = .ok (.aload_n 0, 1) := by decide +kernel
theorem dX7_file_87 : decode cX7_file 87 = .ok (.getfield 154, 3) := by decide +kernel
theorem dX7_file_90 : decode cX7_file 90 = .ok (.iastore, 1) := by decide +kernel
theorem dX7_file_91 : decode cX7_file 91 = .ok (.aload_n 0, 1) := by decide +kernel
theorem dX7_file_92 : decode cX7_file 92 = .ok (.getfield 66, 3) := by decide +kernel
theorem dX7_file_95 : decode cX7_file 95 = .ok (.aload_n 0, 1) := by decide +kernel
theorem dX7_file_96 : decode cX7_file 96 = .ok (.getfield 128, 3) := by decide +kernel
theorem dX7_file_99 : decode cX7_file 99 = .ok (.iconst (-1), 1) := by decide +kernel
theorem dX7_file_100 : decode cX7_file 100 = .ok (.iastore, 1) := by decide +kernel
theorem dX7_file_101 : decode cX7_file 101 = .ok (.aload_n 0, 1) := by decide +kernel
theorem dX7_file_102 : decode cX7_file 102 = .ok (.getfield 69, 3) := by decide +kernel
theorem dX7_file_105 : decode cX7_file 105 = .ok (.aload_n 0, 1) := by decide +kernel
theorem dX7_file_106 : decode cX7_file 106 = .ok (.getfield 128, 3) := by decide +kernel
theorem dX7_file_109 : decode cX7_file 109 = .ok (.iconst 0, 1) := by decide +kernel
theorem dX7_file_110 : decode cX7_file 110 = .ok (.bastore, 1) := by decide +kernel
theorem dX7_file_111 : decode cX7_file 111 = .ok (.aload_n 0, 1) := by decide +kernel
theorem dX7_file_112 : decode cX7_file 112 = .ok (.dup, 1) := by decide +kernel
theorem dX7_file_113 : decode cX7_file 113 = .ok (.getfield 128, 3) := by decide +kernel
theorem dX7_file_116 : decode cX7_file 116 = .ok (.iconst 1, 1) := by decide +kernel
theorem dX7_file_117 : decode cX7_file 117 = .ok (.iadd, 1) := by decide +kernel
theorem dX7_file_118 : decode cX7_file 118 = .ok (.putfield 128, 3) := by decide +kernel
theorem dX7_file_121 : decode cX7_file 121 = .ok (.aload_n 0, 1) := by decide +kernel
theorem dX7_file_122 : decode cX7_file 122 = .ok (.getfield 128, 3) := by decide +kernel
theorem dX7_file_125 : decode cX7_file 125 = .ok (.iconst 1, 1) := by decide +kernel
theorem dX7_file_126 : decode cX7_file 126 = .ok (.isub, 1) := by decide +kernel
theorem dX7_file_127 : decode cX7_file 127 = .ok (.ireturn, 1) := by decide +kernel
theorem dX7_sue_0 : decode cX7_sue 0 = .ok (.aload_n 0, 1) := by decide +kernel
theorem dX7_sue_1 : decode cX7_sue 1 = .ok (.iload_n 1, 1) := by decide +kernel
theorem dX7_sue_2 : decode cX7_sue 2 = .ok (.invokevirtual 181, 3) := by decide +kernel
theorem dX7_sue_5 : decode cX7_sue 5 = .ok (.ifCond .ne 10, 3) := by decide +kernel
theorem dX7_sue_8 : decode cX7_sue 8 = .ok (.aload_n 0, 1) := by decide +kernel
theorem dX7_sue_9 : decode cX7_sue 9 = .ok (.ldc 131, 2) := by decide +kernel
theorem dX7_sue_11 : decode cX7_sue 11 = .ok (.invokevirtual 132, 3) := by decide +kernel
theorem dX7_sue_14 : decode cX7_sue 14 = .ok (.ireturn, 1) := by decide +kernel
theorem dX7_sue_15 : decode cX7_sue 15 = .ok (.aload_n 0, 1) := by decide +kernel
theorem dX7_sue_16 : decode cX7_sue 16 = .ok (.getfield 66, 3) := by decide +kernel
theorem dX7_sue_19 : decode cX7_sue 19 = .ok (.iload_n 1, 1) := by decide +kernel
theorem dX7_sue_20 : decode cX7_sue 20 = .ok (.iaload, 1) := by decide +kernel
theorem dX7_sue_21 : decode cX7_sue 21 = .ok (.iconst (-1), 1) := by decide +kernel
theorem dX7_sue_22 : decode cX7_sue 22 = .ok (.if_icmp .eq 10, 3) := by decide +kernel
theorem dX7_sue_25 : decode cX7_sue 25 = .ok (.aload_n 0, 1) := by decide +kernel
theorem dX7_sue_26 : decode cX7_sue 26 = .ok (.ldc 149, 2) := by decide +kernel
theorem dX7_sue_28 : decode cX7_sue 28 = .ok (.invokevirtual 132, 3) := by decide +kernel
theorem dX7_sue_31 : decode cX7_sue 31 = .ok (.ireturn, 1) := by decide +kernel
theorem dX7_sue_32 : decode cX7_sue 32 = .ok (.aload_n 0, 1) := by decide +kernel
theorem dX7_sue_33 : decode cX7_sue 33 = .ok (.getfield 66, 3) := by decide +kernel
theorem dX7_sue_36 : decode cX7_sue 36 = .ok (.iload_n 1, 1) := by decide +kernel
theorem dX7_sue_37 : decode cX7_sue 37 = .ok (.aload_n 0, 1) := by decide +kernel
theorem dX7_sue_38 : decode cX7_sue 38 = .ok (.getfield 154, 3) := by decide +kernel
theorem dX7_sue_41 : decode cX7_sue 41 = .ok (.iastore, 1) := by decide +kernel
theorem dX7_sue_42 : decode cX7_sue 42 = .ok (.iconst 1, 1) := by decide +kernel
theorem dX7_sue_43 : decode cX7_sue 43 = .ok (.ireturn, 1) := by decide +kernel
theorem dX7_bond_0 : decode cX7_bond 0 = .ok (.aload_n 0, 1) := by decide +kernel
theorem dX7_bond_1 : decode cX7_bond 1 = .ok (.iload_n 1, 1) := by decide +kernel
theorem dX7_bond_2 : decode cX7_bond 2 = .ok (.invokevirtual 181, 3) := by decide +kernel
theorem dX7_bond_5 : decode cX7_bond 5 = .ok (.ifCond .eq 12, 3) := by decide +kernel
theorem dX7_bond_8 : decode cX7_bond 8 = .ok (.iload_n 2, 1) := by decide +kernel
theorem dX7_bond_9 : decode cX7_bond 9 = .ok (.iconst 0, 1) := by decide +kernel
theorem dX7_bond_10 : decode cX7_bond 10 = .ok (.iconst 1, 1) := by decide +kernel
theorem dX7_bond_11 : decode cX7_bond 11 = .ok (.invokestatic 121, 3) := by decide +kernel
theorem dX7_bond_14 : decode cX7_bond 14 = .ok (.ifCond .ne 10, 3) := by decide +kernel
theorem dX7_bond_17 : decode cX7_bond 17 = .ok (.aload_n 0, 1) := by decide +kernel
theorem dX7_bond_18 : decode cX7_bond 18 = .ok (.ldc 131, 2) := by decide +kernel
theorem dX7_bond_20 : decode cX7_bond 20 = .ok (.invokevirtual 132, 3) := by decide +kernel
theorem dX7_bond_23 : decode cX7_bond 23 = .ok (.ireturn, 1) := by decide +kernel
theorem dX7_bond_24 : decode cX7_bond 24 = .ok (.aload_n 0, 1) := by decide +kernel
theorem dX7_bond_25 : decode cX7_bond 25 = .ok (.getfield 69, 3) := by decide +kernel
theorem dX7_bond_28 : decode cX7_bond 28 = .ok (.iload_n 1, 1) := by decide +kernel
theorem dX7_bond_29 : decode cX7_bond 29 = .ok (.baload, 1) := by decide +kernel
theorem dX7_bond_30 : decode cX7_bond 30 = .ok (.ifCond .eq 7, 3) := by decide +kernel
theorem dX7_bond_33 : decode cX7_bond 33 = .ok (.iconst 1, 1) := by decide +kernel
theorem dX7_bond_34 : decode cX7_bond 34 = .ok (.goto 4, 3) := by decide +kernel
theorem dX7_bond_37 : decode cX7_bond 37 = .ok (.iconst 0, 1) := by decide +kernel
theorem dX7_bond_38 : decode cX7_bond 38 = .ok (.istore_n 3, 1) := by decide +kernel
theorem dX7_bond_39 : decode cX7_bond 39 = .ok (.aload_n 0, 1) := by decide +kernel
theorem dX7_bond_40 : decode cX7_bond 40 = .ok (.getfield 69, 3) := by decide +kernel
theorem dX7_bond_43 : decode cX7_bond 43 = .ok (.iload_n 1, 1) := by decide +kernel
theorem dX7_bond_44 : decode cX7_bond 44 = .ok (.iload_n 2, 1) := by decide +kernel
theorem dX7_bond_45 : decode cX7_bond 45 = .ok (.iconst 1, 1) := by decide +kernel
theorem dX7_bond_46 : decode cX7_bond 46 = .ok (.if_icmp .ne 7, 3) := by decide +kernel
theorem dX7_bond_49 : decode cX7_bond 49 = .ok (.iconst 1, 1) := by decide +kernel
theorem dX7_bond_50 : decode cX7_bond 50 = .ok (.goto 4, 3) := by decide +kernel
theorem dX7_bond_53 : decode cX7_bond 53 = .ok (.iconst 0, 1) := by decide +kernel
theorem dX7_bond_54 : decode cX7_bond 54 = .ok (.bastore, 1) := by decide +kernel
theorem dX7_bond_55 : decode cX7_bond 55 = .ok (.iload_n 3, 1) := by decide +kernel
theorem dX7_bond_56 : decode cX7_bond 56 = .ok (.ireturn, 1) := by decide +kernel
theorem dX7_late_0 : decode cX7_late 0 = .ok (.iload_n 0, 1) := by decide +kernel
theorem dX7_late_1 : decode cX7_late 1 = .ok (.iload_n 2, 1) := by decide +kernel
theorem dX7_late_2 : decode cX7_late 2 = .ok (.iload_n 3, 1) := by decide +kernel
theorem dX7_late_3 : decode cX7_late 3 = .ok (.iadd, 1) := by decide +kernel
theorem dX7_late_4 : decode cX7_late 4 = .ok (.if_icmp .le 7, 3) := by decide +kernel
theorem dX7_late_7 : decode cX7_late 7 = .ok (.iconst 2, 1) := by decide +kernel
theorem dX7_late_8 : decode cX7_late 8 = .ok (.goto 15, 3) := by decide +kernel
theorem dX7_late_11 : decode cX7_late 11 = .ok (.iload_n 0, 1) := by decide +kernel
theorem dX7_late_12 : decode cX7_late 12 = .ok (.iload_n 1, 1) := by decide +kernel
theorem dX7_late_13 : decode cX7_late 13 = .ok (.iload_n 3, 1) := by decide +kernel
theorem dX7_late_14 : decode cX7_late 14 = .ok (.iadd, 1) := by decide +kernel
theorem dX7_late_15 : decode cX7_late 15 = .ok (.if_icmp .le 7, 3) := by decide +kernel
theorem dX7_late_18 : decode cX7_late 18 = .ok (.iconst 1, 1) := by decide +kernel
theorem dX7_late_19 : decode cX7_late 19 = .ok (.goto 4, 3) := by decide +kernel
theorem dX7_late_22 : decode cX7_late 22 = .ok (.iconst 0, 1) := by decide +kernel
theorem dX7_late_23 : decode cX7_late 23 = .ok (.ireturn, 1) := by decide +kernel
theorem dX7_barred_0 : decode cX7_barred 0 = .ok (.aload_n 0, 1) := by decide +kernel
theorem dX7_barred_1 : decode cX7_barred 1 = .ok (.getfield 57, 3) := by decide +kernel
theorem dX7_barred_4 : decode cX7_barred 4 = .ok (.iload_n 1, 1) := by decide +kernel
theorem dX7_barred_5 : decode cX7_barred 5 = .ok (.iaload, 1) := by decide +kernel
theorem dX7_barred_6 : decode cX7_barred 6 = .ok (.istore 4, 2) := by decide +kernel
theorem dX7_barred_8 : decode cX7_barred 8 = .ok (.iload_n 2, 1) := by decide +kernel
theorem dX7_barred_9 : decode cX7_barred 9 = .ok (.tableswitch 212 1 4 #[31, 52, 112, 157], 31) := by decide +kernel
theorem dX7_barred_40 : decode cX7_barred 40 = .ok (.aload_n 0, 1) := by decide +kernel
theorem dX7_barred_41 : decode cX7_barred 41 = .ok (.iload 4, 2) := by decide +kernel
theorem dX7_barred_43 : decode cX7_barred 43 = .ok (.invokevirtual 175, 3) := by decide +kernel
theorem dX7_barred_46 : decode cX7_barred 46 = .ok (.aload_n 0, 1) := by decide +kernel
theorem dX7_barred_47 : decode cX7_barred 47 = .ok (.getfield 54, 3) := by decide +kernel
theorem dX7_barred_50 : decode cX7_barred 50 = .ok (.iconst 3, 1) := by decide +kernel
theorem dX7_barred_51 : decode cX7_barred 51 = .ok (.iaload, 1) := by decide +kernel
theorem dX7_barred_52 : decode cX7_barred 52 = .ok (.if_icmp .le 7, 3) := by decide +kernel
theorem dX7_barred_55 : decode cX7_barred 55 = .ok (.iconst 2, 1) := by decide +kernel
theorem dX7_barred_56 : decode cX7_barred 56 = .ok (.goto 4, 3) := by decide +kernel
theorem dX7_barred_59 : decode cX7_barred 59 = .ok (.iconst 0, 1) := by decide +kernel
theorem dX7_barred_60 : decode cX7_barred 60 = .ok (.ireturn, 1) := by decide +kernel
theorem dX7_barred_61 : decode cX7_barred 61 = .ok (.aload_n 0, 1) := by decide +kernel
theorem dX7_barred_62 : decode cX7_barred 62 = .ok (.iload 4, 2) := by decide +kernel
theorem dX7_barred_64 : decode cX7_barred 64 = .ok (.invokevirtual 175, 3) := by decide +kernel
theorem dX7_barred_67 : decode cX7_barred 67 = .ok (.iconst 2, 1) := by decide +kernel
theorem dX7_barred_68 : decode cX7_barred 68 = .ok (.if_icmp .ge 7, 3) := by decide +kernel
theorem dX7_barred_71 : decode cX7_barred 71 = .ok (.iconst 0, 1) := by decide +kernel
theorem dX7_barred_72 : decode cX7_barred 72 = .ok (.goto 48, 3) := by decide +kernel
theorem dX7_barred_75 : decode cX7_barred 75 = .ok (.aload_n 0, 1) := by decide +kernel
theorem dX7_barred_76 : decode cX7_barred 76 = .ok (.getfield 29, 3) := by decide +kernel
theorem dX7_barred_79 : decode cX7_barred 79 = .ok (.iload 4, 2) := by decide +kernel
theorem dX7_barred_81 : decode cX7_barred 81 = .ok (.iaload, 1) := by decide +kernel
theorem dX7_barred_82 : decode cX7_barred 82 = .ok (.iconst (-1), 1) := by decide +kernel
theorem dX7_barred_83 : decode cX7_barred 83 = .ok (.if_icmp .ne 7, 3) := by decide +kernel
theorem dX7_barred_86 : decode cX7_barred 86 = .ok (.iconst 2, 1) := by decide +kernel
theorem dX7_barred_87 : decode cX7_barred 87 = .ok (.goto 33, 3) := by decide +kernel
theorem dX7_barred_90 : decode cX7_barred 90 = .ok (.aload_n 0, 1) := by decide +kernel
theorem dX7_barred_91 : decode cX7_barred 91 = .ok (.getfield 29, 3) := by decide +kernel
theorem dX7_barred_94 : decode cX7_barred 94 = .ok (.iload 4, 2) := by decide +kernel
theorem dX7_barred_96 : decode cX7_barred 96 = .ok (.iaload, 1) := by decide +kernel
theorem dX7_barred_97 : decode cX7_barred 97 = .ok (.aload_n 0, 1) := by decide +kernel
theorem dX7_barred_98 : decode cX7_barred 98 = .ok (.getfield 32, 3) := by decide +kernel
theorem dX7_barred_101 : decode cX7_barred 101 = .ok (.iload 4, 2) := by decide +kernel
theorem dX7_barred_103 : decode cX7_barred 103 = .ok (.iaload, 1) := by decide +kernel
theorem dX7_barred_104 : decode cX7_barred 104 = .ok (.aload_n 0, 1) := by decide +kernel
theorem dX7_barred_105 : decode cX7_barred 105 = .ok (.getfield 35, 3) := by decide +kernel
theorem dX7_barred_108 : decode cX7_barred 108 = .ok (.iload 4, 2) := by decide +kernel
theorem dX7_barred_110 : decode cX7_barred 110 = .ok (.iaload, 1) := by decide +kernel
theorem dX7_barred_111 : decode cX7_barred 111 = .ok (.aload_n 0, 1) := by decide +kernel
theorem dX7_barred_112 : decode cX7_barred 112 = .ok (.getfield 54, 3) := by decide +kernel
theorem dX7_barred_115 : decode cX7_barred 115 = .ok (.iconst 0, 1) := by decide +kernel
theorem dX7_barred_116 : decode cX7_barred 116 = .ok (.iaload, 1) := by decide +kernel
theorem dX7_barred_117 : decode cX7_barred 117 = .ok (.invokestatic 184, 3) := by decide +kernel
theorem dX7_barred_120 : decode cX7_barred 120 = .ok (.ireturn, 1) := by decide +kernel
theorem dX7_barred_121 : decode cX7_barred 121 = .ok (.aload_n 0, 1) := by decide +kernel
theorem dX7_barred_122 : decode cX7_barred 122 = .ok (.getfield 38, 3) := by decide +kernel
theorem dX7_barred_125 : decode cX7_barred 125 = .ok (.iload 4, 2) := by decide +kernel
theorem dX7_barred_127 : decode cX7_barred 127 = .ok (.iaload, 1) := by decide +kernel
theorem dX7_barred_128 : decode cX7_barred 128 = .ok (.iconst (-1), 1) := by decide +kernel
theorem dX7_barred_129 : decode cX7_barred 129 = .ok (.if_icmp .ne 7, 3) := by decide +kernel
theorem dX7_barred_132 : decode cX7_barred 132 = .ok (.iconst 0, 1) := by decide +kernel
theorem dX7_barred_133 : decode cX7_barred 133 = .ok (.goto 32, 3) := by decide +kernel
theorem dX7_barred_136 : decode cX7_barred 136 = .ok (.aload_n 0, 1) := by decide +kernel
theorem dX7_barred_137 : decode cX7_barred 137 = .ok (.getfield 63, 3) := by decide +kernel
theorem dX7_barred_140 : decode cX7_barred 140 = .ok (.iload_n 1, 1) := by decide +kernel
theorem dX7_barred_141 : decode cX7_barred 141 = .ok (.iaload, 1) := by decide +kernel
theorem dX7_barred_142 : decode cX7_barred 142 = .ok (.aload_n 0, 1) := by decide +kernel
theorem dX7_barred_143 : decode cX7_barred 143 = .ok (.getfield 38, 3) := by decide +kernel
theorem dX7_barred_146 : decode cX7_barred 146 = .ok (.iload 4, 2) := by decide +kernel
theorem dX7_barred_148 : decode cX7_barred 148 = .ok (.iaload, 1) := by decide +kernel
theorem dX7_barred_149 : decode cX7_barred 149 = .ok (.aload_n 0, 1) := by decide +kernel
theorem dX7_barred_150 : decode cX7_barred 150 = .ok (.getfield 41, 3) := by decide +kernel
theorem dX7_barred_153 : decode cX7_barred 153 = .ok (.iload 4, 2) := by decide +kernel
theorem dX7_barred_155 : decode cX7_barred 155 = .ok (.iaload, 1) := by decide +kernel
theorem dX7_barred_156 : decode cX7_barred 156 = .ok (.aload_n 0, 1) := by decide +kernel
theorem dX7_barred_157 : decode cX7_barred 157 = .ok (.getfield 54, 3) := by decide +kernel
theorem dX7_barred_160 : decode cX7_barred 160 = .ok (.iconst 1, 1) := by decide +kernel
theorem dX7_barred_161 : decode cX7_barred 161 = .ok (.iaload, 1) := by decide +kernel
theorem dX7_barred_162 : decode cX7_barred 162 = .ok (.invokestatic 184, 3) := by decide +kernel
theorem dX7_barred_165 : decode cX7_barred 165 = .ok (.ireturn, 1) := by decide +kernel
theorem dX7_barred_166 : decode cX7_barred 166 = .ok (.iload_n 3, 1) := by decide +kernel
theorem dX7_barred_167 : decode cX7_barred 167 = .ok (.aload_n 0, 1) := by decide +kernel
theorem dX7_barred_168 : decode cX7_barred 168 = .ok (.getfield 63, 3) := by decide +kernel
theorem dX7_barred_171 : decode cX7_barred 171 = .ok (.iload_n 1, 1) := by decide +kernel
theorem dX7_barred_172 : decode cX7_barred 172 = .ok (.iaload, 1) := by decide +kernel
theorem dX7_barred_173 : decode cX7_barred 173 = .ok (.aload_n 0, 1) := by decide +kernel
theorem dX7_barred_174 : decode cX7_barred 174 = .ok (.getfield 54, 3) := by decide +kernel
theorem dX7_barred_177 : decode cX7_barred 177 = .ok (.iconst 2, 1) := by decide +kernel
theorem dX7_barred_178 : decode cX7_barred 178 = .ok (.iaload, 1) := by decide +kernel
theorem dX7_barred_179 : decode cX7_barred 179 = .ok (.iadd, 1) := by decide +kernel
theorem dX7_barred_180 : decode cX7_barred 180 = .ok (.if_icmp .le 39, 3) := by decide +kernel
theorem dX7_barred_183 : decode cX7_barred 183 = .ok (.aload_n 0, 1) := by decide +kernel
theorem dX7_barred_184 : decode cX7_barred 184 = .ok (.getfield 66, 3) := by decide +kernel
theorem dX7_barred_187 : decode cX7_barred 187 = .ok (.iload_n 1, 1) := by decide +kernel
theorem dX7_barred_188 : decode cX7_barred 188 = .ok (.iaload, 1) := by decide +kernel
theorem dX7_barred_189 : decode cX7_barred 189 = .ok (.iconst (-1), 1) := by decide +kernel
theorem dX7_barred_190 : decode cX7_barred 190 = .ok (.if_icmp .eq 25, 3) := by decide +kernel
theorem dX7_barred_193 : decode cX7_barred 193 = .ok (.aload_n 0, 1) := by decide +kernel
theorem dX7_barred_194 : decode cX7_barred 194 = .ok (.getfield 66, 3) := by decide +kernel
theorem dX7_barred_197 : decode cX7_barred 197 = .ok (.iload_n 1, 1) := by decide +kernel
theorem dX7_barred_198 : decode cX7_barred 198 = .ok (.iaload, 1) := by decide +kernel
theorem dX7_barred_199 : decode cX7_barred 199 = .ok (.aload_n 0, 1) := by decide +kernel
theorem dX7_barred_200 : decode cX7_barred 200 = .ok (.getfield 63, 3) := by decide +kernel
theorem dX7_barred_203 : decode cX7_barred 203 = .ok (.iload_n 1, 1) := by decide +kernel
theorem dX7_barred_204 : decode cX7_barred 204 = .ok (.iaload, 1) := by decide +kernel
theorem dX7_barred_205 : decode cX7_barred 205 = .ok (.aload_n 0, 1) := by decide +kernel
theorem dX7_barred_206 : decode cX7_barred 206 = .ok (.getfield 54, 3) := by decide +kernel
theorem dX7_barred_209 : decode cX7_barred 209 = .ok (.iconst 2, 1) := by decide +kernel
theorem dX7_barred_210 : decode cX7_barred 210 = .ok (.iaload, 1) := by decide +kernel
theorem dX7_barred_211 : decode cX7_barred 211 = .ok (.iadd, 1) := by decide +kernel
theorem dX7_barred_212 : decode cX7_barred 212 = .ok (.if_icmp .le 7, 3) := by decide +kernel
theorem dX7_barred_215 : decode cX7_barred 215 = .ok (.iconst 2, 1) := by decide +kernel
theorem dX7_barred_216 : decode cX7_barred 216 = .ok (.goto 4, 3) := by decide +kernel
theorem dX7_barred_219 : decode cX7_barred 219 = .ok (.iconst 0, 1) := by decide +kernel
theorem dX7_barred_220 : decode cX7_barred 220 = .ok (.ireturn, 1) := by decide +kernel
theorem dX7_barred_221 : decode cX7_barred 221 = .ok (.aload_n 0, 1) := by decide +kernel
theorem dX7_barred_222 : decode cX7_barred 222 = .ok (.iload 4, 2) := by decide +kernel
theorem dX7_barred_224 : decode cX7_barred 224 = .ok (.invokevirtual 172, 3) := by decide +kernel
theorem dX7_barred_227 : decode cX7_barred 227 = .ok (.ifCond .ne 7, 3) := by decide +kernel
theorem dX7_barred_230 : decode cX7_barred 230 = .ok (.iconst 2, 1) := by decide +kernel
theorem dX7_barred_231 : decode cX7_barred 231 = .ok (.goto 4, 3) := by decide +kernel
theorem dX7_barred_234 : decode cX7_barred 234 = .ok (.iconst 0, 1) := by decide +kernel
theorem dX7_barred_235 : decode cX7_barred 235 = .ok (.ireturn, 1) := by decide +kernel
theorem dX7_firstBar_0 : decode cX7_firstBar 0 = .ok (.iconst 1, 1) := by decide +kernel
theorem dX7_firstBar_1 : decode cX7_firstBar 1 = .ok (.istore 4, 2) := by decide +kernel
theorem dX7_firstBar_3 : decode cX7_firstBar 3 = .ok (.iload 4, 2) := by decide +kernel
theorem dX7_firstBar_5 : decode cX7_firstBar 5 = .ok (.iconst 5, 1) := by decide +kernel
theorem dX7_firstBar_6 : decode cX7_firstBar 6 = .ok (.if_icmp .gt 24, 3) := by decide +kernel
theorem dX7_firstBar_9 : decode cX7_firstBar 9 = .ok (.aload_n 0, 1) := by decide +kernel
theorem dX7_firstBar_10 : decode cX7_firstBar 10 = .ok (.iload_n 1, 1) := by decide +kernel
theorem dX7_firstBar_11 : decode cX7_firstBar 11 = .ok (.iload 4, 2) := by decide +kernel
theorem dX7_firstBar_13 : decode cX7_firstBar 13 = .ok (.iload_n 2, 1) := by decide +kernel
theorem dX7_firstBar_14 : decode cX7_firstBar 14 = .ok (.invokevirtual 188, 3) := by decide +kernel
theorem dX7_firstBar_17 : decode cX7_firstBar 17 = .ok (.iload_n 3, 1) := by decide +kernel
theorem dX7_firstBar_18 : decode cX7_firstBar 18 = .ok (.if_icmp .ne 6, 3) := by decide +kernel
theorem dX7_firstBar_21 : decode cX7_firstBar 21 = .ok (.iload 4, 2) := by decide +kernel
theorem dX7_firstBar_23 : decode cX7_firstBar 23 = .ok (.ireturn, 1) := by decide +kernel
theorem dX7_firstBar_24 : decode cX7_firstBar 24 = .ok (.iinc 4 1, 3) := by decide +kernel
theorem dX7_firstBar_27 : decode cX7_firstBar 27 = .ok (.goto (-24), 3) := by decide +kernel
theorem dX7_firstBar_30 : decode cX7_firstBar 30 = .ok (.iconst 0, 1) := by decide +kernel
theorem dX7_firstBar_31 : decode cX7_firstBar 31 = .ok (.ireturn, 1) := by decide +kernel
theorem dX7_judged_0 : decode cX7_judged 0 = .ok (.aload_n 0, 1) := by decide +kernel
theorem dX7_judged_1 : decode cX7_judged 1 = .ok (.iload_n 1, 1) := by decide +kernel
theorem dX7_judged_2 : decode cX7_judged 2 = .ok (.iload_n 2, 1) := by decide +kernel
theorem dX7_judged_3 : decode cX7_judged 3 = .ok (.iconst 2, 1) := by decide +kernel
theorem dX7_judged_4 : decode cX7_judged 4 = .ok (.invokevirtual 192, 3) := by decide +kernel
theorem dX7_judged_7 : decode cX7_judged 7 = .ok (.ifCond .le 7, 3) := by decide +kernel
theorem dX7_judged_10 : decode cX7_judged 10 = .ok (.iconst 0, 1) := by decide +kernel
theorem dX7_judged_11 : decode cX7_judged 11 = .ok (.goto 18, 3) := by decide +kernel
theorem dX7_judged_14 : decode cX7_judged 14 = .ok (.aload_n 0, 1) := by decide +kernel
theorem dX7_judged_15 : decode cX7_judged 15 = .ok (.iload_n 1, 1) := by decide +kernel
theorem dX7_judged_16 : decode cX7_judged 16 = .ok (.iload_n 2, 1) := by decide +kernel
theorem dX7_judged_17 : decode cX7_judged 17 = .ok (.iconst 1, 1) := by decide +kernel
theorem dX7_judged_18 : decode cX7_judged 18 = .ok (.invokevirtual 192, 3) := by decide +kernel
theorem dX7_judged_21 : decode cX7_judged 21 = .ok (.ifCond .le 7, 3) := by decide +kernel
theorem dX7_judged_24 : decode cX7_judged 24 = .ok (.iconst 1, 1) := by decide +kernel
theorem dX7_judged_25 : decode cX7_judged 25 = .ok (.goto 4, 3) := by decide +kernel
theorem dX7_judged_28 : decode cX7_judged 28 = .ok (.iconst 2, 1) := by decide +kernel
theorem dX7_judged_29 : decode cX7_judged 29 = .ok (.ireturn, 1) := by decide +kernel
theorem dX7_isJudgeable_0 : decode cX7_isJudgeable 0 = .ok (.aload_n 0, 1) := by decide +kernel
theorem dX7_isJudgeable_1 : decode cX7_isJudgeable 1 = .ok (.iload_n 1, 1) := by decide +kernel
theorem dX7_isJudgeable_2 : decode cX7_isJudgeable 2 = .ok (.invokevirtual 181, 3) := by decide +kernel
theorem dX7_isJudgeable_5 : decode cX7_isJudgeable 5 = .ok (.ifCond .eq 23, 3) := by decide +kernel
theorem dX7_isJudgeable_8 : decode cX7_isJudgeable 8 = .ok (.iload_n 2, 1) := by decide +kernel
theorem dX7_isJudgeable_9 : decode cX7_isJudgeable 9 = .ok (.aload_n 0, 1) := by decide +kernel
theorem dX7_isJudgeable_10 : decode cX7_isJudgeable 10 = .ok (.getfield 63, 3) := by decide +kernel
theorem dX7_isJudgeable_13 : decode cX7_isJudgeable 13 = .ok (.iload_n 1, 1) := by decide +kernel
theorem dX7_isJudgeable_14 : decode cX7_isJudgeable 14 = .ok (.iaload, 1) := by decide +kernel
theorem dX7_isJudgeable_15 : decode cX7_isJudgeable 15 = .ok (.sipush 5000, 3) := by decide +kernel
theorem dX7_isJudgeable_18 : decode cX7_isJudgeable 18 = .ok (.invokestatic 121, 3) := by decide +kernel
theorem dX7_isJudgeable_21 : decode cX7_isJudgeable 21 = .ok (.ifCond .eq 7, 3) := by decide +kernel
theorem dX7_isJudgeable_24 : decode cX7_isJudgeable 24 = .ok (.iconst 1, 1) := by decide +kernel
theorem dX7_isJudgeable_25 : decode cX7_isJudgeable 25 = .ok (.goto 4, 3) := by decide +kernel
theorem dX7_isJudgeable_28 : decode cX7_isJudgeable 28 = .ok (.iconst 0, 1) := by decide +kernel
theorem dX7_isJudgeable_29 : decode cX7_isJudgeable 29 = .ok (.ireturn, 1) := by decide +kernel
theorem dX7_judge_0 : decode cX7_judge 0 = .ok (.aload_n 0, 1) := by decide +kernel
theorem dX7_judge_1 : decode cX7_judge 1 = .ok (.iload_n 1, 1) := by decide +kernel
theorem dX7_judge_2 : decode cX7_judge 2 = .ok (.iload_n 2, 1) := by decide +kernel
theorem dX7_judge_3 : decode cX7_judge 3 = .ok (.invokevirtual 195, 3) := by decide +kernel
theorem dX7_judge_6 : decode cX7_judge 6 = .ok (.ifCond .eq 12, 3) := by decide +kernel
theorem dX7_judge_9 : decode cX7_judge 9 = .ok (.aload_n 0, 1) := by decide +kernel
theorem dX7_judge_10 : decode cX7_judge 10 = .ok (.iload_n 1, 1) := by decide +kernel
theorem dX7_judge_11 : decode cX7_judge 11 = .ok (.iload_n 2, 1) := by decide +kernel
theorem dX7_judge_12 : decode cX7_judge 12 = .ok (.invokevirtual 198, 3) := by decide +kernel
theorem dX7_judge_15 : decode cX7_judge 15 = .ok (.goto 9, 3) := by decide +kernel
theorem dX7_judge_18 : decode cX7_judge 18 = .ok (.aload_n 0, 1) := by decide +kernel
theorem dX7_judge_19 : decode cX7_judge 19 = .ok (.ldc 131, 2) := by decide +kernel
theorem dX7_judge_21 : decode cX7_judge 21 = .ok (.invokevirtual 132, 3) := by decide +kernel
theorem dX7_judge_24 : decode cX7_judge 24 = .ok (.ireturn, 1) := by decide +kernel
theorem dX7_bar_0 : decode cX7_bar 0 = .ok (.aload_n 0, 1) := by decide +kernel
theorem dX7_bar_1 : decode cX7_bar 1 = .ok (.iload_n 1, 1) := by decide +kernel
theorem dX7_bar_2 : decode cX7_bar 2 = .ok (.iload_n 2, 1) := by decide +kernel
theorem dX7_bar_3 : decode cX7_bar 3 = .ok (.invokevirtual 195, 3) := by decide +kernel
theorem dX7_bar_6 : decode cX7_bar 6 = .ok (.ifCond .ne 10, 3) := by decide +kernel
theorem dX7_bar_9 : decode cX7_bar 9 = .ok (.aload_n 0, 1) := by decide +kernel
theorem dX7_bar_10 : decode cX7_bar 10 = .ok (.ldc 131, 2) := by decide +kernel
theorem dX7_bar_12 : decode cX7_bar 12 = .ok (.invokevirtual 132, 3) := by decide +kernel
theorem dX7_bar_15 : decode cX7_bar 15 = .ok (.ireturn, 1) := by decide +kernel
theorem dX7_bar_16 : decode cX7_bar 16 = .ok (.aload_n 0, 1) := by decide +kernel
theorem dX7_bar_17 : decode cX7_bar 17 = .ok (.iload_n 1, 1) := by decide +kernel
theorem dX7_bar_18 : decode cX7_bar 18 = .ok (.iload_n 2, 1) := by decide +kernel
theorem dX7_bar_19 : decode cX7_bar 19 = .ok (.iconst 2, 1) := by decide +kernel
theorem dX7_bar_20 : decode cX7_bar 20 = .ok (.invokevirtual 192, 3) := by decide +kernel
theorem dX7_bar_23 : decode cX7_bar 23 = .ok (.istore_n 3, 1) := by decide +kernel
theorem dX7_bar_24 : decode cX7_bar 24 = .ok (.aload_n 0, 1) := by decide +kernel
theorem dX7_bar_25 : decode cX7_bar 25 = .ok (.iload_n 1, 1) := by decide +kernel
theorem dX7_bar_26 : decode cX7_bar 26 = .ok (.iload_n 2, 1) := by decide +kernel
theorem dX7_bar_27 : decode cX7_bar 27 = .ok (.iconst 1, 1) := by decide +kernel
theorem dX7_bar_28 : decode cX7_bar 28 = .ok (.invokevirtual 192, 3) := by decide +kernel
theorem dX7_bar_31 : decode cX7_bar 31 = .ok (.istore 4, 2) := by decide +kernel
theorem dX7_bar_33 : decode cX7_bar 33 = .ok (.iload_n 3, 1) := by decide +kernel
theorem dX7_bar_34 : decode cX7_bar 34 = .ok (.ifCond .le 7, 3) := by decide +kernel
theorem dX7_bar_37 : decode cX7_bar 37 = .ok (.iload_n 3, 1) := by decide +kernel
theorem dX7_bar_38 : decode cX7_bar 38 = .ok (.goto 17, 3) := by decide +kernel
theorem dX7_bar_41 : decode cX7_bar 41 = .ok (.iload 4, 2) := by decide +kernel
theorem dX7_bar_43 : decode cX7_bar 43 = .ok (.ifCond .le 11, 3) := by decide +kernel
theorem dX7_bar_46 : decode cX7_bar 46 = .ok (.bipush 10, 2) := by decide +kernel
theorem dX7_bar_48 : decode cX7_bar 48 = .ok (.iload 4, 2) := by decide +kernel
theorem dX7_bar_50 : decode cX7_bar 50 = .ok (.iadd, 1) := by decide +kernel
theorem dX7_bar_51 : decode cX7_bar 51 = .ok (.goto 4, 3) := by decide +kernel
theorem dX7_bar_54 : decode cX7_bar 54 = .ok (.iconst 0, 1) := by decide +kernel
theorem dX7_bar_55 : decode cX7_bar 55 = .ok (.ireturn, 1) := by decide +kernel
theorem dX7_bound_0 : decode cX7_bound 0 = .ok (.aload_n 0, 1) := by decide +kernel
theorem dX7_bound_1 : decode cX7_bound 1 = .ok (.iload_n 1, 1) := by decide +kernel
theorem dX7_bound_2 : decode cX7_bound 2 = .ok (.invokevirtual 172, 3) := by decide +kernel
theorem dX7_bound_5 : decode cX7_bound 5 = .ok (.istore_n 2, 1) := by decide +kernel
theorem dX7_bound_6 : decode cX7_bound 6 = .ok (.aload_n 0, 1) := by decide +kernel
theorem dX7_bound_7 : decode cX7_bound 7 = .ok (.iload_n 1, 1) := by decide +kernel
theorem dX7_bound_8 : decode cX7_bound 8 = .ok (.invokevirtual 169, 3) := by decide +kernel
theorem dX7_bound_11 : decode cX7_bound 11 = .ok (.istore_n 3, 1) := by decide +kernel
theorem dX7_bound_12 : decode cX7_bound 12 = .ok (.iload_n 3, 1) := by decide +kernel
theorem dX7_bound_13 : decode cX7_bound 13 = .ok (.iconst (-1), 1) := by decide +kernel
theorem dX7_bound_14 : decode cX7_bound 14 = .ok (.if_icmp .eq 41, 3) := by decide +kernel
theorem dX7_bound_17 : decode cX7_bound 17 = .ok (.aload_n 0, 1) := by decide +kernel
theorem dX7_bound_18 : decode cX7_bound 18 = .ok (.getfield 54, 3) := by decide +kernel
theorem dX7_bound_21 : decode cX7_bound 21 = .ok (.iconst 5, 1) := by decide +kernel
theorem dX7_bound_22 : decode cX7_bound 22 = .ok (.iaload, 1) := by decide +kernel
theorem dX7_bound_23 : decode cX7_bound 23 = .ok (.iconst 1, 1) := by decide +kernel
theorem dX7_bound_24 : decode cX7_bound 24 = .ok (.if_icmp .ne 31, 3) := by decide +kernel
theorem dX7_bound_27 : decode cX7_bound 27 = .ok (.aload_n 0, 1) := by decide +kernel
theorem dX7_bound_28 : decode cX7_bound 28 = .ok (.iload_n 3, 1) := by decide +kernel
theorem dX7_bound_29 : decode cX7_bound 29 = .ok (.invokevirtual 160, 3) := by decide +kernel
theorem dX7_bound_32 : decode cX7_bound 32 = .ok (.iload_n 2, 1) := by decide +kernel
theorem dX7_bound_33 : decode cX7_bound 33 = .ok (.if_icmp .ge 11, 3) := by decide +kernel
theorem dX7_bound_36 : decode cX7_bound 36 = .ok (.aload_n 0, 1) := by decide +kernel
theorem dX7_bound_37 : decode cX7_bound 37 = .ok (.iload_n 3, 1) := by decide +kernel
theorem dX7_bound_38 : decode cX7_bound 38 = .ok (.invokevirtual 160, 3) := by decide +kernel
theorem dX7_bound_41 : decode cX7_bound 41 = .ok (.goto 4, 3) := by decide +kernel
theorem dX7_bound_44 : decode cX7_bound 44 = .ok (.iload_n 2, 1) := by decide +kernel
theorem dX7_bound_45 : decode cX7_bound 45 = .ok (.istore_n 2, 1) := by decide +kernel
theorem dX7_bound_46 : decode cX7_bound 46 = .ok (.aload_n 0, 1) := by decide +kernel
theorem dX7_bound_47 : decode cX7_bound 47 = .ok (.iload_n 3, 1) := by decide +kernel
theorem dX7_bound_48 : decode cX7_bound 48 = .ok (.invokevirtual 169, 3) := by decide +kernel
theorem dX7_bound_51 : decode cX7_bound 51 = .ok (.istore_n 3, 1) := by decide +kernel
theorem dX7_bound_52 : decode cX7_bound 52 = .ok (.goto (-40), 3) := by decide +kernel
theorem dX7_bound_55 : decode cX7_bound 55 = .ok (.iload_n 2, 1) := by decide +kernel
theorem dX7_bound_56 : decode cX7_bound 56 = .ok (.ireturn, 1) := by decide +kernel
theorem dX7_worthOf_0 : decode cX7_worthOf 0 = .ok (.aload_n 0, 1) := by decide +kernel
theorem dX7_worthOf_1 : decode cX7_worthOf 1 = .ok (.getfield 57, 3) := by decide +kernel
theorem dX7_worthOf_4 : decode cX7_worthOf 4 = .ok (.iload_n 1, 1) := by decide +kernel
theorem dX7_worthOf_5 : decode cX7_worthOf 5 = .ok (.iaload, 1) := by decide +kernel
theorem dX7_worthOf_6 : decode cX7_worthOf 6 = .ok (.istore_n 3, 1) := by decide +kernel
theorem dX7_worthOf_7 : decode cX7_worthOf 7 = .ok (.aload_n 0, 1) := by decide +kernel
theorem dX7_worthOf_8 : decode cX7_worthOf 8 = .ok (.iload_n 3, 1) := by decide +kernel
theorem dX7_worthOf_9 : decode cX7_worthOf 9 = .ok (.invokevirtual 202, 3) := by decide +kernel
theorem dX7_worthOf_12 : decode cX7_worthOf 12 = .ok (.istore 4, 2) := by decide +kernel
theorem dX7_worthOf_14 : decode cX7_worthOf 14 = .ok (.iconst 0, 1) := by decide +kernel
theorem dX7_worthOf_15 : decode cX7_worthOf 15 = .ok (.istore 5, 2) := by decide +kernel
theorem dX7_worthOf_17 : decode cX7_worthOf 17 = .ok (.iconst 0, 1) := by decide +kernel
theorem dX7_worthOf_18 : decode cX7_worthOf 18 = .ok (.istore 6, 2) := by decide +kernel
theorem dX7_worthOf_20 : decode cX7_worthOf 20 = .ok (.iload 6, 2) := by decide +kernel
theorem dX7_worthOf_22 : decode cX7_worthOf 22 = .ok (.iload_n 1, 1) := by decide +kernel
theorem dX7_worthOf_23 : decode cX7_worthOf 23 = .ok (.if_icmp .gt 90, 3) := by decide +kernel
theorem dX7_worthOf_26 : decode cX7_worthOf 26 = .ok (.aload_n 0, 1) := by decide +kernel
theorem dX7_worthOf_27 : decode cX7_worthOf 27 = .ok (.getfield 57, 3) := by decide +kernel
theorem dX7_worthOf_30 : decode cX7_worthOf 30 = .ok (.iload 6, 2) := by decide +kernel
theorem dX7_worthOf_32 : decode cX7_worthOf 32 = .ok (.iaload, 1) := by decide +kernel
theorem dX7_worthOf_33 : decode cX7_worthOf 33 = .ok (.iload_n 3, 1) := by decide +kernel
theorem dX7_worthOf_34 : decode cX7_worthOf 34 = .ok (.if_icmp .ne 28, 3) := by decide +kernel
theorem dX7_worthOf_37 : decode cX7_worthOf 37 = .ok (.aload_n 0, 1) := by decide +kernel
theorem dX7_worthOf_38 : decode cX7_worthOf 38 = .ok (.getfield 63, 3) := by decide +kernel
theorem dX7_worthOf_41 : decode cX7_worthOf 41 = .ok (.iload 6, 2) := by decide +kernel
theorem dX7_worthOf_43 : decode cX7_worthOf 43 = .ok (.iaload, 1) := by decide +kernel
theorem dX7_worthOf_44 : decode cX7_worthOf 44 = .ok (.iload_n 2, 1) := by decide +kernel
theorem dX7_worthOf_45 : decode cX7_worthOf 45 = .ok (.if_icmp .gt 17, 3) := by decide +kernel
theorem dX7_worthOf_48 : decode cX7_worthOf 48 = .ok (.aload_n 0, 1) := by decide +kernel
theorem dX7_worthOf_49 : decode cX7_worthOf 49 = .ok (.iload 6, 2) := by decide +kernel
theorem dX7_worthOf_51 : decode cX7_worthOf 51 = .ok (.iload_n 2, 1) := by decide +kernel
theorem dX7_worthOf_52 : decode cX7_worthOf 52 = .ok (.invokevirtual 198, 3) := by decide +kernel
theorem dX7_worthOf_55 : decode cX7_worthOf 55 = .ok (.ifCond .le 7, 3) := by decide +kernel
theorem dX7_worthOf_58 : decode cX7_worthOf 58 = .ok (.iconst 1, 1) := by decide +kernel
theorem dX7_worthOf_59 : decode cX7_worthOf 59 = .ok (.goto 4, 3) := by decide +kernel
theorem dX7_worthOf_62 : decode cX7_worthOf 62 = .ok (.iconst 0, 1) := by decide +kernel
theorem dX7_worthOf_63 : decode cX7_worthOf 63 = .ok (.istore 7, 2) := by decide +kernel
theorem dX7_worthOf_65 : decode cX7_worthOf 65 = .ok (.iload 7, 2) := by decide +kernel
theorem dX7_worthOf_67 : decode cX7_worthOf 67 = .ok (.ifCond .ne 7, 3) := by decide +kernel
theorem dX7_worthOf_70 : decode cX7_worthOf 70 = .ok (.iconst 0, 1) := by decide +kernel
theorem dX7_worthOf_71 : decode cX7_worthOf 71 = .ok (.goto 27, 3) := by decide +kernel
theorem dX7_worthOf_74 : decode cX7_worthOf 74 = .ok (.aload_n 0, 1) := by decide +kernel
theorem dX7_worthOf_75 : decode cX7_worthOf 75 = .ok (.getfield 60, 3) := by decide +kernel
theorem dX7_worthOf_78 : decode cX7_worthOf 78 = .ok (.iload 6, 2) := by decide +kernel
theorem dX7_worthOf_80 : decode cX7_worthOf 80 = .ok (.iaload, 1) := by decide +kernel
theorem dX7_worthOf_81 : decode cX7_worthOf 81 = .ok (.iload 4, 2) := by decide +kernel
theorem dX7_worthOf_83 : decode cX7_worthOf 83 = .ok (.if_icmp .ge 13, 3) := by decide +kernel
theorem dX7_worthOf_86 : decode cX7_worthOf 86 = .ok (.aload_n 0, 1) := by decide +kernel
theorem dX7_worthOf_87 : decode cX7_worthOf 87 = .ok (.getfield 60, 3) := by decide +kernel
theorem dX7_worthOf_90 : decode cX7_worthOf 90 = .ok (.iload 6, 2) := by decide +kernel
theorem dX7_worthOf_92 : decode cX7_worthOf 92 = .ok (.iaload, 1) := by decide +kernel
theorem dX7_worthOf_93 : decode cX7_worthOf 93 = .ok (.goto 5, 3) := by decide +kernel
theorem dX7_worthOf_96 : decode cX7_worthOf 96 = .ok (.iload 4, 2) := by decide +kernel
theorem dX7_worthOf_98 : decode cX7_worthOf 98 = .ok (.istore 5, 2) := by decide +kernel
theorem dX7_worthOf_100 : decode cX7_worthOf 100 = .ok (.iload 4, 2) := by decide +kernel
theorem dX7_worthOf_102 : decode cX7_worthOf 102 = .ok (.iload 5, 2) := by decide +kernel
theorem dX7_worthOf_104 : decode cX7_worthOf 104 = .ok (.isub, 1) := by decide +kernel
theorem dX7_worthOf_105 : decode cX7_worthOf 105 = .ok (.istore 4, 2) := by decide +kernel
theorem dX7_worthOf_107 : decode cX7_worthOf 107 = .ok (.iinc 6 1, 3) := by decide +kernel
theorem dX7_worthOf_110 : decode cX7_worthOf 110 = .ok (.goto (-90), 3) := by decide +kernel
theorem dX7_worthOf_113 : decode cX7_worthOf 113 = .ok (.iload 5, 2) := by decide +kernel
theorem dX7_worthOf_115 : decode cX7_worthOf 115 = .ok (.ireturn, 1) := by decide +kernel
theorem dX7_worth_0 : decode cX7_worth 0 = .ok (.aload_n 0, 1) := by decide +kernel
theorem dX7_worth_1 : decode cX7_worth 1 = .ok (.iload_n 1, 1) := by decide +kernel
theorem dX7_worth_2 : decode cX7_worth 2 = .ok (.invokevirtual 181, 3) := by decide +kernel
theorem dX7_worth_5 : decode cX7_worth 5 = .ok (.ifCond .eq 23, 3) := by decide +kernel
theorem dX7_worth_8 : decode cX7_worth 8 = .ok (.iload_n 2, 1) := by decide +kernel
theorem dX7_worth_9 : decode cX7_worth 9 = .ok (.iconst 0, 1) := by decide +kernel
theorem dX7_worth_10 : decode cX7_worth 10 = .ok (.sipush 5000, 3) := by decide +kernel
theorem dX7_worth_13 : decode cX7_worth 13 = .ok (.invokestatic 121, 3) := by decide +kernel
theorem dX7_worth_16 : decode cX7_worth 16 = .ok (.ifCond .eq 12, 3) := by decide +kernel
theorem dX7_worth_19 : decode cX7_worth 19 = .ok (.aload_n 0, 1) := by decide +kernel
theorem dX7_worth_20 : decode cX7_worth 20 = .ok (.iload_n 1, 1) := by decide +kernel
theorem dX7_worth_21 : decode cX7_worth 21 = .ok (.iload_n 2, 1) := by decide +kernel
theorem dX7_worth_22 : decode cX7_worth 22 = .ok (.invokevirtual 205, 3) := by decide +kernel
theorem dX7_worth_25 : decode cX7_worth 25 = .ok (.goto 9, 3) := by decide +kernel
theorem dX7_worth_28 : decode cX7_worth 28 = .ok (.aload_n 0, 1) := by decide +kernel
theorem dX7_worth_29 : decode cX7_worth 29 = .ok (.ldc 131, 2) := by decide +kernel
theorem dX7_worth_31 : decode cX7_worth 31 = .ok (.invokevirtual 132, 3) := by decide +kernel
theorem dX7_worth_34 : decode cX7_worth 34 = .ok (.ireturn, 1) := by decide +kernel
theorem dX7_rankOf_0 : decode cX7_rankOf 0 = .ok (.aload_n 0, 1) := by decide +kernel
theorem dX7_rankOf_1 : decode cX7_rankOf 1 = .ok (.getfield 54, 3) := by decide +kernel
theorem dX7_rankOf_4 : decode cX7_rankOf 4 = .ok (.iconst 4, 1) := by decide +kernel
theorem dX7_rankOf_5 : decode cX7_rankOf 5 = .ok (.iaload, 1) := by decide +kernel
theorem dX7_rankOf_6 : decode cX7_rankOf 6 = .ok (.iconst 2, 1) := by decide +kernel
theorem dX7_rankOf_7 : decode cX7_rankOf 7 = .ok (.if_icmp .ne 10, 3) := by decide +kernel
theorem dX7_rankOf_10 : decode cX7_rankOf 10 = .ok (.aload_n 0, 1) := by decide +kernel
theorem dX7_rankOf_11 : decode cX7_rankOf 11 = .ok (.getfield 63, 3) := by decide +kernel
theorem dX7_rankOf_14 : decode cX7_rankOf 14 = .ok (.iload_n 1, 1) := by decide +kernel
theorem dX7_rankOf_15 : decode cX7_rankOf 15 = .ok (.iaload, 1) := by decide +kernel
theorem dX7_rankOf_16 : decode cX7_rankOf 16 = .ok (.ireturn, 1) := by decide +kernel
theorem dX7_rankOf_17 : decode cX7_rankOf 17 = .ok (.iload_n 2, 1) := by decide +kernel
theorem dX7_rankOf_18 : decode cX7_rankOf 18 = .ok (.ifCond .ne 17, 3) := by decide +kernel
theorem dX7_rankOf_21 : decode cX7_rankOf 21 = .ok (.aload_n 0, 1) := by decide +kernel
theorem dX7_rankOf_22 : decode cX7_rankOf 22 = .ok (.getfield 32, 3) := by decide +kernel
theorem dX7_rankOf_25 : decode cX7_rankOf 25 = .ok (.aload_n 0, 1) := by decide +kernel
theorem dX7_rankOf_26 : decode cX7_rankOf 26 = .ok (.getfield 57, 3) := by decide +kernel
theorem dX7_rankOf_29 : decode cX7_rankOf 29 = .ok (.iload_n 1, 1) := by decide +kernel
theorem dX7_rankOf_30 : decode cX7_rankOf 30 = .ok (.iaload, 1) := by decide +kernel
theorem dX7_rankOf_31 : decode cX7_rankOf 31 = .ok (.iaload, 1) := by decide +kernel
theorem dX7_rankOf_32 : decode cX7_rankOf 32 = .ok (.goto 14, 3) := by decide +kernel
theorem dX7_rankOf_35 : decode cX7_rankOf 35 = .ok (.aload_n 0, 1) := by decide +kernel
theorem dX7_rankOf_36 : decode cX7_rankOf 36 = .ok (.getfield 35, 3) := by decide +kernel
theorem dX7_rankOf_39 : decode cX7_rankOf 39 = .ok (.aload_n 0, 1) := by decide +kernel
theorem dX7_rankOf_40 : decode cX7_rankOf 40 = .ok (.getfield 57, 3) := by decide +kernel
theorem dX7_rankOf_43 : decode cX7_rankOf 43 = .ok (.iload_n 1, 1) := by decide +kernel
theorem dX7_rankOf_44 : decode cX7_rankOf 44 = .ok (.iaload, 1) := by decide +kernel
theorem dX7_rankOf_45 : decode cX7_rankOf 45 = .ok (.iaload, 1) := by decide +kernel
theorem dX7_rankOf_46 : decode cX7_rankOf 46 = .ok (.istore_n 3, 1) := by decide +kernel
theorem dX7_rankOf_47 : decode cX7_rankOf 47 = .ok (.iconst 0, 1) := by decide +kernel
theorem dX7_rankOf_48 : decode cX7_rankOf 48 = .ok (.istore 4, 2) := by decide +kernel
theorem dX7_rankOf_50 : decode cX7_rankOf 50 = .ok (.iload 4, 2) := by decide +kernel
theorem dX7_rankOf_52 : decode cX7_rankOf 52 = .ok (.aload_n 0, 1) := by decide +kernel
theorem dX7_rankOf_53 : decode cX7_rankOf 53 = .ok (.getfield 125, 3) := by decide +kernel
theorem dX7_rankOf_56 : decode cX7_rankOf 56 = .ok (.if_icmp .ge 61, 3) := by decide +kernel
theorem dX7_rankOf_59 : decode cX7_rankOf 59 = .ok (.aload_n 0, 1) := by decide +kernel
theorem dX7_rankOf_60 : decode cX7_rankOf 60 = .ok (.getfield 54, 3) := by decide +kernel
theorem dX7_rankOf_63 : decode cX7_rankOf 63 = .ok (.iconst 4, 1) := by decide +kernel
theorem dX7_rankOf_64 : decode cX7_rankOf 64 = .ok (.iaload, 1) := by decide +kernel
theorem dX7_rankOf_65 : decode cX7_rankOf 65 = .ok (.iconst 1, 1) := by decide +kernel
theorem dX7_rankOf_66 : decode cX7_rankOf 66 = .ok (.if_icmp .ne 51, 3) := by decide +kernel
theorem dX7_rankOf_69 : decode cX7_rankOf 69 = .ok (.iload_n 2, 1) := by decide +kernel
theorem dX7_rankOf_70 : decode cX7_rankOf 70 = .ok (.ifCond .ne 13, 3) := by decide +kernel
theorem dX7_rankOf_73 : decode cX7_rankOf 73 = .ok (.aload_n 0, 1) := by decide +kernel
theorem dX7_rankOf_74 : decode cX7_rankOf 74 = .ok (.getfield 32, 3) := by decide +kernel
theorem dX7_rankOf_77 : decode cX7_rankOf 77 = .ok (.iload 4, 2) := by decide +kernel
theorem dX7_rankOf_79 : decode cX7_rankOf 79 = .ok (.iaload, 1) := by decide +kernel
theorem dX7_rankOf_80 : decode cX7_rankOf 80 = .ok (.goto 10, 3) := by decide +kernel
theorem dX7_rankOf_83 : decode cX7_rankOf 83 = .ok (.aload_n 0, 1) := by decide +kernel
theorem dX7_rankOf_84 : decode cX7_rankOf 84 = .ok (.getfield 35, 3) := by decide +kernel
theorem dX7_rankOf_87 : decode cX7_rankOf 87 = .ok (.iload 4, 2) := by decide +kernel
theorem dX7_rankOf_89 : decode cX7_rankOf 89 = .ok (.iaload, 1) := by decide +kernel
theorem dX7_rankOf_90 : decode cX7_rankOf 90 = .ok (.istore 5, 2) := by decide +kernel
theorem dX7_rankOf_92 : decode cX7_rankOf 92 = .ok (.iload 5, 2) := by decide +kernel
theorem dX7_rankOf_94 : decode cX7_rankOf 94 = .ok (.iconst (-1), 1) := by decide +kernel
theorem dX7_rankOf_95 : decode cX7_rankOf 95 = .ok (.if_icmp .eq 14, 3) := by decide +kernel
theorem dX7_rankOf_98 : decode cX7_rankOf 98 = .ok (.iload 5, 2) := by decide +kernel
theorem dX7_rankOf_100 : decode cX7_rankOf 100 = .ok (.iload_n 3, 1) := by decide +kernel
theorem dX7_rankOf_101 : decode cX7_rankOf 101 = .ok (.if_icmp .ge 8, 3) := by decide +kernel
theorem dX7_rankOf_104 : decode cX7_rankOf 104 = .ok (.iload 5, 2) := by decide +kernel
theorem dX7_rankOf_106 : decode cX7_rankOf 106 = .ok (.goto 4, 3) := by decide +kernel
theorem dX7_rankOf_109 : decode cX7_rankOf 109 = .ok (.iload_n 3, 1) := by decide +kernel
theorem dX7_rankOf_110 : decode cX7_rankOf 110 = .ok (.istore_n 3, 1) := by decide +kernel
theorem dX7_rankOf_111 : decode cX7_rankOf 111 = .ok (.iinc 4 1, 3) := by decide +kernel
theorem dX7_rankOf_114 : decode cX7_rankOf 114 = .ok (.goto (-64), 3) := by decide +kernel
theorem dX7_rankOf_117 : decode cX7_rankOf 117 = .ok (.iload_n 3, 1) := by decide +kernel
theorem dX7_rankOf_118 : decode cX7_rankOf 118 = .ok (.ireturn, 1) := by decide +kernel
theorem dX7_rank_0 : decode cX7_rank 0 = .ok (.aload_n 0, 1) := by decide +kernel
theorem dX7_rank_1 : decode cX7_rank 1 = .ok (.iload_n 1, 1) := by decide +kernel
theorem dX7_rank_2 : decode cX7_rank 2 = .ok (.invokevirtual 181, 3) := by decide +kernel
theorem dX7_rank_5 : decode cX7_rank 5 = .ok (.ifCond .eq 21, 3) := by decide +kernel
theorem dX7_rank_8 : decode cX7_rank 8 = .ok (.iload_n 2, 1) := by decide +kernel
theorem dX7_rank_9 : decode cX7_rank 9 = .ok (.iconst 0, 1) := by decide +kernel
theorem dX7_rank_10 : decode cX7_rank 10 = .ok (.iconst 1, 1) := by decide +kernel
theorem dX7_rank_11 : decode cX7_rank 11 = .ok (.invokestatic 121, 3) := by decide +kernel
theorem dX7_rank_14 : decode cX7_rank 14 = .ok (.ifCond .eq 12, 3) := by decide +kernel
theorem dX7_rank_17 : decode cX7_rank 17 = .ok (.aload_n 0, 1) := by decide +kernel
theorem dX7_rank_18 : decode cX7_rank 18 = .ok (.iload_n 1, 1) := by decide +kernel
theorem dX7_rank_19 : decode cX7_rank 19 = .ok (.iload_n 2, 1) := by decide +kernel
theorem dX7_rank_20 : decode cX7_rank 20 = .ok (.invokevirtual 208, 3) := by decide +kernel
theorem dX7_rank_23 : decode cX7_rank 23 = .ok (.goto 9, 3) := by decide +kernel
theorem dX7_rank_26 : decode cX7_rank 26 = .ok (.aload_n 0, 1) := by decide +kernel
theorem dX7_rank_27 : decode cX7_rank 27 = .ok (.ldc 131, 2) := by decide +kernel
theorem dX7_rank_29 : decode cX7_rank 29 = .ok (.invokevirtual 132, 3) := by decide +kernel
theorem dX7_rank_32 : decode cX7_rank 32 = .ok (.ireturn, 1) := by decide +kernel
theorem dX7_loan_0 : decode cX7_loan 0 = .ok (.aload_n 0, 1) := by decide +kernel
theorem dX7_loan_1 : decode cX7_loan 1 = .ok (.iload_n 1, 1) := by decide +kernel
theorem dX7_loan_2 : decode cX7_loan 2 = .ok (.invokevirtual 136, 3) := by decide +kernel
theorem dX7_loan_5 : decode cX7_loan 5 = .ok (.ifCond .eq 13, 3) := by decide +kernel
theorem dX7_loan_8 : decode cX7_loan 8 = .ok (.iload_n 2, 1) := by decide +kernel
theorem dX7_loan_9 : decode cX7_loan 9 = .ok (.iconst 1, 1) := by decide +kernel
theorem dX7_loan_10 : decode cX7_loan 10 = .ok (.ldc 153, 2) := by decide +kernel
theorem dX7_loan_12 : decode cX7_loan 12 = .ok (.invokestatic 121, 3) := by decide +kernel
theorem dX7_loan_15 : decode cX7_loan 15 = .ok (.ifCond .ne 10, 3) := by decide +kernel
theorem dX7_loan_18 : decode cX7_loan 18 = .ok (.aload_n 0, 1) := by decide +kernel
theorem dX7_loan_19 : decode cX7_loan 19 = .ok (.ldc 131, 2) := by decide +kernel
theorem dX7_loan_21 : decode cX7_loan 21 = .ok (.invokevirtual 132, 3) := by decide +kernel
theorem dX7_loan_24 : decode cX7_loan 24 = .ok (.ireturn, 1) := by decide +kernel
theorem dX7_loan_25 : decode cX7_loan 25 = .ok (.aload_n 0, 1) := by decide +kernel
theorem dX7_loan_26 : decode cX7_loan 26 = .ok (.getfield 13, 3) := by decide +kernel
theorem dX7_loan_29 : decode cX7_loan 29 = .ok (.iload_n 1, 1) := by decide +kernel
theorem dX7_loan_30 : decode cX7_loan 30 = .ok (.iaload, 1) := by decide +kernel
theorem dX7_loan_31 : decode cX7_loan 31 = .ok (.iconst 1, 1) := by decide +kernel
theorem dX7_loan_32 : decode cX7_loan 32 = .ok (.if_icmp .eq 10, 3) := by decide +kernel
theorem dX7_loan_35 : decode cX7_loan 35 = .ok (.aload_n 0, 1) := by decide +kernel
theorem dX7_loan_36 : decode cX7_loan 36 = .ok (.ldc 144, 2) := by decide +kernel
theorem dX7_loan_38 : decode cX7_loan 38 = .ok (.invokevirtual 132, 3) := by decide +kernel
theorem dX7_loan_41 : decode cX7_loan 41 = .ok (.ireturn, 1) := by decide +kernel
theorem dX7_loan_42 : decode cX7_loan 42 = .ok (.aload_n 0, 1) := by decide +kernel
theorem dX7_loan_43 : decode cX7_loan 43 = .ok (.getfield 211, 3) := by decide +kernel
theorem dX7_loan_46 : decode cX7_loan 46 = .ok (.bipush 6, 2) := by decide +kernel
theorem dX7_loan_48 : decode cX7_loan 48 = .ok (.if_icmp .ne 10, 3) := by decide +kernel
theorem dX7_loan_51 : decode cX7_loan 51 = .ok (.aload_n 0, 1) := by decide +kernel
theorem dX7_loan_52 : decode cX7_loan 52 = .ok (.ldc 135, 2) := by decide +kernel
theorem dX7_loan_54 : decode cX7_loan 54 = .ok (.invokevirtual 132, 3) := by decide +kernel
theorem dX7_loan_57 : decode cX7_loan 57 = .ok (.ireturn, 1) := by decide +kernel
theorem dX7_loan_58 : decode cX7_loan 58 = .ok (.aload_n 0, 1) := by decide +kernel
theorem dX7_loan_59 : decode cX7_loan 59 = .ok (.getfield 72, 3) := by decide +kernel
theorem dX7_loan_62 : decode cX7_loan 62 = .ok (.aload_n 0, 1) := by decide +kernel
theorem dX7_loan_63 : decode cX7_loan 63 = .ok (.getfield 211, 3) := by decide +kernel
theorem dX7_loan_66 : decode cX7_loan 66 = .ok (.iload_n 2, 1) := by decide +kernel
theorem dX7_loan_67 : decode cX7_loan 67 = .ok (.iastore, 1) := by decide +kernel
theorem dX7_loan_68 : decode cX7_loan 68 = .ok (.aload_n 0, 1) := by decide +kernel
theorem dX7_loan_69 : decode cX7_loan 69 = .ok (.getfield 75, 3) := by decide +kernel
theorem dX7_loan_72 : decode cX7_loan 72 = .ok (.aload_n 0, 1) := by decide +kernel
theorem dX7_loan_73 : decode cX7_loan 73 = .ok (.getfield 211, 3) := by decide +kernel
theorem dX7_loan_76 : decode cX7_loan 76 = .ok (.aload_n 0, 1) := by decide +kernel
theorem dX7_loan_77 : decode cX7_loan 77 = .ok (.getfield 154, 3) := by decide +kernel
theorem dX7_loan_80 : decode cX7_loan 80 = .ok (.iastore, 1) := by decide +kernel
theorem dX7_loan_81 : decode cX7_loan 81 = .ok (.aload_n 0, 1) := by decide +kernel
theorem dX7_loan_82 : decode cX7_loan 82 = .ok (.dup, 1) := by decide +kernel
theorem dX7_loan_83 : decode cX7_loan 83 = .ok (.getfield 211, 3) := by decide +kernel
theorem dX7_loan_86 : decode cX7_loan 86 = .ok (.iconst 1, 1) := by decide +kernel
theorem dX7_loan_87 : decode cX7_loan 87 = .ok (.iadd, 1) := by decide +kernel
theorem dX7_loan_88 : decode cX7_loan 88 = .ok (.putfield 211, 3) := by decide +kernel
theorem dX7_loan_91 : decode cX7_loan 91 = .ok (.aload_n 0, 1) := by decide +kernel
theorem dX7_loan_92 : decode cX7_loan 92 = .ok (.getfield 211, 3) := by decide +kernel
theorem dX7_loan_95 : decode cX7_loan 95 = .ok (.iconst 1, 1) := by decide +kernel
theorem dX7_loan_96 : decode cX7_loan 96 = .ok (.isub, 1) := by decide +kernel
theorem dX7_loan_97 : decode cX7_loan 97 = .ok (.ireturn, 1) := by decide +kernel
theorem dX7_lines_0 : decode cX7_lines 0 = .ok (.iconst 0, 1) := by decide +kernel
theorem dX7_lines_1 : decode cX7_lines 1 = .ok (.istore_n 2, 1) := by decide +kernel
theorem dX7_lines_2 : decode cX7_lines 2 = .ok (.iload_n 2, 1) := by decide +kernel
theorem dX7_lines_3 : decode cX7_lines 3 = .ok (.bipush 22, 2) := by decide +kernel
theorem dX7_lines_5 : decode cX7_lines 5 = .ok (.if_icmp .ge 153, 3) := by decide +kernel
theorem dX7_lines_8 : decode cX7_lines 8 = .ok (.aload_n 0, 1) := by decide +kernel
theorem dX7_lines_9 : decode cX7_lines 9 = .ok (.getfield 111, 3) := by decide +kernel
theorem dX7_lines_12 : decode cX7_lines 12 = .ok (.iload_n 2, 1) := by decide +kernel
theorem dX7_lines_13 : decode cX7_lines 13 = .ok (.iconst 0, 1) := by decide +kernel
theorem dX7_lines_14 : decode cX7_lines 14 = .ok (.iastore, 1) := by decide +kernel
theorem dX7_lines_15 : decode cX7_lines 15 = .ok (.aload_n 0, 1) := by decide +kernel
theorem dX7_lines_16 : decode cX7_lines 16 = .ok (.getfield 102, 3) := by decide +kernel
theorem dX7_lines_19 : decode cX7_lines 19 = .ok (.iload_n 2, 1) := by decide +kernel
theorem dX7_lines_20 : decode cX7_lines 20 = .ok (.iconst 0, 1) := by decide +kernel
theorem dX7_lines_21 : decode cX7_lines 21 = .ok (.bastore, 1) := by decide +kernel
theorem dX7_lines_22 : decode cX7_lines 22 = .ok (.iload_n 2, 1) := by decide +kernel
theorem dX7_lines_23 : decode cX7_lines 23 = .ok (.bipush 6, 2) := by decide +kernel
theorem dX7_lines_25 : decode cX7_lines 25 = .ok (.if_icmp .ge 45, 3) := by decide +kernel
theorem dX7_lines_28 : decode cX7_lines 28 = .ok (.iload_n 2, 1) := by decide +kernel
theorem dX7_lines_29 : decode cX7_lines 29 = .ok (.aload_n 0, 1) := by decide +kernel
theorem dX7_lines_30 : decode cX7_lines 30 = .ok (.getfield 211, 3) := by decide +kernel
theorem dX7_lines_33 : decode cX7_lines 33 = .ok (.if_icmp .ge 37, 3) := by decide +kernel
theorem dX7_lines_36 : decode cX7_lines 36 = .ok (.aload_n 0, 1) := by decide +kernel
theorem dX7_lines_37 : decode cX7_lines 37 = .ok (.getfield 102, 3) := by decide +kernel
theorem dX7_lines_40 : decode cX7_lines 40 = .ok (.iload_n 2, 1) := by decide +kernel
theorem dX7_lines_41 : decode cX7_lines 41 = .ok (.iconst 1, 1) := by decide +kernel
theorem dX7_lines_42 : decode cX7_lines 42 = .ok (.bastore, 1) := by decide +kernel
theorem dX7_lines_43 : decode cX7_lines 43 = .ok (.aload_n 0, 1) := by decide +kernel
theorem dX7_lines_44 : decode cX7_lines 44 = .ok (.getfield 105, 3) := by decide +kernel
theorem dX7_lines_47 : decode cX7_lines 47 = .ok (.iload_n 2, 1) := by decide +kernel
theorem dX7_lines_48 : decode cX7_lines 48 = .ok (.aload_n 0, 1) := by decide +kernel
theorem dX7_lines_49 : decode cX7_lines 49 = .ok (.getfield 75, 3) := by decide +kernel
theorem dX7_lines_52 : decode cX7_lines 52 = .ok (.iload_n 2, 1) := by decide +kernel
theorem dX7_lines_53 : decode cX7_lines 53 = .ok (.iaload, 1) := by decide +kernel
theorem dX7_lines_54 : decode cX7_lines 54 = .ok (.iastore, 1) := by decide +kernel
theorem dX7_lines_55 : decode cX7_lines 55 = .ok (.aload_n 0, 1) := by decide +kernel
theorem dX7_lines_56 : decode cX7_lines 56 = .ok (.getfield 108, 3) := by decide +kernel
theorem dX7_lines_59 : decode cX7_lines 59 = .ok (.iload_n 2, 1) := by decide +kernel
theorem dX7_lines_60 : decode cX7_lines 60 = .ok (.aload_n 0, 1) := by decide +kernel
theorem dX7_lines_61 : decode cX7_lines 61 = .ok (.getfield 72, 3) := by decide +kernel
theorem dX7_lines_64 : decode cX7_lines 64 = .ok (.iload_n 2, 1) := by decide +kernel
theorem dX7_lines_65 : decode cX7_lines 65 = .ok (.iaload, 1) := by decide +kernel
theorem dX7_lines_66 : decode cX7_lines 66 = .ok (.iastore, 1) := by decide +kernel
theorem dX7_lines_67 : decode cX7_lines 67 = .ok (.goto 85, 3) := by decide +kernel
theorem dX7_lines_70 : decode cX7_lines 70 = .ok (.iload_n 2, 1) := by decide +kernel
theorem dX7_lines_71 : decode cX7_lines 71 = .ok (.bipush 6, 2) := by decide +kernel
theorem dX7_lines_73 : decode cX7_lines 73 = .ok (.if_icmp .lt 79, 3) := by decide +kernel
theorem dX7_lines_76 : decode cX7_lines 76 = .ok (.iload_n 2, 1) := by decide +kernel
theorem dX7_lines_77 : decode cX7_lines 77 = .ok (.bipush 6, 2) := by decide +kernel
theorem dX7_lines_79 : decode cX7_lines 79 = .ok (.isub, 1) := by decide +kernel
theorem dX7_lines_80 : decode cX7_lines 80 = .ok (.aload_n 0, 1) := by decide +kernel
theorem dX7_lines_81 : decode cX7_lines 81 = .ok (.getfield 128, 3) := by decide +kernel
theorem dX7_lines_84 : decode cX7_lines 84 = .ok (.if_icmp .ge 68, 3) := by decide +kernel
theorem dX7_lines_87 : decode cX7_lines 87 = .ok (.iload_n 2, 1) := by decide +kernel
theorem dX7_lines_88 : decode cX7_lines 88 = .ok (.bipush 6, 2) := by decide +kernel
theorem dX7_lines_90 : decode cX7_lines 90 = .ok (.isub, 1) := by decide +kernel
theorem dX7_lines_91 : decode cX7_lines 91 = .ok (.istore_n 3, 1) := by decide +kernel
theorem dX7_lines_92 : decode cX7_lines 92 = .ok (.aload_n 0, 1) := by decide +kernel
theorem dX7_lines_93 : decode cX7_lines 93 = .ok (.getfield 102, 3) := by decide +kernel
theorem dX7_lines_96 : decode cX7_lines 96 = .ok (.iload_n 2, 1) := by decide +kernel
theorem dX7_lines_97 : decode cX7_lines 97 = .ok (.aload_n 0, 1) := by decide +kernel
theorem dX7_lines_98 : decode cX7_lines 98 = .ok (.getfield 69, 3) := by decide +kernel
theorem dX7_lines_101 : decode cX7_lines 101 = .ok (.iload_n 3, 1) := by decide +kernel
theorem dX7_lines_102 : decode cX7_lines 102 = .ok (.baload, 1) := by decide +kernel
theorem dX7_lines_103 : decode cX7_lines 103 = .ok (.ifCond .ne 20, 3) := by decide +kernel
theorem dX7_lines_106 : decode cX7_lines 106 = .ok (.aload_n 0, 1) := by decide +kernel
theorem dX7_lines_107 : decode cX7_lines 107 = .ok (.iload_n 3, 1) := by decide +kernel
theorem dX7_lines_108 : decode cX7_lines 108 = .ok (.aload_n 0, 1) := by decide +kernel
theorem dX7_lines_109 : decode cX7_lines 109 = .ok (.getfield 154, 3) := by decide +kernel
theorem dX7_lines_112 : decode cX7_lines 112 = .ok (.invokevirtual 198, 3) := by decide +kernel
theorem dX7_lines_115 : decode cX7_lines 115 = .ok (.iload_n 1, 1) := by decide +kernel
theorem dX7_lines_116 : decode cX7_lines 116 = .ok (.if_icmp .le 7, 3) := by decide +kernel
theorem dX7_lines_119 : decode cX7_lines 119 = .ok (.iconst 1, 1) := by decide +kernel
theorem dX7_lines_120 : decode cX7_lines 120 = .ok (.goto 4, 3) := by decide +kernel
theorem dX7_lines_123 : decode cX7_lines 123 = .ok (.iconst 0, 1) := by decide +kernel
theorem dX7_lines_124 : decode cX7_lines 124 = .ok (.bastore, 1) := by decide +kernel
theorem dX7_lines_125 : decode cX7_lines 125 = .ok (.aload_n 0, 1) := by decide +kernel
theorem dX7_lines_126 : decode cX7_lines 126 = .ok (.getfield 105, 3) := by decide +kernel
theorem dX7_lines_129 : decode cX7_lines 129 = .ok (.iload_n 2, 1) := by decide +kernel
theorem dX7_lines_130 : decode cX7_lines 130 = .ok (.aload_n 0, 1) := by decide +kernel
theorem dX7_lines_131 : decode cX7_lines 131 = .ok (.iload_n 3, 1) := by decide +kernel
theorem dX7_lines_132 : decode cX7_lines 132 = .ok (.iload_n 1, 1) := by decide +kernel
theorem dX7_lines_133 : decode cX7_lines 133 = .ok (.invokevirtual 208, 3) := by decide +kernel
theorem dX7_lines_136 : decode cX7_lines 136 = .ok (.iastore, 1) := by decide +kernel
theorem dX7_lines_137 : decode cX7_lines 137 = .ok (.aload_n 0, 1) := by decide +kernel
theorem dX7_lines_138 : decode cX7_lines 138 = .ok (.getfield 108, 3) := by decide +kernel
theorem dX7_lines_141 : decode cX7_lines 141 = .ok (.iload_n 2, 1) := by decide +kernel
theorem dX7_lines_142 : decode cX7_lines 142 = .ok (.aload_n 0, 1) := by decide +kernel
theorem dX7_lines_143 : decode cX7_lines 143 = .ok (.iload_n 3, 1) := by decide +kernel
theorem dX7_lines_144 : decode cX7_lines 144 = .ok (.aload_n 0, 1) := by decide +kernel
theorem dX7_lines_145 : decode cX7_lines 145 = .ok (.getfield 154, 3) := by decide +kernel
theorem dX7_lines_148 : decode cX7_lines 148 = .ok (.invokevirtual 205, 3) := by decide +kernel
theorem dX7_lines_151 : decode cX7_lines 151 = .ok (.iastore, 1) := by decide +kernel
theorem dX7_lines_152 : decode cX7_lines 152 = .ok (.iinc 2 1, 3) := by decide +kernel
theorem dX7_lines_155 : decode cX7_lines 155 = .ok (.goto (-153), 3) := by decide +kernel
theorem dX7_lines_158 : decode cX7_lines 158 = .ok (.return_, 1) := by decide +kernel
theorem dX7_nextRank_0 : decode cX7_nextRank 0 = .ok (.iconst (-1), 1) := by decide +kernel
theorem dX7_nextRank_1 : decode cX7_nextRank 1 = .ok (.istore_n 2, 1) := by decide +kernel
theorem dX7_nextRank_2 : decode cX7_nextRank 2 = .ok (.iconst 0, 1) := by decide +kernel
theorem dX7_nextRank_3 : decode cX7_nextRank 3 = .ok (.istore_n 3, 1) := by decide +kernel
theorem dX7_nextRank_4 : decode cX7_nextRank 4 = .ok (.iload_n 3, 1) := by decide +kernel
theorem dX7_nextRank_5 : decode cX7_nextRank 5 = .ok (.bipush 22, 2) := by decide +kernel
theorem dX7_nextRank_7 : decode cX7_nextRank 7 = .ok (.if_icmp .ge 54, 3) := by decide +kernel
theorem dX7_nextRank_10 : decode cX7_nextRank 10 = .ok (.aload_n 0, 1) := by decide +kernel
theorem dX7_nextRank_11 : decode cX7_nextRank 11 = .ok (.getfield 102, 3) := by decide +kernel
theorem dX7_nextRank_14 : decode cX7_nextRank 14 = .ok (.iload_n 3, 1) := by decide +kernel
theorem dX7_nextRank_15 : decode cX7_nextRank 15 = .ok (.baload, 1) := by decide +kernel
theorem dX7_nextRank_16 : decode cX7_nextRank 16 = .ok (.ifCond .eq 37, 3) := by decide +kernel
theorem dX7_nextRank_19 : decode cX7_nextRank 19 = .ok (.aload_n 0, 1) := by decide +kernel
theorem dX7_nextRank_20 : decode cX7_nextRank 20 = .ok (.getfield 105, 3) := by decide +kernel
theorem dX7_nextRank_23 : decode cX7_nextRank 23 = .ok (.iload_n 3, 1) := by decide +kernel
theorem dX7_nextRank_24 : decode cX7_nextRank 24 = .ok (.iaload, 1) := by decide +kernel
theorem dX7_nextRank_25 : decode cX7_nextRank 25 = .ok (.iload_n 1, 1) := by decide +kernel
theorem dX7_nextRank_26 : decode cX7_nextRank 26 = .ok (.if_icmp .lt 27, 3) := by decide +kernel
theorem dX7_nextRank_29 : decode cX7_nextRank 29 = .ok (.iload_n 2, 1) := by decide +kernel
theorem dX7_nextRank_30 : decode cX7_nextRank 30 = .ok (.iconst (-1), 1) := by decide +kernel
theorem dX7_nextRank_31 : decode cX7_nextRank 31 = .ok (.if_icmp .eq 13, 3) := by decide +kernel
theorem dX7_nextRank_34 : decode cX7_nextRank 34 = .ok (.aload_n 0, 1) := by decide +kernel
theorem dX7_nextRank_35 : decode cX7_nextRank 35 = .ok (.getfield 105, 3) := by decide +kernel
theorem dX7_nextRank_38 : decode cX7_nextRank 38 = .ok (.iload_n 3, 1) := by decide +kernel
theorem dX7_nextRank_39 : decode cX7_nextRank 39 = .ok (.iaload, 1) := by decide +kernel
theorem dX7_nextRank_40 : decode cX7_nextRank 40 = .ok (.iload_n 2, 1) := by decide +kernel
theorem dX7_nextRank_41 : decode cX7_nextRank 41 = .ok (.if_icmp .ge 12, 3) := by decide +kernel
theorem dX7_nextRank_44 : decode cX7_nextRank 44 = .ok (.aload_n 0, 1) := by decide +kernel
theorem dX7_nextRank_45 : decode cX7_nextRank 45 = .ok (.getfield 105, 3) := by decide +kernel
theorem dX7_nextRank_48 : decode cX7_nextRank 48 = .ok (.iload_n 3, 1) := by decide +kernel
theorem dX7_nextRank_49 : decode cX7_nextRank 49 = .ok (.iaload, 1) := by decide +kernel
theorem dX7_nextRank_50 : decode cX7_nextRank 50 = .ok (.goto 4, 3) := by decide +kernel
theorem dX7_nextRank_53 : decode cX7_nextRank 53 = .ok (.iload_n 2, 1) := by decide +kernel
theorem dX7_nextRank_54 : decode cX7_nextRank 54 = .ok (.istore_n 2, 1) := by decide +kernel
theorem dX7_nextRank_55 : decode cX7_nextRank 55 = .ok (.iinc 3 1, 3) := by decide +kernel
theorem dX7_nextRank_58 : decode cX7_nextRank 58 = .ok (.goto (-54), 3) := by decide +kernel
theorem dX7_nextRank_61 : decode cX7_nextRank 61 = .ok (.iload_n 2, 1) := by decide +kernel
theorem dX7_nextRank_62 : decode cX7_nextRank 62 = .ok (.ireturn, 1) := by decide +kernel
theorem dX7_sell_0 : decode cX7_sell 0 = .ok (.aload_n 0, 1) := by decide +kernel
theorem dX7_sell_1 : decode cX7_sell 1 = .ok (.iload_n 2, 1) := by decide +kernel
theorem dX7_sell_2 : decode cX7_sell 2 = .ok (.invokevirtual 214, 3) := by decide +kernel
theorem dX7_sell_5 : decode cX7_sell 5 = .ok (.iload_n 1, 1) := by decide +kernel
theorem dX7_sell_6 : decode cX7_sell 6 = .ok (.i2l, 1) := by decide +kernel
theorem dX7_sell_7 : decode cX7_sell 7 = .ok (.lstore_n 3, 1) := by decide +kernel
theorem dX7_sell_8 : decode cX7_sell 8 = .ok (.aload_n 0, 1) := by decide +kernel
theorem dX7_sell_9 : decode cX7_sell 9 = .ok (.iconst 0, 1) := by decide +kernel
theorem dX7_sell_10 : decode cX7_sell 10 = .ok (.invokevirtual 218, 3) := by decide +kernel
theorem dX7_sell_13 : decode cX7_sell 13 = .ok (.istore 5, 2) := by decide +kernel
theorem dX7_sell_15 : decode cX7_sell 15 = .ok (.iload 5, 2) := by decide +kernel
theorem dX7_sell_17 : decode cX7_sell 17 = .ok (.iconst (-1), 1) := by decide +kernel
theorem dX7_sell_18 : decode cX7_sell 18 = .ok (.if_icmp .eq 246, 3) := by decide +kernel
theorem dX7_sell_21 : decode cX7_sell 21 = .ok (.lconst 0, 1) := by decide +kernel
theorem dX7_sell_22 : decode cX7_sell 22 = .ok (.lstore 6, 2) := by decide +kernel
theorem dX7_sell_24 : decode cX7_sell 24 = .ok (.iconst 0, 1) := by decide +kernel
theorem dX7_sell_25 : decode cX7_sell 25 = .ok (.istore 8, 2) := by decide +kernel
theorem dX7_sell_27 : decode cX7_sell 27 = .ok (.iload 8, 2) := by decide +kernel
theorem dX7_sell_29 : decode cX7_sell 29 = .ok (.bipush 22, 2) := by decide +kernel
theorem dX7_sell_31 : decode cX7_sell 31 = .ok (.if_icmp .ge 48, 3) := by decide +kernel
theorem dX7_sell_34 : decode cX7_sell 34 = .ok (.lload 6, 2) := by decide +kernel
theorem dX7_sell_36 : decode cX7_sell 36 = .ok (.aload_n 0, 1) := by decide +kernel
theorem dX7_sell_37 : decode cX7_sell 37 = .ok (.getfield 102, 3) := by decide +kernel
theorem dX7_sell_40 : decode cX7_sell 40 = .ok (.iload 8, 2) := by decide +kernel
theorem dX7_sell_42 : decode cX7_sell 42 = .ok (.baload, 1) := by decide +kernel
theorem dX7_sell_43 : decode cX7_sell 43 = .ok (.ifCond .eq 26, 3) := by decide +kernel
theorem dX7_sell_46 : decode cX7_sell 46 = .ok (.aload_n 0, 1) := by decide +kernel
theorem dX7_sell_47 : decode cX7_sell 47 = .ok (.getfield 105, 3) := by decide +kernel
theorem dX7_sell_50 : decode cX7_sell 50 = .ok (.iload 8, 2) := by decide +kernel
theorem dX7_sell_52 : decode cX7_sell 52 = .ok (.iaload, 1) := by decide +kernel
theorem dX7_sell_53 : decode cX7_sell 53 = .ok (.iload 5, 2) := by decide +kernel
theorem dX7_sell_55 : decode cX7_sell 55 = .ok (.if_icmp .ne 14, 3) := by decide +kernel
theorem dX7_sell_58 : decode cX7_sell 58 = .ok (.aload_n 0, 1) := by decide +kernel
theorem dX7_sell_59 : decode cX7_sell 59 = .ok (.getfield 108, 3) := by decide +kernel
theorem dX7_sell_62 : decode cX7_sell 62 = .ok (.iload 8, 2) := by decide +kernel
theorem dX7_sell_64 : decode cX7_sell 64 = .ok (.iaload, 1) := by decide +kernel
theorem dX7_sell_65 : decode cX7_sell 65 = .ok (.i2l, 1) := by decide +kernel
theorem dX7_sell_66 : decode cX7_sell 66 = .ok (.goto 4, 3) := by decide +kernel
theorem dX7_sell_69 : decode cX7_sell 69 = .ok (.lconst 0, 1) := by decide +kernel
theorem dX7_sell_70 : decode cX7_sell 70 = .ok (.ladd, 1) := by decide +kernel
theorem dX7_sell_71 : decode cX7_sell 71 = .ok (.lstore 6, 2) := by decide +kernel
theorem dX7_sell_73 : decode cX7_sell 73 = .ok (.iinc 8 1, 3) := by decide +kernel
theorem dX7_sell_76 : decode cX7_sell 76 = .ok (.goto (-49), 3) := by decide +kernel
theorem dX7_sell_79 : decode cX7_sell 79 = .ok (.lconst 0, 1) := by decide +kernel
theorem dX7_sell_80 : decode cX7_sell 80 = .ok (.lstore 8, 2) := by decide +kernel
theorem dX7_sell_82 : decode cX7_sell 82 = .ok (.iconst 0, 1) := by decide +kernel
theorem dX7_sell_83 : decode cX7_sell 83 = .ok (.istore 10, 2) := by decide +kernel
theorem dX7_sell_85 : decode cX7_sell 85 = .ok (.iload 10, 2) := by decide +kernel
theorem dX7_sell_87 : decode cX7_sell 87 = .ok (.bipush 22, 2) := by decide +kernel
theorem dX7_sell_89 : decode cX7_sell 89 = .ok (.if_icmp .ge 85, 3) := by decide +kernel
theorem dX7_sell_92 : decode cX7_sell 92 = .ok (.aload_n 0, 1) := by decide +kernel
theorem dX7_sell_93 : decode cX7_sell 93 = .ok (.getfield 102, 3) := by decide +kernel
theorem dX7_sell_96 : decode cX7_sell 96 = .ok (.iload 10, 2) := by decide +kernel
theorem dX7_sell_98 : decode cX7_sell 98 = .ok (.baload, 1) := by decide +kernel
theorem dX7_sell_99 : decode cX7_sell 99 = .ok (.ifCond .eq 69, 3) := by decide +kernel
theorem dX7_sell_102 : decode cX7_sell 102 = .ok (.aload_n 0, 1) := by decide +kernel
theorem dX7_sell_103 : decode cX7_sell 103 = .ok (.getfield 105, 3) := by decide +kernel
theorem dX7_sell_106 : decode cX7_sell 106 = .ok (.iload 10, 2) := by decide +kernel
theorem dX7_sell_108 : decode cX7_sell 108 = .ok (.iaload, 1) := by decide +kernel
theorem dX7_sell_109 : decode cX7_sell 109 = .ok (.iload 5, 2) := by decide +kernel
theorem dX7_sell_111 : decode cX7_sell 111 = .ok (.if_icmp .eq 6, 3) := by decide +kernel
theorem dX7_sell_114 : decode cX7_sell 114 = .ok (.goto 54, 3) := by decide +kernel
theorem dX7_sell_117 : decode cX7_sell 117 = .ok (.aload_n 0, 1) := by decide +kernel
theorem dX7_sell_118 : decode cX7_sell 118 = .ok (.getfield 111, 3) := by decide +kernel
theorem dX7_sell_121 : decode cX7_sell 121 = .ok (.iload 10, 2) := by decide +kernel
theorem dX7_sell_123 : decode cX7_sell 123 = .ok (.lload_n 3, 1) := by decide +kernel
theorem dX7_sell_124 : decode cX7_sell 124 = .ok (.lload 6, 2) := by decide +kernel
theorem dX7_sell_126 : decode cX7_sell 126 = .ok (.lcmp, 1) := by decide +kernel
theorem dX7_sell_127 : decode cX7_sell 127 = .ok (.ifCond .lt 13, 3) := by decide +kernel
theorem dX7_sell_130 : decode cX7_sell 130 = .ok (.aload_n 0, 1) := by decide +kernel
theorem dX7_sell_131 : decode cX7_sell 131 = .ok (.getfield 108, 3) := by decide +kernel
theorem dX7_sell_134 : decode cX7_sell 134 = .ok (.iload 10, 2) := by decide +kernel
theorem dX7_sell_136 : decode cX7_sell 136 = .ok (.iaload, 1) := by decide +kernel
theorem dX7_sell_137 : decode cX7_sell 137 = .ok (.goto 17, 3) := by decide +kernel
theorem dX7_sell_140 : decode cX7_sell 140 = .ok (.lload_n 3, 1) := by decide +kernel
theorem dX7_sell_141 : decode cX7_sell 141 = .ok (.aload_n 0, 1) := by decide +kernel
theorem dX7_sell_142 : decode cX7_sell 142 = .ok (.getfield 108, 3) := by decide +kernel
theorem dX7_sell_145 : decode cX7_sell 145 = .ok (.iload 10, 2) := by decide +kernel
theorem dX7_sell_147 : decode cX7_sell 147 = .ok (.iaload, 1) := by decide +kernel
theorem dX7_sell_148 : decode cX7_sell 148 = .ok (.i2l, 1) := by decide +kernel
theorem dX7_sell_149 : decode cX7_sell 149 = .ok (.lmul, 1) := by decide +kernel
theorem dX7_sell_150 : decode cX7_sell 150 = .ok (.lload 6, 2) := by decide +kernel
theorem dX7_sell_152 : decode cX7_sell 152 = .ok (.ldiv, 1) := by decide +kernel
theorem dX7_sell_153 : decode cX7_sell 153 = .ok (.l2i, 1) := by decide +kernel
theorem dX7_sell_154 : decode cX7_sell 154 = .ok (.iastore, 1) := by decide +kernel
theorem dX7_sell_155 : decode cX7_sell 155 = .ok (.lload 8, 2) := by decide +kernel
theorem dX7_sell_157 : decode cX7_sell 157 = .ok (.aload_n 0, 1) := by decide +kernel
theorem dX7_sell_158 : decode cX7_sell 158 = .ok (.getfield 111, 3) := by decide +kernel
theorem dX7_sell_161 : decode cX7_sell 161 = .ok (.iload 10, 2) := by decide +kernel
theorem dX7_sell_163 : decode cX7_sell 163 = .ok (.iaload, 1) := by decide +kernel
theorem dX7_sell_164 : decode cX7_sell 164 = .ok (.i2l, 1) := by decide +kernel
theorem dX7_sell_165 : decode cX7_sell 165 = .ok (.ladd, 1) := by decide +kernel
theorem dX7_sell_166 : decode cX7_sell 166 = .ok (.lstore 8, 2) := by decide +kernel
theorem dX7_sell_168 : decode cX7_sell 168 = .ok (.iinc 10 1, 3) := by decide +kernel
theorem dX7_sell_171 : decode cX7_sell 171 = .ok (.goto (-86), 3) := by decide +kernel
theorem dX7_sell_174 : decode cX7_sell 174 = .ok (.iconst 0, 1) := by decide +kernel
theorem dX7_sell_175 : decode cX7_sell 175 = .ok (.istore 10, 2) := by decide +kernel
theorem dX7_sell_177 : decode cX7_sell 177 = .ok (.iload 10, 2) := by decide +kernel
theorem dX7_sell_179 : decode cX7_sell 179 = .ok (.bipush 22, 2) := by decide +kernel
theorem dX7_sell_181 : decode cX7_sell 181 = .ok (.if_icmp .ge 65, 3) := by decide +kernel
theorem dX7_sell_184 : decode cX7_sell 184 = .ok (.lload_n 3, 1) := by decide +kernel
theorem dX7_sell_185 : decode cX7_sell 185 = .ok (.lload 6, 2) := by decide +kernel
theorem dX7_sell_187 : decode cX7_sell 187 = .ok (.lcmp, 1) := by decide +kernel
theorem dX7_sell_188 : decode cX7_sell 188 = .ok (.ifCond .ge 58, 3) := by decide +kernel
theorem dX7_sell_191 : decode cX7_sell 191 = .ok (.aload_n 0, 1) := by decide +kernel
theorem dX7_sell_192 : decode cX7_sell 192 = .ok (.getfield 102, 3) := by decide +kernel
theorem dX7_sell_195 : decode cX7_sell 195 = .ok (.iload 10, 2) := by decide +kernel
theorem dX7_sell_197 : decode cX7_sell 197 = .ok (.baload, 1) := by decide +kernel
theorem dX7_sell_198 : decode cX7_sell 198 = .ok (.ifCond .eq 42, 3) := by decide +kernel
theorem dX7_sell_201 : decode cX7_sell 201 = .ok (.aload_n 0, 1) := by decide +kernel
theorem dX7_sell_202 : decode cX7_sell 202 = .ok (.getfield 105, 3) := by decide +kernel
theorem dX7_sell_205 : decode cX7_sell 205 = .ok (.iload 10, 2) := by decide +kernel
theorem dX7_sell_207 : decode cX7_sell 207 = .ok (.iaload, 1) := by decide +kernel
theorem dX7_sell_208 : decode cX7_sell 208 = .ok (.iload 5, 2) := by decide +kernel
theorem dX7_sell_210 : decode cX7_sell 210 = .ok (.if_icmp .ne 30, 3) := by decide +kernel
theorem dX7_sell_213 : decode cX7_sell 213 = .ok (.lload 8, 2) := by decide +kernel
theorem dX7_sell_215 : decode cX7_sell 215 = .ok (.lload_n 3, 1) := by decide +kernel
theorem dX7_sell_216 : decode cX7_sell 216 = .ok (.lcmp, 1) := by decide +kernel
theorem dX7_sell_217 : decode cX7_sell 217 = .ok (.ifCond .ne 6, 3) := by decide +kernel
theorem dX7_sell_220 : decode cX7_sell 220 = .ok (.goto 20, 3) := by decide +kernel
theorem dX7_sell_223 : decode cX7_sell 223 = .ok (.aload_n 0, 1) := by decide +kernel
theorem dX7_sell_224 : decode cX7_sell 224 = .ok (.getfield 111, 3) := by decide +kernel
theorem dX7_sell_227 : decode cX7_sell 227 = .ok (.iload 10, 2) := by decide +kernel
theorem dX7_sell_229 : decode cX7_sell 229 = .ok (.dup2, 1) := by decide +kernel
theorem dX7_sell_230 : decode cX7_sell 230 = .ok (.iaload, 1) := by decide +kernel
theorem dX7_sell_231 : decode cX7_sell 231 = .ok (.iconst 1, 1) := by decide +kernel
theorem dX7_sell_232 : decode cX7_sell 232 = .ok (.iadd, 1) := by decide +kernel
theorem dX7_sell_233 : decode cX7_sell 233 = .ok (.iastore, 1) := by decide +kernel
theorem dX7_sell_234 : decode cX7_sell 234 = .ok (.lload 8, 2) := by decide +kernel
theorem dX7_sell_236 : decode cX7_sell 236 = .ok (.lconst 1, 1) := by decide +kernel
theorem dX7_sell_237 : decode cX7_sell 237 = .ok (.ladd, 1) := by decide +kernel
theorem dX7_sell_238 : decode cX7_sell 238 = .ok (.lstore 8, 2) := by decide +kernel
theorem dX7_sell_240 : decode cX7_sell 240 = .ok (.iinc 10 1, 3) := by decide +kernel
theorem dX7_sell_243 : decode cX7_sell 243 = .ok (.goto (-66), 3) := by decide +kernel
theorem dX7_sell_246 : decode cX7_sell 246 = .ok (.lload_n 3, 1) := by decide +kernel
theorem dX7_sell_247 : decode cX7_sell 247 = .ok (.lload 8, 2) := by decide +kernel
theorem dX7_sell_249 : decode cX7_sell 249 = .ok (.lsub, 1) := by decide +kernel
theorem dX7_sell_250 : decode cX7_sell 250 = .ok (.lstore_n 3, 1) := by decide +kernel
theorem dX7_sell_251 : decode cX7_sell 251 = .ok (.aload_n 0, 1) := by decide +kernel
theorem dX7_sell_252 : decode cX7_sell 252 = .ok (.iload 5, 2) := by decide +kernel
theorem dX7_sell_254 : decode cX7_sell 254 = .ok (.iconst 1, 1) := by decide +kernel
theorem dX7_sell_255 : decode cX7_sell 255 = .ok (.iadd, 1) := by decide +kernel
theorem dX7_sell_256 : decode cX7_sell 256 = .ok (.invokevirtual 218, 3) := by decide +kernel
theorem dX7_sell_259 : decode cX7_sell 259 = .ok (.istore 5, 2) := by decide +kernel
theorem dX7_sell_261 : decode cX7_sell 261 = .ok (.goto (-246), 3) := by decide +kernel
theorem dX7_sell_264 : decode cX7_sell 264 = .ok (.aload_n 0, 1) := by decide +kernel
theorem dX7_sell_265 : decode cX7_sell 265 = .ok (.lload_n 3, 1) := by decide +kernel
theorem dX7_sell_266 : decode cX7_sell 266 = .ok (.l2i, 1) := by decide +kernel
theorem dX7_sell_267 : decode cX7_sell 267 = .ok (.putfield 221, 3) := by decide +kernel
theorem dX7_sell_270 : decode cX7_sell 270 = .ok (.return_, 1) := by decide +kernel
theorem dX7_sale_0 : decode cX7_sale 0 = .ok (.iload_n 1, 1) := by decide +kernel
theorem dX7_sale_1 : decode cX7_sale 1 = .ok (.iconst 0, 1) := by decide +kernel
theorem dX7_sale_2 : decode cX7_sale 2 = .ok (.ldc 224, 2) := by decide +kernel
theorem dX7_sale_4 : decode cX7_sale 4 = .ok (.invokestatic 121, 3) := by decide +kernel
theorem dX7_sale_7 : decode cX7_sale 7 = .ok (.ifCond .eq 58, 3) := by decide +kernel
theorem dX7_sale_10 : decode cX7_sale 10 = .ok (.iload_n 2, 1) := by decide +kernel
theorem dX7_sale_11 : decode cX7_sale 11 = .ok (.iconst 0, 1) := by decide +kernel
theorem dX7_sale_12 : decode cX7_sale 12 = .ok (.iconst 1, 1) := by decide +kernel
theorem dX7_sale_13 : decode cX7_sale 13 = .ok (.invokestatic 121, 3) := by decide +kernel
theorem dX7_sale_16 : decode cX7_sale 16 = .ok (.ifCond .eq 49, 3) := by decide +kernel
theorem dX7_sale_19 : decode cX7_sale 19 = .ok (.iload_n 3, 1) := by decide +kernel
theorem dX7_sale_20 : decode cX7_sale 20 = .ok (.iconst 0, 1) := by decide +kernel
theorem dX7_sale_21 : decode cX7_sale 21 = .ok (.iconst 2, 1) := by decide +kernel
theorem dX7_sale_22 : decode cX7_sale 22 = .ok (.invokestatic 121, 3) := by decide +kernel
theorem dX7_sale_25 : decode cX7_sale 25 = .ok (.ifCond .eq 40, 3) := by decide +kernel
theorem dX7_sale_28 : decode cX7_sale 28 = .ok (.iload 4, 2) := by decide +kernel
theorem dX7_sale_30 : decode cX7_sale 30 = .ok (.iconst 0, 1) := by decide +kernel
theorem dX7_sale_31 : decode cX7_sale 31 = .ok (.iload_n 3, 1) := by decide +kernel
theorem dX7_sale_32 : decode cX7_sale 32 = .ok (.ifCond .ne 12, 3) := by decide +kernel
theorem dX7_sale_35 : decode cX7_sale 35 = .ok (.aload_n 0, 1) := by decide +kernel
theorem dX7_sale_36 : decode cX7_sale 36 = .ok (.getfield 211, 3) := by decide +kernel
theorem dX7_sale_39 : decode cX7_sale 39 = .ok (.iconst 1, 1) := by decide +kernel
theorem dX7_sale_40 : decode cX7_sale 40 = .ok (.isub, 1) := by decide +kernel
theorem dX7_sale_41 : decode cX7_sale 41 = .ok (.goto 18, 3) := by decide +kernel
theorem dX7_sale_44 : decode cX7_sale 44 = .ok (.iload_n 3, 1) := by decide +kernel
theorem dX7_sale_45 : decode cX7_sale 45 = .ok (.iconst 1, 1) := by decide +kernel
theorem dX7_sale_46 : decode cX7_sale 46 = .ok (.if_icmp .ne 12, 3) := by decide +kernel
theorem dX7_sale_49 : decode cX7_sale 49 = .ok (.aload_n 0, 1) := by decide +kernel
theorem dX7_sale_50 : decode cX7_sale 50 = .ok (.getfield 128, 3) := by decide +kernel
theorem dX7_sale_53 : decode cX7_sale 53 = .ok (.iconst 1, 1) := by decide +kernel
theorem dX7_sale_54 : decode cX7_sale 54 = .ok (.isub, 1) := by decide +kernel
theorem dX7_sale_55 : decode cX7_sale 55 = .ok (.goto 4, 3) := by decide +kernel
theorem dX7_sale_58 : decode cX7_sale 58 = .ok (.iconst 0, 1) := by decide +kernel
theorem dX7_sale_59 : decode cX7_sale 59 = .ok (.invokestatic 121, 3) := by decide +kernel
theorem dX7_sale_62 : decode cX7_sale 62 = .ok (.ifCond .ne 10, 3) := by decide +kernel
theorem dX7_sale_65 : decode cX7_sale 65 = .ok (.aload_n 0, 1) := by decide +kernel
theorem dX7_sale_66 : decode cX7_sale 66 = .ok (.ldc 131, 2) := by decide +kernel
theorem dX7_sale_68 : decode cX7_sale 68 = .ok (.invokevirtual 132, 3) := by decide +kernel
theorem dX7_sale_71 : decode cX7_sale 71 = .ok (.ireturn, 1) := by decide +kernel
theorem dX7_sale_72 : decode cX7_sale 72 = .ok (.aload_n 0, 1) := by decide +kernel
theorem dX7_sale_73 : decode cX7_sale 73 = .ok (.iload_n 1, 1) := by decide +kernel
theorem dX7_sale_74 : decode cX7_sale 74 = .ok (.iload_n 2, 1) := by decide +kernel
theorem dX7_sale_75 : decode cX7_sale 75 = .ok (.invokevirtual 225, 3) := by decide +kernel
theorem dX7_sale_78 : decode cX7_sale 78 = .ok (.iload_n 3, 1) := by decide +kernel
theorem dX7_sale_79 : decode cX7_sale 79 = .ok (.ifCond .ne 13, 3) := by decide +kernel
theorem dX7_sale_82 : decode cX7_sale 82 = .ok (.aload_n 0, 1) := by decide +kernel
theorem dX7_sale_83 : decode cX7_sale 83 = .ok (.getfield 111, 3) := by decide +kernel
theorem dX7_sale_86 : decode cX7_sale 86 = .ok (.iload 4, 2) := by decide +kernel
theorem dX7_sale_88 : decode cX7_sale 88 = .ok (.iaload, 1) := by decide +kernel
theorem dX7_sale_89 : decode cX7_sale 89 = .ok (.goto 25, 3) := by decide +kernel
theorem dX7_sale_92 : decode cX7_sale 92 = .ok (.iload_n 3, 1) := by decide +kernel
theorem dX7_sale_93 : decode cX7_sale 93 = .ok (.iconst 1, 1) := by decide +kernel
theorem dX7_sale_94 : decode cX7_sale 94 = .ok (.if_icmp .ne 16, 3) := by decide +kernel
theorem dX7_sale_97 : decode cX7_sale 97 = .ok (.aload_n 0, 1) := by decide +kernel
theorem dX7_sale_98 : decode cX7_sale 98 = .ok (.getfield 111, 3) := by decide +kernel
theorem dX7_sale_101 : decode cX7_sale 101 = .ok (.bipush 6, 2) := by decide +kernel
theorem dX7_sale_103 : decode cX7_sale 103 = .ok (.iload 4, 2) := by decide +kernel
theorem dX7_sale_105 : decode cX7_sale 105 = .ok (.iadd, 1) := by decide +kernel
theorem dX7_sale_106 : decode cX7_sale 106 = .ok (.iaload, 1) := by decide +kernel
theorem dX7_sale_107 : decode cX7_sale 107 = .ok (.goto 7, 3) := by decide +kernel
theorem dX7_sale_110 : decode cX7_sale 110 = .ok (.aload_n 0, 1) := by decide +kernel
theorem dX7_sale_111 : decode cX7_sale 111 = .ok (.getfield 221, 3) := by decide +kernel
theorem dX7_sale_114 : decode cX7_sale 114 = .ok (.ireturn, 1) := by decide +kernel
theorem dX7_isBelow_0 : decode cX7_isBelow 0 = .ok (.iconst 0, 1) := by decide +kernel
theorem dX7_isBelow_1 : decode cX7_isBelow 1 = .ok (.istore_n 3, 1) := by decide +kernel
theorem dX7_isBelow_2 : decode cX7_isBelow 2 = .ok (.aload_n 0, 1) := by decide +kernel
theorem dX7_isBelow_3 : decode cX7_isBelow 3 = .ok (.iload_n 1, 1) := by decide +kernel
theorem dX7_isBelow_4 : decode cX7_isBelow 4 = .ok (.invokevirtual 169, 3) := by decide +kernel
theorem dX7_isBelow_7 : decode cX7_isBelow 7 = .ok (.istore 4, 2) := by decide +kernel
theorem dX7_isBelow_9 : decode cX7_isBelow 9 = .ok (.iload 4, 2) := by decide +kernel
theorem dX7_isBelow_11 : decode cX7_isBelow 11 = .ok (.iconst (-1), 1) := by decide +kernel
theorem dX7_isBelow_12 : decode cX7_isBelow 12 = .ok (.if_icmp .eq 30, 3) := by decide +kernel
theorem dX7_isBelow_15 : decode cX7_isBelow 15 = .ok (.iload_n 3, 1) := by decide +kernel
theorem dX7_isBelow_16 : decode cX7_isBelow 16 = .ok (.ifCond .ne 9, 3) := by decide +kernel
theorem dX7_isBelow_19 : decode cX7_isBelow 19 = .ok (.iload 4, 2) := by decide +kernel
theorem dX7_isBelow_21 : decode cX7_isBelow 21 = .ok (.iload_n 2, 1) := by decide +kernel
theorem dX7_isBelow_22 : decode cX7_isBelow 22 = .ok (.if_icmp .ne 7, 3) := by decide +kernel
theorem dX7_isBelow_25 : decode cX7_isBelow 25 = .ok (.iconst 1, 1) := by decide +kernel
theorem dX7_isBelow_26 : decode cX7_isBelow 26 = .ok (.goto 4, 3) := by decide +kernel
theorem dX7_isBelow_29 : decode cX7_isBelow 29 = .ok (.iconst 0, 1) := by decide +kernel
theorem dX7_isBelow_30 : decode cX7_isBelow 30 = .ok (.istore_n 3, 1) := by decide +kernel
theorem dX7_isBelow_31 : decode cX7_isBelow 31 = .ok (.aload_n 0, 1) := by decide +kernel
theorem dX7_isBelow_32 : decode cX7_isBelow 32 = .ok (.iload 4, 2) := by decide +kernel
theorem dX7_isBelow_34 : decode cX7_isBelow 34 = .ok (.invokevirtual 169, 3) := by decide +kernel
theorem dX7_isBelow_37 : decode cX7_isBelow 37 = .ok (.istore 4, 2) := by decide +kernel
theorem dX7_isBelow_39 : decode cX7_isBelow 39 = .ok (.goto (-30), 3) := by decide +kernel
theorem dX7_isBelow_42 : decode cX7_isBelow 42 = .ok (.iload_n 3, 1) := by decide +kernel
theorem dX7_isBelow_43 : decode cX7_isBelow 43 = .ok (.ireturn, 1) := by decide +kernel
theorem dX7_twice_0 : decode cX7_twice 0 = .ok (.aload_n 0, 1) := by decide +kernel
theorem dX7_twice_1 : decode cX7_twice 1 = .ok (.iload_n 1, 1) := by decide +kernel
theorem dX7_twice_2 : decode cX7_twice 2 = .ok (.invokevirtual 150, 3) := by decide +kernel
theorem dX7_twice_5 : decode cX7_twice 5 = .ok (.ifCond .ne 10, 3) := by decide +kernel
theorem dX7_twice_8 : decode cX7_twice 8 = .ok (.aload_n 0, 1) := by decide +kernel
theorem dX7_twice_9 : decode cX7_twice 9 = .ok (.ldc 131, 2) := by decide +kernel
theorem dX7_twice_11 : decode cX7_twice 11 = .ok (.invokevirtual 132, 3) := by decide +kernel
theorem dX7_twice_14 : decode cX7_twice 14 = .ok (.ireturn, 1) := by decide +kernel
theorem dX7_twice_15 : decode cX7_twice 15 = .ok (.aload_n 0, 1) := by decide +kernel
theorem dX7_twice_16 : decode cX7_twice 16 = .ok (.iload_n 1, 1) := by decide +kernel
theorem dX7_twice_17 : decode cX7_twice 17 = .ok (.invokevirtual 175, 3) := by decide +kernel
theorem dX7_twice_20 : decode cX7_twice 20 = .ok (.iconst 1, 1) := by decide +kernel
theorem dX7_twice_21 : decode cX7_twice 21 = .ok (.if_icmp .eq 10, 3) := by decide +kernel
theorem dX7_twice_24 : decode cX7_twice 24 = .ok (.aload_n 0, 1) := by decide +kernel
theorem dX7_twice_25 : decode cX7_twice 25 = .ok (.ldc 149, 2) := by decide +kernel
theorem dX7_twice_27 : decode cX7_twice 27 = .ok (.invokevirtual 132, 3) := by decide +kernel
theorem dX7_twice_30 : decode cX7_twice 30 = .ok (.ireturn, 1) := by decide +kernel
theorem dX7_twice_31 : decode cX7_twice 31 = .ok (.iconst 0, 1) := by decide +kernel
theorem dX7_twice_32 : decode cX7_twice 32 = .ok (.istore_n 2, 1) := by decide +kernel
theorem dX7_twice_33 : decode cX7_twice 33 = .ok (.iconst 0, 1) := by decide +kernel
theorem dX7_twice_34 : decode cX7_twice 34 = .ok (.istore_n 3, 1) := by decide +kernel
theorem dX7_twice_35 : decode cX7_twice 35 = .ok (.iload_n 3, 1) := by decide +kernel
theorem dX7_twice_36 : decode cX7_twice 36 = .ok (.aload_n 0, 1) := by decide +kernel
theorem dX7_twice_37 : decode cX7_twice 37 = .ok (.getfield 128, 3) := by decide +kernel
theorem dX7_twice_40 : decode cX7_twice 40 = .ok (.if_icmp .ge 39, 3) := by decide +kernel
theorem dX7_twice_43 : decode cX7_twice 43 = .ok (.iload_n 2, 1) := by decide +kernel
theorem dX7_twice_44 : decode cX7_twice 44 = .ok (.aload_n 0, 1) := by decide +kernel
theorem dX7_twice_45 : decode cX7_twice 45 = .ok (.aload_n 0, 1) := by decide +kernel
theorem dX7_twice_46 : decode cX7_twice 46 = .ok (.getfield 57, 3) := by decide +kernel
theorem dX7_twice_49 : decode cX7_twice 49 = .ok (.iload_n 3, 1) := by decide +kernel
theorem dX7_twice_50 : decode cX7_twice 50 = .ok (.iaload, 1) := by decide +kernel
theorem dX7_twice_51 : decode cX7_twice 51 = .ok (.iload_n 1, 1) := by decide +kernel
theorem dX7_twice_52 : decode cX7_twice 52 = .ok (.invokevirtual 229, 3) := by decide +kernel
theorem dX7_twice_55 : decode cX7_twice 55 = .ok (.ifCond .eq 15, 3) := by decide +kernel
theorem dX7_twice_58 : decode cX7_twice 58 = .ok (.aload_n 0, 1) := by decide +kernel
theorem dX7_twice_59 : decode cX7_twice 59 = .ok (.iload_n 3, 1) := by decide +kernel
theorem dX7_twice_60 : decode cX7_twice 60 = .ok (.aload_n 0, 1) := by decide +kernel
theorem dX7_twice_61 : decode cX7_twice 61 = .ok (.getfield 154, 3) := by decide +kernel
theorem dX7_twice_64 : decode cX7_twice 64 = .ok (.invokevirtual 205, 3) := by decide +kernel
theorem dX7_twice_67 : decode cX7_twice 67 = .ok (.goto 4, 3) := by decide +kernel
theorem dX7_twice_70 : decode cX7_twice 70 = .ok (.iconst 0, 1) := by decide +kernel
theorem dX7_twice_71 : decode cX7_twice 71 = .ok (.iadd, 1) := by decide +kernel
theorem dX7_twice_72 : decode cX7_twice 72 = .ok (.istore_n 2, 1) := by decide +kernel
theorem dX7_twice_73 : decode cX7_twice 73 = .ok (.iinc 3 1, 3) := by decide +kernel
theorem dX7_twice_76 : decode cX7_twice 76 = .ok (.goto (-41), 3) := by decide +kernel
theorem dX7_twice_79 : decode cX7_twice 79 = .ok (.iload_n 2, 1) := by decide +kernel
theorem dX7_twice_80 : decode cX7_twice 80 = .ok (.aload_n 0, 1) := by decide +kernel
theorem dX7_twice_81 : decode cX7_twice 81 = .ok (.iload_n 1, 1) := by decide +kernel
theorem dX7_twice_82 : decode cX7_twice 82 = .ok (.invokevirtual 160, 3) := by decide +kernel
theorem dX7_twice_85 : decode cX7_twice 85 = .ok (.if_icmp .le 13, 3) := by decide +kernel
theorem dX7_twice_88 : decode cX7_twice 88 = .ok (.iload_n 2, 1) := by decide +kernel
theorem dX7_twice_89 : decode cX7_twice 89 = .ok (.aload_n 0, 1) := by decide +kernel
theorem dX7_twice_90 : decode cX7_twice 90 = .ok (.iload_n 1, 1) := by decide +kernel
theorem dX7_twice_91 : decode cX7_twice 91 = .ok (.invokevirtual 160, 3) := by decide +kernel
theorem dX7_twice_94 : decode cX7_twice 94 = .ok (.isub, 1) := by decide +kernel
theorem dX7_twice_95 : decode cX7_twice 95 = .ok (.goto 4, 3) := by decide +kernel
theorem dX7_twice_98 : decode cX7_twice 98 = .ok (.iconst 0, 1) := by decide +kernel
theorem dX7_twice_99 : decode cX7_twice 99 = .ok (.ireturn, 1) := by decide +kernel
theorem dX7_bits_0 : decode cX7_bits 0 = .ok (.iconst 0, 1) := by decide +kernel
theorem dX7_bits_1 : decode cX7_bits 1 = .ok (.istore_n 1, 1) := by decide +kernel
theorem dX7_bits_2 : decode cX7_bits 2 = .ok (.iconst 0, 1) := by decide +kernel
theorem dX7_bits_3 : decode cX7_bits 3 = .ok (.istore_n 2, 1) := by decide +kernel
theorem dX7_bits_4 : decode cX7_bits 4 = .ok (.iload_n 2, 1) := by decide +kernel
theorem dX7_bits_5 : decode cX7_bits 5 = .ok (.bipush 10, 2) := by decide +kernel
theorem dX7_bits_7 : decode cX7_bits 7 = .ok (.if_icmp .ge 17, 3) := by decide +kernel
theorem dX7_bits_10 : decode cX7_bits 10 = .ok (.iload_n 1, 1) := by decide +kernel
theorem dX7_bits_11 : decode cX7_bits 11 = .ok (.iload_n 0, 1) := by decide +kernel
theorem dX7_bits_12 : decode cX7_bits 12 = .ok (.iload_n 2, 1) := by decide +kernel
theorem dX7_bits_13 : decode cX7_bits 13 = .ok (.ishr, 1) := by decide +kernel
theorem dX7_bits_14 : decode cX7_bits 14 = .ok (.iconst 1, 1) := by decide +kernel
theorem dX7_bits_15 : decode cX7_bits 15 = .ok (.iand, 1) := by decide +kernel
theorem dX7_bits_16 : decode cX7_bits 16 = .ok (.iadd, 1) := by decide +kernel
theorem dX7_bits_17 : decode cX7_bits 17 = .ok (.istore_n 1, 1) := by decide +kernel
theorem dX7_bits_18 : decode cX7_bits 18 = .ok (.iinc 2 1, 3) := by decide +kernel
theorem dX7_bits_21 : decode cX7_bits 21 = .ok (.goto (-17), 3) := by decide +kernel
theorem dX7_bits_24 : decode cX7_bits 24 = .ok (.iload_n 1, 1) := by decide +kernel
theorem dX7_bits_25 : decode cX7_bits 25 = .ok (.ireturn, 1) := by decide +kernel
theorem dX7_sign_0 : decode cX7_sign 0 = .ok (.aload_n 0, 1) := by decide +kernel
theorem dX7_sign_1 : decode cX7_sign 1 = .ok (.iload_n 1, 1) := by decide +kernel
theorem dX7_sign_2 : decode cX7_sign 2 = .ok (.invokevirtual 150, 3) := by decide +kernel
theorem dX7_sign_5 : decode cX7_sign 5 = .ok (.ifCond .eq 22, 3) := by decide +kernel
theorem dX7_sign_8 : decode cX7_sign 8 = .ok (.iload_n 2, 1) := by decide +kernel
theorem dX7_sign_9 : decode cX7_sign 9 = .ok (.iconst 0, 1) := by decide +kernel
theorem dX7_sign_10 : decode cX7_sign 10 = .ok (.ldc 153, 2) := by decide +kernel
theorem dX7_sign_12 : decode cX7_sign 12 = .ok (.invokestatic 121, 3) := by decide +kernel
theorem dX7_sign_15 : decode cX7_sign 15 = .ok (.ifCond .eq 12, 3) := by decide +kernel
theorem dX7_sign_18 : decode cX7_sign 18 = .ok (.iload_n 3, 1) := by decide +kernel
theorem dX7_sign_19 : decode cX7_sign 19 = .ok (.iconst 0, 1) := by decide +kernel
theorem dX7_sign_20 : decode cX7_sign 20 = .ok (.iconst 1, 1) := by decide +kernel
theorem dX7_sign_21 : decode cX7_sign 21 = .ok (.invokestatic 121, 3) := by decide +kernel
theorem dX7_sign_24 : decode cX7_sign 24 = .ok (.ifCond .ne 10, 3) := by decide +kernel
theorem dX7_sign_27 : decode cX7_sign 27 = .ok (.aload_n 0, 1) := by decide +kernel
theorem dX7_sign_28 : decode cX7_sign 28 = .ok (.ldc 131, 2) := by decide +kernel
theorem dX7_sign_30 : decode cX7_sign 30 = .ok (.invokevirtual 132, 3) := by decide +kernel
theorem dX7_sign_33 : decode cX7_sign 33 = .ok (.ireturn, 1) := by decide +kernel
theorem dX7_sign_34 : decode cX7_sign 34 = .ok (.aload_n 0, 1) := by decide +kernel
theorem dX7_sign_35 : decode cX7_sign 35 = .ok (.iload_n 1, 1) := by decide +kernel
theorem dX7_sign_36 : decode cX7_sign 36 = .ok (.invokevirtual 175, 3) := by decide +kernel
theorem dX7_sign_39 : decode cX7_sign 39 = .ok (.iconst 1, 1) := by decide +kernel
theorem dX7_sign_40 : decode cX7_sign 40 = .ok (.if_icmp .eq 10, 3) := by decide +kernel
theorem dX7_sign_43 : decode cX7_sign 43 = .ok (.aload_n 0, 1) := by decide +kernel
theorem dX7_sign_44 : decode cX7_sign 44 = .ok (.ldc 149, 2) := by decide +kernel
theorem dX7_sign_46 : decode cX7_sign 46 = .ok (.invokevirtual 132, 3) := by decide +kernel
theorem dX7_sign_49 : decode cX7_sign 49 = .ok (.ireturn, 1) := by decide +kernel
theorem dX7_sign_50 : decode cX7_sign 50 = .ok (.iconst 0, 1) := by decide +kernel
theorem dX7_sign_51 : decode cX7_sign 51 = .ok (.istore 4, 2) := by decide +kernel
theorem dX7_sign_53 : decode cX7_sign 53 = .ok (.iconst 0, 1) := by decide +kernel
theorem dX7_sign_54 : decode cX7_sign 54 = .ok (.istore 5, 2) := by decide +kernel
theorem dX7_sign_56 : decode cX7_sign 56 = .ok (.iload 5, 2) := by decide +kernel
theorem dX7_sign_58 : decode cX7_sign 58 = .ok (.aload_n 0, 1) := by decide +kernel
theorem dX7_sign_59 : decode cX7_sign 59 = .ok (.getfield 125, 3) := by decide +kernel
theorem dX7_sign_62 : decode cX7_sign 62 = .ok (.if_icmp .ge 74, 3) := by decide +kernel
theorem dX7_sign_65 : decode cX7_sign 65 = .ok (.iload 4, 2) := by decide +kernel
theorem dX7_sign_67 : decode cX7_sign 67 = .ok (.aload_n 0, 1) := by decide +kernel
theorem dX7_sign_68 : decode cX7_sign 68 = .ok (.iload 5, 2) := by decide +kernel
theorem dX7_sign_70 : decode cX7_sign 70 = .ok (.iload_n 1, 1) := by decide +kernel
theorem dX7_sign_71 : decode cX7_sign 71 = .ok (.invokevirtual 229, 3) := by decide +kernel
theorem dX7_sign_74 : decode cX7_sign 74 = .ok (.ifCond .eq 10, 3) := by decide +kernel
theorem dX7_sign_77 : decode cX7_sign 77 = .ok (.iconst 1, 1) := by decide +kernel
theorem dX7_sign_78 : decode cX7_sign 78 = .ok (.iload 5, 2) := by decide +kernel
theorem dX7_sign_80 : decode cX7_sign 80 = .ok (.ishl, 1) := by decide +kernel
theorem dX7_sign_81 : decode cX7_sign 81 = .ok (.goto 4, 3) := by decide +kernel
theorem dX7_sign_84 : decode cX7_sign 84 = .ok (.iconst 0, 1) := by decide +kernel
theorem dX7_sign_85 : decode cX7_sign 85 = .ok (.ior, 1) := by decide +kernel
theorem dX7_sign_86 : decode cX7_sign 86 = .ok (.istore 4, 2) := by decide +kernel
theorem dX7_sign_88 : decode cX7_sign 88 = .ok (.aload_n 0, 1) := by decide +kernel
theorem dX7_sign_89 : decode cX7_sign 89 = .ok (.getfield 114, 3) := by decide +kernel
theorem dX7_sign_92 : decode cX7_sign 92 = .ok (.iload 5, 2) := by decide +kernel
theorem dX7_sign_94 : decode cX7_sign 94 = .ok (.aload_n 0, 1) := by decide +kernel
theorem dX7_sign_95 : decode cX7_sign 95 = .ok (.iload 5, 2) := by decide +kernel
theorem dX7_sign_97 : decode cX7_sign 97 = .ok (.iload_n 1, 1) := by decide +kernel
theorem dX7_sign_98 : decode cX7_sign 98 = .ok (.invokevirtual 229, 3) := by decide +kernel
theorem dX7_sign_101 : decode cX7_sign 101 = .ok (.ifCond .eq 27, 3) := by decide +kernel
theorem dX7_sign_104 : decode cX7_sign 104 = .ok (.aload_n 0, 1) := by decide +kernel
theorem dX7_sign_105 : decode cX7_sign 105 = .ok (.iload 5, 2) := by decide +kernel
theorem dX7_sign_107 : decode cX7_sign 107 = .ok (.invokevirtual 175, 3) := by decide +kernel
theorem dX7_sign_110 : decode cX7_sign 110 = .ok (.aload_n 0, 1) := by decide +kernel
theorem dX7_sign_111 : decode cX7_sign 111 = .ok (.getfield 54, 3) := by decide +kernel
theorem dX7_sign_114 : decode cX7_sign 114 = .ok (.iconst 3, 1) := by decide +kernel
theorem dX7_sign_115 : decode cX7_sign 115 = .ok (.iaload, 1) := by decide +kernel
theorem dX7_sign_116 : decode cX7_sign 116 = .ok (.if_icmp .gt 12, 3) := by decide +kernel
theorem dX7_sign_119 : decode cX7_sign 119 = .ok (.aload_n 0, 1) := by decide +kernel
theorem dX7_sign_120 : decode cX7_sign 120 = .ok (.iload 5, 2) := by decide +kernel
theorem dX7_sign_122 : decode cX7_sign 122 = .ok (.invokevirtual 172, 3) := by decide +kernel
theorem dX7_sign_125 : decode cX7_sign 125 = .ok (.goto 4, 3) := by decide +kernel
theorem dX7_sign_128 : decode cX7_sign 128 = .ok (.iconst 0, 1) := by decide +kernel
theorem dX7_sign_129 : decode cX7_sign 129 = .ok (.iastore, 1) := by decide +kernel
theorem dX7_sign_130 : decode cX7_sign 130 = .ok (.iinc 5 1, 3) := by decide +kernel
theorem dX7_sign_133 : decode cX7_sign 133 = .ok (.goto (-77), 3) := by decide +kernel
theorem dX7_sign_136 : decode cX7_sign 136 = .ok (.iconst (-1), 1) := by decide +kernel
theorem dX7_sign_137 : decode cX7_sign 137 = .ok (.istore 5, 2) := by decide +kernel
theorem dX7_sign_139 : decode cX7_sign 139 = .ok (.iconst 0, 1) := by decide +kernel
theorem dX7_sign_140 : decode cX7_sign 140 = .ok (.istore 6, 2) := by decide +kernel
theorem dX7_sign_142 : decode cX7_sign 142 = .ok (.iload 6, 2) := by decide +kernel
theorem dX7_sign_144 : decode cX7_sign 144 = .ok (.iconst 1, 1) := by decide +kernel
theorem dX7_sign_145 : decode cX7_sign 145 = .ok (.aload_n 0, 1) := by decide +kernel
theorem dX7_sign_146 : decode cX7_sign 146 = .ok (.getfield 125, 3) := by decide +kernel
theorem dX7_sign_149 : decode cX7_sign 149 = .ok (.ishl, 1) := by decide +kernel
theorem dX7_sign_150 : decode cX7_sign 150 = .ok (.if_icmp .ge 95, 3) := by decide +kernel
theorem dX7_sign_153 : decode cX7_sign 153 = .ok (.iconst 0, 1) := by decide +kernel
theorem dX7_sign_154 : decode cX7_sign 154 = .ok (.istore 7, 2) := by decide +kernel
theorem dX7_sign_156 : decode cX7_sign 156 = .ok (.iconst 0, 1) := by decide +kernel
theorem dX7_sign_157 : decode cX7_sign 157 = .ok (.istore 8, 2) := by decide +kernel
theorem dX7_sign_159 : decode cX7_sign 159 = .ok (.iload 8, 2) := by decide +kernel
theorem dX7_sign_161 : decode cX7_sign 161 = .ok (.aload_n 0, 1) := by decide +kernel
theorem dX7_sign_162 : decode cX7_sign 162 = .ok (.getfield 125, 3) := by decide +kernel
theorem dX7_sign_165 : decode cX7_sign 165 = .ok (.if_icmp .ge 35, 3) := by decide +kernel
theorem dX7_sign_168 : decode cX7_sign 168 = .ok (.iload 7, 2) := by decide +kernel
theorem dX7_sign_170 : decode cX7_sign 170 = .ok (.iload 6, 2) := by decide +kernel
theorem dX7_sign_172 : decode cX7_sign 172 = .ok (.iload 8, 2) := by decide +kernel
theorem dX7_sign_174 : decode cX7_sign 174 = .ok (.ishr, 1) := by decide +kernel
theorem dX7_sign_175 : decode cX7_sign 175 = .ok (.iconst 1, 1) := by decide +kernel
theorem dX7_sign_176 : decode cX7_sign 176 = .ok (.iand, 1) := by decide +kernel
theorem dX7_sign_177 : decode cX7_sign 177 = .ok (.ifCond .ne 13, 3) := by decide +kernel
theorem dX7_sign_180 : decode cX7_sign 180 = .ok (.aload_n 0, 1) := by decide +kernel
theorem dX7_sign_181 : decode cX7_sign 181 = .ok (.getfield 114, 3) := by decide +kernel
theorem dX7_sign_184 : decode cX7_sign 184 = .ok (.iload 8, 2) := by decide +kernel
theorem dX7_sign_186 : decode cX7_sign 186 = .ok (.iaload, 1) := by decide +kernel
theorem dX7_sign_187 : decode cX7_sign 187 = .ok (.goto 4, 3) := by decide +kernel
theorem dX7_sign_190 : decode cX7_sign 190 = .ok (.iconst 0, 1) := by decide +kernel
theorem dX7_sign_191 : decode cX7_sign 191 = .ok (.iadd, 1) := by decide +kernel
theorem dX7_sign_192 : decode cX7_sign 192 = .ok (.istore 7, 2) := by decide +kernel
theorem dX7_sign_194 : decode cX7_sign 194 = .ok (.iinc 8 1, 3) := by decide +kernel
theorem dX7_sign_197 : decode cX7_sign 197 = .ok (.goto (-38), 3) := by decide +kernel
theorem dX7_sign_200 : decode cX7_sign 200 = .ok (.iload 6, 2) := by decide +kernel
theorem dX7_sign_202 : decode cX7_sign 202 = .ok (.iload 4, 2) := by decide +kernel
theorem dX7_sign_204 : decode cX7_sign 204 = .ok (.iconst (-1), 1) := by decide +kernel
theorem dX7_sign_205 : decode cX7_sign 205 = .ok (.ixor, 1) := by decide +kernel
theorem dX7_sign_206 : decode cX7_sign 206 = .ok (.iand, 1) := by decide +kernel
theorem dX7_sign_207 : decode cX7_sign 207 = .ok (.ifCond .ne 32, 3) := by decide +kernel
theorem dX7_sign_210 : decode cX7_sign 210 = .ok (.iload 7, 2) := by decide +kernel
theorem dX7_sign_212 : decode cX7_sign 212 = .ok (.iload_n 2, 1) := by decide +kernel
theorem dX7_sign_213 : decode cX7_sign 213 = .ok (.if_icmp .gt 26, 3) := by decide +kernel
theorem dX7_sign_216 : decode cX7_sign 216 = .ok (.iload 5, 2) := by decide +kernel
theorem dX7_sign_218 : decode cX7_sign 218 = .ok (.iconst (-1), 1) := by decide +kernel
theorem dX7_sign_219 : decode cX7_sign 219 = .ok (.if_icmp .eq 16, 3) := by decide +kernel
theorem dX7_sign_222 : decode cX7_sign 222 = .ok (.iload 6, 2) := by decide +kernel
theorem dX7_sign_224 : decode cX7_sign 224 = .ok (.invokestatic 232, 3) := by decide +kernel
theorem dX7_sign_227 : decode cX7_sign 227 = .ok (.iload 5, 2) := by decide +kernel
theorem dX7_sign_229 : decode cX7_sign 229 = .ok (.invokestatic 232, 3) := by decide +kernel
theorem dX7_sign_232 : decode cX7_sign 232 = .ok (.if_icmp .ge 7, 3) := by decide +kernel
theorem dX7_sign_235 : decode cX7_sign 235 = .ok (.iload 6, 2) := by decide +kernel
theorem dX7_sign_237 : decode cX7_sign 237 = .ok (.istore 5, 2) := by decide +kernel
theorem dX7_sign_239 : decode cX7_sign 239 = .ok (.iinc 6 1, 3) := by decide +kernel
theorem dX7_sign_242 : decode cX7_sign 242 = .ok (.goto (-100), 3) := by decide +kernel
theorem dX7_sign_245 : decode cX7_sign 245 = .ok (.iload_n 3, 1) := by decide +kernel
theorem dX7_sign_246 : decode cX7_sign 246 = .ok (.ifCond .ne 8, 3) := by decide +kernel
theorem dX7_sign_249 : decode cX7_sign 249 = .ok (.iload 5, 2) := by decide +kernel
theorem dX7_sign_251 : decode cX7_sign 251 = .ok (.goto 8, 3) := by decide +kernel
theorem dX7_sign_254 : decode cX7_sign 254 = .ok (.iload 5, 2) := by decide +kernel
theorem dX7_sign_256 : decode cX7_sign 256 = .ok (.invokestatic 232, 3) := by decide +kernel
theorem dX7_sign_259 : decode cX7_sign 259 = .ok (.ireturn, 1) := by decide +kernel
theorem dX7_isBuilder_0 : decode cX7_isBuilder 0 = .ok (.aload_n 0, 1) := by decide +kernel
theorem dX7_isBuilder_1 : decode cX7_isBuilder 1 = .ok (.getfield 13, 3) := by decide +kernel
theorem dX7_isBuilder_4 : decode cX7_isBuilder 4 = .ok (.iload_n 1, 1) := by decide +kernel
theorem dX7_isBuilder_5 : decode cX7_isBuilder 5 = .ok (.iaload, 1) := by decide +kernel
theorem dX7_isBuilder_6 : decode cX7_isBuilder 6 = .ok (.iconst 2, 1) := by decide +kernel
theorem dX7_isBuilder_7 : decode cX7_isBuilder 7 = .ok (.invokestatic 140, 3) := by decide +kernel
theorem dX7_isBuilder_10 : decode cX7_isBuilder 10 = .ok (.ireturn, 1) := by decide +kernel
theorem dX7_in_0 : decode cX7_in 0 = .ok (.aload_n 0, 1) := by decide +kernel
theorem dX7_in_1 : decode cX7_in 1 = .ok (.iload_n 1, 1) := by decide +kernel
theorem dX7_in_2 : decode cX7_in 2 = .ok (.invokevirtual 136, 3) := by decide +kernel
theorem dX7_in_5 : decode cX7_in 5 = .ok (.ifCond .eq 26, 3) := by decide +kernel
theorem dX7_in_8 : decode cX7_in 8 = .ok (.iload_n 2, 1) := by decide +kernel
theorem dX7_in_9 : decode cX7_in 9 = .ok (.iconst (-1), 1) := by decide +kernel
theorem dX7_in_10 : decode cX7_in 10 = .ok (.if_icmp .eq 11, 3) := by decide +kernel
theorem dX7_in_13 : decode cX7_in 13 = .ok (.aload_n 0, 1) := by decide +kernel
theorem dX7_in_14 : decode cX7_in 14 = .ok (.iload_n 2, 1) := by decide +kernel
theorem dX7_in_15 : decode cX7_in 15 = .ok (.invokevirtual 150, 3) := by decide +kernel
theorem dX7_in_18 : decode cX7_in 18 = .ok (.ifCond .eq 13, 3) := by decide +kernel
theorem dX7_in_21 : decode cX7_in 21 = .ok (.iload_n 3, 1) := by decide +kernel
theorem dX7_in_22 : decode cX7_in 22 = .ok (.iconst 1, 1) := by decide +kernel
theorem dX7_in_23 : decode cX7_in 23 = .ok (.ldc 145, 2) := by decide +kernel
theorem dX7_in_25 : decode cX7_in 25 = .ok (.invokestatic 121, 3) := by decide +kernel
theorem dX7_in_28 : decode cX7_in 28 = .ok (.ifCond .ne 10, 3) := by decide +kernel
theorem dX7_in_31 : decode cX7_in 31 = .ok (.aload_n 0, 1) := by decide +kernel
theorem dX7_in_32 : decode cX7_in 32 = .ok (.ldc 131, 2) := by decide +kernel
theorem dX7_in_34 : decode cX7_in 34 = .ok (.invokevirtual 132, 3) := by decide +kernel
theorem dX7_in_37 : decode cX7_in 37 = .ok (.ireturn, 1) := by decide +kernel
theorem dX7_in_38 : decode cX7_in 38 = .ok (.aload_n 0, 1) := by decide +kernel
theorem dX7_in_39 : decode cX7_in 39 = .ok (.iload_n 1, 1) := by decide +kernel
theorem dX7_in_40 : decode cX7_in 40 = .ok (.invokevirtual 235, 3) := by decide +kernel
theorem dX7_in_43 : decode cX7_in 43 = .ok (.ifCond .ne 10, 3) := by decide +kernel
theorem dX7_in_46 : decode cX7_in 46 = .ok (.aload_n 0, 1) := by decide +kernel
theorem dX7_in_47 : decode cX7_in 47 = .ok (.ldc 144, 2) := by decide +kernel
theorem dX7_in_49 : decode cX7_in 49 = .ok (.invokevirtual 132, 3) := by decide +kernel
theorem dX7_in_52 : decode cX7_in 52 = .ok (.ireturn, 1) := by decide +kernel
theorem dX7_in_53 : decode cX7_in 53 = .ok (.iload_n 2, 1) := by decide +kernel
theorem dX7_in_54 : decode cX7_in 54 = .ok (.iconst (-1), 1) := by decide +kernel
theorem dX7_in_55 : decode cX7_in 55 = .ok (.if_icmp .eq 30, 3) := by decide +kernel
theorem dX7_in_58 : decode cX7_in 58 = .ok (.aload_n 0, 1) := by decide +kernel
theorem dX7_in_59 : decode cX7_in 59 = .ok (.getfield 20, 3) := by decide +kernel
theorem dX7_in_62 : decode cX7_in 62 = .ok (.iload_n 2, 1) := by decide +kernel
theorem dX7_in_63 : decode cX7_in 63 = .ok (.iaload, 1) := by decide +kernel
theorem dX7_in_64 : decode cX7_in 64 = .ok (.iload_n 1, 1) := by decide +kernel
theorem dX7_in_65 : decode cX7_in 65 = .ok (.if_icmp .eq 20, 3) := by decide +kernel
theorem dX7_in_68 : decode cX7_in 68 = .ok (.aload_n 0, 1) := by decide +kernel
theorem dX7_in_69 : decode cX7_in 69 = .ok (.getfield 17, 3) := by decide +kernel
theorem dX7_in_72 : decode cX7_in 72 = .ok (.iload_n 2, 1) := by decide +kernel
theorem dX7_in_73 : decode cX7_in 73 = .ok (.iaload, 1) := by decide +kernel
theorem dX7_in_74 : decode cX7_in 74 = .ok (.iload_n 1, 1) := by decide +kernel
theorem dX7_in_75 : decode cX7_in 75 = .ok (.if_icmp .eq 10, 3) := by decide +kernel
theorem dX7_in_78 : decode cX7_in 78 = .ok (.aload_n 0, 1) := by decide +kernel
theorem dX7_in_79 : decode cX7_in 79 = .ok (.ldc 149, 2) := by decide +kernel
theorem dX7_in_81 : decode cX7_in 81 = .ok (.invokevirtual 132, 3) := by decide +kernel
theorem dX7_in_84 : decode cX7_in 84 = .ok (.ireturn, 1) := by decide +kernel
theorem dX7_in_85 : decode cX7_in 85 = .ok (.aload_n 0, 1) := by decide +kernel
theorem dX7_in_86 : decode cX7_in 86 = .ok (.getfield 238, 3) := by decide +kernel
theorem dX7_in_89 : decode cX7_in 89 = .ok (.bipush 40, 2) := by decide +kernel
theorem dX7_in_91 : decode cX7_in 91 = .ok (.if_icmp .ne 10, 3) := by decide +kernel
theorem dX7_in_94 : decode cX7_in 94 = .ok (.aload_n 0, 1) := by decide +kernel
theorem dX7_in_95 : decode cX7_in 95 = .ok (.ldc 135, 2) := by decide +kernel
theorem dX7_in_97 : decode cX7_in 97 = .ok (.invokevirtual 132, 3) := by decide +kernel
theorem dX7_in_100 : decode cX7_in 100 = .ok (.ireturn, 1) := by decide +kernel
theorem dX7_in_101 : decode cX7_in 101 = .ok (.aload_n 0, 1) := by decide +kernel
theorem dX7_in_102 : decode cX7_in 102 = .ok (.getfield 78, 3) := by decide +kernel
theorem dX7_in_105 : decode cX7_in 105 = .ok (.aload_n 0, 1) := by decide +kernel
theorem dX7_in_106 : decode cX7_in 106 = .ok (.getfield 238, 3) := by decide +kernel
theorem dX7_in_109 : decode cX7_in 109 = .ok (.iload_n 1, 1) := by decide +kernel
theorem dX7_in_110 : decode cX7_in 110 = .ok (.iastore, 1) := by decide +kernel
theorem dX7_in_111 : decode cX7_in 111 = .ok (.aload_n 0, 1) := by decide +kernel
theorem dX7_in_112 : decode cX7_in 112 = .ok (.getfield 81, 3) := by decide +kernel
theorem dX7_in_115 : decode cX7_in 115 = .ok (.aload_n 0, 1) := by decide +kernel
theorem dX7_in_116 : decode cX7_in 116 = .ok (.getfield 238, 3) := by decide +kernel
theorem dX7_in_119 : decode cX7_in 119 = .ok (.iload_n 2, 1) := by decide +kernel
theorem dX7_in_120 : decode cX7_in 120 = .ok (.iastore, 1) := by decide +kernel
theorem dX7_in_121 : decode cX7_in 121 = .ok (.aload_n 0, 1) := by decide +kernel
theorem dX7_in_122 : decode cX7_in 122 = .ok (.getfield 84, 3) := by decide +kernel
theorem dX7_in_125 : decode cX7_in 125 = .ok (.aload_n 0, 1) := by decide +kernel
theorem dX7_in_126 : decode cX7_in 126 = .ok (.getfield 238, 3) := by decide +kernel
theorem dX7_in_129 : decode cX7_in 129 = .ok (.iload_n 3, 1) := by decide +kernel
theorem dX7_in_130 : decode cX7_in 130 = .ok (.iastore, 1) := by decide +kernel
theorem dX7_in_131 : decode cX7_in 131 = .ok (.aload_n 0, 1) := by decide +kernel
theorem dX7_in_132 : decode cX7_in 132 = .ok (.getfield 93, 3) := by decide +kernel
theorem dX7_in_135 : decode cX7_in 135 = .ok (.aload_n 0, 1) := by decide +kernel
theorem dX7_in_136 : decode cX7_in 136 = .ok (.getfield 241, 3) := by decide +kernel
theorem dX7_in_139 : decode cX7_in 139 = .ok (.aload_n 0, 1) := by decide +kernel
theorem dX7_in_140 : decode cX7_in 140 = .ok (.getfield 238, 3) := by decide +kernel
theorem dX7_in_143 : decode cX7_in 143 = .ok (.iastore, 1) := by decide +kernel
theorem dX7_in_144 : decode cX7_in 144 = .ok (.aload_n 0, 1) := by decide +kernel
theorem dX7_in_145 : decode cX7_in 145 = .ok (.dup, 1) := by decide +kernel
theorem dX7_in_146 : decode cX7_in 146 = .ok (.getfield 241, 3) := by decide +kernel
theorem dX7_in_149 : decode cX7_in 149 = .ok (.iconst 1, 1) := by decide +kernel
theorem dX7_in_150 : decode cX7_in 150 = .ok (.iadd, 1) := by decide +kernel
theorem dX7_in_151 : decode cX7_in 151 = .ok (.putfield 241, 3) := by decide +kernel
theorem dX7_in_154 : decode cX7_in 154 = .ok (.aload_n 0, 1) := by decide +kernel
theorem dX7_in_155 : decode cX7_in 155 = .ok (.dup, 1) := by decide +kernel
theorem dX7_in_156 : decode cX7_in 156 = .ok (.getfield 238, 3) := by decide +kernel
theorem dX7_in_159 : decode cX7_in 159 = .ok (.iconst 1, 1) := by decide +kernel
theorem dX7_in_160 : decode cX7_in 160 = .ok (.iadd, 1) := by decide +kernel
theorem dX7_in_161 : decode cX7_in 161 = .ok (.putfield 238, 3) := by decide +kernel
theorem dX7_in_164 : decode cX7_in 164 = .ok (.aload_n 0, 1) := by decide +kernel
theorem dX7_in_165 : decode cX7_in 165 = .ok (.getfield 238, 3) := by decide +kernel
theorem dX7_in_168 : decode cX7_in 168 = .ok (.iconst 1, 1) := by decide +kernel
theorem dX7_in_169 : decode cX7_in 169 = .ok (.isub, 1) := by decide +kernel
theorem dX7_in_170 : decode cX7_in 170 = .ok (.ireturn, 1) := by decide +kernel
theorem dX7_account_0 : decode cX7_account 0 = .ok (.iconst 0, 1) := by decide +kernel
theorem dX7_account_1 : decode cX7_account 1 = .ok (.istore_n 2, 1) := by decide +kernel
theorem dX7_account_2 : decode cX7_account 2 = .ok (.iconst 0, 1) := by decide +kernel
theorem dX7_account_3 : decode cX7_account 3 = .ok (.istore_n 3, 1) := by decide +kernel
theorem dX7_account_4 : decode cX7_account 4 = .ok (.iload_n 3, 1) := by decide +kernel
theorem dX7_account_5 : decode cX7_account 5 = .ok (.aload_n 0, 1) := by decide +kernel
theorem dX7_account_6 : decode cX7_account 6 = .ok (.getfield 238, 3) := by decide +kernel
theorem dX7_account_9 : decode cX7_account 9 = .ok (.if_icmp .ge 32, 3) := by decide +kernel
theorem dX7_account_12 : decode cX7_account 12 = .ok (.iload_n 2, 1) := by decide +kernel
theorem dX7_account_13 : decode cX7_account 13 = .ok (.aload_n 0, 1) := by decide +kernel
theorem dX7_account_14 : decode cX7_account 14 = .ok (.getfield 78, 3) := by decide +kernel
theorem dX7_account_17 : decode cX7_account 17 = .ok (.iload_n 3, 1) := by decide +kernel
theorem dX7_account_18 : decode cX7_account 18 = .ok (.iaload, 1) := by decide +kernel
theorem dX7_account_19 : decode cX7_account 19 = .ok (.iload_n 1, 1) := by decide +kernel
theorem dX7_account_20 : decode cX7_account 20 = .ok (.if_icmp .ne 12, 3) := by decide +kernel
theorem dX7_account_23 : decode cX7_account 23 = .ok (.aload_n 0, 1) := by decide +kernel
theorem dX7_account_24 : decode cX7_account 24 = .ok (.getfield 84, 3) := by decide +kernel
theorem dX7_account_27 : decode cX7_account 27 = .ok (.iload_n 3, 1) := by decide +kernel
theorem dX7_account_28 : decode cX7_account 28 = .ok (.iaload, 1) := by decide +kernel
theorem dX7_account_29 : decode cX7_account 29 = .ok (.goto 4, 3) := by decide +kernel
theorem dX7_account_32 : decode cX7_account 32 = .ok (.iconst 0, 1) := by decide +kernel
theorem dX7_account_33 : decode cX7_account 33 = .ok (.iadd, 1) := by decide +kernel
theorem dX7_account_34 : decode cX7_account 34 = .ok (.istore_n 2, 1) := by decide +kernel
theorem dX7_account_35 : decode cX7_account 35 = .ok (.iinc 3 1, 3) := by decide +kernel
theorem dX7_account_38 : decode cX7_account 38 = .ok (.goto (-34), 3) := by decide +kernel
theorem dX7_account_41 : decode cX7_account 41 = .ok (.iconst 0, 1) := by decide +kernel
theorem dX7_account_42 : decode cX7_account 42 = .ok (.istore_n 3, 1) := by decide +kernel
theorem dX7_account_43 : decode cX7_account 43 = .ok (.iload_n 3, 1) := by decide +kernel
theorem dX7_account_44 : decode cX7_account 44 = .ok (.aload_n 0, 1) := by decide +kernel
theorem dX7_account_45 : decode cX7_account 45 = .ok (.getfield 244, 3) := by decide +kernel
theorem dX7_account_48 : decode cX7_account 48 = .ok (.if_icmp .ge 32, 3) := by decide +kernel
theorem dX7_account_51 : decode cX7_account 51 = .ok (.iload_n 2, 1) := by decide +kernel
theorem dX7_account_52 : decode cX7_account 52 = .ok (.aload_n 0, 1) := by decide +kernel
theorem dX7_account_53 : decode cX7_account 53 = .ok (.getfield 87, 3) := by decide +kernel
theorem dX7_account_56 : decode cX7_account 56 = .ok (.iload_n 3, 1) := by decide +kernel
theorem dX7_account_57 : decode cX7_account 57 = .ok (.iaload, 1) := by decide +kernel
theorem dX7_account_58 : decode cX7_account 58 = .ok (.iload_n 1, 1) := by decide +kernel
theorem dX7_account_59 : decode cX7_account 59 = .ok (.if_icmp .ne 12, 3) := by decide +kernel
theorem dX7_account_62 : decode cX7_account 62 = .ok (.aload_n 0, 1) := by decide +kernel
theorem dX7_account_63 : decode cX7_account 63 = .ok (.getfield 90, 3) := by decide +kernel
theorem dX7_account_66 : decode cX7_account 66 = .ok (.iload_n 3, 1) := by decide +kernel
theorem dX7_account_67 : decode cX7_account 67 = .ok (.iaload, 1) := by decide +kernel
theorem dX7_account_68 : decode cX7_account 68 = .ok (.goto 4, 3) := by decide +kernel
theorem dX7_account_71 : decode cX7_account 71 = .ok (.iconst 0, 1) := by decide +kernel
theorem dX7_account_72 : decode cX7_account 72 = .ok (.isub, 1) := by decide +kernel
theorem dX7_account_73 : decode cX7_account 73 = .ok (.istore_n 2, 1) := by decide +kernel
theorem dX7_account_74 : decode cX7_account 74 = .ok (.iinc 3 1, 3) := by decide +kernel
theorem dX7_account_77 : decode cX7_account 77 = .ok (.goto (-34), 3) := by decide +kernel
theorem dX7_account_80 : decode cX7_account 80 = .ok (.iload_n 2, 1) := by decide +kernel
theorem dX7_account_81 : decode cX7_account 81 = .ok (.ireturn, 1) := by decide +kernel
theorem dX7_out_0 : decode cX7_out 0 = .ok (.aload_n 0, 1) := by decide +kernel
theorem dX7_out_1 : decode cX7_out 1 = .ok (.iload_n 1, 1) := by decide +kernel
theorem dX7_out_2 : decode cX7_out 2 = .ok (.invokevirtual 136, 3) := by decide +kernel
theorem dX7_out_5 : decode cX7_out 5 = .ok (.ifCond .eq 13, 3) := by decide +kernel
theorem dX7_out_8 : decode cX7_out 8 = .ok (.iload_n 2, 1) := by decide +kernel
theorem dX7_out_9 : decode cX7_out 9 = .ok (.iconst 1, 1) := by decide +kernel
theorem dX7_out_10 : decode cX7_out 10 = .ok (.ldc 153, 2) := by decide +kernel
theorem dX7_out_12 : decode cX7_out 12 = .ok (.invokestatic 121, 3) := by decide +kernel
theorem dX7_out_15 : decode cX7_out 15 = .ok (.ifCond .ne 10, 3) := by decide +kernel
theorem dX7_out_18 : decode cX7_out 18 = .ok (.aload_n 0, 1) := by decide +kernel
theorem dX7_out_19 : decode cX7_out 19 = .ok (.ldc 131, 2) := by decide +kernel
theorem dX7_out_21 : decode cX7_out 21 = .ok (.invokevirtual 132, 3) := by decide +kernel
theorem dX7_out_24 : decode cX7_out 24 = .ok (.ireturn, 1) := by decide +kernel
theorem dX7_out_25 : decode cX7_out 25 = .ok (.aload_n 0, 1) := by decide +kernel
theorem dX7_out_26 : decode cX7_out 26 = .ok (.iload_n 1, 1) := by decide +kernel
theorem dX7_out_27 : decode cX7_out 27 = .ok (.invokevirtual 235, 3) := by decide +kernel
theorem dX7_out_30 : decode cX7_out 30 = .ok (.ifCond .ne 10, 3) := by decide +kernel
theorem dX7_out_33 : decode cX7_out 33 = .ok (.aload_n 0, 1) := by decide +kernel
theorem dX7_out_34 : decode cX7_out 34 = .ok (.ldc 144, 2) := by decide +kernel
theorem dX7_out_36 : decode cX7_out 36 = .ok (.invokevirtual 132, 3) := by decide +kernel
theorem dX7_out_39 : decode cX7_out 39 = .ok (.ireturn, 1) := by decide +kernel
theorem dX7_out_40 : decode cX7_out 40 = .ok (.aload_n 0, 1) := by decide +kernel
theorem dX7_out_41 : decode cX7_out 41 = .ok (.iload_n 1, 1) := by decide +kernel
theorem dX7_out_42 : decode cX7_out 42 = .ok (.invokevirtual 247, 3) := by decide +kernel
theorem dX7_out_45 : decode cX7_out 45 = .ok (.iload_n 2, 1) := by decide +kernel
theorem dX7_out_46 : decode cX7_out 46 = .ok (.if_icmp .ge 10, 3) := by decide +kernel
theorem dX7_out_49 : decode cX7_out 49 = .ok (.aload_n 0, 1) := by decide +kernel
theorem dX7_out_50 : decode cX7_out 50 = .ok (.ldc 149, 2) := by decide +kernel
theorem dX7_out_52 : decode cX7_out 52 = .ok (.invokevirtual 132, 3) := by decide +kernel
theorem dX7_out_55 : decode cX7_out 55 = .ok (.ireturn, 1) := by decide +kernel
theorem dX7_out_56 : decode cX7_out 56 = .ok (.aload_n 0, 1) := by decide +kernel
theorem dX7_out_57 : decode cX7_out 57 = .ok (.getfield 244, 3) := by decide +kernel
theorem dX7_out_60 : decode cX7_out 60 = .ok (.bipush 40, 2) := by decide +kernel
theorem dX7_out_62 : decode cX7_out 62 = .ok (.if_icmp .ne 10, 3) := by decide +kernel
theorem dX7_out_65 : decode cX7_out 65 = .ok (.aload_n 0, 1) := by decide +kernel
theorem dX7_out_66 : decode cX7_out 66 = .ok (.ldc 135, 2) := by decide +kernel
theorem dX7_out_68 : decode cX7_out 68 = .ok (.invokevirtual 132, 3) := by decide +kernel
theorem dX7_out_71 : decode cX7_out 71 = .ok (.ireturn, 1) := by decide +kernel
theorem dX7_out_72 : decode cX7_out 72 = .ok (.aload_n 0, 1) := by decide +kernel
theorem dX7_out_73 : decode cX7_out 73 = .ok (.getfield 87, 3) := by decide +kernel
theorem dX7_out_76 : decode cX7_out 76 = .ok (.aload_n 0, 1) := by decide +kernel
theorem dX7_out_77 : decode cX7_out 77 = .ok (.getfield 244, 3) := by decide +kernel
theorem dX7_out_80 : decode cX7_out 80 = .ok (.iload_n 1, 1) := by decide +kernel
theorem dX7_out_81 : decode cX7_out 81 = .ok (.iastore, 1) := by decide +kernel
theorem dX7_out_82 : decode cX7_out 82 = .ok (.aload_n 0, 1) := by decide +kernel
theorem dX7_out_83 : decode cX7_out 83 = .ok (.getfield 90, 3) := by decide +kernel
theorem dX7_out_86 : decode cX7_out 86 = .ok (.aload_n 0, 1) := by decide +kernel
theorem dX7_out_87 : decode cX7_out 87 = .ok (.getfield 244, 3) := by decide +kernel
theorem dX7_out_90 : decode cX7_out 90 = .ok (.iload_n 2, 1) := by decide +kernel
theorem dX7_out_91 : decode cX7_out 91 = .ok (.iastore, 1) := by decide +kernel
theorem dX7_out_92 : decode cX7_out 92 = .ok (.aload_n 0, 1) := by decide +kernel
theorem dX7_out_93 : decode cX7_out 93 = .ok (.getfield 93, 3) := by decide +kernel
theorem dX7_out_96 : decode cX7_out 96 = .ok (.aload_n 0, 1) := by decide +kernel
theorem dX7_out_97 : decode cX7_out 97 = .ok (.getfield 241, 3) := by decide +kernel
theorem dX7_out_100 : decode cX7_out 100 = .ok (.bipush 100, 2) := by decide +kernel
theorem dX7_out_102 : decode cX7_out 102 = .ok (.aload_n 0, 1) := by decide +kernel
theorem dX7_out_103 : decode cX7_out 103 = .ok (.getfield 244, 3) := by decide +kernel
theorem dX7_out_106 : decode cX7_out 106 = .ok (.iadd, 1) := by decide +kernel
theorem dX7_out_107 : decode cX7_out 107 = .ok (.iastore, 1) := by decide +kernel
theorem dX7_out_108 : decode cX7_out 108 = .ok (.aload_n 0, 1) := by decide +kernel
theorem dX7_out_109 : decode cX7_out 109 = .ok (.dup, 1) := by decide +kernel
theorem dX7_out_110 : decode cX7_out 110 = .ok (.getfield 241, 3) := by decide +kernel
theorem dX7_out_113 : decode cX7_out 113 = .ok (.iconst 1, 1) := by decide +kernel
theorem dX7_out_114 : decode cX7_out 114 = .ok (.iadd, 1) := by decide +kernel
theorem dX7_out_115 : decode cX7_out 115 = .ok (.putfield 241, 3) := by decide +kernel
theorem dX7_out_118 : decode cX7_out 118 = .ok (.aload_n 0, 1) := by decide +kernel
theorem dX7_out_119 : decode cX7_out 119 = .ok (.dup, 1) := by decide +kernel
theorem dX7_out_120 : decode cX7_out 120 = .ok (.getfield 244, 3) := by decide +kernel
theorem dX7_out_123 : decode cX7_out 123 = .ok (.iconst 1, 1) := by decide +kernel
theorem dX7_out_124 : decode cX7_out 124 = .ok (.iadd, 1) := by decide +kernel
theorem dX7_out_125 : decode cX7_out 125 = .ok (.putfield 244, 3) := by decide +kernel
theorem dX7_out_128 : decode cX7_out 128 = .ok (.aload_n 0, 1) := by decide +kernel
theorem dX7_out_129 : decode cX7_out 129 = .ok (.iload_n 1, 1) := by decide +kernel
theorem dX7_out_130 : decode cX7_out 130 = .ok (.invokevirtual 247, 3) := by decide +kernel
theorem dX7_out_133 : decode cX7_out 133 = .ok (.ireturn, 1) := by decide +kernel
theorem dX7_goes_0 : decode cX7_goes 0 = .ok (.iload_n 3, 1) := by decide +kernel
theorem dX7_goes_1 : decode cX7_goes 1 = .ok (.istore 6, 2) := by decide +kernel
theorem dX7_goes_3 : decode cX7_goes 3 = .ok (.iconst 0, 1) := by decide +kernel
theorem dX7_goes_4 : decode cX7_goes 4 = .ok (.istore 7, 2) := by decide +kernel
theorem dX7_goes_6 : decode cX7_goes 6 = .ok (.iload 7, 2) := by decide +kernel
theorem dX7_goes_8 : decode cX7_goes 8 = .ok (.iload_n 2, 1) := by decide +kernel
theorem dX7_goes_9 : decode cX7_goes 9 = .ok (.if_icmp .ge 121, 3) := by decide +kernel
theorem dX7_goes_12 : decode cX7_goes 12 = .ok (.iload 4, 2) := by decide +kernel
theorem dX7_goes_14 : decode cX7_goes 14 = .ok (.ifCond .eq 12, 3) := by decide +kernel
theorem dX7_goes_17 : decode cX7_goes 17 = .ok (.iload_n 2, 1) := by decide +kernel
theorem dX7_goes_18 : decode cX7_goes 18 = .ok (.iconst 1, 1) := by decide +kernel
theorem dX7_goes_19 : decode cX7_goes 19 = .ok (.isub, 1) := by decide +kernel
theorem dX7_goes_20 : decode cX7_goes 20 = .ok (.iload 7, 2) := by decide +kernel
theorem dX7_goes_22 : decode cX7_goes 22 = .ok (.isub, 1) := by decide +kernel
theorem dX7_goes_23 : decode cX7_goes 23 = .ok (.goto 5, 3) := by decide +kernel
theorem dX7_goes_26 : decode cX7_goes 26 = .ok (.iload 7, 2) := by decide +kernel
theorem dX7_goes_28 : decode cX7_goes 28 = .ok (.istore 8, 2) := by decide +kernel
theorem dX7_goes_30 : decode cX7_goes 30 = .ok (.aload_n 0, 1) := by decide +kernel
theorem dX7_goes_31 : decode cX7_goes 31 = .ok (.getfield 78, 3) := by decide +kernel
theorem dX7_goes_34 : decode cX7_goes 34 = .ok (.iload 8, 2) := by decide +kernel
theorem dX7_goes_36 : decode cX7_goes 36 = .ok (.iaload, 1) := by decide +kernel
theorem dX7_goes_37 : decode cX7_goes 37 = .ok (.iload_n 1, 1) := by decide +kernel
theorem dX7_goes_38 : decode cX7_goes 38 = .ok (.if_icmp .ne 86, 3) := by decide +kernel
theorem dX7_goes_41 : decode cX7_goes 41 = .ok (.iload 5, 2) := by decide +kernel
theorem dX7_goes_43 : decode cX7_goes 43 = .ok (.iconst 2, 1) := by decide +kernel
theorem dX7_goes_44 : decode cX7_goes 44 = .ok (.if_icmp .ge 35, 3) := by decide +kernel
theorem dX7_goes_47 : decode cX7_goes 47 = .ok (.aload_n 0, 1) := by decide +kernel
theorem dX7_goes_48 : decode cX7_goes 48 = .ok (.getfield 81, 3) := by decide +kernel
theorem dX7_goes_51 : decode cX7_goes 51 = .ok (.iload 8, 2) := by decide +kernel
theorem dX7_goes_53 : decode cX7_goes 53 = .ok (.iaload, 1) := by decide +kernel
theorem dX7_goes_54 : decode cX7_goes 54 = .ok (.iconst (-1), 1) := by decide +kernel
theorem dX7_goes_55 : decode cX7_goes 55 = .ok (.if_icmp .ne 7, 3) := by decide +kernel
theorem dX7_goes_58 : decode cX7_goes 58 = .ok (.iconst 1, 1) := by decide +kernel
theorem dX7_goes_59 : decode cX7_goes 59 = .ok (.goto 4, 3) := by decide +kernel
theorem dX7_goes_62 : decode cX7_goes 62 = .ok (.iconst 0, 1) := by decide +kernel
theorem dX7_goes_63 : decode cX7_goes 63 = .ok (.iload 5, 2) := by decide +kernel
theorem dX7_goes_65 : decode cX7_goes 65 = .ok (.ifCond .ne 7, 3) := by decide +kernel
theorem dX7_goes_68 : decode cX7_goes 68 = .ok (.iconst 1, 1) := by decide +kernel
theorem dX7_goes_69 : decode cX7_goes 69 = .ok (.goto 4, 3) := by decide +kernel
theorem dX7_goes_72 : decode cX7_goes 72 = .ok (.iconst 0, 1) := by decide +kernel
theorem dX7_goes_73 : decode cX7_goes 73 = .ok (.if_icmp .eq 6, 3) := by decide +kernel
theorem dX7_goes_76 : decode cX7_goes 76 = .ok (.goto 48, 3) := by decide +kernel
theorem dX7_goes_79 : decode cX7_goes 79 = .ok (.aload_n 0, 1) := by decide +kernel
theorem dX7_goes_80 : decode cX7_goes 80 = .ok (.getfield 117, 3) := by decide +kernel
theorem dX7_goes_83 : decode cX7_goes 83 = .ok (.iload 8, 2) := by decide +kernel
theorem dX7_goes_85 : decode cX7_goes 85 = .ok (.iaload, 1) := by decide +kernel
theorem dX7_goes_86 : decode cX7_goes 86 = .ok (.iload 6, 2) := by decide +kernel
theorem dX7_goes_88 : decode cX7_goes 88 = .ok (.if_icmp .ge 13, 3) := by decide +kernel
theorem dX7_goes_91 : decode cX7_goes 91 = .ok (.aload_n 0, 1) := by decide +kernel
theorem dX7_goes_92 : decode cX7_goes 92 = .ok (.getfield 117, 3) := by decide +kernel
theorem dX7_goes_95 : decode cX7_goes 95 = .ok (.iload 8, 2) := by decide +kernel
theorem dX7_goes_97 : decode cX7_goes 97 = .ok (.iaload, 1) := by decide +kernel
theorem dX7_goes_98 : decode cX7_goes 98 = .ok (.goto 5, 3) := by decide +kernel
theorem dX7_goes_101 : decode cX7_goes 101 = .ok (.iload 6, 2) := by decide +kernel
theorem dX7_goes_103 : decode cX7_goes 103 = .ok (.istore 9, 2) := by decide +kernel
theorem dX7_goes_105 : decode cX7_goes 105 = .ok (.aload_n 0, 1) := by decide +kernel
theorem dX7_goes_106 : decode cX7_goes 106 = .ok (.getfield 117, 3) := by decide +kernel
theorem dX7_goes_109 : decode cX7_goes 109 = .ok (.iload 8, 2) := by decide +kernel
theorem dX7_goes_111 : decode cX7_goes 111 = .ok (.dup2, 1) := by decide +kernel
theorem dX7_goes_112 : decode cX7_goes 112 = .ok (.iaload, 1) := by decide +kernel
theorem dX7_goes_113 : decode cX7_goes 113 = .ok (.iload 9, 2) := by decide +kernel
theorem dX7_goes_115 : decode cX7_goes 115 = .ok (.isub, 1) := by decide +kernel
theorem dX7_goes_116 : decode cX7_goes 116 = .ok (.iastore, 1) := by decide +kernel
theorem dX7_goes_117 : decode cX7_goes 117 = .ok (.iload 6, 2) := by decide +kernel
theorem dX7_goes_119 : decode cX7_goes 119 = .ok (.iload 9, 2) := by decide +kernel
theorem dX7_goes_121 : decode cX7_goes 121 = .ok (.isub, 1) := by decide +kernel
theorem dX7_goes_122 : decode cX7_goes 122 = .ok (.istore 6, 2) := by decide +kernel
theorem dX7_goes_124 : decode cX7_goes 124 = .ok (.iinc 7 1, 3) := by decide +kernel
theorem dX7_goes_127 : decode cX7_goes 127 = .ok (.goto (-121), 3) := by decide +kernel
theorem dX7_goes_130 : decode cX7_goes 130 = .ok (.iload 6, 2) := by decide +kernel
theorem dX7_goes_132 : decode cX7_goes 132 = .ok (.ireturn, 1) := by decide +kernel
theorem dX7_traces_0 : decode cX7_traces 0 = .ok (.iconst 0, 1) := by decide +kernel
theorem dX7_traces_1 : decode cX7_traces 1 = .ok (.istore_n 2, 1) := by decide +kernel
theorem dX7_traces_2 : decode cX7_traces 2 = .ok (.iconst 0, 1) := by decide +kernel
theorem dX7_traces_3 : decode cX7_traces 3 = .ok (.istore_n 3, 1) := by decide +kernel
theorem dX7_traces_4 : decode cX7_traces 4 = .ok (.iload_n 3, 1) := by decide +kernel
theorem dX7_traces_5 : decode cX7_traces 5 = .ok (.aload_n 0, 1) := by decide +kernel
theorem dX7_traces_6 : decode cX7_traces 6 = .ok (.getfield 241, 3) := by decide +kernel
theorem dX7_traces_9 : decode cX7_traces 9 = .ok (.if_icmp .ge 121, 3) := by decide +kernel
theorem dX7_traces_12 : decode cX7_traces 12 = .ok (.aload_n 0, 1) := by decide +kernel
theorem dX7_traces_13 : decode cX7_traces 13 = .ok (.getfield 93, 3) := by decide +kernel
theorem dX7_traces_16 : decode cX7_traces 16 = .ok (.iload_n 3, 1) := by decide +kernel
theorem dX7_traces_17 : decode cX7_traces 17 = .ok (.iaload, 1) := by decide +kernel
theorem dX7_traces_18 : decode cX7_traces 18 = .ok (.bipush 100, 2) := by decide +kernel
theorem dX7_traces_20 : decode cX7_traces 20 = .ok (.if_icmp .ge 21, 3) := by decide +kernel
theorem dX7_traces_23 : decode cX7_traces 23 = .ok (.aload_n 0, 1) := by decide +kernel
theorem dX7_traces_24 : decode cX7_traces 24 = .ok (.getfield 117, 3) := by decide +kernel
theorem dX7_traces_27 : decode cX7_traces 27 = .ok (.iload_n 2, 1) := by decide +kernel
theorem dX7_traces_28 : decode cX7_traces 28 = .ok (.aload_n 0, 1) := by decide +kernel
theorem dX7_traces_29 : decode cX7_traces 29 = .ok (.getfield 84, 3) := by decide +kernel
theorem dX7_traces_32 : decode cX7_traces 32 = .ok (.iload_n 2, 1) := by decide +kernel
theorem dX7_traces_33 : decode cX7_traces 33 = .ok (.iaload, 1) := by decide +kernel
theorem dX7_traces_34 : decode cX7_traces 34 = .ok (.iastore, 1) := by decide +kernel
theorem dX7_traces_35 : decode cX7_traces 35 = .ok (.iinc 2 1, 3) := by decide +kernel
theorem dX7_traces_38 : decode cX7_traces 38 = .ok (.goto 86, 3) := by decide +kernel
theorem dX7_traces_41 : decode cX7_traces 41 = .ok (.aload_n 0, 1) := by decide +kernel
theorem dX7_traces_42 : decode cX7_traces 42 = .ok (.getfield 93, 3) := by decide +kernel
theorem dX7_traces_45 : decode cX7_traces 45 = .ok (.iload_n 3, 1) := by decide +kernel
theorem dX7_traces_46 : decode cX7_traces 46 = .ok (.iaload, 1) := by decide +kernel
theorem dX7_traces_47 : decode cX7_traces 47 = .ok (.bipush 100, 2) := by decide +kernel
theorem dX7_traces_49 : decode cX7_traces 49 = .ok (.isub, 1) := by decide +kernel
theorem dX7_traces_50 : decode cX7_traces 50 = .ok (.istore 4, 2) := by decide +kernel
theorem dX7_traces_52 : decode cX7_traces 52 = .ok (.aload_n 0, 1) := by decide +kernel
theorem dX7_traces_53 : decode cX7_traces 53 = .ok (.getfield 90, 3) := by decide +kernel
theorem dX7_traces_56 : decode cX7_traces 56 = .ok (.iload 4, 2) := by decide +kernel
theorem dX7_traces_58 : decode cX7_traces 58 = .ok (.iaload, 1) := by decide +kernel
theorem dX7_traces_59 : decode cX7_traces 59 = .ok (.istore 5, 2) := by decide +kernel
theorem dX7_traces_61 : decode cX7_traces 61 = .ok (.aload_n 0, 1) := by decide +kernel
theorem dX7_traces_62 : decode cX7_traces 62 = .ok (.aload_n 0, 1) := by decide +kernel
theorem dX7_traces_63 : decode cX7_traces 63 = .ok (.getfield 87, 3) := by decide +kernel
theorem dX7_traces_66 : decode cX7_traces 66 = .ok (.iload 4, 2) := by decide +kernel
theorem dX7_traces_68 : decode cX7_traces 68 = .ok (.iaload, 1) := by decide +kernel
theorem dX7_traces_69 : decode cX7_traces 69 = .ok (.iload_n 2, 1) := by decide +kernel
theorem dX7_traces_70 : decode cX7_traces 70 = .ok (.iload 5, 2) := by decide +kernel
theorem dX7_traces_72 : decode cX7_traces 72 = .ok (.iload_n 1, 1) := by decide +kernel
theorem dX7_traces_73 : decode cX7_traces 73 = .ok (.iconst 1, 1) := by decide +kernel
theorem dX7_traces_74 : decode cX7_traces 74 = .ok (.if_icmp .ne 7, 3) := by decide +kernel
theorem dX7_traces_77 : decode cX7_traces 77 = .ok (.iconst 1, 1) := by decide +kernel
theorem dX7_traces_78 : decode cX7_traces 78 = .ok (.goto 4, 3) := by decide +kernel
theorem dX7_traces_81 : decode cX7_traces 81 = .ok (.iconst 0, 1) := by decide +kernel
theorem dX7_traces_82 : decode cX7_traces 82 = .ok (.iload_n 1, 1) := by decide +kernel
theorem dX7_traces_83 : decode cX7_traces 83 = .ok (.iconst 2, 1) := by decide +kernel
theorem dX7_traces_84 : decode cX7_traces 84 = .ok (.if_icmp .ne 7, 3) := by decide +kernel
theorem dX7_traces_87 : decode cX7_traces 87 = .ok (.iconst 0, 1) := by decide +kernel
theorem dX7_traces_88 : decode cX7_traces 88 = .ok (.goto 4, 3) := by decide +kernel
theorem dX7_traces_91 : decode cX7_traces 91 = .ok (.iconst 2, 1) := by decide +kernel
theorem dX7_traces_92 : decode cX7_traces 92 = .ok (.invokevirtual 250, 3) := by decide +kernel
theorem dX7_traces_95 : decode cX7_traces 95 = .ok (.istore 5, 2) := by decide +kernel
theorem dX7_traces_97 : decode cX7_traces 97 = .ok (.aload_n 0, 1) := by decide +kernel
theorem dX7_traces_98 : decode cX7_traces 98 = .ok (.aload_n 0, 1) := by decide +kernel
theorem dX7_traces_99 : decode cX7_traces 99 = .ok (.getfield 87, 3) := by decide +kernel
theorem dX7_traces_102 : decode cX7_traces 102 = .ok (.iload 4, 2) := by decide +kernel
theorem dX7_traces_104 : decode cX7_traces 104 = .ok (.iaload, 1) := by decide +kernel
theorem dX7_traces_105 : decode cX7_traces 105 = .ok (.iload_n 2, 1) := by decide +kernel
theorem dX7_traces_106 : decode cX7_traces 106 = .ok (.iload 5, 2) := by decide +kernel
theorem dX7_traces_108 : decode cX7_traces 108 = .ok (.iconst 0, 1) := by decide +kernel
theorem dX7_traces_109 : decode cX7_traces 109 = .ok (.iload_n 1, 1) := by decide +kernel
theorem dX7_traces_110 : decode cX7_traces 110 = .ok (.iconst 2, 1) := by decide +kernel
theorem dX7_traces_111 : decode cX7_traces 111 = .ok (.if_icmp .ne 7, 3) := by decide +kernel
theorem dX7_traces_114 : decode cX7_traces 114 = .ok (.iconst 1, 1) := by decide +kernel
theorem dX7_traces_115 : decode cX7_traces 115 = .ok (.goto 4, 3) := by decide +kernel
theorem dX7_traces_118 : decode cX7_traces 118 = .ok (.iconst 2, 1) := by decide +kernel
theorem dX7_traces_119 : decode cX7_traces 119 = .ok (.invokevirtual 250, 3) := by decide +kernel
theorem dX7_traces_122 : decode cX7_traces 122 = .ok (.istore 5, 2) := by decide +kernel
theorem dX7_traces_124 : decode cX7_traces 124 = .ok (.iinc 3 1, 3) := by decide +kernel
theorem dX7_traces_127 : decode cX7_traces 127 = .ok (.goto (-123), 3) := by decide +kernel
theorem dX7_traces_130 : decode cX7_traces 130 = .ok (.return_, 1) := by decide +kernel
theorem dX7_trace_0 : decode cX7_trace 0 = .ok (.iload_n 1, 1) := by decide +kernel
theorem dX7_trace_1 : decode cX7_trace 1 = .ok (.iconst 0, 1) := by decide +kernel
theorem dX7_trace_2 : decode cX7_trace 2 = .ok (.aload_n 0, 1) := by decide +kernel
theorem dX7_trace_3 : decode cX7_trace 3 = .ok (.getfield 238, 3) := by decide +kernel
theorem dX7_trace_6 : decode cX7_trace 6 = .ok (.iconst 1, 1) := by decide +kernel
theorem dX7_trace_7 : decode cX7_trace 7 = .ok (.isub, 1) := by decide +kernel
theorem dX7_trace_8 : decode cX7_trace 8 = .ok (.invokestatic 121, 3) := by decide +kernel
theorem dX7_trace_11 : decode cX7_trace 11 = .ok (.ifCond .eq 12, 3) := by decide +kernel
theorem dX7_trace_14 : decode cX7_trace 14 = .ok (.iload_n 2, 1) := by decide +kernel
theorem dX7_trace_15 : decode cX7_trace 15 = .ok (.iconst 0, 1) := by decide +kernel
theorem dX7_trace_16 : decode cX7_trace 16 = .ok (.iconst 2, 1) := by decide +kernel
theorem dX7_trace_17 : decode cX7_trace 17 = .ok (.invokestatic 121, 3) := by decide +kernel
theorem dX7_trace_20 : decode cX7_trace 20 = .ok (.ifCond .ne 10, 3) := by decide +kernel
theorem dX7_trace_23 : decode cX7_trace 23 = .ok (.aload_n 0, 1) := by decide +kernel
theorem dX7_trace_24 : decode cX7_trace 24 = .ok (.ldc 131, 2) := by decide +kernel
theorem dX7_trace_26 : decode cX7_trace 26 = .ok (.invokevirtual 132, 3) := by decide +kernel
theorem dX7_trace_29 : decode cX7_trace 29 = .ok (.ireturn, 1) := by decide +kernel
theorem dX7_trace_30 : decode cX7_trace 30 = .ok (.aload_n 0, 1) := by decide +kernel
theorem dX7_trace_31 : decode cX7_trace 31 = .ok (.iload_n 2, 1) := by decide +kernel
theorem dX7_trace_32 : decode cX7_trace 32 = .ok (.invokevirtual 254, 3) := by decide +kernel
theorem dX7_trace_35 : decode cX7_trace 35 = .ok (.aload_n 0, 1) := by decide +kernel
theorem dX7_trace_36 : decode cX7_trace 36 = .ok (.getfield 117, 3) := by decide +kernel
theorem dX7_trace_39 : decode cX7_trace 39 = .ok (.iload_n 1, 1) := by decide +kernel
theorem dX7_trace_40 : decode cX7_trace 40 = .ok (.iaload, 1) := by decide +kernel
theorem dX7_trace_41 : decode cX7_trace 41 = .ok (.ireturn, 1) := by decide +kernel
theorem dX7_held_0 : decode cX7_held 0 = .ok (.aload_n 0, 1) := by decide +kernel
theorem dX7_held_1 : decode cX7_held 1 = .ok (.iload_n 1, 1) := by decide +kernel
theorem dX7_held_2 : decode cX7_held 2 = .ok (.invokevirtual 136, 3) := by decide +kernel
theorem dX7_held_5 : decode cX7_held 5 = .ok (.ifCond .eq 25, 3) := by decide +kernel
theorem dX7_held_8 : decode cX7_held 8 = .ok (.iload_n 2, 1) := by decide +kernel
theorem dX7_held_9 : decode cX7_held 9 = .ok (.iconst (-1), 1) := by decide +kernel
theorem dX7_held_10 : decode cX7_held 10 = .ok (.if_icmp .eq 11, 3) := by decide +kernel
theorem dX7_held_13 : decode cX7_held 13 = .ok (.aload_n 0, 1) := by decide +kernel
theorem dX7_held_14 : decode cX7_held 14 = .ok (.iload_n 2, 1) := by decide +kernel
theorem dX7_held_15 : decode cX7_held 15 = .ok (.invokevirtual 150, 3) := by decide +kernel
theorem dX7_held_18 : decode cX7_held 18 = .ok (.ifCond .eq 12, 3) := by decide +kernel
theorem dX7_held_21 : decode cX7_held 21 = .ok (.iload_n 3, 1) := by decide +kernel
theorem dX7_held_22 : decode cX7_held 22 = .ok (.iconst 0, 1) := by decide +kernel
theorem dX7_held_23 : decode cX7_held 23 = .ok (.iconst 2, 1) := by decide +kernel
theorem dX7_held_24 : decode cX7_held 24 = .ok (.invokestatic 121, 3) := by decide +kernel
theorem dX7_held_27 : decode cX7_held 27 = .ok (.ifCond .ne 10, 3) := by decide +kernel
theorem dX7_held_30 : decode cX7_held 30 = .ok (.aload_n 0, 1) := by decide +kernel
theorem dX7_held_31 : decode cX7_held 31 = .ok (.ldc 131, 2) := by decide +kernel
theorem dX7_held_33 : decode cX7_held 33 = .ok (.invokevirtual 132, 3) := by decide +kernel
theorem dX7_held_36 : decode cX7_held 36 = .ok (.ireturn, 1) := by decide +kernel
theorem dX7_held_37 : decode cX7_held 37 = .ok (.aload_n 0, 1) := by decide +kernel
theorem dX7_held_38 : decode cX7_held 38 = .ok (.iload_n 1, 1) := by decide +kernel
theorem dX7_held_39 : decode cX7_held 39 = .ok (.invokevirtual 235, 3) := by decide +kernel
theorem dX7_held_42 : decode cX7_held 42 = .ok (.ifCond .ne 10, 3) := by decide +kernel
theorem dX7_held_45 : decode cX7_held 45 = .ok (.aload_n 0, 1) := by decide +kernel
theorem dX7_held_46 : decode cX7_held 46 = .ok (.ldc 144, 2) := by decide +kernel
theorem dX7_held_48 : decode cX7_held 48 = .ok (.invokevirtual 132, 3) := by decide +kernel
theorem dX7_held_51 : decode cX7_held 51 = .ok (.ireturn, 1) := by decide +kernel
theorem dX7_held_52 : decode cX7_held 52 = .ok (.aload_n 0, 1) := by decide +kernel
theorem dX7_held_53 : decode cX7_held 53 = .ok (.iload_n 3, 1) := by decide +kernel
theorem dX7_held_54 : decode cX7_held 54 = .ok (.invokevirtual 254, 3) := by decide +kernel
theorem dX7_held_57 : decode cX7_held 57 = .ok (.iconst 0, 1) := by decide +kernel
theorem dX7_held_58 : decode cX7_held 58 = .ok (.istore 4, 2) := by decide +kernel
theorem dX7_held_60 : decode cX7_held 60 = .ok (.iconst 0, 1) := by decide +kernel
theorem dX7_held_61 : decode cX7_held 61 = .ok (.istore 5, 2) := by decide +kernel
theorem dX7_held_63 : decode cX7_held 63 = .ok (.iload 5, 2) := by decide +kernel
theorem dX7_held_65 : decode cX7_held 65 = .ok (.aload_n 0, 1) := by decide +kernel
theorem dX7_held_66 : decode cX7_held 66 = .ok (.getfield 238, 3) := by decide +kernel
theorem dX7_held_69 : decode cX7_held 69 = .ok (.if_icmp .ge 47, 3) := by decide +kernel
theorem dX7_held_72 : decode cX7_held 72 = .ok (.iload 4, 2) := by decide +kernel
theorem dX7_held_74 : decode cX7_held 74 = .ok (.aload_n 0, 1) := by decide +kernel
theorem dX7_held_75 : decode cX7_held 75 = .ok (.getfield 78, 3) := by decide +kernel
theorem dX7_held_78 : decode cX7_held 78 = .ok (.iload 5, 2) := by decide +kernel
theorem dX7_held_80 : decode cX7_held 80 = .ok (.iaload, 1) := by decide +kernel
theorem dX7_held_81 : decode cX7_held 81 = .ok (.iload_n 1, 1) := by decide +kernel
theorem dX7_held_82 : decode cX7_held 82 = .ok (.if_icmp .ne 24, 3) := by decide +kernel
theorem dX7_held_85 : decode cX7_held 85 = .ok (.aload_n 0, 1) := by decide +kernel
theorem dX7_held_86 : decode cX7_held 86 = .ok (.getfield 81, 3) := by decide +kernel
theorem dX7_held_89 : decode cX7_held 89 = .ok (.iload 5, 2) := by decide +kernel
theorem dX7_held_91 : decode cX7_held 91 = .ok (.iaload, 1) := by decide +kernel
theorem dX7_held_92 : decode cX7_held 92 = .ok (.iload_n 2, 1) := by decide +kernel
theorem dX7_held_93 : decode cX7_held 93 = .ok (.if_icmp .ne 13, 3) := by decide +kernel
theorem dX7_held_96 : decode cX7_held 96 = .ok (.aload_n 0, 1) := by decide +kernel
theorem dX7_held_97 : decode cX7_held 97 = .ok (.getfield 117, 3) := by decide +kernel
theorem dX7_held_100 : decode cX7_held 100 = .ok (.iload 5, 2) := by decide +kernel
theorem dX7_held_102 : decode cX7_held 102 = .ok (.iaload, 1) := by decide +kernel
theorem dX7_held_103 : decode cX7_held 103 = .ok (.goto 4, 3) := by decide +kernel
theorem dX7_held_106 : decode cX7_held 106 = .ok (.iconst 0, 1) := by decide +kernel
theorem dX7_held_107 : decode cX7_held 107 = .ok (.iadd, 1) := by decide +kernel
theorem dX7_held_108 : decode cX7_held 108 = .ok (.istore 4, 2) := by decide +kernel
theorem dX7_held_110 : decode cX7_held 110 = .ok (.iinc 5 1, 3) := by decide +kernel
theorem dX7_held_113 : decode cX7_held 113 = .ok (.goto (-50), 3) := by decide +kernel
theorem dX7_held_116 : decode cX7_held 116 = .ok (.iload 4, 2) := by decide +kernel
theorem dX7_held_118 : decode cX7_held 118 = .ok (.ireturn, 1) := by decide +kernel
theorem dX7_tell_0 : decode cX7_tell 0 = .ok (.aload_n 0, 1) := by decide +kernel
theorem dX7_tell_1 : decode cX7_tell 1 = .ok (.getfield 257, 3) := by decide +kernel
theorem dX7_tell_4 : decode cX7_tell 4 = .ok (.bipush 16, 2) := by decide +kernel
theorem dX7_tell_6 : decode cX7_tell 6 = .ok (.if_icmp .ne 10, 3) := by decide +kernel
theorem dX7_tell_9 : decode cX7_tell 9 = .ok (.aload_n 0, 1) := by decide +kernel
theorem dX7_tell_10 : decode cX7_tell 10 = .ok (.ldc 135, 2) := by decide +kernel
theorem dX7_tell_12 : decode cX7_tell 12 = .ok (.invokevirtual 132, 3) := by decide +kernel
theorem dX7_tell_15 : decode cX7_tell 15 = .ok (.ireturn, 1) := by decide +kernel
theorem dX7_tell_16 : decode cX7_tell 16 = .ok (.aload_n 0, 1) := by decide +kernel
theorem dX7_tell_17 : decode cX7_tell 17 = .ok (.getfield 96, 3) := by decide +kernel
theorem dX7_tell_20 : decode cX7_tell 20 = .ok (.aload_n 0, 1) := by decide +kernel
theorem dX7_tell_21 : decode cX7_tell 21 = .ok (.getfield 257, 3) := by decide +kernel
theorem dX7_tell_24 : decode cX7_tell 24 = .ok (.iload_n 1, 1) := by decide +kernel
theorem dX7_tell_25 : decode cX7_tell 25 = .ok (.iastore, 1) := by decide +kernel
theorem dX7_tell_26 : decode cX7_tell 26 = .ok (.aload_n 0, 1) := by decide +kernel
theorem dX7_tell_27 : decode cX7_tell 27 = .ok (.dup, 1) := by decide +kernel
theorem dX7_tell_28 : decode cX7_tell 28 = .ok (.getfield 257, 3) := by decide +kernel
theorem dX7_tell_31 : decode cX7_tell 31 = .ok (.iconst 1, 1) := by decide +kernel
theorem dX7_tell_32 : decode cX7_tell 32 = .ok (.iadd, 1) := by decide +kernel
theorem dX7_tell_33 : decode cX7_tell 33 = .ok (.putfield 257, 3) := by decide +kernel
theorem dX7_tell_36 : decode cX7_tell 36 = .ok (.aload_n 0, 1) := by decide +kernel
theorem dX7_tell_37 : decode cX7_tell 37 = .ok (.getfield 257, 3) := by decide +kernel
theorem dX7_tell_40 : decode cX7_tell 40 = .ok (.ireturn, 1) := by decide +kernel
theorem dX7_check_0 : decode cX7_check 0 = .ok (.aload_n 0, 1) := by decide +kernel
theorem dX7_check_1 : decode cX7_check 1 = .ok (.getfield 257, 3) := by decide +kernel
theorem dX7_check_4 : decode cX7_check 4 = .ok (.istore_n 2, 1) := by decide +kernel
theorem dX7_check_5 : decode cX7_check 5 = .ok (.aload_n 0, 1) := by decide +kernel
theorem dX7_check_6 : decode cX7_check 6 = .ok (.iconst 0, 1) := by decide +kernel
theorem dX7_check_7 : decode cX7_check 7 = .ok (.putfield 257, 3) := by decide +kernel
theorem dX7_check_10 : decode cX7_check 10 = .ok (.iload_n 1, 1) := by decide +kernel
theorem dX7_check_11 : decode cX7_check 11 = .ok (.iconst 0, 1) := by decide +kernel
theorem dX7_check_12 : decode cX7_check 12 = .ok (.ldc 224, 2) := by decide +kernel
theorem dX7_check_14 : decode cX7_check 14 = .ok (.invokestatic 121, 3) := by decide +kernel
theorem dX7_check_17 : decode cX7_check 17 = .ok (.ifCond .ne 10, 3) := by decide +kernel
theorem dX7_check_20 : decode cX7_check 20 = .ok (.aload_n 0, 1) := by decide +kernel
theorem dX7_check_21 : decode cX7_check 21 = .ok (.ldc 131, 2) := by decide +kernel
theorem dX7_check_23 : decode cX7_check 23 = .ok (.invokevirtual 132, 3) := by decide +kernel
theorem dX7_check_26 : decode cX7_check 26 = .ok (.ireturn, 1) := by decide +kernel
theorem dX7_check_27 : decode cX7_check 27 = .ok (.aload_n 0, 1) := by decide +kernel
theorem dX7_check_28 : decode cX7_check 28 = .ok (.iload_n 1, 1) := by decide +kernel
theorem dX7_check_29 : decode cX7_check 29 = .ok (.iconst 0, 1) := by decide +kernel
theorem dX7_check_30 : decode cX7_check 30 = .ok (.invokevirtual 225, 3) := by decide +kernel
theorem dX7_check_33 : decode cX7_check 33 = .ok (.iconst 0, 1) := by decide +kernel
theorem dX7_check_34 : decode cX7_check 34 = .ok (.istore_n 3, 1) := by decide +kernel
theorem dX7_check_35 : decode cX7_check 35 = .ok (.iload_n 3, 1) := by decide +kernel
theorem dX7_check_36 : decode cX7_check 36 = .ok (.iload_n 2, 1) := by decide +kernel
theorem dX7_check_37 : decode cX7_check 37 = .ok (.if_icmp .ge 39, 3) := by decide +kernel
theorem dX7_check_40 : decode cX7_check 40 = .ok (.iload_n 3, 1) := by decide +kernel
theorem dX7_check_41 : decode cX7_check 41 = .ok (.aload_n 0, 1) := by decide +kernel
theorem dX7_check_42 : decode cX7_check 42 = .ok (.getfield 128, 3) := by decide +kernel
theorem dX7_check_45 : decode cX7_check 45 = .ok (.if_icmp .ge 21, 3) := by decide +kernel
theorem dX7_check_48 : decode cX7_check 48 = .ok (.aload_n 0, 1) := by decide +kernel
theorem dX7_check_49 : decode cX7_check 49 = .ok (.getfield 96, 3) := by decide +kernel
theorem dX7_check_52 : decode cX7_check 52 = .ok (.iload_n 3, 1) := by decide +kernel
theorem dX7_check_53 : decode cX7_check 53 = .ok (.iaload, 1) := by decide +kernel
theorem dX7_check_54 : decode cX7_check 54 = .ok (.aload_n 0, 1) := by decide +kernel
theorem dX7_check_55 : decode cX7_check 55 = .ok (.getfield 111, 3) := by decide +kernel
theorem dX7_check_58 : decode cX7_check 58 = .ok (.bipush 6, 2) := by decide +kernel
theorem dX7_check_60 : decode cX7_check 60 = .ok (.iload_n 3, 1) := by decide +kernel
theorem dX7_check_61 : decode cX7_check 61 = .ok (.iadd, 1) := by decide +kernel
theorem dX7_check_62 : decode cX7_check 62 = .ok (.iaload, 1) := by decide +kernel
theorem dX7_check_63 : decode cX7_check 63 = .ok (.if_icmp .eq 7, 3) := by decide +kernel
theorem dX7_check_66 : decode cX7_check 66 = .ok (.iconst 1, 1) := by decide +kernel
theorem dX7_check_67 : decode cX7_check 67 = .ok (.iload_n 3, 1) := by decide +kernel
theorem dX7_check_68 : decode cX7_check 68 = .ok (.iadd, 1) := by decide +kernel
theorem dX7_check_69 : decode cX7_check 69 = .ok (.ireturn, 1) := by decide +kernel
theorem dX7_check_70 : decode cX7_check 70 = .ok (.iinc 3 1, 3) := by decide +kernel
theorem dX7_check_73 : decode cX7_check 73 = .ok (.goto (-38), 3) := by decide +kernel
theorem dX7_check_76 : decode cX7_check 76 = .ok (.iconst 0, 1) := by decide +kernel
theorem dX7_check_77 : decode cX7_check 77 = .ok (.ireturn, 1) := by decide +kernel
theorem dX7_count_0 : decode cX7_count 0 = .ok (.iconst 0, 1) := by decide +kernel
theorem dX7_count_1 : decode cX7_count 1 = .ok (.istore_n 2, 1) := by decide +kernel
theorem dX7_count_2 : decode cX7_count 2 = .ok (.iload_n 1, 1) := by decide +kernel
theorem dX7_count_3 : decode cX7_count 3 = .ok (.tableswitch 137 0 9 #[53, 58, 63, 68, 73, 78, 83, 88, 93, 98], 53) := by decide +kernel
theorem dX7_count_56 : decode cX7_count 56 = .ok (.aload_n 0, 1) := by decide +kernel
theorem dX7_count_57 : decode cX7_count 57 = .ok (.getfield 7, 3) := by decide +kernel
theorem dX7_count_60 : decode cX7_count 60 = .ok (.ireturn, 1) := by decide +kernel
theorem dX7_count_61 : decode cX7_count 61 = .ok (.aload_n 0, 1) := by decide +kernel
theorem dX7_count_62 : decode cX7_count 62 = .ok (.getfield 125, 3) := by decide +kernel
theorem dX7_count_65 : decode cX7_count 65 = .ok (.ireturn, 1) := by decide +kernel
theorem dX7_count_66 : decode cX7_count 66 = .ok (.aload_n 0, 1) := by decide +kernel
theorem dX7_count_67 : decode cX7_count 67 = .ok (.getfield 128, 3) := by decide +kernel
theorem dX7_count_70 : decode cX7_count 70 = .ok (.ireturn, 1) := by decide +kernel
theorem dX7_count_71 : decode cX7_count 71 = .ok (.aload_n 0, 1) := by decide +kernel
theorem dX7_count_72 : decode cX7_count 72 = .ok (.getfield 211, 3) := by decide +kernel
theorem dX7_count_75 : decode cX7_count 75 = .ok (.ireturn, 1) := by decide +kernel
theorem dX7_count_76 : decode cX7_count 76 = .ok (.aload_n 0, 1) := by decide +kernel
theorem dX7_count_77 : decode cX7_count 77 = .ok (.getfield 163, 3) := by decide +kernel
theorem dX7_count_80 : decode cX7_count 80 = .ok (.ireturn, 1) := by decide +kernel
theorem dX7_count_81 : decode cX7_count 81 = .ok (.aload_n 0, 1) := by decide +kernel
theorem dX7_count_82 : decode cX7_count 82 = .ok (.getfield 238, 3) := by decide +kernel
theorem dX7_count_85 : decode cX7_count 85 = .ok (.ireturn, 1) := by decide +kernel
theorem dX7_count_86 : decode cX7_count 86 = .ok (.aload_n 0, 1) := by decide +kernel
theorem dX7_count_87 : decode cX7_count 87 = .ok (.getfield 244, 3) := by decide +kernel
theorem dX7_count_90 : decode cX7_count 90 = .ok (.ireturn, 1) := by decide +kernel
theorem dX7_count_91 : decode cX7_count 91 = .ok (.aload_n 0, 1) := by decide +kernel
theorem dX7_count_92 : decode cX7_count 92 = .ok (.getfield 154, 3) := by decide +kernel
theorem dX7_count_95 : decode cX7_count 95 = .ok (.ireturn, 1) := by decide +kernel
theorem dX7_count_96 : decode cX7_count 96 = .ok (.aload_n 0, 1) := by decide +kernel
theorem dX7_count_97 : decode cX7_count 97 = .ok (.getfield 257, 3) := by decide +kernel
theorem dX7_count_100 : decode cX7_count 100 = .ok (.ireturn, 1) := by decide +kernel
theorem dX7_count_101 : decode cX7_count 101 = .ok (.iconst 0, 1) := by decide +kernel
theorem dX7_count_102 : decode cX7_count 102 = .ok (.istore_n 3, 1) := by decide +kernel
theorem dX7_count_103 : decode cX7_count 103 = .ok (.iload_n 3, 1) := by decide +kernel
theorem dX7_count_104 : decode cX7_count 104 = .ok (.aload_n 0, 1) := by decide +kernel
theorem dX7_count_105 : decode cX7_count 105 = .ok (.getfield 128, 3) := by decide +kernel
theorem dX7_count_108 : decode cX7_count 108 = .ok (.if_icmp .ge 30, 3) := by decide +kernel
theorem dX7_count_111 : decode cX7_count 111 = .ok (.iload_n 2, 1) := by decide +kernel
theorem dX7_count_112 : decode cX7_count 112 = .ok (.aload_n 0, 1) := by decide +kernel
theorem dX7_count_113 : decode cX7_count 113 = .ok (.iload_n 3, 1) := by decide +kernel
theorem dX7_count_114 : decode cX7_count 114 = .ok (.aload_n 0, 1) := by decide +kernel
theorem dX7_count_115 : decode cX7_count 115 = .ok (.getfield 154, 3) := by decide +kernel
theorem dX7_count_118 : decode cX7_count 118 = .ok (.invokevirtual 198, 3) := by decide +kernel
theorem dX7_count_121 : decode cX7_count 121 = .ok (.iconst 2, 1) := by decide +kernel
theorem dX7_count_122 : decode cX7_count 122 = .ok (.if_icmp .ne 7, 3) := by decide +kernel
theorem dX7_count_125 : decode cX7_count 125 = .ok (.iconst 1, 1) := by decide +kernel
theorem dX7_count_126 : decode cX7_count 126 = .ok (.goto 4, 3) := by decide +kernel
theorem dX7_count_129 : decode cX7_count 129 = .ok (.iconst 0, 1) := by decide +kernel
theorem dX7_count_130 : decode cX7_count 130 = .ok (.iadd, 1) := by decide +kernel
theorem dX7_count_131 : decode cX7_count 131 = .ok (.istore_n 2, 1) := by decide +kernel
theorem dX7_count_132 : decode cX7_count 132 = .ok (.iinc 3 1, 3) := by decide +kernel
theorem dX7_count_135 : decode cX7_count 135 = .ok (.goto (-32), 3) := by decide +kernel
theorem dX7_count_138 : decode cX7_count 138 = .ok (.iload_n 2, 1) := by decide +kernel
theorem dX7_count_139 : decode cX7_count 139 = .ok (.ireturn, 1) := by decide +kernel
theorem dX7_count_140 : decode cX7_count 140 = .ok (.aload_n 0, 1) := by decide +kernel
theorem dX7_count_141 : decode cX7_count 141 = .ok (.ldc 131, 2) := by decide +kernel
theorem dX7_count_143 : decode cX7_count 143 = .ok (.invokevirtual 132, 3) := by decide +kernel
theorem dX7_count_146 : decode cX7_count 146 = .ok (.ireturn, 1) := by decide +kernel
theorem dX7_found_0 : decode cX7_found 0 = .ok (.iload_n 1, 1) := by decide +kernel
theorem dX7_found_1 : decode cX7_found 1 = .ok (.iconst 1, 1) := by decide +kernel
theorem dX7_found_2 : decode cX7_found 2 = .ok (.iconst 5, 1) := by decide +kernel
theorem dX7_found_3 : decode cX7_found 3 = .ok (.invokestatic 121, 3) := by decide +kernel
theorem dX7_found_6 : decode cX7_found 6 = .ok (.ifCond .eq 12, 3) := by decide +kernel
theorem dX7_found_9 : decode cX7_found 9 = .ok (.aload_n 0, 1) := by decide +kernel
theorem dX7_found_10 : decode cX7_found 10 = .ok (.getfield 99, 3) := by decide +kernel
theorem dX7_found_13 : decode cX7_found 13 = .ok (.iload_n 1, 1) := by decide +kernel
theorem dX7_found_14 : decode cX7_found 14 = .ok (.iaload, 1) := by decide +kernel
theorem dX7_found_15 : decode cX7_found 15 = .ok (.goto 9, 3) := by decide +kernel
theorem dX7_found_18 : decode cX7_found 18 = .ok (.aload_n 0, 1) := by decide +kernel
theorem dX7_found_19 : decode cX7_found 19 = .ok (.ldc 131, 2) := by decide +kernel
theorem dX7_found_21 : decode cX7_found 21 = .ok (.invokevirtual 132, 3) := by decide +kernel
theorem dX7_found_24 : decode cX7_found 24 = .ok (.ireturn, 1) := by decide +kernel
