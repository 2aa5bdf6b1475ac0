theorem dX6_isKindNumber_0 : decode cX6_isKindNumber 0 = .ok (.iload_n 0, 1) := by decide +kernel
theorem dX6_isKindNumber_1 : decode cX6_isKindNumber 1 = .ok (.iconst 0, 1) := by decide +kernel
theorem dX6_isKindNumber_2 : decode cX6_isKindNumber 2 = .ok (.iconst 3, 1) := by decide +kernel
theorem dX6_isKindNumber_3 : decode cX6_isKindNumber 3 = .ok (.invokestatic 74, 3) := by decide +kernel
theorem dX6_isKindNumber_6 : decode cX6_isKindNumber 6 = .ok (.ireturn, 1) := by decide +kernel
theorem dX6_finding_0 : decode cX6_finding 0 = .ok (.aload_n 0, 1) := by decide +kernel
theorem dX6_finding_1 : decode cX6_finding 1 = .ok (.getfield 52, 3) := by decide +kernel
theorem dX6_finding_4 : decode cX6_finding 4 = .ok (.iload_n 1, 1) := by decide +kernel
theorem dX6_finding_5 : decode cX6_finding 5 = .ok (.dup2, 1) := by decide +kernel
theorem dX6_finding_6 : decode cX6_finding 6 = .ok (.iaload, 1) := by decide +kernel
theorem dX6_finding_7 : decode cX6_finding 7 = .ok (.iconst 1, 1) := by decide +kernel
theorem dX6_finding_8 : decode cX6_finding 8 = .ok (.iadd, 1) := by decide +kernel
theorem dX6_finding_9 : decode cX6_finding 9 = .ok (.iastore, 1) := by decide +kernel
theorem dX6_finding_10 : decode cX6_finding 10 = .ok (.ldc_w 275, 3) := by decide +kernel
theorem dX6_finding_13 : decode cX6_finding 13 = .ok (.iload_n 1, 1) := by decide +kernel
theorem dX6_finding_14 : decode cX6_finding 14 = .ok (.isub, 1) := by decide +kernel
theorem dX6_finding_15 : decode cX6_finding 15 = .ok (.ireturn, 1) := by decide +kernel
theorem dX6_party_0 : decode cX6_party 0 = .ok (.iload_n 1, 1) := by decide +kernel
theorem dX6_party_1 : decode cX6_party 1 = .ok (.invokestatic 55, 3) := by decide +kernel
theorem dX6_party_4 : decode cX6_party 4 = .ok (.ifCond .ne 9, 3) := by decide +kernel
theorem dX6_party_7 : decode cX6_party 7 = .ok (.aload_n 0, 1) := by decide +kernel
theorem dX6_party_8 : decode cX6_party 8 = .ok (.iconst 1, 1) := by decide +kernel
theorem dX6_party_9 : decode cX6_party 9 = .ok (.invokevirtual 59, 3) := by decide +kernel
theorem dX6_party_12 : decode cX6_party 12 = .ok (.ireturn, 1) := by decide +kernel
theorem dX6_party_13 : decode cX6_party 13 = .ok (.aload_n 0, 1) := by decide +kernel
theorem dX6_party_14 : decode cX6_party 14 = .ok (.getfield 13, 3) := by decide +kernel
theorem dX6_party_17 : decode cX6_party 17 = .ok (.bipush 12, 2) := by decide +kernel
theorem dX6_party_19 : decode cX6_party 19 = .ok (.if_icmp .lt 9, 3) := by decide +kernel
theorem dX6_party_22 : decode cX6_party 22 = .ok (.aload_n 0, 1) := by decide +kernel
theorem dX6_party_23 : decode cX6_party 23 = .ok (.iconst 4, 1) := by decide +kernel
theorem dX6_party_24 : decode cX6_party 24 = .ok (.invokevirtual 59, 3) := by decide +kernel
theorem dX6_party_27 : decode cX6_party 27 = .ok (.ireturn, 1) := by decide +kernel
theorem dX6_party_28 : decode cX6_party 28 = .ok (.aload_n 0, 1) := by decide +kernel
theorem dX6_party_29 : decode cX6_party 29 = .ok (.getfield 9, 3) := by decide +kernel
theorem dX6_party_32 : decode cX6_party 32 = .ok (.aload_n 0, 1) := by decide +kernel
theorem dX6_party_33 : decode cX6_party 33 = .ok (.getfield 13, 3) := by decide +kernel
theorem dX6_party_36 : decode cX6_party 36 = .ok (.iload_n 1, 1) := by decide +kernel
theorem dX6_party_37 : decode cX6_party 37 = .ok (.iastore, 1) := by decide +kernel
theorem dX6_party_38 : decode cX6_party 38 = .ok (.aload_n 0, 1) := by decide +kernel
theorem dX6_party_39 : decode cX6_party 39 = .ok (.dup, 1) := by decide +kernel
theorem dX6_party_40 : decode cX6_party 40 = .ok (.getfield 13, 3) := by decide +kernel
theorem dX6_party_43 : decode cX6_party 43 = .ok (.iconst 1, 1) := by decide +kernel
theorem dX6_party_44 : decode cX6_party 44 = .ok (.iadd, 1) := by decide +kernel
theorem dX6_party_45 : decode cX6_party 45 = .ok (.putfield 13, 3) := by decide +kernel
theorem dX6_party_48 : decode cX6_party 48 = .ok (.aload_n 0, 1) := by decide +kernel
theorem dX6_party_49 : decode cX6_party 49 = .ok (.getfield 13, 3) := by decide +kernel
theorem dX6_party_52 : decode cX6_party 52 = .ok (.iconst 1, 1) := by decide +kernel
theorem dX6_party_53 : decode cX6_party 53 = .ok (.isub, 1) := by decide +kernel
theorem dX6_party_54 : decode cX6_party 54 = .ok (.ireturn, 1) := by decide +kernel
theorem dX6_isParty_0 : decode cX6_isParty 0 = .ok (.iload_n 1, 1) := by decide +kernel
theorem dX6_isParty_1 : decode cX6_isParty 1 = .ok (.iconst 0, 1) := by decide +kernel
theorem dX6_isParty_2 : decode cX6_isParty 2 = .ok (.aload_n 0, 1) := by decide +kernel
theorem dX6_isParty_3 : decode cX6_isParty 3 = .ok (.getfield 13, 3) := by decide +kernel
theorem dX6_isParty_6 : decode cX6_isParty 6 = .ok (.iconst 1, 1) := by decide +kernel
theorem dX6_isParty_7 : decode cX6_isParty 7 = .ok (.isub, 1) := by decide +kernel
theorem dX6_isParty_8 : decode cX6_isParty 8 = .ok (.invokestatic 74, 3) := by decide +kernel
theorem dX6_isParty_11 : decode cX6_isParty 11 = .ok (.ireturn, 1) := by decide +kernel
theorem dX6_isOfKind_0 : decode cX6_isOfKind 0 = .ok (.aload_n 0, 1) := by decide +kernel
theorem dX6_isOfKind_1 : decode cX6_isOfKind 1 = .ok (.getfield 9, 3) := by decide +kernel
theorem dX6_isOfKind_4 : decode cX6_isOfKind 4 = .ok (.iload_n 1, 1) := by decide +kernel
theorem dX6_isOfKind_5 : decode cX6_isOfKind 5 = .ok (.iaload, 1) := by decide +kernel
theorem dX6_isOfKind_6 : decode cX6_isOfKind 6 = .ok (.istore_n 3, 1) := by decide +kernel
theorem dX6_isOfKind_7 : decode cX6_isOfKind 7 = .ok (.iload_n 2, 1) := by decide +kernel
theorem dX6_isOfKind_8 : decode cX6_isOfKind 8 = .ok (.ifCond .eq 18, 3) := by decide +kernel
theorem dX6_isOfKind_11 : decode cX6_isOfKind 11 = .ok (.iload_n 3, 1) := by decide +kernel
theorem dX6_isOfKind_12 : decode cX6_isOfKind 12 = .ok (.iload_n 2, 1) := by decide +kernel
theorem dX6_isOfKind_13 : decode cX6_isOfKind 13 = .ok (.if_icmp .eq 13, 3) := by decide +kernel
theorem dX6_isOfKind_16 : decode cX6_isOfKind 16 = .ok (.iload_n 3, 1) := by decide +kernel
theorem dX6_isOfKind_17 : decode cX6_isOfKind 17 = .ok (.iconst 3, 1) := by decide +kernel
theorem dX6_isOfKind_18 : decode cX6_isOfKind 18 = .ok (.if_icmp .ne 12, 3) := by decide +kernel
theorem dX6_isOfKind_21 : decode cX6_isOfKind 21 = .ok (.iload_n 2, 1) := by decide +kernel
theorem dX6_isOfKind_22 : decode cX6_isOfKind 22 = .ok (.iconst 2, 1) := by decide +kernel
theorem dX6_isOfKind_23 : decode cX6_isOfKind 23 = .ok (.if_icmp .ne 7, 3) := by decide +kernel
theorem dX6_isOfKind_26 : decode cX6_isOfKind 26 = .ok (.iconst 1, 1) := by decide +kernel
theorem dX6_isOfKind_27 : decode cX6_isOfKind 27 = .ok (.goto 4, 3) := by decide +kernel
theorem dX6_isOfKind_30 : decode cX6_isOfKind 30 = .ok (.iconst 0, 1) := by decide +kernel
theorem dX6_isOfKind_31 : decode cX6_isOfKind 31 = .ok (.ireturn, 1) := by decide +kernel
theorem dX6_as_0 : decode cX6_as 0 = .ok (.aload_n 0, 1) := by decide +kernel
theorem dX6_as_1 : decode cX6_as 1 = .ok (.iload_n 1, 1) := by decide +kernel
theorem dX6_as_2 : decode cX6_as 2 = .ok (.invokevirtual 63, 3) := by decide +kernel
theorem dX6_as_5 : decode cX6_as 5 = .ok (.ifCond .eq 10, 3) := by decide +kernel
theorem dX6_as_8 : decode cX6_as 8 = .ok (.iload_n 2, 1) := by decide +kernel
theorem dX6_as_9 : decode cX6_as 9 = .ok (.invokestatic 55, 3) := by decide +kernel
theorem dX6_as_12 : decode cX6_as 12 = .ok (.ifCond .ne 9, 3) := by decide +kernel
theorem dX6_as_15 : decode cX6_as 15 = .ok (.aload_n 0, 1) := by decide +kernel
theorem dX6_as_16 : decode cX6_as 16 = .ok (.iconst 1, 1) := by decide +kernel
theorem dX6_as_17 : decode cX6_as 17 = .ok (.invokevirtual 59, 3) := by decide +kernel
theorem dX6_as_20 : decode cX6_as 20 = .ok (.ireturn, 1) := by decide +kernel
theorem dX6_as_21 : decode cX6_as 21 = .ok (.aload_n 0, 1) := by decide +kernel
theorem dX6_as_22 : decode cX6_as 22 = .ok (.iload_n 1, 1) := by decide +kernel
theorem dX6_as_23 : decode cX6_as 23 = .ok (.iload_n 2, 1) := by decide +kernel
theorem dX6_as_24 : decode cX6_as 24 = .ok (.invokevirtual 66, 3) := by decide +kernel
theorem dX6_as_27 : decode cX6_as 27 = .ok (.ifCond .ne 9, 3) := by decide +kernel
theorem dX6_as_30 : decode cX6_as 30 = .ok (.aload_n 0, 1) := by decide +kernel
theorem dX6_as_31 : decode cX6_as 31 = .ok (.iconst 5, 1) := by decide +kernel
theorem dX6_as_32 : decode cX6_as 32 = .ok (.invokevirtual 59, 3) := by decide +kernel
theorem dX6_as_35 : decode cX6_as 35 = .ok (.ireturn, 1) := by decide +kernel
theorem dX6_as_36 : decode cX6_as 36 = .ok (.aload_n 0, 1) := by decide +kernel
theorem dX6_as_37 : decode cX6_as 37 = .ok (.getfield 20, 3) := by decide +kernel
theorem dX6_as_40 : decode cX6_as 40 = .ok (.iload_n 1, 1) := by decide +kernel
theorem dX6_as_41 : decode cX6_as 41 = .ok (.invokevirtual 70, 3) := by decide +kernel
theorem dX6_as_44 : decode cX6_as 44 = .ok (.ireturn, 1) := by decide +kernel
theorem dX6_contract_0 : decode cX6_contract 0 = .ok (.aload_n 0, 1) := by decide +kernel
theorem dX6_contract_1 : decode cX6_contract 1 = .ok (.iload_n 1, 1) := by decide +kernel
theorem dX6_contract_2 : decode cX6_contract 2 = .ok (.invokevirtual 63, 3) := by decide +kernel
theorem dX6_contract_5 : decode cX6_contract 5 = .ok (.ifCond .eq 21, 3) := by decide +kernel
theorem dX6_contract_8 : decode cX6_contract 8 = .ok (.aload_n 0, 1) := by decide +kernel
theorem dX6_contract_9 : decode cX6_contract 9 = .ok (.iload_n 2, 1) := by decide +kernel
theorem dX6_contract_10 : decode cX6_contract 10 = .ok (.invokevirtual 63, 3) := by decide +kernel
theorem dX6_contract_13 : decode cX6_contract 13 = .ok (.ifCond .eq 13, 3) := by decide +kernel
theorem dX6_contract_16 : decode cX6_contract 16 = .ok (.iload_n 3, 1) := by decide +kernel
theorem dX6_contract_17 : decode cX6_contract 17 = .ok (.iconst 1, 1) := by decide +kernel
theorem dX6_contract_18 : decode cX6_contract 18 = .ok (.ldc 73, 2) := by decide +kernel
theorem dX6_contract_20 : decode cX6_contract 20 = .ok (.invokestatic 74, 3) := by decide +kernel
theorem dX6_contract_23 : decode cX6_contract 23 = .ok (.ifCond .ne 9, 3) := by decide +kernel
theorem dX6_contract_26 : decode cX6_contract 26 = .ok (.aload_n 0, 1) := by decide +kernel
theorem dX6_contract_27 : decode cX6_contract 27 = .ok (.iconst 1, 1) := by decide +kernel
theorem dX6_contract_28 : decode cX6_contract 28 = .ok (.invokevirtual 59, 3) := by decide +kernel
theorem dX6_contract_31 : decode cX6_contract 31 = .ok (.ireturn, 1) := by decide +kernel
theorem dX6_contract_32 : decode cX6_contract 32 = .ok (.aload_n 0, 1) := by decide +kernel
theorem dX6_contract_33 : decode cX6_contract 33 = .ok (.iload_n 2, 1) := by decide +kernel
theorem dX6_contract_34 : decode cX6_contract 34 = .ok (.iconst 2, 1) := by decide +kernel
theorem dX6_contract_35 : decode cX6_contract 35 = .ok (.invokevirtual 66, 3) := by decide +kernel
theorem dX6_contract_38 : decode cX6_contract 38 = .ok (.ifCond .eq 17, 3) := by decide +kernel
theorem dX6_contract_41 : decode cX6_contract 41 = .ok (.iload_n 1, 1) := by decide +kernel
theorem dX6_contract_42 : decode cX6_contract 42 = .ok (.ifCond .eq 19, 3) := by decide +kernel
theorem dX6_contract_45 : decode cX6_contract 45 = .ok (.aload_n 0, 1) := by decide +kernel
theorem dX6_contract_46 : decode cX6_contract 46 = .ok (.getfield 9, 3) := by decide +kernel
theorem dX6_contract_49 : decode cX6_contract 49 = .ok (.iload_n 1, 1) := by decide +kernel
theorem dX6_contract_50 : decode cX6_contract 50 = .ok (.iaload, 1) := by decide +kernel
theorem dX6_contract_51 : decode cX6_contract 51 = .ok (.iconst 2, 1) := by decide +kernel
theorem dX6_contract_52 : decode cX6_contract 52 = .ok (.if_icmp .eq 9, 3) := by decide +kernel
theorem dX6_contract_55 : decode cX6_contract 55 = .ok (.aload_n 0, 1) := by decide +kernel
theorem dX6_contract_56 : decode cX6_contract 56 = .ok (.iconst 5, 1) := by decide +kernel
theorem dX6_contract_57 : decode cX6_contract 57 = .ok (.invokevirtual 59, 3) := by decide +kernel
theorem dX6_contract_60 : decode cX6_contract 60 = .ok (.ireturn, 1) := by decide +kernel
theorem dX6_contract_61 : decode cX6_contract 61 = .ok (.iload_n 1, 1) := by decide +kernel
theorem dX6_contract_62 : decode cX6_contract 62 = .ok (.ifCond .eq 15, 3) := by decide +kernel
theorem dX6_contract_65 : decode cX6_contract 65 = .ok (.aload_n 0, 1) := by decide +kernel
theorem dX6_contract_66 : decode cX6_contract 66 = .ok (.getfield 20, 3) := by decide +kernel
theorem dX6_contract_69 : decode cX6_contract 69 = .ok (.iload_n 1, 1) := by decide +kernel
theorem dX6_contract_70 : decode cX6_contract 70 = .ok (.invokevirtual 78, 3) := by decide +kernel
theorem dX6_contract_73 : decode cX6_contract 73 = .ok (.iconst (-1), 1) := by decide +kernel
theorem dX6_contract_74 : decode cX6_contract 74 = .ok (.if_icmp .eq 7, 3) := by decide +kernel
theorem dX6_contract_77 : decode cX6_contract 77 = .ok (.iconst 1, 1) := by decide +kernel
theorem dX6_contract_78 : decode cX6_contract 78 = .ok (.goto 4, 3) := by decide +kernel
theorem dX6_contract_81 : decode cX6_contract 81 = .ok (.iconst 0, 1) := by decide +kernel
theorem dX6_contract_82 : decode cX6_contract 82 = .ok (.istore 4, 2) := by decide +kernel
theorem dX6_contract_84 : decode cX6_contract 84 = .ok (.iload_n 1, 1) := by decide +kernel
theorem dX6_contract_85 : decode cX6_contract 85 = .ok (.iload_n 2, 1) := by decide +kernel
theorem dX6_contract_86 : decode cX6_contract 86 = .ok (.if_icmp .eq 20, 3) := by decide +kernel
theorem dX6_contract_89 : decode cX6_contract 89 = .ok (.iload 4, 2) := by decide +kernel
theorem dX6_contract_91 : decode cX6_contract 91 = .ok (.ifCond .eq 15, 3) := by decide +kernel
theorem dX6_contract_94 : decode cX6_contract 94 = .ok (.aload_n 0, 1) := by decide +kernel
theorem dX6_contract_95 : decode cX6_contract 95 = .ok (.getfield 20, 3) := by decide +kernel
theorem dX6_contract_98 : decode cX6_contract 98 = .ok (.iload_n 2, 1) := by decide +kernel
theorem dX6_contract_99 : decode cX6_contract 99 = .ok (.invokevirtual 78, 3) := by decide +kernel
theorem dX6_contract_102 : decode cX6_contract 102 = .ok (.iconst (-1), 1) := by decide +kernel
theorem dX6_contract_103 : decode cX6_contract 103 = .ok (.if_icmp .eq 9, 3) := by decide +kernel
theorem dX6_contract_106 : decode cX6_contract 106 = .ok (.aload_n 0, 1) := by decide +kernel
theorem dX6_contract_107 : decode cX6_contract 107 = .ok (.iconst 3, 1) := by decide +kernel
theorem dX6_contract_108 : decode cX6_contract 108 = .ok (.invokevirtual 59, 3) := by decide +kernel
theorem dX6_contract_111 : decode cX6_contract 111 = .ok (.ireturn, 1) := by decide +kernel
theorem dX6_contract_112 : decode cX6_contract 112 = .ok (.aload_n 0, 1) := by decide +kernel
theorem dX6_contract_113 : decode cX6_contract 113 = .ok (.getfield 20, 3) := by decide +kernel
theorem dX6_contract_116 : decode cX6_contract 116 = .ok (.getfield 81, 3) := by decide +kernel
theorem dX6_contract_119 : decode cX6_contract 119 = .ok (.bipush 10, 2) := by decide +kernel
theorem dX6_contract_121 : decode cX6_contract 121 = .ok (.if_icmp .lt 9, 3) := by decide +kernel
theorem dX6_contract_124 : decode cX6_contract 124 = .ok (.aload_n 0, 1) := by decide +kernel
theorem dX6_contract_125 : decode cX6_contract 125 = .ok (.iconst 4, 1) := by decide +kernel
theorem dX6_contract_126 : decode cX6_contract 126 = .ok (.invokevirtual 59, 3) := by decide +kernel
theorem dX6_contract_129 : decode cX6_contract 129 = .ok (.ireturn, 1) := by decide +kernel
theorem dX6_contract_130 : decode cX6_contract 130 = .ok (.aload_n 0, 1) := by decide +kernel
theorem dX6_contract_131 : decode cX6_contract 131 = .ok (.getfield 20, 3) := by decide +kernel
theorem dX6_contract_134 : decode cX6_contract 134 = .ok (.iload_n 1, 1) := by decide +kernel
theorem dX6_contract_135 : decode cX6_contract 135 = .ok (.iload_n 2, 1) := by decide +kernel
theorem dX6_contract_136 : decode cX6_contract 136 = .ok (.iload_n 3, 1) := by decide +kernel
theorem dX6_contract_137 : decode cX6_contract 137 = .ok (.invokevirtual 84, 3) := by decide +kernel
theorem dX6_contract_140 : decode cX6_contract 140 = .ok (.ireturn, 1) := by decide +kernel
theorem dX6_extra_0 : decode cX6_extra 0 = .ok (.aload_n 0, 1) := by decide +kernel
theorem dX6_extra_1 : decode cX6_extra 1 = .ok (.getfield 20, 3) := by decide +kernel
theorem dX6_extra_4 : decode cX6_extra 4 = .ok (.iload_n 1, 1) := by decide +kernel
theorem dX6_extra_5 : decode cX6_extra 5 = .ok (.invokevirtual 88, 3) := by decide +kernel
theorem dX6_extra_8 : decode cX6_extra 8 = .ok (.ifCond .eq 13, 3) := by decide +kernel
theorem dX6_extra_11 : decode cX6_extra 11 = .ok (.iload_n 2, 1) := by decide +kernel
theorem dX6_extra_12 : decode cX6_extra 12 = .ok (.iconst 1, 1) := by decide +kernel
theorem dX6_extra_13 : decode cX6_extra 13 = .ok (.ldc 73, 2) := by decide +kernel
theorem dX6_extra_15 : decode cX6_extra 15 = .ok (.invokestatic 74, 3) := by decide +kernel
theorem dX6_extra_18 : decode cX6_extra 18 = .ok (.ifCond .ne 9, 3) := by decide +kernel
theorem dX6_extra_21 : decode cX6_extra 21 = .ok (.aload_n 0, 1) := by decide +kernel
theorem dX6_extra_22 : decode cX6_extra 22 = .ok (.iconst 1, 1) := by decide +kernel
theorem dX6_extra_23 : decode cX6_extra 23 = .ok (.invokevirtual 59, 3) := by decide +kernel
theorem dX6_extra_26 : decode cX6_extra 26 = .ok (.ireturn, 1) := by decide +kernel
theorem dX6_extra_27 : decode cX6_extra 27 = .ok (.aload_n 0, 1) := by decide +kernel
theorem dX6_extra_28 : decode cX6_extra 28 = .ok (.getfield 20, 3) := by decide +kernel
theorem dX6_extra_31 : decode cX6_extra 31 = .ok (.getfield 91, 3) := by decide +kernel
theorem dX6_extra_34 : decode cX6_extra 34 = .ok (.iload_n 1, 1) := by decide +kernel
theorem dX6_extra_35 : decode cX6_extra 35 = .ok (.aaload, 1) := by decide +kernel
theorem dX6_extra_36 : decode cX6_extra 36 = .ok (.astore_n 3, 1) := by decide +kernel
theorem dX6_extra_37 : decode cX6_extra 37 = .ok (.aload_n 3, 1) := by decide +kernel
theorem dX6_extra_38 : decode cX6_extra 38 = .ok (.getfield 95, 3) := by decide +kernel
theorem dX6_extra_41 : decode cX6_extra 41 = .ok (.iload_n 2, 1) := by decide +kernel
theorem dX6_extra_42 : decode cX6_extra 42 = .ok (.iadd, 1) := by decide +kernel
theorem dX6_extra_43 : decode cX6_extra 43 = .ok (.ldc 100, 2) := by decide +kernel
theorem dX6_extra_45 : decode cX6_extra 45 = .ok (.if_icmp .le 9, 3) := by decide +kernel
theorem dX6_extra_48 : decode cX6_extra 48 = .ok (.aload_n 0, 1) := by decide +kernel
theorem dX6_extra_49 : decode cX6_extra 49 = .ok (.iconst 4, 1) := by decide +kernel
theorem dX6_extra_50 : decode cX6_extra 50 = .ok (.invokevirtual 59, 3) := by decide +kernel
theorem dX6_extra_53 : decode cX6_extra 53 = .ok (.ireturn, 1) := by decide +kernel
theorem dX6_extra_54 : decode cX6_extra 54 = .ok (.aload_n 3, 1) := by decide +kernel
theorem dX6_extra_55 : decode cX6_extra 55 = .ok (.dup, 1) := by decide +kernel
theorem dX6_extra_56 : decode cX6_extra 56 = .ok (.getfield 95, 3) := by decide +kernel
theorem dX6_extra_59 : decode cX6_extra 59 = .ok (.iload_n 2, 1) := by decide +kernel
theorem dX6_extra_60 : decode cX6_extra 60 = .ok (.iadd, 1) := by decide +kernel
theorem dX6_extra_61 : decode cX6_extra 61 = .ok (.putfield 95, 3) := by decide +kernel
theorem dX6_extra_64 : decode cX6_extra 64 = .ok (.aload_n 3, 1) := by decide +kernel
theorem dX6_extra_65 : decode cX6_extra 65 = .ok (.getfield 95, 3) := by decide +kernel
theorem dX6_extra_68 : decode cX6_extra 68 = .ok (.ireturn, 1) := by decide +kernel
theorem dX6_isSpanUpToToday_0 : decode cX6_isSpanUpToToday 0 = .ok (.iload_n 1, 1) := by decide +kernel
theorem dX6_isSpanUpToToday_1 : decode cX6_isSpanUpToToday 1 = .ok (.iconst 0, 1) := by decide +kernel
theorem dX6_isSpanUpToToday_2 : decode cX6_isSpanUpToToday 2 = .ok (.iload_n 2, 1) := by decide +kernel
theorem dX6_isSpanUpToToday_3 : decode cX6_isSpanUpToToday 3 = .ok (.invokestatic 74, 3) := by decide +kernel
theorem dX6_isSpanUpToToday_6 : decode cX6_isSpanUpToToday 6 = .ok (.ifCond .eq 15, 3) := by decide +kernel
theorem dX6_isSpanUpToToday_9 : decode cX6_isSpanUpToToday 9 = .ok (.iload_n 2, 1) := by decide +kernel
theorem dX6_isSpanUpToToday_10 : decode cX6_isSpanUpToToday 10 = .ok (.aload_n 0, 1) := by decide +kernel
theorem dX6_isSpanUpToToday_11 : decode cX6_isSpanUpToToday 11 = .ok (.getfield 126, 3) := by decide +kernel
theorem dX6_isSpanUpToToday_14 : decode cX6_isSpanUpToToday 14 = .ok (.if_icmp .gt 7, 3) := by decide +kernel
theorem dX6_isSpanUpToToday_17 : decode cX6_isSpanUpToToday 17 = .ok (.iconst 1, 1) := by decide +kernel
theorem dX6_isSpanUpToToday_18 : decode cX6_isSpanUpToToday 18 = .ok (.goto 4, 3) := by decide +kernel
theorem dX6_isSpanUpToToday_21 : decode cX6_isSpanUpToToday 21 = .ok (.iconst 0, 1) := by decide +kernel
theorem dX6_isSpanUpToToday_22 : decode cX6_isSpanUpToToday 22 = .ok (.ireturn, 1) := by decide +kernel
theorem dX6_began_0 : decode cX6_began 0 = .ok (.aload_n 0, 1) := by decide +kernel
theorem dX6_began_1 : decode cX6_began 1 = .ok (.getfield 20, 3) := by decide +kernel
theorem dX6_began_4 : decode cX6_began 4 = .ok (.iload_n 1, 1) := by decide +kernel
theorem dX6_began_5 : decode cX6_began 5 = .ok (.invokevirtual 88, 3) := by decide +kernel
theorem dX6_began_8 : decode cX6_began 8 = .ok (.ifCond .eq 12, 3) := by decide +kernel
theorem dX6_began_11 : decode cX6_began 11 = .ok (.aload_n 0, 1) := by decide +kernel
theorem dX6_began_12 : decode cX6_began 12 = .ok (.iload_n 2, 1) := by decide +kernel
theorem dX6_began_13 : decode cX6_began 13 = .ok (.iload_n 3, 1) := by decide +kernel
theorem dX6_began_14 : decode cX6_began 14 = .ok (.invokevirtual 101, 3) := by decide +kernel
theorem dX6_began_17 : decode cX6_began 17 = .ok (.ifCond .ne 9, 3) := by decide +kernel
theorem dX6_began_20 : decode cX6_began 20 = .ok (.aload_n 0, 1) := by decide +kernel
theorem dX6_began_21 : decode cX6_began 21 = .ok (.iconst 1, 1) := by decide +kernel
theorem dX6_began_22 : decode cX6_began 22 = .ok (.invokevirtual 59, 3) := by decide +kernel
theorem dX6_began_25 : decode cX6_began 25 = .ok (.ireturn, 1) := by decide +kernel
theorem dX6_began_26 : decode cX6_began 26 = .ok (.aload_n 0, 1) := by decide +kernel
theorem dX6_began_27 : decode cX6_began 27 = .ok (.getfield 20, 3) := by decide +kernel
theorem dX6_began_30 : decode cX6_began 30 = .ok (.getfield 91, 3) := by decide +kernel
theorem dX6_began_33 : decode cX6_began 33 = .ok (.iload_n 1, 1) := by decide +kernel
theorem dX6_began_34 : decode cX6_began 34 = .ok (.aaload, 1) := by decide +kernel
theorem dX6_began_35 : decode cX6_began 35 = .ok (.astore 4, 2) := by decide +kernel
theorem dX6_began_37 : decode cX6_began 37 = .ok (.aload 4, 2) := by decide +kernel
theorem dX6_began_39 : decode cX6_began 39 = .ok (.invokevirtual 104, 3) := by decide +kernel
theorem dX6_began_42 : decode cX6_began 42 = .ok (.ifCond .eq 9, 3) := by decide +kernel
theorem dX6_began_45 : decode cX6_began 45 = .ok (.aload_n 0, 1) := by decide +kernel
theorem dX6_began_46 : decode cX6_began 46 = .ok (.iconst 3, 1) := by decide +kernel
theorem dX6_began_47 : decode cX6_began 47 = .ok (.invokevirtual 59, 3) := by decide +kernel
theorem dX6_began_50 : decode cX6_began 50 = .ok (.ireturn, 1) := by decide +kernel
theorem dX6_began_51 : decode cX6_began 51 = .ok (.aload 4, 2) := by decide +kernel
theorem dX6_began_53 : decode cX6_began 53 = .ok (.iload_n 2, 1) := by decide +kernel
theorem dX6_began_54 : decode cX6_began 54 = .ok (.putfield 108, 3) := by decide +kernel
theorem dX6_began_57 : decode cX6_began 57 = .ok (.aload 4, 2) := by decide +kernel
theorem dX6_began_59 : decode cX6_began 59 = .ok (.iload_n 3, 1) := by decide +kernel
theorem dX6_began_60 : decode cX6_began 60 = .ok (.putfield 111, 3) := by decide +kernel
theorem dX6_began_63 : decode cX6_began 63 = .ok (.iconst 1, 1) := by decide +kernel
theorem dX6_began_64 : decode cX6_began 64 = .ok (.ireturn, 1) := by decide +kernel
theorem dX6_ended_0 : decode cX6_ended 0 = .ok (.aload_n 0, 1) := by decide +kernel
theorem dX6_ended_1 : decode cX6_ended 1 = .ok (.getfield 20, 3) := by decide +kernel
theorem dX6_ended_4 : decode cX6_ended 4 = .ok (.iload_n 1, 1) := by decide +kernel
theorem dX6_ended_5 : decode cX6_ended 5 = .ok (.invokevirtual 88, 3) := by decide +kernel
theorem dX6_ended_8 : decode cX6_ended 8 = .ok (.ifCond .eq 12, 3) := by decide +kernel
theorem dX6_ended_11 : decode cX6_ended 11 = .ok (.aload_n 0, 1) := by decide +kernel
theorem dX6_ended_12 : decode cX6_ended 12 = .ok (.iload_n 2, 1) := by decide +kernel
theorem dX6_ended_13 : decode cX6_ended 13 = .ok (.iload_n 3, 1) := by decide +kernel
theorem dX6_ended_14 : decode cX6_ended 14 = .ok (.invokevirtual 101, 3) := by decide +kernel
theorem dX6_ended_17 : decode cX6_ended 17 = .ok (.ifCond .ne 9, 3) := by decide +kernel
theorem dX6_ended_20 : decode cX6_ended 20 = .ok (.aload_n 0, 1) := by decide +kernel
theorem dX6_ended_21 : decode cX6_ended 21 = .ok (.iconst 1, 1) := by decide +kernel
theorem dX6_ended_22 : decode cX6_ended 22 = .ok (.invokevirtual 59, 3) := by decide +kernel
theorem dX6_ended_25 : decode cX6_ended 25 = .ok (.ireturn, 1) := by decide +kernel
theorem dX6_ended_26 : decode cX6_ended 26 = .ok (.aload_n 0, 1) := by decide +kernel
theorem dX6_ended_27 : decode cX6_ended 27 = .ok (.getfield 20, 3) := by decide +kernel
theorem dX6_ended_30 : decode cX6_ended 30 = .ok (.getfield 91, 3) := by decide +kernel
theorem dX6_ended_33 : decode cX6_ended 33 = .ok (.iload_n 1, 1) := by decide +kernel
theorem dX6_ended_34 : decode cX6_ended 34 = .ok (.aaload, 1) := by decide +kernel
theorem dX6_ended_35 : decode cX6_ended 35 = .ok (.astore 4, 2) := by decide +kernel
theorem dX6_ended_37 : decode cX6_ended 37 = .ok (.iload_n 2, 1) := by decide +kernel
theorem dX6_ended_38 : decode cX6_ended 38 = .ok (.aload 4, 2) := by decide +kernel
theorem dX6_ended_40 : decode cX6_ended 40 = .ok (.getfield 108, 3) := by decide +kernel
theorem dX6_ended_43 : decode cX6_ended 43 = .ok (.if_icmp .ge 9, 3) := by decide +kernel
theorem dX6_ended_46 : decode cX6_ended 46 = .ok (.aload_n 0, 1) := by decide +kernel
theorem dX6_ended_47 : decode cX6_ended 47 = .ok (.iconst 1, 1) := by decide +kernel
theorem dX6_ended_48 : decode cX6_ended 48 = .ok (.invokevirtual 59, 3) := by decide +kernel
theorem dX6_ended_51 : decode cX6_ended 51 = .ok (.ireturn, 1) := by decide +kernel
theorem dX6_ended_52 : decode cX6_ended 52 = .ok (.aload 4, 2) := by decide +kernel
theorem dX6_ended_54 : decode cX6_ended 54 = .ok (.invokevirtual 114, 3) := by decide +kernel
theorem dX6_ended_57 : decode cX6_ended 57 = .ok (.ifCond .ne 9, 3) := by decide +kernel
theorem dX6_ended_60 : decode cX6_ended 60 = .ok (.aload_n 0, 1) := by decide +kernel
theorem dX6_ended_61 : decode cX6_ended 61 = .ok (.iconst 3, 1) := by decide +kernel
theorem dX6_ended_62 : decode cX6_ended 62 = .ok (.invokevirtual 59, 3) := by decide +kernel
theorem dX6_ended_65 : decode cX6_ended 65 = .ok (.ireturn, 1) := by decide +kernel
theorem dX6_ended_66 : decode cX6_ended 66 = .ok (.aload 4, 2) := by decide +kernel
theorem dX6_ended_68 : decode cX6_ended 68 = .ok (.iload_n 2, 1) := by decide +kernel
theorem dX6_ended_69 : decode cX6_ended 69 = .ok (.putfield 117, 3) := by decide +kernel
theorem dX6_ended_72 : decode cX6_ended 72 = .ok (.aload 4, 2) := by decide +kernel
theorem dX6_ended_74 : decode cX6_ended 74 = .ok (.iload_n 3, 1) := by decide +kernel
theorem dX6_ended_75 : decode cX6_ended 75 = .ok (.putfield 120, 3) := by decide +kernel
theorem dX6_ended_78 : decode cX6_ended 78 = .ok (.iconst 1, 1) := by decide +kernel
theorem dX6_ended_79 : decode cX6_ended 79 = .ok (.ireturn, 1) := by decide +kernel
theorem dX6_notice_0 : decode cX6_notice 0 = .ok (.aload_n 0, 1) := by decide +kernel
theorem dX6_notice_1 : decode cX6_notice 1 = .ok (.getfield 20, 3) := by decide +kernel
theorem dX6_notice_4 : decode cX6_notice 4 = .ok (.iload_n 1, 1) := by decide +kernel
theorem dX6_notice_5 : decode cX6_notice 5 = .ok (.invokevirtual 88, 3) := by decide +kernel
theorem dX6_notice_8 : decode cX6_notice 8 = .ok (.ifCond .ne 9, 3) := by decide +kernel
theorem dX6_notice_11 : decode cX6_notice 11 = .ok (.aload_n 0, 1) := by decide +kernel
theorem dX6_notice_12 : decode cX6_notice 12 = .ok (.iconst 1, 1) := by decide +kernel
theorem dX6_notice_13 : decode cX6_notice 13 = .ok (.invokevirtual 59, 3) := by decide +kernel
theorem dX6_notice_16 : decode cX6_notice 16 = .ok (.ireturn, 1) := by decide +kernel
theorem dX6_notice_17 : decode cX6_notice 17 = .ok (.aload_n 0, 1) := by decide +kernel
theorem dX6_notice_18 : decode cX6_notice 18 = .ok (.getfield 20, 3) := by decide +kernel
theorem dX6_notice_21 : decode cX6_notice 21 = .ok (.getfield 91, 3) := by decide +kernel
theorem dX6_notice_24 : decode cX6_notice 24 = .ok (.iload_n 1, 1) := by decide +kernel
theorem dX6_notice_25 : decode cX6_notice 25 = .ok (.aaload, 1) := by decide +kernel
theorem dX6_notice_26 : decode cX6_notice 26 = .ok (.astore_n 2, 1) := by decide +kernel
theorem dX6_notice_27 : decode cX6_notice 27 = .ok (.aload_n 2, 1) := by decide +kernel
theorem dX6_notice_28 : decode cX6_notice 28 = .ok (.getfield 123, 3) := by decide +kernel
theorem dX6_notice_31 : decode cX6_notice 31 = .ok (.iconst (-1), 1) := by decide +kernel
theorem dX6_notice_32 : decode cX6_notice 32 = .ok (.if_icmp .eq 9, 3) := by decide +kernel
theorem dX6_notice_35 : decode cX6_notice 35 = .ok (.aload_n 0, 1) := by decide +kernel
theorem dX6_notice_36 : decode cX6_notice 36 = .ok (.iconst 3, 1) := by decide +kernel
theorem dX6_notice_37 : decode cX6_notice 37 = .ok (.invokevirtual 59, 3) := by decide +kernel
theorem dX6_notice_40 : decode cX6_notice 40 = .ok (.ireturn, 1) := by decide +kernel
theorem dX6_notice_41 : decode cX6_notice 41 = .ok (.aload_n 2, 1) := by decide +kernel
theorem dX6_notice_42 : decode cX6_notice 42 = .ok (.aload_n 0, 1) := by decide +kernel
theorem dX6_notice_43 : decode cX6_notice 43 = .ok (.getfield 126, 3) := by decide +kernel
theorem dX6_notice_46 : decode cX6_notice 46 = .ok (.putfield 123, 3) := by decide +kernel
theorem dX6_notice_49 : decode cX6_notice 49 = .ok (.iconst 1, 1) := by decide +kernel
theorem dX6_notice_50 : decode cX6_notice 50 = .ok (.ireturn, 1) := by decide +kernel
theorem dX6_pay_0 : decode cX6_pay 0 = .ok (.aload_n 0, 1) := by decide +kernel
theorem dX6_pay_1 : decode cX6_pay 1 = .ok (.getfield 20, 3) := by decide +kernel
theorem dX6_pay_4 : decode cX6_pay 4 = .ok (.iload_n 1, 1) := by decide +kernel
theorem dX6_pay_5 : decode cX6_pay 5 = .ok (.invokevirtual 88, 3) := by decide +kernel
theorem dX6_pay_8 : decode cX6_pay 8 = .ok (.ifCond .eq 13, 3) := by decide +kernel
theorem dX6_pay_11 : decode cX6_pay 11 = .ok (.iload_n 2, 1) := by decide +kernel
theorem dX6_pay_12 : decode cX6_pay 12 = .ok (.iconst 1, 1) := by decide +kernel
theorem dX6_pay_13 : decode cX6_pay 13 = .ok (.ldc 73, 2) := by decide +kernel
theorem dX6_pay_15 : decode cX6_pay 15 = .ok (.invokestatic 74, 3) := by decide +kernel
theorem dX6_pay_18 : decode cX6_pay 18 = .ok (.ifCond .ne 9, 3) := by decide +kernel
theorem dX6_pay_21 : decode cX6_pay 21 = .ok (.aload_n 0, 1) := by decide +kernel
theorem dX6_pay_22 : decode cX6_pay 22 = .ok (.iconst 1, 1) := by decide +kernel
theorem dX6_pay_23 : decode cX6_pay 23 = .ok (.invokevirtual 59, 3) := by decide +kernel
theorem dX6_pay_26 : decode cX6_pay 26 = .ok (.ireturn, 1) := by decide +kernel
theorem dX6_pay_27 : decode cX6_pay 27 = .ok (.aload_n 0, 1) := by decide +kernel
theorem dX6_pay_28 : decode cX6_pay 28 = .ok (.getfield 20, 3) := by decide +kernel
theorem dX6_pay_31 : decode cX6_pay 31 = .ok (.getfield 91, 3) := by decide +kernel
theorem dX6_pay_34 : decode cX6_pay 34 = .ok (.iload_n 1, 1) := by decide +kernel
theorem dX6_pay_35 : decode cX6_pay 35 = .ok (.aaload, 1) := by decide +kernel
theorem dX6_pay_36 : decode cX6_pay 36 = .ok (.astore_n 3, 1) := by decide +kernel
theorem dX6_pay_37 : decode cX6_pay 37 = .ok (.iload_n 2, 1) := by decide +kernel
theorem dX6_pay_38 : decode cX6_pay 38 = .ok (.aload_n 3, 1) := by decide +kernel
theorem dX6_pay_39 : decode cX6_pay 39 = .ok (.invokevirtual 129, 3) := by decide +kernel
theorem dX6_pay_42 : decode cX6_pay 42 = .ok (.if_icmp .le 9, 3) := by decide +kernel
theorem dX6_pay_45 : decode cX6_pay 45 = .ok (.aload_n 0, 1) := by decide +kernel
theorem dX6_pay_46 : decode cX6_pay 46 = .ok (.iconst 3, 1) := by decide +kernel
theorem dX6_pay_47 : decode cX6_pay 47 = .ok (.invokevirtual 59, 3) := by decide +kernel
theorem dX6_pay_50 : decode cX6_pay 50 = .ok (.ireturn, 1) := by decide +kernel
theorem dX6_pay_51 : decode cX6_pay 51 = .ok (.aload_n 3, 1) := by decide +kernel
theorem dX6_pay_52 : decode cX6_pay 52 = .ok (.dup, 1) := by decide +kernel
theorem dX6_pay_53 : decode cX6_pay 53 = .ok (.getfield 133, 3) := by decide +kernel
theorem dX6_pay_56 : decode cX6_pay 56 = .ok (.iload_n 2, 1) := by decide +kernel
theorem dX6_pay_57 : decode cX6_pay 57 = .ok (.iadd, 1) := by decide +kernel
theorem dX6_pay_58 : decode cX6_pay 58 = .ok (.putfield 133, 3) := by decide +kernel
theorem dX6_pay_61 : decode cX6_pay 61 = .ok (.aload_n 0, 1) := by decide +kernel
theorem dX6_pay_62 : decode cX6_pay 62 = .ok (.getfield 20, 3) := by decide +kernel
theorem dX6_pay_65 : decode cX6_pay 65 = .ok (.iload_n 1, 1) := by decide +kernel
theorem dX6_pay_66 : decode cX6_pay 66 = .ok (.invokevirtual 136, 3) := by decide +kernel
theorem dX6_pay_69 : decode cX6_pay 69 = .ok (.aload_n 3, 1) := by decide +kernel
theorem dX6_pay_70 : decode cX6_pay 70 = .ok (.invokevirtual 129, 3) := by decide +kernel
theorem dX6_pay_73 : decode cX6_pay 73 = .ok (.ireturn, 1) := by decide +kernel
theorem dX6_waive_0 : decode cX6_waive 0 = .ok (.aload_n 0, 1) := by decide +kernel
theorem dX6_waive_1 : decode cX6_waive 1 = .ok (.getfield 20, 3) := by decide +kernel
theorem dX6_waive_4 : decode cX6_waive 4 = .ok (.iload_n 1, 1) := by decide +kernel
theorem dX6_waive_5 : decode cX6_waive 5 = .ok (.invokevirtual 88, 3) := by decide +kernel
theorem dX6_waive_8 : decode cX6_waive 8 = .ok (.ifCond .eq 22, 3) := by decide +kernel
theorem dX6_waive_11 : decode cX6_waive 11 = .ok (.iload_n 2, 1) := by decide +kernel
theorem dX6_waive_12 : decode cX6_waive 12 = .ok (.iconst 0, 1) := by decide +kernel
theorem dX6_waive_13 : decode cX6_waive 13 = .ok (.ldc 100, 2) := by decide +kernel
theorem dX6_waive_15 : decode cX6_waive 15 = .ok (.invokestatic 74, 3) := by decide +kernel
theorem dX6_waive_18 : decode cX6_waive 18 = .ok (.ifCond .eq 12, 3) := by decide +kernel
theorem dX6_waive_21 : decode cX6_waive 21 = .ok (.iload_n 3, 1) := by decide +kernel
theorem dX6_waive_22 : decode cX6_waive 22 = .ok (.iconst 0, 1) := by decide +kernel
theorem dX6_waive_23 : decode cX6_waive 23 = .ok (.iconst 1, 1) := by decide +kernel
theorem dX6_waive_24 : decode cX6_waive 24 = .ok (.invokestatic 74, 3) := by decide +kernel
theorem dX6_waive_27 : decode cX6_waive 27 = .ok (.ifCond .ne 9, 3) := by decide +kernel
theorem dX6_waive_30 : decode cX6_waive 30 = .ok (.aload_n 0, 1) := by decide +kernel
theorem dX6_waive_31 : decode cX6_waive 31 = .ok (.iconst 1, 1) := by decide +kernel
theorem dX6_waive_32 : decode cX6_waive 32 = .ok (.invokevirtual 59, 3) := by decide +kernel
theorem dX6_waive_35 : decode cX6_waive 35 = .ok (.ireturn, 1) := by decide +kernel
theorem dX6_waive_36 : decode cX6_waive 36 = .ok (.aload_n 0, 1) := by decide +kernel
theorem dX6_waive_37 : decode cX6_waive 37 = .ok (.getfield 20, 3) := by decide +kernel
theorem dX6_waive_40 : decode cX6_waive 40 = .ok (.getfield 140, 3) := by decide +kernel
theorem dX6_waive_43 : decode cX6_waive 43 = .ok (.bipush 20, 2) := by decide +kernel
theorem dX6_waive_45 : decode cX6_waive 45 = .ok (.if_icmp .lt 9, 3) := by decide +kernel
theorem dX6_waive_48 : decode cX6_waive 48 = .ok (.aload_n 0, 1) := by decide +kernel
theorem dX6_waive_49 : decode cX6_waive 49 = .ok (.iconst 4, 1) := by decide +kernel
theorem dX6_waive_50 : decode cX6_waive 50 = .ok (.invokevirtual 59, 3) := by decide +kernel
theorem dX6_waive_53 : decode cX6_waive 53 = .ok (.ireturn, 1) := by decide +kernel
theorem dX6_waive_54 : decode cX6_waive 54 = .ok (.aload_n 0, 1) := by decide +kernel
theorem dX6_waive_55 : decode cX6_waive 55 = .ok (.getfield 20, 3) := by decide +kernel
theorem dX6_waive_58 : decode cX6_waive 58 = .ok (.iload_n 1, 1) := by decide +kernel
theorem dX6_waive_59 : decode cX6_waive 59 = .ok (.iload_n 2, 1) := by decide +kernel
theorem dX6_waive_60 : decode cX6_waive 60 = .ok (.iload_n 3, 1) := by decide +kernel
theorem dX6_waive_61 : decode cX6_waive 61 = .ok (.invokevirtual 143, 3) := by decide +kernel
theorem dX6_waive_64 : decode cX6_waive 64 = .ok (.aload_n 0, 1) := by decide +kernel
theorem dX6_waive_65 : decode cX6_waive 65 = .ok (.getfield 20, 3) := by decide +kernel
theorem dX6_waive_68 : decode cX6_waive 68 = .ok (.getfield 91, 3) := by decide +kernel
theorem dX6_waive_71 : decode cX6_waive 71 = .ok (.iload_n 1, 1) := by decide +kernel
theorem dX6_waive_72 : decode cX6_waive 72 = .ok (.aaload, 1) := by decide +kernel
theorem dX6_waive_73 : decode cX6_waive 73 = .ok (.getfield 147, 3) := by decide +kernel
theorem dX6_waive_76 : decode cX6_waive 76 = .ok (.ireturn, 1) := by decide +kernel
theorem dX6_of_0 : decode cX6_of 0 = .ok (.aload_n 0, 1) := by decide +kernel
theorem dX6_of_1 : decode cX6_of 1 = .ok (.getfield 20, 3) := by decide +kernel
theorem dX6_of_4 : decode cX6_of 4 = .ok (.iload_n 1, 1) := by decide +kernel
theorem dX6_of_5 : decode cX6_of 5 = .ok (.invokevirtual 88, 3) := by decide +kernel
theorem dX6_of_8 : decode cX6_of 8 = .ok (.ifCond .eq 13, 3) := by decide +kernel
theorem dX6_of_11 : decode cX6_of 11 = .ok (.iload_n 2, 1) := by decide +kernel
theorem dX6_of_12 : decode cX6_of 12 = .ok (.iconst 0, 1) := by decide +kernel
theorem dX6_of_13 : decode cX6_of 13 = .ok (.bipush 13, 2) := by decide +kernel
theorem dX6_of_15 : decode cX6_of 15 = .ok (.invokestatic 74, 3) := by decide +kernel
theorem dX6_of_18 : decode cX6_of 18 = .ok (.ifCond .ne 9, 3) := by decide +kernel
theorem dX6_of_21 : decode cX6_of 21 = .ok (.aload_n 0, 1) := by decide +kernel
theorem dX6_of_22 : decode cX6_of 22 = .ok (.iconst 1, 1) := by decide +kernel
theorem dX6_of_23 : decode cX6_of 23 = .ok (.invokevirtual 59, 3) := by decide +kernel
theorem dX6_of_26 : decode cX6_of 26 = .ok (.ireturn, 1) := by decide +kernel
theorem dX6_of_27 : decode cX6_of 27 = .ok (.aload_n 0, 1) := by decide +kernel
theorem dX6_of_28 : decode cX6_of 28 = .ok (.getfield 20, 3) := by decide +kernel
theorem dX6_of_31 : decode cX6_of 31 = .ok (.getfield 91, 3) := by decide +kernel
theorem dX6_of_34 : decode cX6_of 34 = .ok (.iload_n 1, 1) := by decide +kernel
theorem dX6_of_35 : decode cX6_of 35 = .ok (.aaload, 1) := by decide +kernel
theorem dX6_of_36 : decode cX6_of 36 = .ok (.iload_n 2, 1) := by decide +kernel
theorem dX6_of_37 : decode cX6_of 37 = .ok (.invokevirtual 150, 3) := by decide +kernel
theorem dX6_of_40 : decode cX6_of 40 = .ok (.ireturn, 1) := by decide +kernel
theorem dX6_day_0 : decode cX6_day 0 = .ok (.iload_n 1, 1) := by decide +kernel
theorem dX6_day_1 : decode cX6_day 1 = .ok (.aload_n 0, 1) := by decide +kernel
theorem dX6_day_2 : decode cX6_day 2 = .ok (.getfield 126, 3) := by decide +kernel
theorem dX6_day_5 : decode cX6_day 5 = .ok (.sipush 5000, 3) := by decide +kernel
theorem dX6_day_8 : decode cX6_day 8 = .ok (.invokestatic 74, 3) := by decide +kernel
theorem dX6_day_11 : decode cX6_day 11 = .ok (.ifCond .ne 9, 3) := by decide +kernel
theorem dX6_day_14 : decode cX6_day 14 = .ok (.aload_n 0, 1) := by decide +kernel
theorem dX6_day_15 : decode cX6_day 15 = .ok (.iconst 1, 1) := by decide +kernel
theorem dX6_day_16 : decode cX6_day 16 = .ok (.invokevirtual 59, 3) := by decide +kernel
theorem dX6_day_19 : decode cX6_day 19 = .ok (.ireturn, 1) := by decide +kernel
theorem dX6_day_20 : decode cX6_day 20 = .ok (.iload_n 1, 1) := by decide +kernel
theorem dX6_day_21 : decode cX6_day 21 = .ok (.aload_n 0, 1) := by decide +kernel
theorem dX6_day_22 : decode cX6_day 22 = .ok (.getfield 126, 3) := by decide +kernel
theorem dX6_day_25 : decode cX6_day 25 = .ok (.isub, 1) := by decide +kernel
theorem dX6_day_26 : decode cX6_day 26 = .ok (.istore_n 2, 1) := by decide +kernel
theorem dX6_day_27 : decode cX6_day 27 = .ok (.aload_n 0, 1) := by decide +kernel
theorem dX6_day_28 : decode cX6_day 28 = .ok (.iload_n 1, 1) := by decide +kernel
theorem dX6_day_29 : decode cX6_day 29 = .ok (.putfield 126, 3) := by decide +kernel
theorem dX6_day_32 : decode cX6_day 32 = .ok (.iload_n 2, 1) := by decide +kernel
theorem dX6_day_33 : decode cX6_day 33 = .ok (.ireturn, 1) := by decide +kernel
theorem dX6_law_0 : decode cX6_law 0 = .ok (.iload_n 1, 1) := by decide +kernel
theorem dX6_law_1 : decode cX6_law 1 = .ok (.iconst 0, 1) := by decide +kernel
theorem dX6_law_2 : decode cX6_law 2 = .ok (.iconst 5, 1) := by decide +kernel
theorem dX6_law_3 : decode cX6_law 3 = .ok (.invokestatic 74, 3) := by decide +kernel
theorem dX6_law_6 : decode cX6_law 6 = .ok (.ifCond .eq 20, 3) := by decide +kernel
theorem dX6_law_9 : decode cX6_law 9 = .ok (.iload_n 2, 1) := by decide +kernel
theorem dX6_law_10 : decode cX6_law 10 = .ok (.getstatic 153, 3) := by decide +kernel
theorem dX6_law_13 : decode cX6_law 13 = .ok (.iload_n 1, 1) := by decide +kernel
theorem dX6_law_14 : decode cX6_law 14 = .ok (.iaload, 1) := by decide +kernel
theorem dX6_law_15 : decode cX6_law 15 = .ok (.getstatic 156, 3) := by decide +kernel
theorem dX6_law_18 : decode cX6_law 18 = .ok (.iload_n 1, 1) := by decide +kernel
theorem dX6_law_19 : decode cX6_law 19 = .ok (.iaload, 1) := by decide +kernel
theorem dX6_law_20 : decode cX6_law 20 = .ok (.invokestatic 74, 3) := by decide +kernel
theorem dX6_law_23 : decode cX6_law 23 = .ok (.ifCond .ne 9, 3) := by decide +kernel
theorem dX6_law_26 : decode cX6_law 26 = .ok (.aload_n 0, 1) := by decide +kernel
theorem dX6_law_27 : decode cX6_law 27 = .ok (.iconst 1, 1) := by decide +kernel
theorem dX6_law_28 : decode cX6_law 28 = .ok (.invokevirtual 59, 3) := by decide +kernel
theorem dX6_law_31 : decode cX6_law 31 = .ok (.ireturn, 1) := by decide +kernel
theorem dX6_law_32 : decode cX6_law 32 = .ok (.aload_n 0, 1) := by decide +kernel
theorem dX6_law_33 : decode cX6_law 33 = .ok (.getfield 29, 3) := by decide +kernel
theorem dX6_law_36 : decode cX6_law 36 = .ok (.getfield 159, 3) := by decide +kernel
theorem dX6_law_39 : decode cX6_law 39 = .ok (.iload_n 1, 1) := by decide +kernel
theorem dX6_law_40 : decode cX6_law 40 = .ok (.iaload, 1) := by decide +kernel
theorem dX6_law_41 : decode cX6_law 41 = .ok (.istore_n 3, 1) := by decide +kernel
theorem dX6_law_42 : decode cX6_law 42 = .ok (.aload_n 0, 1) := by decide +kernel
theorem dX6_law_43 : decode cX6_law 43 = .ok (.getfield 29, 3) := by decide +kernel
theorem dX6_law_46 : decode cX6_law 46 = .ok (.getfield 159, 3) := by decide +kernel
theorem dX6_law_49 : decode cX6_law 49 = .ok (.iload_n 1, 1) := by decide +kernel
theorem dX6_law_50 : decode cX6_law 50 = .ok (.iload_n 2, 1) := by decide +kernel
theorem dX6_law_51 : decode cX6_law 51 = .ok (.iastore, 1) := by decide +kernel
theorem dX6_law_52 : decode cX6_law 52 = .ok (.iload_n 3, 1) := by decide +kernel
theorem dX6_law_53 : decode cX6_law 53 = .ok (.ireturn, 1) := by decide +kernel
theorem dX6_file_0 : decode cX6_file 0 = .ok (.aload_n 0, 1) := by decide +kernel
theorem dX6_file_1 : decode cX6_file 1 = .ok (.getfield 20, 3) := by decide +kernel
theorem dX6_file_4 : decode cX6_file 4 = .ok (.iload_n 1, 1) := by decide +kernel
theorem dX6_file_5 : decode cX6_file 5 = .ok (.invokevirtual 88, 3) := by decide +kernel
theorem dX6_file_8 : decode cX6_file 8 = .ok (.ifCond .eq 13, 3) := by decide +kernel
theorem dX6_file_11 : decode cX6_file 11 = .ok (.iload_n 2, 1) := by decide +kernel
theorem dX6_file_12 : decode cX6_file 12 = .ok (.iconst 1, 1) := by decide +kernel
theorem dX6_file_13 : decode cX6_file 13 = .ok (.ldc 100, 2) := by decide +kernel
theorem dX6_file_15 : decode cX6_file 15 = .ok (.invokestatic 74, 3) := by decide +kernel
theorem dX6_file_18 : decode cX6_file 18 = .ok (.ifCond .ne 9, 3) := by decide +kernel
theorem dX6_file_21 : decode cX6_file 21 = .ok (.aload_n 0, 1) := by decide +kernel
theorem dX6_file_22 : decode cX6_file 22 = .ok (.iconst 1, 1) := by decide +kernel
theorem dX6_file_23 : decode cX6_file 23 = .ok (.invokevirtual 59, 3) := by decide +kernel
theorem dX6_file_26 : decode cX6_file 26 = .ok (.ireturn, 1) := by decide +kernel
theorem dX6_file_27 : decode cX6_file 27 = .ok (.aload_n 0, 1) := by decide +kernel
theorem dX6_file_28 : decode cX6_file 28 = .ok (.getfield 20, 3) := by decide +kernel
theorem dX6_file_31 : decode cX6_file 31 = .ok (.getfield 91, 3) := by decide +kernel
theorem dX6_file_34 : decode cX6_file 34 = .ok (.iload_n 1, 1) := by decide +kernel
theorem dX6_file_35 : decode cX6_file 35 = .ok (.aaload, 1) := by decide +kernel
theorem dX6_file_36 : decode cX6_file 36 = .ok (.invokevirtual 114, 3) := by decide +kernel
theorem dX6_file_39 : decode cX6_file 39 = .ok (.ifCond .ne 9, 3) := by decide +kernel
theorem dX6_file_42 : decode cX6_file 42 = .ok (.aload_n 0, 1) := by decide +kernel
theorem dX6_file_43 : decode cX6_file 43 = .ok (.iconst 3, 1) := by decide +kernel
theorem dX6_file_44 : decode cX6_file 44 = .ok (.invokevirtual 59, 3) := by decide +kernel
theorem dX6_file_47 : decode cX6_file 47 = .ok (.ireturn, 1) := by decide +kernel
theorem dX6_file_48 : decode cX6_file 48 = .ok (.aload_n 0, 1) := by decide +kernel
theorem dX6_file_49 : decode cX6_file 49 = .ok (.getfield 29, 3) := by decide +kernel
theorem dX6_file_52 : decode cX6_file 52 = .ok (.getfield 162, 3) := by decide +kernel
theorem dX6_file_55 : decode cX6_file 55 = .ok (.bipush 16, 2) := by decide +kernel
theorem dX6_file_57 : decode cX6_file 57 = .ok (.if_icmp .lt 9, 3) := by decide +kernel
theorem dX6_file_60 : decode cX6_file 60 = .ok (.aload_n 0, 1) := by decide +kernel
theorem dX6_file_61 : decode cX6_file 61 = .ok (.iconst 4, 1) := by decide +kernel
theorem dX6_file_62 : decode cX6_file 62 = .ok (.invokevirtual 59, 3) := by decide +kernel
theorem dX6_file_65 : decode cX6_file 65 = .ok (.ireturn, 1) := by decide +kernel
theorem dX6_file_66 : decode cX6_file 66 = .ok (.aload_n 0, 1) := by decide +kernel
theorem dX6_file_67 : decode cX6_file 67 = .ok (.getfield 29, 3) := by decide +kernel
theorem dX6_file_70 : decode cX6_file 70 = .ok (.iload_n 1, 1) := by decide +kernel
theorem dX6_file_71 : decode cX6_file 71 = .ok (.iload_n 2, 1) := by decide +kernel
theorem dX6_file_72 : decode cX6_file 72 = .ok (.aload_n 0, 1) := by decide +kernel
theorem dX6_file_73 : decode cX6_file 73 = .ok (.getfield 126, 3) := by decide +kernel
theorem dX6_file_76 : decode cX6_file 76 = .ok (.invokevirtual 163, 3) := by decide +kernel
theorem dX6_file_79 : decode cX6_file 79 = .ok (.ireturn, 1) := by decide +kernel
theorem dX6_sue_0 : decode cX6_sue 0 = .ok (.aload_n 0, 1) := by decide +kernel
theorem dX6_sue_1 : decode cX6_sue 1 = .ok (.getfield 29, 3) := by decide +kernel
theorem dX6_sue_4 : decode cX6_sue 4 = .ok (.iload_n 1, 1) := by decide +kernel
theorem dX6_sue_5 : decode cX6_sue 5 = .ok (.invokevirtual 166, 3) := by decide +kernel
theorem dX6_sue_8 : decode cX6_sue 8 = .ok (.ifCond .ne 9, 3) := by decide +kernel
theorem dX6_sue_11 : decode cX6_sue 11 = .ok (.aload_n 0, 1) := by decide +kernel
theorem dX6_sue_12 : decode cX6_sue 12 = .ok (.iconst 1, 1) := by decide +kernel
theorem dX6_sue_13 : decode cX6_sue 13 = .ok (.invokevirtual 59, 3) := by decide +kernel
theorem dX6_sue_16 : decode cX6_sue 16 = .ok (.ireturn, 1) := by decide +kernel
theorem dX6_sue_17 : decode cX6_sue 17 = .ok (.aload_n 0, 1) := by decide +kernel
theorem dX6_sue_18 : decode cX6_sue 18 = .ok (.getfield 29, 3) := by decide +kernel
theorem dX6_sue_21 : decode cX6_sue 21 = .ok (.getfield 167, 3) := by decide +kernel
theorem dX6_sue_24 : decode cX6_sue 24 = .ok (.iload_n 1, 1) := by decide +kernel
theorem dX6_sue_25 : decode cX6_sue 25 = .ok (.aaload, 1) := by decide +kernel
theorem dX6_sue_26 : decode cX6_sue 26 = .ok (.astore_n 2, 1) := by decide +kernel
theorem dX6_sue_27 : decode cX6_sue 27 = .ok (.aload_n 2, 1) := by decide +kernel
theorem dX6_sue_28 : decode cX6_sue 28 = .ok (.getfield 171, 3) := by decide +kernel
theorem dX6_sue_31 : decode cX6_sue 31 = .ok (.iconst (-1), 1) := by decide +kernel
theorem dX6_sue_32 : decode cX6_sue 32 = .ok (.if_icmp .eq 9, 3) := by decide +kernel
theorem dX6_sue_35 : decode cX6_sue 35 = .ok (.aload_n 0, 1) := by decide +kernel
theorem dX6_sue_36 : decode cX6_sue 36 = .ok (.iconst 3, 1) := by decide +kernel
theorem dX6_sue_37 : decode cX6_sue 37 = .ok (.invokevirtual 59, 3) := by decide +kernel
theorem dX6_sue_40 : decode cX6_sue 40 = .ok (.ireturn, 1) := by decide +kernel
theorem dX6_sue_41 : decode cX6_sue 41 = .ok (.aload_n 2, 1) := by decide +kernel
theorem dX6_sue_42 : decode cX6_sue 42 = .ok (.aload_n 0, 1) := by decide +kernel
theorem dX6_sue_43 : decode cX6_sue 43 = .ok (.getfield 126, 3) := by decide +kernel
theorem dX6_sue_46 : decode cX6_sue 46 = .ok (.putfield 171, 3) := by decide +kernel
theorem dX6_sue_49 : decode cX6_sue 49 = .ok (.iconst 1, 1) := by decide +kernel
theorem dX6_sue_50 : decode cX6_sue 50 = .ok (.ireturn, 1) := by decide +kernel
theorem dX6_bond_0 : decode cX6_bond 0 = .ok (.aload_n 0, 1) := by decide +kernel
theorem dX6_bond_1 : decode cX6_bond 1 = .ok (.getfield 29, 3) := by decide +kernel
theorem dX6_bond_4 : decode cX6_bond 4 = .ok (.iload_n 1, 1) := by decide +kernel
theorem dX6_bond_5 : decode cX6_bond 5 = .ok (.invokevirtual 166, 3) := by decide +kernel
theorem dX6_bond_8 : decode cX6_bond 8 = .ok (.ifCond .eq 12, 3) := by decide +kernel
theorem dX6_bond_11 : decode cX6_bond 11 = .ok (.iload_n 2, 1) := by decide +kernel
theorem dX6_bond_12 : decode cX6_bond 12 = .ok (.iconst 0, 1) := by decide +kernel
theorem dX6_bond_13 : decode cX6_bond 13 = .ok (.iconst 1, 1) := by decide +kernel
theorem dX6_bond_14 : decode cX6_bond 14 = .ok (.invokestatic 74, 3) := by decide +kernel
theorem dX6_bond_17 : decode cX6_bond 17 = .ok (.ifCond .ne 9, 3) := by decide +kernel
theorem dX6_bond_20 : decode cX6_bond 20 = .ok (.aload_n 0, 1) := by decide +kernel
theorem dX6_bond_21 : decode cX6_bond 21 = .ok (.iconst 1, 1) := by decide +kernel
theorem dX6_bond_22 : decode cX6_bond 22 = .ok (.invokevirtual 59, 3) := by decide +kernel
theorem dX6_bond_25 : decode cX6_bond 25 = .ok (.ireturn, 1) := by decide +kernel
theorem dX6_bond_26 : decode cX6_bond 26 = .ok (.aload_n 0, 1) := by decide +kernel
theorem dX6_bond_27 : decode cX6_bond 27 = .ok (.getfield 29, 3) := by decide +kernel
theorem dX6_bond_30 : decode cX6_bond 30 = .ok (.getfield 167, 3) := by decide +kernel
theorem dX6_bond_33 : decode cX6_bond 33 = .ok (.iload_n 1, 1) := by decide +kernel
theorem dX6_bond_34 : decode cX6_bond 34 = .ok (.aaload, 1) := by decide +kernel
theorem dX6_bond_35 : decode cX6_bond 35 = .ok (.astore_n 3, 1) := by decide +kernel
theorem dX6_bond_36 : decode cX6_bond 36 = .ok (.aload_n 3, 1) := by decide +kernel
theorem dX6_bond_37 : decode cX6_bond 37 = .ok (.getfield 176, 3) := by decide +kernel
theorem dX6_bond_40 : decode cX6_bond 40 = .ok (.istore 4, 2) := by decide +kernel
theorem dX6_bond_42 : decode cX6_bond 42 = .ok (.aload_n 3, 1) := by decide +kernel
theorem dX6_bond_43 : decode cX6_bond 43 = .ok (.iload_n 2, 1) := by decide +kernel
theorem dX6_bond_44 : decode cX6_bond 44 = .ok (.putfield 176, 3) := by decide +kernel
theorem dX6_bond_47 : decode cX6_bond 47 = .ok (.iload 4, 2) := by decide +kernel
theorem dX6_bond_49 : decode cX6_bond 49 = .ok (.ireturn, 1) := by decide +kernel
theorem dX6_isJudgeable_0 : decode cX6_isJudgeable 0 = .ok (.aload_n 0, 1) := by decide +kernel
theorem dX6_isJudgeable_1 : decode cX6_isJudgeable 1 = .ok (.getfield 29, 3) := by decide +kernel
theorem dX6_isJudgeable_4 : decode cX6_isJudgeable 4 = .ok (.iload_n 1, 1) := by decide +kernel
theorem dX6_isJudgeable_5 : decode cX6_isJudgeable 5 = .ok (.invokevirtual 166, 3) := by decide +kernel
theorem dX6_isJudgeable_8 : decode cX6_isJudgeable 8 = .ok (.ifCond .eq 29, 3) := by decide +kernel
theorem dX6_isJudgeable_11 : decode cX6_isJudgeable 11 = .ok (.iload_n 2, 1) := by decide +kernel
theorem dX6_isJudgeable_12 : decode cX6_isJudgeable 12 = .ok (.aload_n 0, 1) := by decide +kernel
theorem dX6_isJudgeable_13 : decode cX6_isJudgeable 13 = .ok (.getfield 29, 3) := by decide +kernel
theorem dX6_isJudgeable_16 : decode cX6_isJudgeable 16 = .ok (.getfield 167, 3) := by decide +kernel
theorem dX6_isJudgeable_19 : decode cX6_isJudgeable 19 = .ok (.iload_n 1, 1) := by decide +kernel
theorem dX6_isJudgeable_20 : decode cX6_isJudgeable 20 = .ok (.aaload, 1) := by decide +kernel
theorem dX6_isJudgeable_21 : decode cX6_isJudgeable 21 = .ok (.getfield 276, 3) := by decide +kernel
theorem dX6_isJudgeable_24 : decode cX6_isJudgeable 24 = .ok (.sipush 5000, 3) := by decide +kernel
theorem dX6_isJudgeable_27 : decode cX6_isJudgeable 27 = .ok (.invokestatic 74, 3) := by decide +kernel
theorem dX6_isJudgeable_30 : decode cX6_isJudgeable 30 = .ok (.ifCond .eq 7, 3) := by decide +kernel
theorem dX6_isJudgeable_33 : decode cX6_isJudgeable 33 = .ok (.iconst 1, 1) := by decide +kernel
theorem dX6_isJudgeable_34 : decode cX6_isJudgeable 34 = .ok (.goto 4, 3) := by decide +kernel
theorem dX6_isJudgeable_37 : decode cX6_isJudgeable 37 = .ok (.iconst 0, 1) := by decide +kernel
theorem dX6_isJudgeable_38 : decode cX6_isJudgeable 38 = .ok (.ireturn, 1) := by decide +kernel
theorem dX6_judge_0 : decode cX6_judge 0 = .ok (.aload_n 0, 1) := by decide +kernel
theorem dX6_judge_1 : decode cX6_judge 1 = .ok (.iload_n 1, 1) := by decide +kernel
theorem dX6_judge_2 : decode cX6_judge 2 = .ok (.iload_n 2, 1) := by decide +kernel
theorem dX6_judge_3 : decode cX6_judge 3 = .ok (.invokevirtual 179, 3) := by decide +kernel
theorem dX6_judge_6 : decode cX6_judge 6 = .ok (.ifCond .ne 9, 3) := by decide +kernel
theorem dX6_judge_9 : decode cX6_judge 9 = .ok (.aload_n 0, 1) := by decide +kernel
theorem dX6_judge_10 : decode cX6_judge 10 = .ok (.iconst 1, 1) := by decide +kernel
theorem dX6_judge_11 : decode cX6_judge 11 = .ok (.invokevirtual 59, 3) := by decide +kernel
theorem dX6_judge_14 : decode cX6_judge 14 = .ok (.ireturn, 1) := by decide +kernel
theorem dX6_judge_15 : decode cX6_judge 15 = .ok (.aload_n 0, 1) := by decide +kernel
theorem dX6_judge_16 : decode cX6_judge 16 = .ok (.getfield 29, 3) := by decide +kernel
theorem dX6_judge_19 : decode cX6_judge 19 = .ok (.iload_n 1, 1) := by decide +kernel
theorem dX6_judge_20 : decode cX6_judge 20 = .ok (.iload_n 2, 1) := by decide +kernel
theorem dX6_judge_21 : decode cX6_judge 21 = .ok (.invokevirtual 182, 3) := by decide +kernel
theorem dX6_judge_24 : decode cX6_judge 24 = .ok (.invokestatic 186, 3) := by decide +kernel
theorem dX6_judge_27 : decode cX6_judge 27 = .ok (.ireturn, 1) := by decide +kernel
theorem dX6_bar_0 : decode cX6_bar 0 = .ok (.aload_n 0, 1) := by decide +kernel
theorem dX6_bar_1 : decode cX6_bar 1 = .ok (.iload_n 1, 1) := by decide +kernel
theorem dX6_bar_2 : decode cX6_bar 2 = .ok (.iload_n 2, 1) := by decide +kernel
theorem dX6_bar_3 : decode cX6_bar 3 = .ok (.invokevirtual 179, 3) := by decide +kernel
theorem dX6_bar_6 : decode cX6_bar 6 = .ok (.ifCond .ne 9, 3) := by decide +kernel
theorem dX6_bar_9 : decode cX6_bar 9 = .ok (.aload_n 0, 1) := by decide +kernel
theorem dX6_bar_10 : decode cX6_bar 10 = .ok (.iconst 1, 1) := by decide +kernel
theorem dX6_bar_11 : decode cX6_bar 11 = .ok (.invokevirtual 59, 3) := by decide +kernel
theorem dX6_bar_14 : decode cX6_bar 14 = .ok (.ireturn, 1) := by decide +kernel
theorem dX6_bar_15 : decode cX6_bar 15 = .ok (.aload_n 0, 1) := by decide +kernel
theorem dX6_bar_16 : decode cX6_bar 16 = .ok (.getfield 29, 3) := by decide +kernel
theorem dX6_bar_19 : decode cX6_bar 19 = .ok (.iload_n 1, 1) := by decide +kernel
theorem dX6_bar_20 : decode cX6_bar 20 = .ok (.iload_n 2, 1) := by decide +kernel
theorem dX6_bar_21 : decode cX6_bar 21 = .ok (.invokevirtual 182, 3) := by decide +kernel
theorem dX6_bar_24 : decode cX6_bar 24 = .ok (.ireturn, 1) := by decide +kernel
theorem dX6_worth_0 : decode cX6_worth 0 = .ok (.aload_n 0, 1) := by decide +kernel
theorem dX6_worth_1 : decode cX6_worth 1 = .ok (.getfield 29, 3) := by decide +kernel
theorem dX6_worth_4 : decode cX6_worth 4 = .ok (.iload_n 1, 1) := by decide +kernel
theorem dX6_worth_5 : decode cX6_worth 5 = .ok (.invokevirtual 166, 3) := by decide +kernel
theorem dX6_worth_8 : decode cX6_worth 8 = .ok (.ifCond .eq 14, 3) := by decide +kernel
theorem dX6_worth_11 : decode cX6_worth 11 = .ok (.iload_n 2, 1) := by decide +kernel
theorem dX6_worth_12 : decode cX6_worth 12 = .ok (.iconst 0, 1) := by decide +kernel
theorem dX6_worth_13 : decode cX6_worth 13 = .ok (.sipush 5000, 3) := by decide +kernel
theorem dX6_worth_16 : decode cX6_worth 16 = .ok (.invokestatic 74, 3) := by decide +kernel
theorem dX6_worth_19 : decode cX6_worth 19 = .ok (.ifCond .ne 9, 3) := by decide +kernel
theorem dX6_worth_22 : decode cX6_worth 22 = .ok (.aload_n 0, 1) := by decide +kernel
theorem dX6_worth_23 : decode cX6_worth 23 = .ok (.iconst 1, 1) := by decide +kernel
theorem dX6_worth_24 : decode cX6_worth 24 = .ok (.invokevirtual 59, 3) := by decide +kernel
theorem dX6_worth_27 : decode cX6_worth 27 = .ok (.ireturn, 1) := by decide +kernel
theorem dX6_worth_28 : decode cX6_worth 28 = .ok (.aload_n 0, 1) := by decide +kernel
theorem dX6_worth_29 : decode cX6_worth 29 = .ok (.getfield 29, 3) := by decide +kernel
theorem dX6_worth_32 : decode cX6_worth 32 = .ok (.iload_n 2, 1) := by decide +kernel
theorem dX6_worth_33 : decode cX6_worth 33 = .ok (.invokevirtual 189, 3) := by decide +kernel
theorem dX6_worth_36 : decode cX6_worth 36 = .ok (.aload_n 0, 1) := by decide +kernel
theorem dX6_worth_37 : decode cX6_worth 37 = .ok (.getfield 29, 3) := by decide +kernel
theorem dX6_worth_40 : decode cX6_worth 40 = .ok (.getfield 192, 3) := by decide +kernel
theorem dX6_worth_43 : decode cX6_worth 43 = .ok (.iload_n 1, 1) := by decide +kernel
theorem dX6_worth_44 : decode cX6_worth 44 = .ok (.iaload, 1) := by decide +kernel
theorem dX6_worth_45 : decode cX6_worth 45 = .ok (.ireturn, 1) := by decide +kernel
theorem dX6_rank_0 : decode cX6_rank 0 = .ok (.aload_n 0, 1) := by decide +kernel
theorem dX6_rank_1 : decode cX6_rank 1 = .ok (.getfield 29, 3) := by decide +kernel
theorem dX6_rank_4 : decode cX6_rank 4 = .ok (.iload_n 1, 1) := by decide +kernel
theorem dX6_rank_5 : decode cX6_rank 5 = .ok (.invokevirtual 166, 3) := by decide +kernel
theorem dX6_rank_8 : decode cX6_rank 8 = .ok (.ifCond .eq 12, 3) := by decide +kernel
theorem dX6_rank_11 : decode cX6_rank 11 = .ok (.iload_n 2, 1) := by decide +kernel
theorem dX6_rank_12 : decode cX6_rank 12 = .ok (.iconst 0, 1) := by decide +kernel
theorem dX6_rank_13 : decode cX6_rank 13 = .ok (.iconst 1, 1) := by decide +kernel
theorem dX6_rank_14 : decode cX6_rank 14 = .ok (.invokestatic 74, 3) := by decide +kernel
theorem dX6_rank_17 : decode cX6_rank 17 = .ok (.ifCond .ne 9, 3) := by decide +kernel
theorem dX6_rank_20 : decode cX6_rank 20 = .ok (.aload_n 0, 1) := by decide +kernel
theorem dX6_rank_21 : decode cX6_rank 21 = .ok (.iconst 1, 1) := by decide +kernel
theorem dX6_rank_22 : decode cX6_rank 22 = .ok (.invokevirtual 59, 3) := by decide +kernel
theorem dX6_rank_25 : decode cX6_rank 25 = .ok (.ireturn, 1) := by decide +kernel
theorem dX6_rank_26 : decode cX6_rank 26 = .ok (.aload_n 0, 1) := by decide +kernel
theorem dX6_rank_27 : decode cX6_rank 27 = .ok (.getfield 29, 3) := by decide +kernel
theorem dX6_rank_30 : decode cX6_rank 30 = .ok (.iload_n 1, 1) := by decide +kernel
theorem dX6_rank_31 : decode cX6_rank 31 = .ok (.iload_n 2, 1) := by decide +kernel
theorem dX6_rank_32 : decode cX6_rank 32 = .ok (.invokevirtual 195, 3) := by decide +kernel
theorem dX6_rank_35 : decode cX6_rank 35 = .ok (.ireturn, 1) := by decide +kernel
theorem dX6_loan_0 : decode cX6_loan 0 = .ok (.aload_n 0, 1) := by decide +kernel
theorem dX6_loan_1 : decode cX6_loan 1 = .ok (.iload_n 1, 1) := by decide +kernel
theorem dX6_loan_2 : decode cX6_loan 2 = .ok (.invokevirtual 63, 3) := by decide +kernel
theorem dX6_loan_5 : decode cX6_loan 5 = .ok (.ifCond .eq 13, 3) := by decide +kernel
theorem dX6_loan_8 : decode cX6_loan 8 = .ok (.iload_n 2, 1) := by decide +kernel
theorem dX6_loan_9 : decode cX6_loan 9 = .ok (.iconst 1, 1) := by decide +kernel
theorem dX6_loan_10 : decode cX6_loan 10 = .ok (.ldc 100, 2) := by decide +kernel
theorem dX6_loan_12 : decode cX6_loan 12 = .ok (.invokestatic 74, 3) := by decide +kernel
theorem dX6_loan_15 : decode cX6_loan 15 = .ok (.ifCond .ne 9, 3) := by decide +kernel
theorem dX6_loan_18 : decode cX6_loan 18 = .ok (.aload_n 0, 1) := by decide +kernel
theorem dX6_loan_19 : decode cX6_loan 19 = .ok (.iconst 1, 1) := by decide +kernel
theorem dX6_loan_20 : decode cX6_loan 20 = .ok (.invokevirtual 59, 3) := by decide +kernel
theorem dX6_loan_23 : decode cX6_loan 23 = .ok (.ireturn, 1) := by decide +kernel
theorem dX6_loan_24 : decode cX6_loan 24 = .ok (.aload_n 0, 1) := by decide +kernel
theorem dX6_loan_25 : decode cX6_loan 25 = .ok (.getfield 9, 3) := by decide +kernel
theorem dX6_loan_28 : decode cX6_loan 28 = .ok (.iload_n 1, 1) := by decide +kernel
theorem dX6_loan_29 : decode cX6_loan 29 = .ok (.iaload, 1) := by decide +kernel
theorem dX6_loan_30 : decode cX6_loan 30 = .ok (.iconst 1, 1) := by decide +kernel
theorem dX6_loan_31 : decode cX6_loan 31 = .ok (.if_icmp .eq 9, 3) := by decide +kernel
theorem dX6_loan_34 : decode cX6_loan 34 = .ok (.aload_n 0, 1) := by decide +kernel
theorem dX6_loan_35 : decode cX6_loan 35 = .ok (.iconst 5, 1) := by decide +kernel
theorem dX6_loan_36 : decode cX6_loan 36 = .ok (.invokevirtual 59, 3) := by decide +kernel
theorem dX6_loan_39 : decode cX6_loan 39 = .ok (.ireturn, 1) := by decide +kernel
theorem dX6_loan_40 : decode cX6_loan 40 = .ok (.aload_n 0, 1) := by decide +kernel
theorem dX6_loan_41 : decode cX6_loan 41 = .ok (.getfield 38, 3) := by decide +kernel
theorem dX6_loan_44 : decode cX6_loan 44 = .ok (.getfield 198, 3) := by decide +kernel
theorem dX6_loan_47 : decode cX6_loan 47 = .ok (.bipush 6, 2) := by decide +kernel
theorem dX6_loan_49 : decode cX6_loan 49 = .ok (.if_icmp .lt 9, 3) := by decide +kernel
theorem dX6_loan_52 : decode cX6_loan 52 = .ok (.aload_n 0, 1) := by decide +kernel
theorem dX6_loan_53 : decode cX6_loan 53 = .ok (.iconst 4, 1) := by decide +kernel
theorem dX6_loan_54 : decode cX6_loan 54 = .ok (.invokevirtual 59, 3) := by decide +kernel
theorem dX6_loan_57 : decode cX6_loan 57 = .ok (.ireturn, 1) := by decide +kernel
theorem dX6_loan_58 : decode cX6_loan 58 = .ok (.aload_n 0, 1) := by decide +kernel
theorem dX6_loan_59 : decode cX6_loan 59 = .ok (.getfield 38, 3) := by decide +kernel
theorem dX6_loan_62 : decode cX6_loan 62 = .ok (.iload_n 2, 1) := by decide +kernel
theorem dX6_loan_63 : decode cX6_loan 63 = .ok (.aload_n 0, 1) := by decide +kernel
theorem dX6_loan_64 : decode cX6_loan 64 = .ok (.getfield 126, 3) := by decide +kernel
theorem dX6_loan_67 : decode cX6_loan 67 = .ok (.invokevirtual 201, 3) := by decide +kernel
theorem dX6_loan_70 : decode cX6_loan 70 = .ok (.ireturn, 1) := by decide +kernel
theorem dX6_isSaleCoin_0 : decode cX6_isSaleCoin 0 = .ok (.iload_n 0, 1) := by decide +kernel
theorem dX6_isSaleCoin_1 : decode cX6_isSaleCoin 1 = .ok (.iconst 0, 1) := by decide +kernel
theorem dX6_isSaleCoin_2 : decode cX6_isSaleCoin 2 = .ok (.ldc_w 279, 3) := by decide +kernel
theorem dX6_isSaleCoin_5 : decode cX6_isSaleCoin 5 = .ok (.invokestatic 74, 3) := by decide +kernel
theorem dX6_isSaleCoin_8 : decode cX6_isSaleCoin 8 = .ok (.ireturn, 1) := by decide +kernel
theorem dX6_isSharer_0 : decode cX6_isSharer 0 = .ok (.iload_n 1, 1) := by decide +kernel
theorem dX6_isSharer_1 : decode cX6_isSharer 1 = .ok (.tableswitch 61 0 2 #[27, 42, 51], 27) := by decide +kernel
theorem dX6_isSharer_28 : decode cX6_isSharer 28 = .ok (.iload_n 2, 1) := by decide +kernel
theorem dX6_isSharer_29 : decode cX6_isSharer 29 = .ok (.iconst 0, 1) := by decide +kernel
theorem dX6_isSharer_30 : decode cX6_isSharer 30 = .ok (.aload_n 0, 1) := by decide +kernel
theorem dX6_isSharer_31 : decode cX6_isSharer 31 = .ok (.getfield 38, 3) := by decide +kernel
theorem dX6_isSharer_34 : decode cX6_isSharer 34 = .ok (.getfield 198, 3) := by decide +kernel
theorem dX6_isSharer_37 : decode cX6_isSharer 37 = .ok (.iconst 1, 1) := by decide +kernel
theorem dX6_isSharer_38 : decode cX6_isSharer 38 = .ok (.isub, 1) := by decide +kernel
theorem dX6_isSharer_39 : decode cX6_isSharer 39 = .ok (.invokestatic 74, 3) := by decide +kernel
theorem dX6_isSharer_42 : decode cX6_isSharer 42 = .ok (.ireturn, 1) := by decide +kernel
theorem dX6_isSharer_43 : decode cX6_isSharer 43 = .ok (.aload_n 0, 1) := by decide +kernel
theorem dX6_isSharer_44 : decode cX6_isSharer 44 = .ok (.getfield 29, 3) := by decide +kernel
theorem dX6_isSharer_47 : decode cX6_isSharer 47 = .ok (.iload_n 2, 1) := by decide +kernel
theorem dX6_isSharer_48 : decode cX6_isSharer 48 = .ok (.invokevirtual 166, 3) := by decide +kernel
theorem dX6_isSharer_51 : decode cX6_isSharer 51 = .ok (.ireturn, 1) := by decide +kernel
theorem dX6_isSharer_52 : decode cX6_isSharer 52 = .ok (.iload_n 2, 1) := by decide +kernel
theorem dX6_isSharer_53 : decode cX6_isSharer 53 = .ok (.ifCond .ne 7, 3) := by decide +kernel
theorem dX6_isSharer_56 : decode cX6_isSharer 56 = .ok (.iconst 1, 1) := by decide +kernel
theorem dX6_isSharer_57 : decode cX6_isSharer 57 = .ok (.goto 4, 3) := by decide +kernel
theorem dX6_isSharer_60 : decode cX6_isSharer 60 = .ok (.iconst 0, 1) := by decide +kernel
theorem dX6_isSharer_61 : decode cX6_isSharer 61 = .ok (.ireturn, 1) := by decide +kernel
theorem dX6_isSharer_62 : decode cX6_isSharer 62 = .ok (.iconst 0, 1) := by decide +kernel
theorem dX6_isSharer_63 : decode cX6_isSharer 63 = .ok (.ireturn, 1) := by decide +kernel
theorem dX6_sale_0 : decode cX6_sale 0 = .ok (.iload_n 1, 1) := by decide +kernel
theorem dX6_sale_1 : decode cX6_sale 1 = .ok (.invokestatic 204, 3) := by decide +kernel
theorem dX6_sale_4 : decode cX6_sale 4 = .ok (.ifCond .eq 22, 3) := by decide +kernel
theorem dX6_sale_7 : decode cX6_sale 7 = .ok (.iload_n 2, 1) := by decide +kernel
theorem dX6_sale_8 : decode cX6_sale 8 = .ok (.iconst 0, 1) := by decide +kernel
theorem dX6_sale_9 : decode cX6_sale 9 = .ok (.iconst 1, 1) := by decide +kernel
theorem dX6_sale_10 : decode cX6_sale 10 = .ok (.invokestatic 74, 3) := by decide +kernel
theorem dX6_sale_13 : decode cX6_sale 13 = .ok (.ifCond .eq 13, 3) := by decide +kernel
theorem dX6_sale_16 : decode cX6_sale 16 = .ok (.aload_n 0, 1) := by decide +kernel
theorem dX6_sale_17 : decode cX6_sale 17 = .ok (.iload_n 3, 1) := by decide +kernel
theorem dX6_sale_18 : decode cX6_sale 18 = .ok (.iload 4, 2) := by decide +kernel
theorem dX6_sale_20 : decode cX6_sale 20 = .ok (.invokevirtual 207, 3) := by decide +kernel
theorem dX6_sale_23 : decode cX6_sale 23 = .ok (.ifCond .ne 9, 3) := by decide +kernel
theorem dX6_sale_26 : decode cX6_sale 26 = .ok (.aload_n 0, 1) := by decide +kernel
theorem dX6_sale_27 : decode cX6_sale 27 = .ok (.iconst 1, 1) := by decide +kernel
theorem dX6_sale_28 : decode cX6_sale 28 = .ok (.invokevirtual 59, 3) := by decide +kernel
theorem dX6_sale_31 : decode cX6_sale 31 = .ok (.ireturn, 1) := by decide +kernel
theorem dX6_sale_32 : decode cX6_sale 32 = .ok (.aload_n 0, 1) := by decide +kernel
theorem dX6_sale_33 : decode cX6_sale 33 = .ok (.getfield 38, 3) := by decide +kernel
theorem dX6_sale_36 : decode cX6_sale 36 = .ok (.iload_n 1, 1) := by decide +kernel
theorem dX6_sale_37 : decode cX6_sale 37 = .ok (.iload_n 2, 1) := by decide +kernel
theorem dX6_sale_38 : decode cX6_sale 38 = .ok (.aload_n 0, 1) := by decide +kernel
theorem dX6_sale_39 : decode cX6_sale 39 = .ok (.getfield 126, 3) := by decide +kernel
theorem dX6_sale_42 : decode cX6_sale 42 = .ok (.invokevirtual 210, 3) := by decide +kernel
theorem dX6_sale_45 : decode cX6_sale 45 = .ok (.iload_n 3, 1) := by decide +kernel
theorem dX6_sale_46 : decode cX6_sale 46 = .ok (.ifCond .ne 13, 3) := by decide +kernel
theorem dX6_sale_49 : decode cX6_sale 49 = .ok (.aload_n 0, 1) := by decide +kernel
theorem dX6_sale_50 : decode cX6_sale 50 = .ok (.getfield 38, 3) := by decide +kernel
theorem dX6_sale_53 : decode cX6_sale 53 = .ok (.iload 4, 2) := by decide +kernel
theorem dX6_sale_55 : decode cX6_sale 55 = .ok (.invokevirtual 213, 3) := by decide +kernel
theorem dX6_sale_58 : decode cX6_sale 58 = .ok (.ireturn, 1) := by decide +kernel
theorem dX6_sale_59 : decode cX6_sale 59 = .ok (.iload_n 3, 1) := by decide +kernel
theorem dX6_sale_60 : decode cX6_sale 60 = .ok (.iconst 1, 1) := by decide +kernel
theorem dX6_sale_61 : decode cX6_sale 61 = .ok (.if_icmp .ne 15, 3) := by decide +kernel
theorem dX6_sale_64 : decode cX6_sale 64 = .ok (.aload_n 0, 1) := by decide +kernel
theorem dX6_sale_65 : decode cX6_sale 65 = .ok (.getfield 38, 3) := by decide +kernel
theorem dX6_sale_68 : decode cX6_sale 68 = .ok (.iload 4, 2) := by decide +kernel
theorem dX6_sale_70 : decode cX6_sale 70 = .ok (.invokevirtual 216, 3) := by decide +kernel
theorem dX6_sale_73 : decode cX6_sale 73 = .ok (.goto 10, 3) := by decide +kernel
theorem dX6_sale_76 : decode cX6_sale 76 = .ok (.aload_n 0, 1) := by decide +kernel
theorem dX6_sale_77 : decode cX6_sale 77 = .ok (.getfield 38, 3) := by decide +kernel
theorem dX6_sale_80 : decode cX6_sale 80 = .ok (.getfield 219, 3) := by decide +kernel
theorem dX6_sale_83 : decode cX6_sale 83 = .ok (.ireturn, 1) := by decide +kernel
theorem dX6_twice_0 : decode cX6_twice 0 = .ok (.aload_n 0, 1) := by decide +kernel
theorem dX6_twice_1 : decode cX6_twice 1 = .ok (.getfield 20, 3) := by decide +kernel
theorem dX6_twice_4 : decode cX6_twice 4 = .ok (.iload_n 1, 1) := by decide +kernel
theorem dX6_twice_5 : decode cX6_twice 5 = .ok (.invokevirtual 88, 3) := by decide +kernel
theorem dX6_twice_8 : decode cX6_twice 8 = .ok (.ifCond .ne 9, 3) := by decide +kernel
theorem dX6_twice_11 : decode cX6_twice 11 = .ok (.aload_n 0, 1) := by decide +kernel
theorem dX6_twice_12 : decode cX6_twice 12 = .ok (.iconst 1, 1) := by decide +kernel
theorem dX6_twice_13 : decode cX6_twice 13 = .ok (.invokevirtual 59, 3) := by decide +kernel
theorem dX6_twice_16 : decode cX6_twice 16 = .ok (.ireturn, 1) := by decide +kernel
theorem dX6_twice_17 : decode cX6_twice 17 = .ok (.aload_n 0, 1) := by decide +kernel
theorem dX6_twice_18 : decode cX6_twice 18 = .ok (.getfield 20, 3) := by decide +kernel
theorem dX6_twice_21 : decode cX6_twice 21 = .ok (.getfield 91, 3) := by decide +kernel
theorem dX6_twice_24 : decode cX6_twice 24 = .ok (.iload_n 1, 1) := by decide +kernel
theorem dX6_twice_25 : decode cX6_twice 25 = .ok (.aaload, 1) := by decide +kernel
theorem dX6_twice_26 : decode cX6_twice 26 = .ok (.astore_n 2, 1) := by decide +kernel
theorem dX6_twice_27 : decode cX6_twice 27 = .ok (.aload_n 2, 1) := by decide +kernel
theorem dX6_twice_28 : decode cX6_twice 28 = .ok (.getfield 222, 3) := by decide +kernel
theorem dX6_twice_31 : decode cX6_twice 31 = .ok (.iconst 1, 1) := by decide +kernel
theorem dX6_twice_32 : decode cX6_twice 32 = .ok (.if_icmp .eq 9, 3) := by decide +kernel
theorem dX6_twice_35 : decode cX6_twice 35 = .ok (.aload_n 0, 1) := by decide +kernel
theorem dX6_twice_36 : decode cX6_twice 36 = .ok (.iconst 3, 1) := by decide +kernel
theorem dX6_twice_37 : decode cX6_twice 37 = .ok (.invokevirtual 59, 3) := by decide +kernel
theorem dX6_twice_40 : decode cX6_twice 40 = .ok (.ireturn, 1) := by decide +kernel
theorem dX6_twice_41 : decode cX6_twice 41 = .ok (.iconst 0, 1) := by decide +kernel
theorem dX6_twice_42 : decode cX6_twice 42 = .ok (.aload_n 0, 1) := by decide +kernel
theorem dX6_twice_43 : decode cX6_twice 43 = .ok (.getfield 29, 3) := by decide +kernel
theorem dX6_twice_46 : decode cX6_twice 46 = .ok (.iload_n 1, 1) := by decide +kernel
theorem dX6_twice_47 : decode cX6_twice 47 = .ok (.aload_n 0, 1) := by decide +kernel
theorem dX6_twice_48 : decode cX6_twice 48 = .ok (.getfield 126, 3) := by decide +kernel
theorem dX6_twice_51 : decode cX6_twice 51 = .ok (.invokevirtual 225, 3) := by decide +kernel
theorem dX6_twice_54 : decode cX6_twice 54 = .ok (.aload_n 2, 1) := by decide +kernel
theorem dX6_twice_55 : decode cX6_twice 55 = .ok (.invokevirtual 129, 3) := by decide +kernel
theorem dX6_twice_58 : decode cX6_twice 58 = .ok (.isub, 1) := by decide +kernel
theorem dX6_twice_59 : decode cX6_twice 59 = .ok (.invokestatic 228, 3) := by decide +kernel
theorem dX6_twice_62 : decode cX6_twice 62 = .ok (.ireturn, 1) := by decide +kernel
theorem dX6_sign_0 : decode cX6_sign 0 = .ok (.aload_n 0, 1) := by decide +kernel
theorem dX6_sign_1 : decode cX6_sign 1 = .ok (.getfield 20, 3) := by decide +kernel
theorem dX6_sign_4 : decode cX6_sign 4 = .ok (.iload_n 1, 1) := by decide +kernel
theorem dX6_sign_5 : decode cX6_sign 5 = .ok (.invokevirtual 88, 3) := by decide +kernel
theorem dX6_sign_8 : decode cX6_sign 8 = .ok (.ifCond .eq 22, 3) := by decide +kernel
theorem dX6_sign_11 : decode cX6_sign 11 = .ok (.iload_n 2, 1) := by decide +kernel
theorem dX6_sign_12 : decode cX6_sign 12 = .ok (.iconst 0, 1) := by decide +kernel
theorem dX6_sign_13 : decode cX6_sign 13 = .ok (.ldc 100, 2) := by decide +kernel
theorem dX6_sign_15 : decode cX6_sign 15 = .ok (.invokestatic 74, 3) := by decide +kernel
theorem dX6_sign_18 : decode cX6_sign 18 = .ok (.ifCond .eq 12, 3) := by decide +kernel
theorem dX6_sign_21 : decode cX6_sign 21 = .ok (.iload_n 3, 1) := by decide +kernel
theorem dX6_sign_22 : decode cX6_sign 22 = .ok (.iconst 0, 1) := by decide +kernel
theorem dX6_sign_23 : decode cX6_sign 23 = .ok (.iconst 1, 1) := by decide +kernel
theorem dX6_sign_24 : decode cX6_sign 24 = .ok (.invokestatic 74, 3) := by decide +kernel
theorem dX6_sign_27 : decode cX6_sign 27 = .ok (.ifCond .ne 9, 3) := by decide +kernel
theorem dX6_sign_30 : decode cX6_sign 30 = .ok (.aload_n 0, 1) := by decide +kernel
theorem dX6_sign_31 : decode cX6_sign 31 = .ok (.iconst 1, 1) := by decide +kernel
theorem dX6_sign_32 : decode cX6_sign 32 = .ok (.invokevirtual 59, 3) := by decide +kernel
theorem dX6_sign_35 : decode cX6_sign 35 = .ok (.ireturn, 1) := by decide +kernel
theorem dX6_sign_36 : decode cX6_sign 36 = .ok (.aload_n 0, 1) := by decide +kernel
theorem dX6_sign_37 : decode cX6_sign 37 = .ok (.getfield 20, 3) := by decide +kernel
theorem dX6_sign_40 : decode cX6_sign 40 = .ok (.getfield 91, 3) := by decide +kernel
theorem dX6_sign_43 : decode cX6_sign 43 = .ok (.iload_n 1, 1) := by decide +kernel
theorem dX6_sign_44 : decode cX6_sign 44 = .ok (.aaload, 1) := by decide +kernel
theorem dX6_sign_45 : decode cX6_sign 45 = .ok (.getfield 222, 3) := by decide +kernel
theorem dX6_sign_48 : decode cX6_sign 48 = .ok (.iconst 1, 1) := by decide +kernel
theorem dX6_sign_49 : decode cX6_sign 49 = .ok (.if_icmp .eq 9, 3) := by decide +kernel
theorem dX6_sign_52 : decode cX6_sign 52 = .ok (.aload_n 0, 1) := by decide +kernel
theorem dX6_sign_53 : decode cX6_sign 53 = .ok (.iconst 3, 1) := by decide +kernel
theorem dX6_sign_54 : decode cX6_sign 54 = .ok (.invokevirtual 59, 3) := by decide +kernel
theorem dX6_sign_57 : decode cX6_sign 57 = .ok (.ireturn, 1) := by decide +kernel
theorem dX6_sign_58 : decode cX6_sign 58 = .ok (.aload_n 0, 1) := by decide +kernel
theorem dX6_sign_59 : decode cX6_sign 59 = .ok (.getfield 20, 3) := by decide +kernel
theorem dX6_sign_62 : decode cX6_sign 62 = .ok (.iload_n 1, 1) := by decide +kernel
theorem dX6_sign_63 : decode cX6_sign 63 = .ok (.iload_n 2, 1) := by decide +kernel
theorem dX6_sign_64 : decode cX6_sign 64 = .ok (.aload_n 0, 1) := by decide +kernel
theorem dX6_sign_65 : decode cX6_sign 65 = .ok (.getfield 29, 3) := by decide +kernel
theorem dX6_sign_68 : decode cX6_sign 68 = .ok (.getfield 159, 3) := by decide +kernel
theorem dX6_sign_71 : decode cX6_sign 71 = .ok (.iconst 3, 1) := by decide +kernel
theorem dX6_sign_72 : decode cX6_sign 72 = .ok (.iaload, 1) := by decide +kernel
theorem dX6_sign_73 : decode cX6_sign 73 = .ok (.invokevirtual 233, 3) := by decide +kernel
theorem dX6_sign_76 : decode cX6_sign 76 = .ok (.istore 4, 2) := by decide +kernel
theorem dX6_sign_78 : decode cX6_sign 78 = .ok (.iload_n 3, 1) := by decide +kernel
theorem dX6_sign_79 : decode cX6_sign 79 = .ok (.ifCond .ne 8, 3) := by decide +kernel
theorem dX6_sign_82 : decode cX6_sign 82 = .ok (.iload 4, 2) := by decide +kernel
theorem dX6_sign_84 : decode cX6_sign 84 = .ok (.goto 8, 3) := by decide +kernel
theorem dX6_sign_87 : decode cX6_sign 87 = .ok (.iload 4, 2) := by decide +kernel
theorem dX6_sign_89 : decode cX6_sign 89 = .ok (.invokestatic 236, 3) := by decide +kernel
theorem dX6_sign_92 : decode cX6_sign 92 = .ok (.ireturn, 1) := by decide +kernel
theorem dX6_isPurpose_0 : decode cX6_isPurpose 0 = .ok (.iload_n 1, 1) := by decide +kernel
theorem dX6_isPurpose_1 : decode cX6_isPurpose 1 = .ok (.iconst (-1), 1) := by decide +kernel
theorem dX6_isPurpose_2 : decode cX6_isPurpose 2 = .ok (.if_icmp .eq 14, 3) := by decide +kernel
theorem dX6_isPurpose_5 : decode cX6_isPurpose 5 = .ok (.aload_n 0, 1) := by decide +kernel
theorem dX6_isPurpose_6 : decode cX6_isPurpose 6 = .ok (.getfield 20, 3) := by decide +kernel
theorem dX6_isPurpose_9 : decode cX6_isPurpose 9 = .ok (.iload_n 1, 1) := by decide +kernel
theorem dX6_isPurpose_10 : decode cX6_isPurpose 10 = .ok (.invokevirtual 88, 3) := by decide +kernel
theorem dX6_isPurpose_13 : decode cX6_isPurpose 13 = .ok (.ifCond .eq 7, 3) := by decide +kernel
theorem dX6_isPurpose_16 : decode cX6_isPurpose 16 = .ok (.iconst 1, 1) := by decide +kernel
theorem dX6_isPurpose_17 : decode cX6_isPurpose 17 = .ok (.goto 4, 3) := by decide +kernel
theorem dX6_isPurpose_20 : decode cX6_isPurpose 20 = .ok (.iconst 0, 1) := by decide +kernel
theorem dX6_isPurpose_21 : decode cX6_isPurpose 21 = .ok (.ireturn, 1) := by decide +kernel
theorem dX6_in_0 : decode cX6_in 0 = .ok (.aload_n 0, 1) := by decide +kernel
theorem dX6_in_1 : decode cX6_in 1 = .ok (.iload_n 1, 1) := by decide +kernel
theorem dX6_in_2 : decode cX6_in 2 = .ok (.invokevirtual 63, 3) := by decide +kernel
theorem dX6_in_5 : decode cX6_in 5 = .ok (.ifCond .eq 21, 3) := by decide +kernel
theorem dX6_in_8 : decode cX6_in 8 = .ok (.aload_n 0, 1) := by decide +kernel
theorem dX6_in_9 : decode cX6_in 9 = .ok (.iload_n 2, 1) := by decide +kernel
theorem dX6_in_10 : decode cX6_in 10 = .ok (.invokevirtual 241, 3) := by decide +kernel
theorem dX6_in_13 : decode cX6_in 13 = .ok (.ifCond .eq 13, 3) := by decide +kernel
theorem dX6_in_16 : decode cX6_in 16 = .ok (.iload_n 3, 1) := by decide +kernel
theorem dX6_in_17 : decode cX6_in 17 = .ok (.iconst 1, 1) := by decide +kernel
theorem dX6_in_18 : decode cX6_in 18 = .ok (.ldc 73, 2) := by decide +kernel
theorem dX6_in_20 : decode cX6_in 20 = .ok (.invokestatic 74, 3) := by decide +kernel
theorem dX6_in_23 : decode cX6_in 23 = .ok (.ifCond .ne 9, 3) := by decide +kernel
theorem dX6_in_26 : decode cX6_in 26 = .ok (.aload_n 0, 1) := by decide +kernel
theorem dX6_in_27 : decode cX6_in 27 = .ok (.iconst 1, 1) := by decide +kernel
theorem dX6_in_28 : decode cX6_in 28 = .ok (.invokevirtual 59, 3) := by decide +kernel
theorem dX6_in_31 : decode cX6_in 31 = .ok (.ireturn, 1) := by decide +kernel
theorem dX6_in_32 : decode cX6_in 32 = .ok (.aload_n 0, 1) := by decide +kernel
theorem dX6_in_33 : decode cX6_in 33 = .ok (.iload_n 1, 1) := by decide +kernel
theorem dX6_in_34 : decode cX6_in 34 = .ok (.iconst 2, 1) := by decide +kernel
theorem dX6_in_35 : decode cX6_in 35 = .ok (.invokevirtual 66, 3) := by decide +kernel
theorem dX6_in_38 : decode cX6_in 38 = .ok (.ifCond .ne 9, 3) := by decide +kernel
theorem dX6_in_41 : decode cX6_in 41 = .ok (.aload_n 0, 1) := by decide +kernel
theorem dX6_in_42 : decode cX6_in 42 = .ok (.iconst 5, 1) := by decide +kernel
theorem dX6_in_43 : decode cX6_in 43 = .ok (.invokevirtual 59, 3) := by decide +kernel
theorem dX6_in_46 : decode cX6_in 46 = .ok (.ireturn, 1) := by decide +kernel
theorem dX6_in_47 : decode cX6_in 47 = .ok (.iload_n 2, 1) := by decide +kernel
theorem dX6_in_48 : decode cX6_in 48 = .ok (.iconst (-1), 1) := by decide +kernel
theorem dX6_in_49 : decode cX6_in 49 = .ok (.if_icmp .eq 25, 3) := by decide +kernel
theorem dX6_in_52 : decode cX6_in 52 = .ok (.aload_n 0, 1) := by decide +kernel
theorem dX6_in_53 : decode cX6_in 53 = .ok (.getfield 20, 3) := by decide +kernel
theorem dX6_in_56 : decode cX6_in 56 = .ok (.getfield 91, 3) := by decide +kernel
theorem dX6_in_59 : decode cX6_in 59 = .ok (.iload_n 2, 1) := by decide +kernel
theorem dX6_in_60 : decode cX6_in 60 = .ok (.aaload, 1) := by decide +kernel
theorem dX6_in_61 : decode cX6_in 61 = .ok (.iload_n 1, 1) := by decide +kernel
theorem dX6_in_62 : decode cX6_in 62 = .ok (.invokevirtual 244, 3) := by decide +kernel
theorem dX6_in_65 : decode cX6_in 65 = .ok (.ifCond .ne 9, 3) := by decide +kernel
theorem dX6_in_68 : decode cX6_in 68 = .ok (.aload_n 0, 1) := by decide +kernel
theorem dX6_in_69 : decode cX6_in 69 = .ok (.iconst 3, 1) := by decide +kernel
theorem dX6_in_70 : decode cX6_in 70 = .ok (.invokevirtual 59, 3) := by decide +kernel
theorem dX6_in_73 : decode cX6_in 73 = .ok (.ireturn, 1) := by decide +kernel
theorem dX6_in_74 : decode cX6_in 74 = .ok (.aload_n 0, 1) := by decide +kernel
theorem dX6_in_75 : decode cX6_in 75 = .ok (.getfield 45, 3) := by decide +kernel
theorem dX6_in_78 : decode cX6_in 78 = .ok (.getfield 247, 3) := by decide +kernel
theorem dX6_in_81 : decode cX6_in 81 = .ok (.bipush 40, 2) := by decide +kernel
theorem dX6_in_83 : decode cX6_in 83 = .ok (.if_icmp .lt 9, 3) := by decide +kernel
theorem dX6_in_86 : decode cX6_in 86 = .ok (.aload_n 0, 1) := by decide +kernel
theorem dX6_in_87 : decode cX6_in 87 = .ok (.iconst 4, 1) := by decide +kernel
theorem dX6_in_88 : decode cX6_in 88 = .ok (.invokevirtual 59, 3) := by decide +kernel
theorem dX6_in_91 : decode cX6_in 91 = .ok (.ireturn, 1) := by decide +kernel
theorem dX6_in_92 : decode cX6_in 92 = .ok (.aload_n 0, 1) := by decide +kernel
theorem dX6_in_93 : decode cX6_in 93 = .ok (.getfield 45, 3) := by decide +kernel
theorem dX6_in_96 : decode cX6_in 96 = .ok (.iload_n 1, 1) := by decide +kernel
theorem dX6_in_97 : decode cX6_in 97 = .ok (.iload_n 2, 1) := by decide +kernel
theorem dX6_in_98 : decode cX6_in 98 = .ok (.iload_n 3, 1) := by decide +kernel
theorem dX6_in_99 : decode cX6_in 99 = .ok (.invokevirtual 250, 3) := by decide +kernel
theorem dX6_in_102 : decode cX6_in 102 = .ok (.ireturn, 1) := by decide +kernel
theorem dX6_out_0 : decode cX6_out 0 = .ok (.aload_n 0, 1) := by decide +kernel
theorem dX6_out_1 : decode cX6_out 1 = .ok (.iload_n 1, 1) := by decide +kernel
theorem dX6_out_2 : decode cX6_out 2 = .ok (.invokevirtual 63, 3) := by decide +kernel
theorem dX6_out_5 : decode cX6_out 5 = .ok (.ifCond .eq 13, 3) := by decide +kernel
theorem dX6_out_8 : decode cX6_out 8 = .ok (.iload_n 2, 1) := by decide +kernel
theorem dX6_out_9 : decode cX6_out 9 = .ok (.iconst 1, 1) := by decide +kernel
theorem dX6_out_10 : decode cX6_out 10 = .ok (.ldc 100, 2) := by decide +kernel
theorem dX6_out_12 : decode cX6_out 12 = .ok (.invokestatic 74, 3) := by decide +kernel
theorem dX6_out_15 : decode cX6_out 15 = .ok (.ifCond .ne 9, 3) := by decide +kernel
theorem dX6_out_18 : decode cX6_out 18 = .ok (.aload_n 0, 1) := by decide +kernel
theorem dX6_out_19 : decode cX6_out 19 = .ok (.iconst 1, 1) := by decide +kernel
theorem dX6_out_20 : decode cX6_out 20 = .ok (.invokevirtual 59, 3) := by decide +kernel
theorem dX6_out_23 : decode cX6_out 23 = .ok (.ireturn, 1) := by decide +kernel
theorem dX6_out_24 : decode cX6_out 24 = .ok (.aload_n 0, 1) := by decide +kernel
theorem dX6_out_25 : decode cX6_out 25 = .ok (.iload_n 1, 1) := by decide +kernel
theorem dX6_out_26 : decode cX6_out 26 = .ok (.iconst 2, 1) := by decide +kernel
theorem dX6_out_27 : decode cX6_out 27 = .ok (.invokevirtual 66, 3) := by decide +kernel
theorem dX6_out_30 : decode cX6_out 30 = .ok (.ifCond .ne 9, 3) := by decide +kernel
theorem dX6_out_33 : decode cX6_out 33 = .ok (.aload_n 0, 1) := by decide +kernel
theorem dX6_out_34 : decode cX6_out 34 = .ok (.iconst 5, 1) := by decide +kernel
theorem dX6_out_35 : decode cX6_out 35 = .ok (.invokevirtual 59, 3) := by decide +kernel
theorem dX6_out_38 : decode cX6_out 38 = .ok (.ireturn, 1) := by decide +kernel
theorem dX6_out_39 : decode cX6_out 39 = .ok (.aload_n 0, 1) := by decide +kernel
theorem dX6_out_40 : decode cX6_out 40 = .ok (.getfield 45, 3) := by decide +kernel
theorem dX6_out_43 : decode cX6_out 43 = .ok (.iload_n 1, 1) := by decide +kernel
theorem dX6_out_44 : decode cX6_out 44 = .ok (.invokevirtual 253, 3) := by decide +kernel
theorem dX6_out_47 : decode cX6_out 47 = .ok (.istore_n 3, 1) := by decide +kernel
theorem dX6_out_48 : decode cX6_out 48 = .ok (.iload_n 3, 1) := by decide +kernel
theorem dX6_out_49 : decode cX6_out 49 = .ok (.iload_n 2, 1) := by decide +kernel
theorem dX6_out_50 : decode cX6_out 50 = .ok (.if_icmp .ge 9, 3) := by decide +kernel
theorem dX6_out_53 : decode cX6_out 53 = .ok (.aload_n 0, 1) := by decide +kernel
theorem dX6_out_54 : decode cX6_out 54 = .ok (.iconst 3, 1) := by decide +kernel
theorem dX6_out_55 : decode cX6_out 55 = .ok (.invokevirtual 59, 3) := by decide +kernel
theorem dX6_out_58 : decode cX6_out 58 = .ok (.ireturn, 1) := by decide +kernel
theorem dX6_out_59 : decode cX6_out 59 = .ok (.aload_n 0, 1) := by decide +kernel
theorem dX6_out_60 : decode cX6_out 60 = .ok (.getfield 45, 3) := by decide +kernel
theorem dX6_out_63 : decode cX6_out 63 = .ok (.getfield 256, 3) := by decide +kernel
theorem dX6_out_66 : decode cX6_out 66 = .ok (.bipush 40, 2) := by decide +kernel
theorem dX6_out_68 : decode cX6_out 68 = .ok (.if_icmp .lt 9, 3) := by decide +kernel
theorem dX6_out_71 : decode cX6_out 71 = .ok (.aload_n 0, 1) := by decide +kernel
theorem dX6_out_72 : decode cX6_out 72 = .ok (.iconst 4, 1) := by decide +kernel
theorem dX6_out_73 : decode cX6_out 73 = .ok (.invokevirtual 59, 3) := by decide +kernel
theorem dX6_out_76 : decode cX6_out 76 = .ok (.ireturn, 1) := by decide +kernel
theorem dX6_out_77 : decode cX6_out 77 = .ok (.aload_n 0, 1) := by decide +kernel
theorem dX6_out_78 : decode cX6_out 78 = .ok (.getfield 45, 3) := by decide +kernel
theorem dX6_out_81 : decode cX6_out 81 = .ok (.iload_n 1, 1) := by decide +kernel
theorem dX6_out_82 : decode cX6_out 82 = .ok (.iload_n 2, 1) := by decide +kernel
theorem dX6_out_83 : decode cX6_out 83 = .ok (.invokevirtual 259, 3) := by decide +kernel
theorem dX6_out_86 : decode cX6_out 86 = .ok (.iload_n 3, 1) := by decide +kernel
theorem dX6_out_87 : decode cX6_out 87 = .ok (.iload_n 2, 1) := by decide +kernel
theorem dX6_out_88 : decode cX6_out 88 = .ok (.isub, 1) := by decide +kernel
theorem dX6_out_89 : decode cX6_out 89 = .ok (.ireturn, 1) := by decide +kernel
theorem dX6_trace_0 : decode cX6_trace 0 = .ok (.iload_n 1, 1) := by decide +kernel
theorem dX6_trace_1 : decode cX6_trace 1 = .ok (.iconst 0, 1) := by decide +kernel
theorem dX6_trace_2 : decode cX6_trace 2 = .ok (.aload_n 0, 1) := by decide +kernel
theorem dX6_trace_3 : decode cX6_trace 3 = .ok (.getfield 45, 3) := by decide +kernel
theorem dX6_trace_6 : decode cX6_trace 6 = .ok (.getfield 247, 3) := by decide +kernel
theorem dX6_trace_9 : decode cX6_trace 9 = .ok (.iconst 1, 1) := by decide +kernel
theorem dX6_trace_10 : decode cX6_trace 10 = .ok (.isub, 1) := by decide +kernel
theorem dX6_trace_11 : decode cX6_trace 11 = .ok (.invokestatic 74, 3) := by decide +kernel
theorem dX6_trace_14 : decode cX6_trace 14 = .ok (.ifCond .eq 12, 3) := by decide +kernel
theorem dX6_trace_17 : decode cX6_trace 17 = .ok (.iload_n 2, 1) := by decide +kernel
theorem dX6_trace_18 : decode cX6_trace 18 = .ok (.iconst 0, 1) := by decide +kernel
theorem dX6_trace_19 : decode cX6_trace 19 = .ok (.iconst 2, 1) := by decide +kernel
theorem dX6_trace_20 : decode cX6_trace 20 = .ok (.invokestatic 74, 3) := by decide +kernel
theorem dX6_trace_23 : decode cX6_trace 23 = .ok (.ifCond .ne 9, 3) := by decide +kernel
theorem dX6_trace_26 : decode cX6_trace 26 = .ok (.aload_n 0, 1) := by decide +kernel
theorem dX6_trace_27 : decode cX6_trace 27 = .ok (.iconst 1, 1) := by decide +kernel
theorem dX6_trace_28 : decode cX6_trace 28 = .ok (.invokevirtual 59, 3) := by decide +kernel
theorem dX6_trace_31 : decode cX6_trace 31 = .ok (.ireturn, 1) := by decide +kernel
theorem dX6_trace_32 : decode cX6_trace 32 = .ok (.aload_n 0, 1) := by decide +kernel
theorem dX6_trace_33 : decode cX6_trace 33 = .ok (.getfield 45, 3) := by decide +kernel
theorem dX6_trace_36 : decode cX6_trace 36 = .ok (.getfield 263, 3) := by decide +kernel
theorem dX6_trace_39 : decode cX6_trace 39 = .ok (.iload_n 2, 1) := by decide +kernel
theorem dX6_trace_40 : decode cX6_trace 40 = .ok (.aaload, 1) := by decide +kernel
theorem dX6_trace_41 : decode cX6_trace 41 = .ok (.iload_n 1, 1) := by decide +kernel
theorem dX6_trace_42 : decode cX6_trace 42 = .ok (.iaload, 1) := by decide +kernel
theorem dX6_trace_43 : decode cX6_trace 43 = .ok (.ireturn, 1) := by decide +kernel
theorem dX6_held_0 : decode cX6_held 0 = .ok (.aload_n 0, 1) := by decide +kernel
theorem dX6_held_1 : decode cX6_held 1 = .ok (.iload_n 1, 1) := by decide +kernel
theorem dX6_held_2 : decode cX6_held 2 = .ok (.invokevirtual 63, 3) := by decide +kernel
theorem dX6_held_5 : decode cX6_held 5 = .ok (.ifCond .eq 20, 3) := by decide +kernel
theorem dX6_held_8 : decode cX6_held 8 = .ok (.aload_n 0, 1) := by decide +kernel
theorem dX6_held_9 : decode cX6_held 9 = .ok (.iload_n 2, 1) := by decide +kernel
theorem dX6_held_10 : decode cX6_held 10 = .ok (.invokevirtual 241, 3) := by decide +kernel
theorem dX6_held_13 : decode cX6_held 13 = .ok (.ifCond .eq 12, 3) := by decide +kernel
theorem dX6_held_16 : decode cX6_held 16 = .ok (.iload_n 3, 1) := by decide +kernel
theorem dX6_held_17 : decode cX6_held 17 = .ok (.iconst 0, 1) := by decide +kernel
theorem dX6_held_18 : decode cX6_held 18 = .ok (.iconst 2, 1) := by decide +kernel
theorem dX6_held_19 : decode cX6_held 19 = .ok (.invokestatic 74, 3) := by decide +kernel
theorem dX6_held_22 : decode cX6_held 22 = .ok (.ifCond .ne 9, 3) := by decide +kernel
theorem dX6_held_25 : decode cX6_held 25 = .ok (.aload_n 0, 1) := by decide +kernel
theorem dX6_held_26 : decode cX6_held 26 = .ok (.iconst 1, 1) := by decide +kernel
theorem dX6_held_27 : decode cX6_held 27 = .ok (.invokevirtual 59, 3) := by decide +kernel
theorem dX6_held_30 : decode cX6_held 30 = .ok (.ireturn, 1) := by decide +kernel
theorem dX6_held_31 : decode cX6_held 31 = .ok (.aload_n 0, 1) := by decide +kernel
theorem dX6_held_32 : decode cX6_held 32 = .ok (.iload_n 1, 1) := by decide +kernel
theorem dX6_held_33 : decode cX6_held 33 = .ok (.iconst 2, 1) := by decide +kernel
theorem dX6_held_34 : decode cX6_held 34 = .ok (.invokevirtual 66, 3) := by decide +kernel
theorem dX6_held_37 : decode cX6_held 37 = .ok (.ifCond .ne 9, 3) := by decide +kernel
theorem dX6_held_40 : decode cX6_held 40 = .ok (.aload_n 0, 1) := by decide +kernel
theorem dX6_held_41 : decode cX6_held 41 = .ok (.iconst 5, 1) := by decide +kernel
theorem dX6_held_42 : decode cX6_held 42 = .ok (.invokevirtual 59, 3) := by decide +kernel
theorem dX6_held_45 : decode cX6_held 45 = .ok (.ireturn, 1) := by decide +kernel
theorem dX6_held_46 : decode cX6_held 46 = .ok (.aload_n 0, 1) := by decide +kernel
theorem dX6_held_47 : decode cX6_held 47 = .ok (.getfield 45, 3) := by decide +kernel
theorem dX6_held_50 : decode cX6_held 50 = .ok (.iload_n 1, 1) := by decide +kernel
theorem dX6_held_51 : decode cX6_held 51 = .ok (.iload_n 2, 1) := by decide +kernel
theorem dX6_held_52 : decode cX6_held 52 = .ok (.iload_n 3, 1) := by decide +kernel
theorem dX6_held_53 : decode cX6_held 53 = .ok (.invokevirtual 266, 3) := by decide +kernel
theorem dX6_held_56 : decode cX6_held 56 = .ok (.ireturn, 1) := by decide +kernel
theorem dX6_tell_0 : decode cX6_tell 0 = .ok (.aload_n 0, 1) := by decide +kernel
theorem dX6_tell_1 : decode cX6_tell 1 = .ok (.getfield 269, 3) := by decide +kernel
theorem dX6_tell_4 : decode cX6_tell 4 = .ok (.bipush 16, 2) := by decide +kernel
theorem dX6_tell_6 : decode cX6_tell 6 = .ok (.if_icmp .lt 9, 3) := by decide +kernel
theorem dX6_tell_9 : decode cX6_tell 9 = .ok (.aload_n 0, 1) := by decide +kernel
theorem dX6_tell_10 : decode cX6_tell 10 = .ok (.iconst 4, 1) := by decide +kernel
theorem dX6_tell_11 : decode cX6_tell 11 = .ok (.invokevirtual 59, 3) := by decide +kernel
theorem dX6_tell_14 : decode cX6_tell 14 = .ok (.ireturn, 1) := by decide +kernel
theorem dX6_tell_15 : decode cX6_tell 15 = .ok (.aload_n 0, 1) := by decide +kernel
theorem dX6_tell_16 : decode cX6_tell 16 = .ok (.getfield 49, 3) := by decide +kernel
theorem dX6_tell_19 : decode cX6_tell 19 = .ok (.aload_n 0, 1) := by decide +kernel
theorem dX6_tell_20 : decode cX6_tell 20 = .ok (.getfield 269, 3) := by decide +kernel
theorem dX6_tell_23 : decode cX6_tell 23 = .ok (.iload_n 1, 1) := by decide +kernel
theorem dX6_tell_24 : decode cX6_tell 24 = .ok (.iastore, 1) := by decide +kernel
theorem dX6_tell_25 : decode cX6_tell 25 = .ok (.aload_n 0, 1) := by decide +kernel
theorem dX6_tell_26 : decode cX6_tell 26 = .ok (.dup, 1) := by decide +kernel
theorem dX6_tell_27 : decode cX6_tell 27 = .ok (.getfield 269, 3) := by decide +kernel
theorem dX6_tell_30 : decode cX6_tell 30 = .ok (.iconst 1, 1) := by decide +kernel
theorem dX6_tell_31 : decode cX6_tell 31 = .ok (.iadd, 1) := by decide +kernel
theorem dX6_tell_32 : decode cX6_tell 32 = .ok (.putfield 269, 3) := by decide +kernel
theorem dX6_tell_35 : decode cX6_tell 35 = .ok (.aload_n 0, 1) := by decide +kernel
theorem dX6_tell_36 : decode cX6_tell 36 = .ok (.getfield 269, 3) := by decide +kernel
theorem dX6_tell_39 : decode cX6_tell 39 = .ok (.ireturn, 1) := by decide +kernel
theorem dX6_check_0 : decode cX6_check 0 = .ok (.aload_n 0, 1) := by decide +kernel
theorem dX6_check_1 : decode cX6_check 1 = .ok (.getfield 269, 3) := by decide +kernel
theorem dX6_check_4 : decode cX6_check 4 = .ok (.istore_n 2, 1) := by decide +kernel
theorem dX6_check_5 : decode cX6_check 5 = .ok (.aload_n 0, 1) := by decide +kernel
theorem dX6_check_6 : decode cX6_check 6 = .ok (.iconst 0, 1) := by decide +kernel
theorem dX6_check_7 : decode cX6_check 7 = .ok (.putfield 269, 3) := by decide +kernel
theorem dX6_check_10 : decode cX6_check 10 = .ok (.iload_n 1, 1) := by decide +kernel
theorem dX6_check_11 : decode cX6_check 11 = .ok (.invokestatic 204, 3) := by decide +kernel
theorem dX6_check_14 : decode cX6_check 14 = .ok (.ifCond .ne 9, 3) := by decide +kernel
theorem dX6_check_17 : decode cX6_check 17 = .ok (.aload_n 0, 1) := by decide +kernel
theorem dX6_check_18 : decode cX6_check 18 = .ok (.iconst 1, 1) := by decide +kernel
theorem dX6_check_19 : decode cX6_check 19 = .ok (.invokevirtual 59, 3) := by decide +kernel
theorem dX6_check_22 : decode cX6_check 22 = .ok (.ireturn, 1) := by decide +kernel
theorem dX6_check_23 : decode cX6_check 23 = .ok (.aload_n 0, 1) := by decide +kernel
theorem dX6_check_24 : decode cX6_check 24 = .ok (.getfield 38, 3) := by decide +kernel
theorem dX6_check_27 : decode cX6_check 27 = .ok (.iload_n 1, 1) := by decide +kernel
theorem dX6_check_28 : decode cX6_check 28 = .ok (.iconst 0, 1) := by decide +kernel
theorem dX6_check_29 : decode cX6_check 29 = .ok (.aload_n 0, 1) := by decide +kernel
theorem dX6_check_30 : decode cX6_check 30 = .ok (.getfield 126, 3) := by decide +kernel
theorem dX6_check_33 : decode cX6_check 33 = .ok (.invokevirtual 210, 3) := by decide +kernel
theorem dX6_check_36 : decode cX6_check 36 = .ok (.iconst 0, 1) := by decide +kernel
theorem dX6_check_37 : decode cX6_check 37 = .ok (.istore_n 3, 1) := by decide +kernel
theorem dX6_check_38 : decode cX6_check 38 = .ok (.iload_n 3, 1) := by decide +kernel
theorem dX6_check_39 : decode cX6_check 39 = .ok (.iload_n 2, 1) := by decide +kernel
theorem dX6_check_40 : decode cX6_check 40 = .ok (.if_icmp .ge 41, 3) := by decide +kernel
theorem dX6_check_43 : decode cX6_check 43 = .ok (.aload_n 0, 1) := by decide +kernel
theorem dX6_check_44 : decode cX6_check 44 = .ok (.getfield 29, 3) := by decide +kernel
theorem dX6_check_47 : decode cX6_check 47 = .ok (.iload_n 3, 1) := by decide +kernel
theorem dX6_check_48 : decode cX6_check 48 = .ok (.invokevirtual 166, 3) := by decide +kernel
theorem dX6_check_51 : decode cX6_check 51 = .ok (.ifCond .eq 20, 3) := by decide +kernel
theorem dX6_check_54 : decode cX6_check 54 = .ok (.aload_n 0, 1) := by decide +kernel
theorem dX6_check_55 : decode cX6_check 55 = .ok (.getfield 49, 3) := by decide +kernel
theorem dX6_check_58 : decode cX6_check 58 = .ok (.iload_n 3, 1) := by decide +kernel
theorem dX6_check_59 : decode cX6_check 59 = .ok (.iaload, 1) := by decide +kernel
theorem dX6_check_60 : decode cX6_check 60 = .ok (.aload_n 0, 1) := by decide +kernel
theorem dX6_check_61 : decode cX6_check 61 = .ok (.getfield 38, 3) := by decide +kernel
theorem dX6_check_64 : decode cX6_check 64 = .ok (.iload_n 3, 1) := by decide +kernel
theorem dX6_check_65 : decode cX6_check 65 = .ok (.invokevirtual 216, 3) := by decide +kernel
theorem dX6_check_68 : decode cX6_check 68 = .ok (.if_icmp .eq 7, 3) := by decide +kernel
theorem dX6_check_71 : decode cX6_check 71 = .ok (.iconst 1, 1) := by decide +kernel
theorem dX6_check_72 : decode cX6_check 72 = .ok (.iload_n 3, 1) := by decide +kernel
theorem dX6_check_73 : decode cX6_check 73 = .ok (.iadd, 1) := by decide +kernel
theorem dX6_check_74 : decode cX6_check 74 = .ok (.ireturn, 1) := by decide +kernel
theorem dX6_check_75 : decode cX6_check 75 = .ok (.iinc 3 1, 3) := by decide +kernel
theorem dX6_check_78 : decode cX6_check 78 = .ok (.goto (-40), 3) := by decide +kernel
theorem dX6_check_81 : decode cX6_check 81 = .ok (.iconst 0, 1) := by decide +kernel
theorem dX6_check_82 : decode cX6_check 82 = .ok (.ireturn, 1) := by decide +kernel
theorem dX6_count_0 : decode cX6_count 0 = .ok (.iload_n 1, 1) := by decide +kernel
theorem dX6_count_1 : decode cX6_count 1 = .ok (.tableswitch 130 0 9 #[55, 60, 68, 76, 84, 92, 100, 108, 113, 118], 55) := by decide +kernel
theorem dX6_count_56 : decode cX6_count 56 = .ok (.aload_n 0, 1) := by decide +kernel
theorem dX6_count_57 : decode cX6_count 57 = .ok (.getfield 13, 3) := by decide +kernel
theorem dX6_count_60 : decode cX6_count 60 = .ok (.ireturn, 1) := by decide +kernel
theorem dX6_count_61 : decode cX6_count 61 = .ok (.aload_n 0, 1) := by decide +kernel
theorem dX6_count_62 : decode cX6_count 62 = .ok (.getfield 20, 3) := by decide +kernel
theorem dX6_count_65 : decode cX6_count 65 = .ok (.getfield 81, 3) := by decide +kernel
theorem dX6_count_68 : decode cX6_count 68 = .ok (.ireturn, 1) := by decide +kernel
theorem dX6_count_69 : decode cX6_count 69 = .ok (.aload_n 0, 1) := by decide +kernel
theorem dX6_count_70 : decode cX6_count 70 = .ok (.getfield 29, 3) := by decide +kernel
theorem dX6_count_73 : decode cX6_count 73 = .ok (.getfield 162, 3) := by decide +kernel
theorem dX6_count_76 : decode cX6_count 76 = .ok (.ireturn, 1) := by decide +kernel
theorem dX6_count_77 : decode cX6_count 77 = .ok (.aload_n 0, 1) := by decide +kernel
theorem dX6_count_78 : decode cX6_count 78 = .ok (.getfield 38, 3) := by decide +kernel
theorem dX6_count_81 : decode cX6_count 81 = .ok (.getfield 198, 3) := by decide +kernel
theorem dX6_count_84 : decode cX6_count 84 = .ok (.ireturn, 1) := by decide +kernel
theorem dX6_count_85 : decode cX6_count 85 = .ok (.aload_n 0, 1) := by decide +kernel
theorem dX6_count_86 : decode cX6_count 86 = .ok (.getfield 20, 3) := by decide +kernel
theorem dX6_count_89 : decode cX6_count 89 = .ok (.getfield 140, 3) := by decide +kernel
theorem dX6_count_92 : decode cX6_count 92 = .ok (.ireturn, 1) := by decide +kernel
theorem dX6_count_93 : decode cX6_count 93 = .ok (.aload_n 0, 1) := by decide +kernel
theorem dX6_count_94 : decode cX6_count 94 = .ok (.getfield 45, 3) := by decide +kernel
theorem dX6_count_97 : decode cX6_count 97 = .ok (.getfield 247, 3) := by decide +kernel
theorem dX6_count_100 : decode cX6_count 100 = .ok (.ireturn, 1) := by decide +kernel
theorem dX6_count_101 : decode cX6_count 101 = .ok (.aload_n 0, 1) := by decide +kernel
theorem dX6_count_102 : decode cX6_count 102 = .ok (.getfield 45, 3) := by decide +kernel
theorem dX6_count_105 : decode cX6_count 105 = .ok (.getfield 256, 3) := by decide +kernel
theorem dX6_count_108 : decode cX6_count 108 = .ok (.ireturn, 1) := by decide +kernel
theorem dX6_count_109 : decode cX6_count 109 = .ok (.aload_n 0, 1) := by decide +kernel
theorem dX6_count_110 : decode cX6_count 110 = .ok (.getfield 126, 3) := by decide +kernel
theorem dX6_count_113 : decode cX6_count 113 = .ok (.ireturn, 1) := by decide +kernel
theorem dX6_count_114 : decode cX6_count 114 = .ok (.aload_n 0, 1) := by decide +kernel
theorem dX6_count_115 : decode cX6_count 115 = .ok (.getfield 269, 3) := by decide +kernel
theorem dX6_count_118 : decode cX6_count 118 = .ok (.ireturn, 1) := by decide +kernel
theorem dX6_count_119 : decode cX6_count 119 = .ok (.aload_n 0, 1) := by decide +kernel
theorem dX6_count_120 : decode cX6_count 120 = .ok (.getfield 29, 3) := by decide +kernel
theorem dX6_count_123 : decode cX6_count 123 = .ok (.aload_n 0, 1) := by decide +kernel
theorem dX6_count_124 : decode cX6_count 124 = .ok (.getfield 126, 3) := by decide +kernel
theorem dX6_count_127 : decode cX6_count 127 = .ok (.invokevirtual 272, 3) := by decide +kernel
theorem dX6_count_130 : decode cX6_count 130 = .ok (.ireturn, 1) := by decide +kernel
theorem dX6_count_131 : decode cX6_count 131 = .ok (.aload_n 0, 1) := by decide +kernel
theorem dX6_count_132 : decode cX6_count 132 = .ok (.iconst 1, 1) := by decide +kernel
theorem dX6_count_133 : decode cX6_count 133 = .ok (.invokevirtual 59, 3) := by decide +kernel
theorem dX6_count_136 : decode cX6_count 136 = .ok (.ireturn, 1) := by decide +kernel
theorem dX6_found_0 : decode cX6_found 0 = .ok (.iload_n 1, 1) := by decide +kernel
theorem dX6_found_1 : decode cX6_found 1 = .ok (.iconst 1, 1) := by decide +kernel
theorem dX6_found_2 : decode cX6_found 2 = .ok (.iconst 5, 1) := by decide +kernel
theorem dX6_found_3 : decode cX6_found 3 = .ok (.invokestatic 74, 3) := by decide +kernel
theorem dX6_found_6 : decode cX6_found 6 = .ok (.ifCond .ne 9, 3) := by decide +kernel
theorem dX6_found_9 : decode cX6_found 9 = .ok (.aload_n 0, 1) := by decide +kernel
theorem dX6_found_10 : decode cX6_found 10 = .ok (.iconst 1, 1) := by decide +kernel
theorem dX6_found_11 : decode cX6_found 11 = .ok (.invokevirtual 59, 3) := by decide +kernel
theorem dX6_found_14 : decode cX6_found 14 = .ok (.ireturn, 1) := by decide +kernel
theorem dX6_found_15 : decode cX6_found 15 = .ok (.aload_n 0, 1) := by decide +kernel
theorem dX6_found_16 : decode cX6_found 16 = .ok (.getfield 52, 3) := by decide +kernel
theorem dX6_found_19 : decode cX6_found 19 = .ok (.iload_n 1, 1) := by decide +kernel
theorem dX6_found_20 : decode cX6_found 20 = .ok (.iaload, 1) := by decide +kernel
theorem dX6_found_21 : decode cX6_found 21 = .ok (.ireturn, 1) := by decide +kernel
