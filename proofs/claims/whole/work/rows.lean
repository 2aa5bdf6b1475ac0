section
-- ===== PART A: goes FIRST, ahead of the names: the tables' words, and 'selects' of the private methods out of them =====
/-- a private method of a class that the tables say can be made, by its rows of tables_1 -/
def lw_okq (q : MethodName × Nat) : Prop := (q.1.cls ≠ "java/lang/invoke/MethodHandle" ∧ q.1.cls ≠ "java/lang/invoke/VarHandle") ∧ Cond.instantiable q.1.cls q.2 ∈ tables_1 ∧ Cond.privateMethod q.1 ∈ tables_1 ∧ Cond.instanceMethod q.1 ∈ tables_1
theorem lw_p0 : lw_okq (⟨"LienTower", "finding", "(I)I"⟩, 10) := ⟨⟨by decide +kernel, by decide +kernel⟩, List.mem_of_getElem? (i := 12) (by decide +kernel), List.mem_of_getElem? (i := 286) (by decide +kernel), List.mem_of_getElem? (i := 287) (by decide +kernel)⟩
theorem lw_p1 : lw_okq (⟨"LienTower", "isParty", "(I)Z"⟩, 10) := ⟨⟨by decide +kernel, by decide +kernel⟩, List.mem_of_getElem? (i := 12) (by decide +kernel), List.mem_of_getElem? (i := 295) (by decide +kernel), List.mem_of_getElem? (i := 296) (by decide +kernel)⟩
theorem lw_p2 : lw_okq (⟨"LienTower", "isOfKind", "(II)Z"⟩, 10) := ⟨⟨by decide +kernel, by decide +kernel⟩, List.mem_of_getElem? (i := 12) (by decide +kernel), List.mem_of_getElem? (i := 299) (by decide +kernel), List.mem_of_getElem? (i := 300) (by decide +kernel)⟩
theorem lw_p3 : lw_okq (⟨"LienTower", "isSpanUpToToday", "(II)Z"⟩, 10) := ⟨⟨by decide +kernel, by decide +kernel⟩, List.mem_of_getElem? (i := 12) (by decide +kernel), List.mem_of_getElem? (i := 335) (by decide +kernel), List.mem_of_getElem? (i := 336) (by decide +kernel)⟩
theorem lw_p4 : lw_okq (⟨"LienTower", "isJudgeable", "(II)Z"⟩, 10) := ⟨⟨by decide +kernel, by decide +kernel⟩, List.mem_of_getElem? (i := 12) (by decide +kernel), List.mem_of_getElem? (i := 430) (by decide +kernel), List.mem_of_getElem? (i := 431) (by decide +kernel)⟩
theorem lw_p5 : lw_okq (⟨"LienTower$Docket", "noticeBar", "(LLienTower$Contract;)I"⟩, 7) := ⟨⟨by decide +kernel, by decide +kernel⟩, List.mem_of_getElem? (i := 123) (by decide +kernel), List.mem_of_getElem? (i := 438) (by decide +kernel), List.mem_of_getElem? (i := 439) (by decide +kernel)⟩
theorem lw_p6 : lw_okq (⟨"LienTower$Docket", "lateness", "(IIII)I"⟩, 7) := ⟨⟨by decide +kernel, by decide +kernel⟩, List.mem_of_getElem? (i := 123) (by decide +kernel), List.mem_of_getElem? (i := 442) (by decide +kernel), List.mem_of_getElem? (i := 443) (by decide +kernel)⟩
theorem lw_p7 : lw_okq (⟨"LienTower$Docket", "isSuitLost", "(LLienTower$Claim;I)Z"⟩, 7) := ⟨⟨by decide +kernel, by decide +kernel⟩, List.mem_of_getElem? (i := 123) (by decide +kernel), List.mem_of_getElem? (i := 446) (by decide +kernel), List.mem_of_getElem? (i := 447) (by decide +kernel)⟩
theorem lw_p8 : lw_okq (⟨"LienTower", "isSharer", "(II)Z"⟩, 10) := ⟨⟨by decide +kernel, by decide +kernel⟩, List.mem_of_getElem? (i := 12) (by decide +kernel), List.mem_of_getElem? (i := 510) (by decide +kernel), List.mem_of_getElem? (i := 511) (by decide +kernel)⟩
theorem lw_p9 : lw_okq (⟨"LienTower$Land", "enterLoans", "()V"⟩, 8) := ⟨⟨by decide +kernel, by decide +kernel⟩, List.mem_of_getElem? (i := 185) (by decide +kernel), List.mem_of_getElem? (i := 518) (by decide +kernel), List.mem_of_getElem? (i := 519) (by decide +kernel)⟩
theorem lw_p10 : lw_okq (⟨"LienTower$Land", "enterClaims", "(II)V"⟩, 8) := ⟨⟨by decide +kernel, by decide +kernel⟩, List.mem_of_getElem? (i := 185) (by decide +kernel), List.mem_of_getElem? (i := 522) (by decide +kernel), List.mem_of_getElem? (i := 523) (by decide +kernel)⟩
theorem lw_p11 : lw_okq (⟨"LienTower$Land", "rankAfter", "(I)I"⟩, 8) := ⟨⟨by decide +kernel, by decide +kernel⟩, List.mem_of_getElem? (i := 185) (by decide +kernel), List.mem_of_getElem? (i := 529) (by decide +kernel), List.mem_of_getElem? (i := 530) (by decide +kernel)⟩
theorem lw_p12 : lw_okq (⟨"LienTower$Land", "payRank", "(I)V"⟩, 8) := ⟨⟨by decide +kernel, by decide +kernel⟩, List.mem_of_getElem? (i := 185) (by decide +kernel), List.mem_of_getElem? (i := 533) (by decide +kernel), List.mem_of_getElem? (i := 534) (by decide +kernel)⟩
theorem lw_p13 : lw_okq (⟨"LienTower$Land", "shareLeft", "(II)V"⟩, 8) := ⟨⟨by decide +kernel, by decide +kernel⟩, List.mem_of_getElem? (i := 185) (by decide +kernel), List.mem_of_getElem? (i := 537) (by decide +kernel), List.mem_of_getElem? (i := 538) (by decide +kernel)⟩
theorem lw_p14 : lw_okq (⟨"LienTower$Land", "payWhole", "(I)V"⟩, 8) := ⟨⟨by decide +kernel, by decide +kernel⟩, List.mem_of_getElem? (i := 185) (by decide +kernel), List.mem_of_getElem? (i := 541) (by decide +kernel), List.mem_of_getElem? (i := 542) (by decide +kernel)⟩
theorem lw_p15 : lw_okq (⟨"LienTower$Book", "openOfSet", "(I)I"⟩, 6) := ⟨⟨by decide +kernel, by decide +kernel⟩, List.mem_of_getElem? (i := 20) (by decide +kernel), List.mem_of_getElem? (i := 578) (by decide +kernel), List.mem_of_getElem? (i := 579) (by decide +kernel)⟩
def lw_privs_1 : List (MethodName × Nat) := [(⟨"LienTower", "finding", "(I)I"⟩, 10), (⟨"LienTower", "isParty", "(I)Z"⟩, 10), (⟨"LienTower", "isOfKind", "(II)Z"⟩, 10), (⟨"LienTower", "isSpanUpToToday", "(II)Z"⟩, 10), (⟨"LienTower", "isJudgeable", "(II)Z"⟩, 10), (⟨"LienTower$Docket", "noticeBar", "(LLienTower$Contract;)I"⟩, 7), (⟨"LienTower$Docket", "lateness", "(IIII)I"⟩, 7), (⟨"LienTower$Docket", "isSuitLost", "(LLienTower$Claim;I)Z"⟩, 7), (⟨"LienTower", "isSharer", "(II)Z"⟩, 10), (⟨"LienTower$Land", "enterLoans", "()V"⟩, 8), (⟨"LienTower$Land", "enterClaims", "(II)V"⟩, 8), (⟨"LienTower$Land", "rankAfter", "(I)I"⟩, 8), (⟨"LienTower$Land", "payRank", "(I)V"⟩, 8), (⟨"LienTower$Land", "shareLeft", "(II)V"⟩, 8), (⟨"LienTower$Land", "payWhole", "(I)V"⟩, 8), (⟨"LienTower$Book", "openOfSet", "(I)I"⟩, 6)]
theorem lw_r1 : ∀ q ∈ lw_privs_1, lw_okq q := List.forall_mem_cons.mpr ⟨lw_p0, List.forall_mem_cons.mpr ⟨lw_p1, List.forall_mem_cons.mpr ⟨lw_p2, List.forall_mem_cons.mpr ⟨lw_p3, List.forall_mem_cons.mpr ⟨lw_p4, List.forall_mem_cons.mpr ⟨lw_p5, List.forall_mem_cons.mpr ⟨lw_p6, List.forall_mem_cons.mpr ⟨lw_p7, List.forall_mem_cons.mpr ⟨lw_p8, List.forall_mem_cons.mpr ⟨lw_p9, List.forall_mem_cons.mpr ⟨lw_p10, List.forall_mem_cons.mpr ⟨lw_p11, List.forall_mem_cons.mpr ⟨lw_p12, List.forall_mem_cons.mpr ⟨lw_p13, List.forall_mem_cons.mpr ⟨lw_p14, List.forall_mem_cons.mpr ⟨lw_p15, fun _ h => absurd h List.not_mem_nil⟩⟩⟩⟩⟩⟩⟩⟩⟩⟩⟩⟩⟩⟩⟩⟩
theorem lw_p16 : lw_okq (⟨"LienTower", "isPurpose", "(I)Z"⟩, 10) := ⟨⟨by decide +kernel, by decide +kernel⟩, List.mem_of_getElem? (i := 12) (by decide +kernel), List.mem_of_getElem? (i := 587) (by decide +kernel), List.mem_of_getElem? (i := 588) (by decide +kernel)⟩
theorem lw_p17 : lw_okq (⟨"LienTower$Accounts", "spendForward", "(III)V"⟩, 5) := ⟨⟨by decide +kernel, by decide +kernel⟩, List.mem_of_getElem? (i := 218) (by decide +kernel), List.mem_of_getElem? (i := 611) (by decide +kernel), List.mem_of_getElem? (i := 612) (by decide +kernel)⟩
theorem lw_p18 : lw_okq (⟨"LienTower$Accounts", "take", "(IIII)I"⟩, 5) := ⟨⟨by decide +kernel, by decide +kernel⟩, List.mem_of_getElem? (i := 218) (by decide +kernel), List.mem_of_getElem? (i := 615) (by decide +kernel), List.mem_of_getElem? (i := 616) (by decide +kernel)⟩
theorem lw_p19 : lw_okq (⟨"LienTowerModel", "finds", "(I)I"⟩, 46) := ⟨⟨by decide +kernel, by decide +kernel⟩, List.mem_of_getElem? (i := 652) (by decide +kernel), List.mem_of_getElem? (i := 806) (by decide +kernel), List.mem_of_getElem? (i := 807) (by decide +kernel)⟩
theorem lw_p20 : lw_okq (⟨"LienTowerModel", "isParty", "(I)Z"⟩, 46) := ⟨⟨by decide +kernel, by decide +kernel⟩, List.mem_of_getElem? (i := 652) (by decide +kernel), List.mem_of_getElem? (i := 816) (by decide +kernel), List.mem_of_getElem? (i := 817) (by decide +kernel)⟩
theorem lw_p21 : lw_okq (⟨"LienTowerModel", "contractTo", "(I)I"⟩, 46) := ⟨⟨by decide +kernel, by decide +kernel⟩, List.mem_of_getElem? (i := 652) (by decide +kernel), List.mem_of_getElem? (i := 829) (by decide +kernel), List.mem_of_getElem? (i := 830) (by decide +kernel)⟩
theorem lw_p22 : lw_okq (⟨"LienTowerModel", "isContract", "(I)Z"⟩, 46) := ⟨⟨by decide +kernel, by decide +kernel⟩, List.mem_of_getElem? (i := 652) (by decide +kernel), List.mem_of_getElem? (i := 838) (by decide +kernel), List.mem_of_getElem? (i := 839) (by decide +kernel)⟩
theorem lw_p23 : lw_okq (⟨"LienTowerModel", "isSpan", "(II)Z"⟩, 46) := ⟨⟨by decide +kernel, by decide +kernel⟩, List.mem_of_getElem? (i := 652) (by decide +kernel), List.mem_of_getElem? (i := 847) (by decide +kernel), List.mem_of_getElem? (i := 848) (by decide +kernel)⟩
theorem lw_p24 : lw_okq (⟨"LienTowerModel", "owing", "(I)I"⟩, 46) := ⟨⟨by decide +kernel, by decide +kernel⟩, List.mem_of_getElem? (i := 652) (by decide +kernel), List.mem_of_getElem? (i := 863) (by decide +kernel), List.mem_of_getElem? (i := 864) (by decide +kernel)⟩
theorem lw_p25 : lw_okq (⟨"LienTowerModel", "waived", "(I)I"⟩, 46) := ⟨⟨by decide +kernel, by decide +kernel⟩, List.mem_of_getElem? (i := 652) (by decide +kernel), List.mem_of_getElem? (i := 871) (by decide +kernel), List.mem_of_getElem? (i := 872) (by decide +kernel)⟩
theorem lw_p26 : lw_okq (⟨"LienTowerModel", "open", "(I)I"⟩, 46) := ⟨⟨by decide +kernel, by decide +kernel⟩, List.mem_of_getElem? (i := 652) (by decide +kernel), List.mem_of_getElem? (i := 879) (by decide +kernel), List.mem_of_getElem? (i := 880) (by decide +kernel)⟩
theorem lw_p27 : lw_okq (⟨"LienTowerModel", "degree", "(I)I"⟩, 46) := ⟨⟨by decide +kernel, by decide +kernel⟩, List.mem_of_getElem? (i := 652) (by decide +kernel), List.mem_of_getElem? (i := 883) (by decide +kernel), List.mem_of_getElem? (i := 884) (by decide +kernel)⟩
theorem lw_p28 : lw_okq (⟨"LienTowerModel", "upper", "(I)I"⟩, 46) := ⟨⟨by decide +kernel, by decide +kernel⟩, List.mem_of_getElem? (i := 652) (by decide +kernel), List.mem_of_getElem? (i := 887) (by decide +kernel), List.mem_of_getElem? (i := 888) (by decide +kernel)⟩
theorem lw_p29 : lw_okq (⟨"LienTowerModel", "isClaim", "(I)Z"⟩, 46) := ⟨⟨by decide +kernel, by decide +kernel⟩, List.mem_of_getElem? (i := 652) (by decide +kernel), List.mem_of_getElem? (i := 910) (by decide +kernel), List.mem_of_getElem? (i := 911) (by decide +kernel)⟩
theorem lw_p30 : lw_okq (⟨"LienTowerModel", "isJudgeable", "(II)Z"⟩, 46) := ⟨⟨by decide +kernel, by decide +kernel⟩, List.mem_of_getElem? (i := 652) (by decide +kernel), List.mem_of_getElem? (i := 922) (by decide +kernel), List.mem_of_getElem? (i := 923) (by decide +kernel)⟩
theorem lw_p31 : lw_okq (⟨"LienTowerModel", "judged", "(II)I"⟩, 46) := ⟨⟨by decide +kernel, by decide +kernel⟩, List.mem_of_getElem? (i := 652) (by decide +kernel), List.mem_of_getElem? (i := 926) (by decide +kernel), List.mem_of_getElem? (i := 927) (by decide +kernel)⟩
def lw_privs_2 : List (MethodName × Nat) := [(⟨"LienTower", "isPurpose", "(I)Z"⟩, 10), (⟨"LienTower$Accounts", "spendForward", "(III)V"⟩, 5), (⟨"LienTower$Accounts", "take", "(IIII)I"⟩, 5), (⟨"LienTowerModel", "finds", "(I)I"⟩, 46), (⟨"LienTowerModel", "isParty", "(I)Z"⟩, 46), (⟨"LienTowerModel", "contractTo", "(I)I"⟩, 46), (⟨"LienTowerModel", "isContract", "(I)Z"⟩, 46), (⟨"LienTowerModel", "isSpan", "(II)Z"⟩, 46), (⟨"LienTowerModel", "owing", "(I)I"⟩, 46), (⟨"LienTowerModel", "waived", "(I)I"⟩, 46), (⟨"LienTowerModel", "open", "(I)I"⟩, 46), (⟨"LienTowerModel", "degree", "(I)I"⟩, 46), (⟨"LienTowerModel", "upper", "(I)I"⟩, 46), (⟨"LienTowerModel", "isClaim", "(I)Z"⟩, 46), (⟨"LienTowerModel", "isJudgeable", "(II)Z"⟩, 46), (⟨"LienTowerModel", "judged", "(II)I"⟩, 46)]
theorem lw_r2 : ∀ q ∈ lw_privs_2, lw_okq q := List.forall_mem_cons.mpr ⟨lw_p16, List.forall_mem_cons.mpr ⟨lw_p17, List.forall_mem_cons.mpr ⟨lw_p18, List.forall_mem_cons.mpr ⟨lw_p19, List.forall_mem_cons.mpr ⟨lw_p20, List.forall_mem_cons.mpr ⟨lw_p21, List.forall_mem_cons.mpr ⟨lw_p22, List.forall_mem_cons.mpr ⟨lw_p23, List.forall_mem_cons.mpr ⟨lw_p24, List.forall_mem_cons.mpr ⟨lw_p25, List.forall_mem_cons.mpr ⟨lw_p26, List.forall_mem_cons.mpr ⟨lw_p27, List.forall_mem_cons.mpr ⟨lw_p28, List.forall_mem_cons.mpr ⟨lw_p29, List.forall_mem_cons.mpr ⟨lw_p30, List.forall_mem_cons.mpr ⟨lw_p31, fun _ h => absurd h List.not_mem_nil⟩⟩⟩⟩⟩⟩⟩⟩⟩⟩⟩⟩⟩⟩⟩⟩
theorem lw_p32 : lw_okq (⟨"LienTowerModel", "firstBar", "(III)I"⟩, 46) := ⟨⟨by decide +kernel, by decide +kernel⟩, List.mem_of_getElem? (i := 652) (by decide +kernel), List.mem_of_getElem? (i := 930) (by decide +kernel), List.mem_of_getElem? (i := 931) (by decide +kernel)⟩
theorem lw_p33 : lw_okq (⟨"LienTowerModel", "barred", "(III)I"⟩, 46) := ⟨⟨by decide +kernel, by decide +kernel⟩, List.mem_of_getElem? (i := 652) (by decide +kernel), List.mem_of_getElem? (i := 934) (by decide +kernel), List.mem_of_getElem? (i := 935) (by decide +kernel)⟩
theorem lw_p34 : lw_okq (⟨"LienTowerModel", "worthOf", "(II)I"⟩, 46) := ⟨⟨by decide +kernel, by decide +kernel⟩, List.mem_of_getElem? (i := 652) (by decide +kernel), List.mem_of_getElem? (i := 949) (by decide +kernel), List.mem_of_getElem? (i := 950) (by decide +kernel)⟩
theorem lw_p35 : lw_okq (⟨"LienTowerModel", "bound", "(I)I"⟩, 46) := ⟨⟨by decide +kernel, by decide +kernel⟩, List.mem_of_getElem? (i := 652) (by decide +kernel), List.mem_of_getElem? (i := 953) (by decide +kernel), List.mem_of_getElem? (i := 954) (by decide +kernel)⟩
theorem lw_p36 : lw_okq (⟨"LienTowerModel", "rankOf", "(II)I"⟩, 46) := ⟨⟨by decide +kernel, by decide +kernel⟩, List.mem_of_getElem? (i := 652) (by decide +kernel), List.mem_of_getElem? (i := 961) (by decide +kernel), List.mem_of_getElem? (i := 962) (by decide +kernel)⟩
theorem lw_p37 : lw_okq (⟨"LienTowerModel", "sell", "(II)V"⟩, 46) := ⟨⟨by decide +kernel, by decide +kernel⟩, List.mem_of_getElem? (i := 652) (by decide +kernel), List.mem_of_getElem? (i := 974) (by decide +kernel), List.mem_of_getElem? (i := 975) (by decide +kernel)⟩
theorem lw_p38 : lw_okq (⟨"LienTowerModel", "lines", "(I)V"⟩, 46) := ⟨⟨by decide +kernel, by decide +kernel⟩, List.mem_of_getElem? (i := 652) (by decide +kernel), List.mem_of_getElem? (i := 978) (by decide +kernel), List.mem_of_getElem? (i := 979) (by decide +kernel)⟩
theorem lw_p39 : lw_okq (⟨"LienTowerModel", "nextRank", "(I)I"⟩, 46) := ⟨⟨by decide +kernel, by decide +kernel⟩, List.mem_of_getElem? (i := 652) (by decide +kernel), List.mem_of_getElem? (i := 982) (by decide +kernel), List.mem_of_getElem? (i := 983) (by decide +kernel)⟩
theorem lw_p40 : lw_okq (⟨"LienTowerModel", "isBelow", "(II)Z"⟩, 46) := ⟨⟨by decide +kernel, by decide +kernel⟩, List.mem_of_getElem? (i := 652) (by decide +kernel), List.mem_of_getElem? (i := 990) (by decide +kernel), List.mem_of_getElem? (i := 991) (by decide +kernel)⟩
theorem lw_p41 : lw_okq (⟨"LienTowerModel", "isBuilder", "(I)Z"⟩, 46) := ⟨⟨by decide +kernel, by decide +kernel⟩, List.mem_of_getElem? (i := 652) (by decide +kernel), List.mem_of_getElem? (i := 1005) (by decide +kernel), List.mem_of_getElem? (i := 1006) (by decide +kernel)⟩
theorem lw_p42 : lw_okq (⟨"LienTowerModel", "account", "(I)I"⟩, 46) := ⟨⟨by decide +kernel, by decide +kernel⟩, List.mem_of_getElem? (i := 652) (by decide +kernel), List.mem_of_getElem? (i := 1013) (by decide +kernel), List.mem_of_getElem? (i := 1014) (by decide +kernel)⟩
theorem lw_p43 : lw_okq (⟨"LienTowerModel", "traces", "(I)V"⟩, 46) := ⟨⟨by decide +kernel, by decide +kernel⟩, List.mem_of_getElem? (i := 652) (by decide +kernel), List.mem_of_getElem? (i := 1021) (by decide +kernel), List.mem_of_getElem? (i := 1022) (by decide +kernel)⟩
theorem lw_p44 : lw_okq (⟨"LienTowerModel", "goes", "(IIIZI)I"⟩, 46) := ⟨⟨by decide +kernel, by decide +kernel⟩, List.mem_of_getElem? (i := 652) (by decide +kernel), List.mem_of_getElem? (i := 1025) (by decide +kernel), List.mem_of_getElem? (i := 1026) (by decide +kernel)⟩
def lw_privs_3 : List (MethodName × Nat) := [(⟨"LienTowerModel", "firstBar", "(III)I"⟩, 46), (⟨"LienTowerModel", "barred", "(III)I"⟩, 46), (⟨"LienTowerModel", "worthOf", "(II)I"⟩, 46), (⟨"LienTowerModel", "bound", "(I)I"⟩, 46), (⟨"LienTowerModel", "rankOf", "(II)I"⟩, 46), (⟨"LienTowerModel", "sell", "(II)V"⟩, 46), (⟨"LienTowerModel", "lines", "(I)V"⟩, 46), (⟨"LienTowerModel", "nextRank", "(I)I"⟩, 46), (⟨"LienTowerModel", "isBelow", "(II)Z"⟩, 46), (⟨"LienTowerModel", "isBuilder", "(I)Z"⟩, 46), (⟨"LienTowerModel", "account", "(I)I"⟩, 46), (⟨"LienTowerModel", "traces", "(I)V"⟩, 46), (⟨"LienTowerModel", "goes", "(IIIZI)I"⟩, 46)]
theorem lw_r3 : ∀ q ∈ lw_privs_3, lw_okq q := List.forall_mem_cons.mpr ⟨lw_p32, List.forall_mem_cons.mpr ⟨lw_p33, List.forall_mem_cons.mpr ⟨lw_p34, List.forall_mem_cons.mpr ⟨lw_p35, List.forall_mem_cons.mpr ⟨lw_p36, List.forall_mem_cons.mpr ⟨lw_p37, List.forall_mem_cons.mpr ⟨lw_p38, List.forall_mem_cons.mpr ⟨lw_p39, List.forall_mem_cons.mpr ⟨lw_p40, List.forall_mem_cons.mpr ⟨lw_p41, List.forall_mem_cons.mpr ⟨lw_p42, List.forall_mem_cons.mpr ⟨lw_p43, List.forall_mem_cons.mpr ⟨lw_p44, fun _ h => absurd h List.not_mem_nil⟩⟩⟩⟩⟩⟩⟩⟩⟩⟩⟩⟩⟩
def lw_privs : List (MethodName × Nat) := lw_privs_1 ++ (lw_privs_2 ++ (lw_privs_3))
def lw_tbl : List Cond := k2_sels lw_privs ++ tables_1
theorem lw_privs_ok : ∀ q ∈ lw_privs, lw_okq q := by
  show ∀ q ∈ lw_privs_1 ++ (lw_privs_2 ++ (lw_privs_3)), lw_okq q
  exact List.forall_mem_append.mpr ⟨lw_r1, List.forall_mem_append.mpr ⟨lw_r2, lw_r3⟩⟩
end
section
def RX0 : String := "LienTower$Accounts"
def TX0 : u_T := fun k => match k with
  | 0 => ("LienTower$Accounts", "holders", "[I", true)
  | 1 => ("LienTower$Accounts", "purposes", "[I", true)
  | 2 => ("LienTower$Accounts", "left", "[[I", true)
  | 3 => ("LienTower$Accounts", "ins", "I", false)
  | _ => ("LienTower$Accounts", "outs", "I", false)
def tyX0 : Nat → FieldType := fun k => match k with
  | 0 => .array .int
  | 1 => .array .int
  | 2 => .array (.array .int)
  | 3 => .int
  | _ => .int
theorem nmX0 : ∀ a, a < 5 → ∀ b, b < 5 → a ≠ b → (TX0 a).2.1 ≠ (TX0 b).2.1 := by decide +kernel
theorem tyX0_ok : ∀ k, k < 5 → parseFieldDescriptor (TX0 k).2.2.1 = some (tyX0 k) := by decide +kernel
abbrev cX0_init : ByteArray := prog_2_method_1_code
def yX0_init : MethodName := ⟨RX0, "<init>", "()V"⟩
abbrev cX0_receive : ByteArray := prog_2_method_2_code
def yX0_receive : MethodName := ⟨RX0, "receive", "(III)I"⟩
abbrev cX0_balance : ByteArray := prog_2_method_3_code
def yX0_balance : MethodName := ⟨RX0, "balance", "(I)I"⟩
abbrev cX0_leftFor : ByteArray := prog_2_method_4_code
def yX0_leftFor : MethodName := ⟨RX0, "leftFor", "(III)I"⟩
abbrev cX0_spend : ByteArray := prog_2_method_5_code
def yX0_spend : MethodName := ⟨RX0, "spend", "(II)V"⟩
abbrev cX0_spendForward : ByteArray := prog_2_method_6_code
def yX0_spendForward : MethodName := ⟨RX0, "spendForward", "(III)V"⟩
abbrev cX0_take : ByteArray := prog_2_method_7_code
def yX0_take : MethodName := ⟨RX0, "take", "(IIII)I"⟩
def RX1 : String := "LienTower$Book"
def TX1 : u_T := fun k => match k with
  | 0 => ("LienTower$Book", "contracts", "[LLienTower$Contract;", true)
  | 1 => ("LienTower$Book", "count", "I", false)
  | 2 => ("LienTower$Book", "waiverContracts", "[I", true)
  | 3 => ("LienTower$Book", "waiverAmounts", "[I", true)
  | 4 => ("LienTower$Book", "waiverConditions", "[I", true)
  | _ => ("LienTower$Book", "waivers", "I", false)
def tyX1 : Nat → FieldType := fun k => match k with
  | 0 => .array (.object "LienTower$Contract")
  | 1 => .int
  | 2 => .array .int
  | 3 => .array .int
  | 4 => .array .int
  | _ => .int
theorem nmX1 : ∀ a, a < 6 → ∀ b, b < 6 → a ≠ b → (TX1 a).2.1 ≠ (TX1 b).2.1 := by decide +kernel
theorem tyX1_ok : ∀ k, k < 6 → parseFieldDescriptor (TX1 k).2.2.1 = some (tyX1 k) := by decide +kernel
abbrev cX1_init : ByteArray := prog_3_method_1_code
def yX1_init : MethodName := ⟨RX1, "<init>", "()V"⟩
abbrev cX1_has : ByteArray := prog_3_method_2_code
def yX1_has : MethodName := ⟨RX1, "has", "(I)Z"⟩
abbrev cX1_whosePayeeIs : ByteArray := prog_3_method_3_code
def yX1_whosePayeeIs : MethodName := ⟨RX1, "whosePayeeIs", "(I)I"⟩
abbrev cX1_howManyPaidBy : ByteArray := prog_3_method_4_code
def yX1_howManyPaidBy : MethodName := ⟨RX1, "howManyPaidBy", "(I)I"⟩
abbrev cX1_agree : ByteArray := prog_3_method_5_code
def yX1_agree : MethodName := ⟨RX1, "agree", "(III)I"⟩
abbrev cX1_addWaiver : ByteArray := prog_3_method_6_code
def yX1_addWaiver : MethodName := ⟨RX1, "addWaiver", "(III)V"⟩
abbrev cX1_settleWaived : ByteArray := prog_3_method_7_code
def yX1_settleWaived : MethodName := ⟨RX1, "settleWaived", "(I)V"⟩
abbrev cX1_firstSpade : ByteArray := prog_3_method_8_code
def yX1_firstSpade : MethodName := ⟨RX1, "firstSpade", "(I)I"⟩
abbrev cX1_boundOf : ByteArray := prog_3_method_9_code
def yX1_boundOf : MethodName := ⟨RX1, "boundOf", "(LLienTower$Contract;Z)I"⟩
abbrev cX1_fewestSigners : ByteArray := prog_3_method_10_code
def yX1_fewestSigners : MethodName := ⟨RX1, "fewestSigners", "(III)I"⟩
abbrev cX1_openOfSet : ByteArray := prog_3_method_11_code
def yX1_openOfSet : MethodName := ⟨RX1, "openOfSet", "(I)I"⟩
def RX2 : String := "LienTower$Claim"
def TX2 : u_T := fun k => match k with
  | 0 => ("LienTower$Claim", "contract", "I", false)
  | 1 => ("LienTower$Claim", "amount", "I", false)
  | 2 => ("LienTower$Claim", "filedDay", "I", false)
  | 3 => ("LienTower$Claim", "suedDay", "I", false)
  | _ => ("LienTower$Claim", "bonded", "I", false)
def tyX2 : Nat → FieldType := fun k => match k with
  | 0 => .int
  | 1 => .int
  | 2 => .int
  | 3 => .int
  | _ => .int
theorem nmX2 : ∀ a, a < 5 → ∀ b, b < 5 → a ≠ b → (TX2 a).2.1 ≠ (TX2 b).2.1 := by decide +kernel
theorem tyX2_ok : ∀ k, k < 5 → parseFieldDescriptor (TX2 k).2.2.1 = some (tyX2 k) := by decide +kernel
abbrev cX2_init : ByteArray := prog_4_method_1_code
def yX2_init : MethodName := ⟨RX2, "<init>", "()V"⟩
def RX3 : String := "LienTower$Contract"
def TX3 : u_T := fun k => match k with
  | 0 => ("LienTower$Contract", "payer", "I", false)
  | 1 => ("LienTower$Contract", "payee", "I", false)
  | 2 => ("LienTower$Contract", "upper", "I", false)
  | 3 => ("LienTower$Contract", "uppers", "I", false)
  | 4 => ("LienTower$Contract", "degree", "I", false)
  | 5 => ("LienTower$Contract", "sum", "I", false)
  | 6 => ("LienTower$Contract", "paid", "I", false)
  | 7 => ("LienTower$Contract", "waived", "I", false)
  | 8 => ("LienTower$Contract", "noticeDay", "I", false)
  | 9 => ("LienTower$Contract", "beganFirst", "I", false)
  | 10 => ("LienTower$Contract", "beganLast", "I", false)
  | 11 => ("LienTower$Contract", "endedFirst", "I", false)
  | _ => ("LienTower$Contract", "endedLast", "I", false)
def tyX3 : Nat → FieldType := fun k => match k with
  | 0 => .int
  | 1 => .int
  | 2 => .int
  | 3 => .int
  | 4 => .int
  | 5 => .int
  | 6 => .int
  | 7 => .int
  | 8 => .int
  | 9 => .int
  | 10 => .int
  | 11 => .int
  | _ => .int
theorem nmX3 : ∀ a, a < 13 → ∀ b, b < 13 → a ≠ b → (TX3 a).2.1 ≠ (TX3 b).2.1 := by decide +kernel
theorem tyX3_ok : ∀ k, k < 13 → parseFieldDescriptor (TX3 k).2.2.1 = some (tyX3 k) := by decide +kernel
abbrev cX3_init : ByteArray := prog_5_method_1_code
def yX3_init : MethodName := ⟨RX3, "<init>", "()V"⟩
abbrev cX3_owing : ByteArray := prog_5_method_2_code
def yX3_owing : MethodName := ⟨RX3, "owing", "()I"⟩
abbrev cX3_open : ByteArray := prog_5_method_3_code
def yX3_open : MethodName := ⟨RX3, "open", "()I"⟩
abbrev cX3_hasBegun : ByteArray := prog_5_method_4_code
def yX3_hasBegun : MethodName := ⟨RX3, "hasBegun", "()Z"⟩
abbrev cX3_hasEnded : ByteArray := prog_5_method_5_code
def yX3_hasEnded : MethodName := ⟨RX3, "hasEnded", "()Z"⟩
abbrev cX3_isBelow : ByteArray := prog_5_method_6_code
def yX3_isBelow : MethodName := ⟨RX3, "isBelow", "(I)Z"⟩
abbrev cX3_isSideOf : ByteArray := prog_5_method_7_code
def yX3_isSideOf : MethodName := ⟨RX3, "isSideOf", "(I)Z"⟩
abbrev cX3_detail : ByteArray := prog_5_method_8_code
def yX3_detail : MethodName := ⟨RX3, "detail", "(I)I"⟩
def RX4 : String := "LienTower$Docket"
def TX4 : u_T := fun k => match k with
  | 0 => ("LienTower$Docket", "book", "LLienTower$Book;", true)
  | 1 => ("LienTower$Docket", "laws", "[I", true)
  | 2 => ("LienTower$Docket", "claims", "[LLienTower$Claim;", true)
  | 3 => ("LienTower$Docket", "count", "I", false)
  | 4 => ("LienTower$Docket", "verdicts", "[I", true)
  | 5 => ("LienTower$Docket", "worths", "[I", true)
  | _ => ("LienTower$Docket", "boundsLeft", "[I", true)
def tyX4 : Nat → FieldType := fun k => match k with
  | 0 => .object "LienTower$Book"
  | 1 => .array .int
  | 2 => .array (.object "LienTower$Claim")
  | 3 => .int
  | 4 => .array .int
  | 5 => .array .int
  | _ => .array .int
theorem nmX4 : ∀ a, a < 7 → ∀ b, b < 7 → a ≠ b → (TX4 a).2.1 ≠ (TX4 b).2.1 := by decide +kernel
theorem tyX4_ok : ∀ k, k < 7 → parseFieldDescriptor (TX4 k).2.2.1 = some (tyX4 k) := by decide +kernel
abbrev cX4_init : ByteArray := prog_6_method_1_code
def yX4_init : MethodName := ⟨RX4, "<init>", "(LLienTower$Book;)V"⟩
abbrev cX4_has : ByteArray := prog_6_method_2_code
def yX4_has : MethodName := ⟨RX4, "has", "(I)Z"⟩
abbrev cX4_enter : ByteArray := prog_6_method_3_code
def yX4_enter : MethodName := ⟨RX4, "enter", "(III)I"⟩
abbrev cX4_barOn : ByteArray := prog_6_method_4_code
def yX4_barOn : MethodName := ⟨RX4, "barOn", "(II)I"⟩
abbrev cX4_verdictOfBar : ByteArray := prog_6_method_5_code
def yX4_verdictOfBar : MethodName := ⟨RX4, "verdictOfBar", "(I)I"⟩
abbrev cX4_noticeBar : ByteArray := prog_6_method_6_code
def yX4_noticeBar : MethodName := ⟨RX4, "noticeBar", "(LLienTower$Contract;)I"⟩
abbrev cX4_lateness : ByteArray := prog_6_method_7_code
def yX4_lateness : MethodName := ⟨RX4, "lateness", "(IIII)I"⟩
abbrev cX4_isSuitLost : ByteArray := prog_6_method_8_code
def yX4_isSuitLost : MethodName := ⟨RX4, "isSuitLost", "(LLienTower$Claim;I)Z"⟩
abbrev cX4_weigh : ByteArray := prog_6_method_9_code
def yX4_weigh : MethodName := ⟨RX4, "weigh", "(I)V"⟩
abbrev cX4_worthBelow : ByteArray := prog_6_method_10_code
def yX4_worthBelow : MethodName := ⟨RX4, "worthBelow", "(II)I"⟩
abbrev cX4_howManyGood : ByteArray := prog_6_method_11_code
def yX4_howManyGood : MethodName := ⟨RX4, "howManyGood", "(I)I"⟩
abbrev cX4_rankDay : ByteArray := prog_6_method_12_code
def yX4_rankDay : MethodName := ⟨RX4, "rankDay", "(II)I"⟩
def RX5 : String := "LienTower$Land"
def TX5 : u_T := fun k => match k with
  | 0 => ("LienTower$Land", "docket", "LLienTower$Docket;", true)
  | 1 => ("LienTower$Land", "loanSums", "[I", true)
  | 2 => ("LienTower$Land", "loanDays", "[I", true)
  | 3 => ("LienTower$Land", "loans", "I", false)
  | 4 => ("LienTower$Land", "ranks", "[I", true)
  | 5 => ("LienTower$Land", "worths", "[I", true)
  | 6 => ("LienTower$Land", "shares", "[I", true)
  | _ => ("LienTower$Land", "left", "I", false)
def tyX5 : Nat → FieldType := fun k => match k with
  | 0 => .object "LienTower$Docket"
  | 1 => .array .int
  | 2 => .array .int
  | 3 => .int
  | 4 => .array .int
  | 5 => .array .int
  | 6 => .array .int
  | _ => .int
theorem nmX5 : ∀ a, a < 8 → ∀ b, b < 8 → a ≠ b → (TX5 a).2.1 ≠ (TX5 b).2.1 := by decide +kernel
theorem tyX5_ok : ∀ k, k < 8 → parseFieldDescriptor (TX5 k).2.2.1 = some (tyX5 k) := by decide +kernel
abbrev cX5_init : ByteArray := prog_7_method_1_code
def yX5_init : MethodName := ⟨RX5, "<init>", "(LLienTower$Docket;)V"⟩
abbrev cX5_record : ByteArray := prog_7_method_2_code
def yX5_record : MethodName := ⟨RX5, "record", "(II)I"⟩
abbrev cX5_loanShare : ByteArray := prog_7_method_3_code
def yX5_loanShare : MethodName := ⟨RX5, "loanShare", "(I)I"⟩
abbrev cX5_claimShare : ByteArray := prog_7_method_4_code
def yX5_claimShare : MethodName := ⟨RX5, "claimShare", "(I)I"⟩
abbrev cX5_sell : ByteArray := prog_7_method_5_code
def yX5_sell : MethodName := ⟨RX5, "sell", "(III)V"⟩
abbrev cX5_enterLoans : ByteArray := prog_7_method_6_code
def yX5_enterLoans : MethodName := ⟨RX5, "enterLoans", "()V"⟩
abbrev cX5_enterClaims : ByteArray := prog_7_method_7_code
def yX5_enterClaims : MethodName := ⟨RX5, "enterClaims", "(II)V"⟩
abbrev cX5_rankAfter : ByteArray := prog_7_method_8_code
def yX5_rankAfter : MethodName := ⟨RX5, "rankAfter", "(I)I"⟩
abbrev cX5_payRank : ByteArray := prog_7_method_9_code
def yX5_payRank : MethodName := ⟨RX5, "payRank", "(I)V"⟩
abbrev cX5_payWhole : ByteArray := prog_7_method_10_code
def yX5_payWhole : MethodName := ⟨RX5, "payWhole", "(I)V"⟩
abbrev cX5_shareLeft : ByteArray := prog_7_method_11_code
def yX5_shareLeft : MethodName := ⟨RX5, "shareLeft", "(II)V"⟩
def RX6 : String := "LienTower"
def TX6 : u_T := fun k => match k with
  | 0 => ("LienTower", "kinds", "[I", true)
  | 1 => ("LienTower", "parties", "I", false)
  | 2 => ("LienTower", "book", "LLienTower$Book;", true)
  | 3 => ("LienTower", "docket", "LLienTower$Docket;", true)
  | 4 => ("LienTower", "land", "LLienTower$Land;", true)
  | 5 => ("LienTower", "accounts", "LLienTower$Accounts;", true)
  | 6 => ("LienTower", "today", "I", false)
  | 7 => ("LienTower", "waiting", "[I", true)
  | 8 => ("LienTower", "waitingCount", "I", false)
  | _ => ("LienTower", "findings", "[I", true)
def tyX6 : Nat → FieldType := fun k => match k with
  | 0 => .array .int
  | 1 => .int
  | 2 => .object "LienTower$Book"
  | 3 => .object "LienTower$Docket"
  | 4 => .object "LienTower$Land"
  | 5 => .object "LienTower$Accounts"
  | 6 => .int
  | 7 => .array .int
  | 8 => .int
  | _ => .array .int
theorem nmX6 : ∀ a, a < 10 → ∀ b, b < 10 → a ≠ b → (TX6 a).2.1 ≠ (TX6 b).2.1 := by decide +kernel
theorem tyX6_ok : ∀ k, k < 10 → parseFieldDescriptor (TX6 k).2.2.1 = some (tyX6 k) := by decide +kernel
abbrev cX6_init : ByteArray := prog_1_method_1_code
def yX6_init : MethodName := ⟨RX6, "<init>", "()V"⟩
abbrev cX6_party : ByteArray := prog_1_method_2_code
def yX6_party : MethodName := ⟨RX6, "party", "(I)I"⟩
abbrev cX6_as : ByteArray := prog_1_method_3_code
def yX6_as : MethodName := ⟨RX6, "as", "(II)I"⟩
abbrev cX6_contract : ByteArray := prog_1_method_4_code
def yX6_contract : MethodName := ⟨RX6, "contract", "(III)I"⟩
abbrev cX6_extra : ByteArray := prog_1_method_5_code
def yX6_extra : MethodName := ⟨RX6, "extra", "(II)I"⟩
abbrev cX6_began : ByteArray := prog_1_method_6_code
def yX6_began : MethodName := ⟨RX6, "began", "(III)I"⟩
abbrev cX6_ended : ByteArray := prog_1_method_7_code
def yX6_ended : MethodName := ⟨RX6, "ended", "(III)I"⟩
abbrev cX6_notice : ByteArray := prog_1_method_8_code
def yX6_notice : MethodName := ⟨RX6, "notice", "(I)I"⟩
abbrev cX6_pay : ByteArray := prog_1_method_9_code
def yX6_pay : MethodName := ⟨RX6, "pay", "(II)I"⟩
abbrev cX6_waive : ByteArray := prog_1_method_10_code
def yX6_waive : MethodName := ⟨RX6, "waive", "(III)I"⟩
abbrev cX6_of : ByteArray := prog_1_method_11_code
def yX6_of : MethodName := ⟨RX6, "of", "(II)I"⟩
abbrev cX6_day : ByteArray := prog_1_method_12_code
def yX6_day : MethodName := ⟨RX6, "day", "(I)I"⟩
abbrev cX6_law : ByteArray := prog_1_method_13_code
def yX6_law : MethodName := ⟨RX6, "law", "(II)I"⟩
abbrev cX6_file : ByteArray := prog_1_method_14_code
def yX6_file : MethodName := ⟨RX6, "file", "(II)I"⟩
abbrev cX6_sue : ByteArray := prog_1_method_15_code
def yX6_sue : MethodName := ⟨RX6, "sue", "(I)I"⟩
abbrev cX6_bond : ByteArray := prog_1_method_16_code
def yX6_bond : MethodName := ⟨RX6, "bond", "(II)I"⟩
abbrev cX6_judge : ByteArray := prog_1_method_17_code
def yX6_judge : MethodName := ⟨RX6, "judge", "(II)I"⟩
abbrev cX6_bar : ByteArray := prog_1_method_18_code
def yX6_bar : MethodName := ⟨RX6, "bar", "(II)I"⟩
abbrev cX6_worth : ByteArray := prog_1_method_19_code
def yX6_worth : MethodName := ⟨RX6, "worth", "(II)I"⟩
abbrev cX6_rank : ByteArray := prog_1_method_20_code
def yX6_rank : MethodName := ⟨RX6, "rank", "(II)I"⟩
abbrev cX6_loan : ByteArray := prog_1_method_21_code
def yX6_loan : MethodName := ⟨RX6, "loan", "(II)I"⟩
abbrev cX6_sale : ByteArray := prog_1_method_22_code
def yX6_sale : MethodName := ⟨RX6, "sale", "(IIII)I"⟩
abbrev cX6_twice : ByteArray := prog_1_method_23_code
def yX6_twice : MethodName := ⟨RX6, "twice", "(I)I"⟩
abbrev cX6_sign : ByteArray := prog_1_method_24_code
def yX6_sign : MethodName := ⟨RX6, "sign", "(III)I"⟩
abbrev cX6_in : ByteArray := prog_1_method_25_code
def yX6_in : MethodName := ⟨RX6, "in", "(III)I"⟩
abbrev cX6_out : ByteArray := prog_1_method_26_code
def yX6_out : MethodName := ⟨RX6, "out", "(II)I"⟩
abbrev cX6_trace : ByteArray := prog_1_method_27_code
def yX6_trace : MethodName := ⟨RX6, "trace", "(II)I"⟩
abbrev cX6_held : ByteArray := prog_1_method_28_code
def yX6_held : MethodName := ⟨RX6, "held", "(III)I"⟩
abbrev cX6_tell : ByteArray := prog_1_method_29_code
def yX6_tell : MethodName := ⟨RX6, "tell", "(I)I"⟩
abbrev cX6_check : ByteArray := prog_1_method_30_code
def yX6_check : MethodName := ⟨RX6, "check", "(I)I"⟩
abbrev cX6_count : ByteArray := prog_1_method_31_code
def yX6_count : MethodName := ⟨RX6, "count", "(I)I"⟩
abbrev cX6_found : ByteArray := prog_1_method_32_code
def yX6_found : MethodName := ⟨RX6, "found", "(I)I"⟩
abbrev cX6_finding : ByteArray := prog_1_method_33_code
def yX6_finding : MethodName := ⟨RX6, "finding", "(I)I"⟩
abbrev cX6_within : ByteArray := prog_1_method_34_code
def yX6_within : MethodName := ⟨RX6, "within", "(III)Z"⟩
abbrev cX6_isKindNumber : ByteArray := prog_1_method_35_code
def yX6_isKindNumber : MethodName := ⟨RX6, "isKindNumber", "(I)Z"⟩
abbrev cX6_isParty : ByteArray := prog_1_method_36_code
def yX6_isParty : MethodName := ⟨RX6, "isParty", "(I)Z"⟩
abbrev cX6_isOfKind : ByteArray := prog_1_method_37_code
def yX6_isOfKind : MethodName := ⟨RX6, "isOfKind", "(II)Z"⟩
abbrev cX6_isSpanUpToToday : ByteArray := prog_1_method_38_code
def yX6_isSpanUpToToday : MethodName := ⟨RX6, "isSpanUpToToday", "(II)Z"⟩
abbrev cX6_isJudgeable : ByteArray := prog_1_method_39_code
def yX6_isJudgeable : MethodName := ⟨RX6, "isJudgeable", "(II)Z"⟩
abbrev cX6_isSaleCoin : ByteArray := prog_1_method_40_code
def yX6_isSaleCoin : MethodName := ⟨RX6, "isSaleCoin", "(I)Z"⟩
abbrev cX6_isSharer : ByteArray := prog_1_method_41_code
def yX6_isSharer : MethodName := ⟨RX6, "isSharer", "(II)Z"⟩
abbrev cX6_isPurpose : ByteArray := prog_1_method_42_code
def yX6_isPurpose : MethodName := ⟨RX6, "isPurpose", "(I)Z"⟩
def RX7 : String := "LienTowerModel"
def TX7 : u_T := fun k => match k with
  | 0 => ("LienTowerModel", "parties", "I", false)
  | 1 => ("LienTowerModel", "contracts", "I", false)
  | 2 => ("LienTowerModel", "claims", "I", false)
  | 3 => ("LienTowerModel", "loans", "I", false)
  | 4 => ("LienTowerModel", "waivers", "I", false)
  | 5 => ("LienTowerModel", "ins", "I", false)
  | 6 => ("LienTowerModel", "outs", "I", false)
  | 7 => ("LienTowerModel", "events", "I", false)
  | 8 => ("LienTowerModel", "today", "I", false)
  | 9 => ("LienTowerModel", "waiting", "I", false)
  | 10 => ("LienTowerModel", "kind", "[I", true)
  | 11 => ("LienTowerModel", "payer", "[I", true)
  | 12 => ("LienTowerModel", "payee", "[I", true)
  | 13 => ("LienTowerModel", "sum", "[I", true)
  | 14 => ("LienTowerModel", "paid", "[I", true)
  | 15 => ("LienTowerModel", "noticed", "[I", true)
  | 16 => ("LienTowerModel", "beganFirst", "[I", true)
  | 17 => ("LienTowerModel", "beganLast", "[I", true)
  | 18 => ("LienTowerModel", "endedFirst", "[I", true)
  | 19 => ("LienTowerModel", "endedLast", "[I", true)
  | 20 => ("LienTowerModel", "waivedOf", "[I", true)
  | 21 => ("LienTowerModel", "waivedUpTo", "[I", true)
  | 22 => ("LienTowerModel", "waivedIf", "[Z", true)
  | 23 => ("LienTowerModel", "laws", "[I", true)
  | 24 => ("LienTowerModel", "claimOf", "[I", true)
  | 25 => ("LienTowerModel", "amount", "[I", true)
  | 26 => ("LienTowerModel", "filed", "[I", true)
  | 27 => ("LienTowerModel", "sued", "[I", true)
  | 28 => ("LienTowerModel", "bonded", "[Z", true)
  | 29 => ("LienTowerModel", "loanSum", "[I", true)
  | 30 => ("LienTowerModel", "recorded", "[I", true)
  | 31 => ("LienTowerModel", "inParty", "[I", true)
  | 32 => ("LienTowerModel", "inFor", "[I", true)
  | 33 => ("LienTowerModel", "inCoin", "[I", true)
  | 34 => ("LienTowerModel", "outParty", "[I", true)
  | 35 => ("LienTowerModel", "outCoin", "[I", true)
  | 36 => ("LienTowerModel", "event", "[I", true)
  | 37 => ("LienTowerModel", "numbers", "[I", true)
  | 38 => ("LienTowerModel", "finds", "[I", true)
  | 39 => ("LienTowerModel", "takes", "[Z", true)
  | 40 => ("LienTowerModel", "ranks", "[I", true)
  | 41 => ("LienTowerModel", "worths", "[I", true)
  | 42 => ("LienTowerModel", "has", "[I", true)
  | 43 => ("LienTowerModel", "owners", "I", false)
  | 44 => ("LienTowerModel", "opens", "[I", true)
  | _ => ("LienTowerModel", "rest", "[I", true)
def tyX7 : Nat → FieldType := fun k => match k with
  | 0 => .int
  | 1 => .int
  | 2 => .int
  | 3 => .int
  | 4 => .int
  | 5 => .int
  | 6 => .int
  | 7 => .int
  | 8 => .int
  | 9 => .int
  | 10 => .array .int
  | 11 => .array .int
  | 12 => .array .int
  | 13 => .array .int
  | 14 => .array .int
  | 15 => .array .int
  | 16 => .array .int
  | 17 => .array .int
  | 18 => .array .int
  | 19 => .array .int
  | 20 => .array .int
  | 21 => .array .int
  | 22 => .array .boolean
  | 23 => .array .int
  | 24 => .array .int
  | 25 => .array .int
  | 26 => .array .int
  | 27 => .array .int
  | 28 => .array .boolean
  | 29 => .array .int
  | 30 => .array .int
  | 31 => .array .int
  | 32 => .array .int
  | 33 => .array .int
  | 34 => .array .int
  | 35 => .array .int
  | 36 => .array .int
  | 37 => .array .int
  | 38 => .array .int
  | 39 => .array .boolean
  | 40 => .array .int
  | 41 => .array .int
  | 42 => .array .int
  | 43 => .int
  | 44 => .array .int
  | _ => .array .int
theorem nmX7 : ∀ a, a < 46 → ∀ b, b < 46 → a ≠ b → (TX7 a).2.1 ≠ (TX7 b).2.1 := by decide +kernel
theorem tyX7_ok : ∀ k, k < 46 → parseFieldDescriptor (TX7 k).2.2.1 = some (tyX7 k) := by decide +kernel
abbrev cX7_init : ByteArray := prog_9_method_1_code
def yX7_init : MethodName := ⟨RX7, "<init>", "()V"⟩
abbrev cX7_isIn : ByteArray := prog_9_method_3_code
def yX7_isIn : MethodName := ⟨RX7, "isIn", "(III)Z"⟩
abbrev cX7_finds : ByteArray := prog_9_method_4_code
def yX7_finds : MethodName := ⟨RX7, "finds", "(I)I"⟩
abbrev cX7_isParty : ByteArray := prog_9_method_5_code
def yX7_isParty : MethodName := ⟨RX7, "isParty", "(I)Z"⟩
abbrev cX7_isContract : ByteArray := prog_9_method_6_code
def yX7_isContract : MethodName := ⟨RX7, "isContract", "(I)Z"⟩
abbrev cX7_isClaim : ByteArray := prog_9_method_7_code
def yX7_isClaim : MethodName := ⟨RX7, "isClaim", "(I)Z"⟩
abbrev cX7_isUnder : ByteArray := prog_9_method_8_code
def yX7_isUnder : MethodName := ⟨RX7, "isUnder", "(II)Z"⟩
abbrev cX7_party : ByteArray := prog_9_method_9_code
def yX7_party : MethodName := ⟨RX7, "party", "(I)I"⟩
abbrev cX7_as : ByteArray := prog_9_method_10_code
def yX7_as : MethodName := ⟨RX7, "as", "(II)I"⟩
abbrev cX7_contractTo : ByteArray := prog_9_method_11_code
def yX7_contractTo : MethodName := ⟨RX7, "contractTo", "(I)I"⟩
abbrev cX7_contract : ByteArray := prog_9_method_12_code
def yX7_contract : MethodName := ⟨RX7, "contract", "(III)I"⟩
abbrev cX7_extra : ByteArray := prog_9_method_13_code
def yX7_extra : MethodName := ⟨RX7, "extra", "(II)I"⟩
abbrev cX7_isSpan : ByteArray := prog_9_method_14_code
def yX7_isSpan : MethodName := ⟨RX7, "isSpan", "(II)Z"⟩
abbrev cX7_began : ByteArray := prog_9_method_15_code
def yX7_began : MethodName := ⟨RX7, "began", "(III)I"⟩
abbrev cX7_ended : ByteArray := prog_9_method_16_code
def yX7_ended : MethodName := ⟨RX7, "ended", "(III)I"⟩
abbrev cX7_notice : ByteArray := prog_9_method_17_code
def yX7_notice : MethodName := ⟨RX7, "notice", "(I)I"⟩
abbrev cX7_owing : ByteArray := prog_9_method_18_code
def yX7_owing : MethodName := ⟨RX7, "owing", "(I)I"⟩
abbrev cX7_pay : ByteArray := prog_9_method_19_code
def yX7_pay : MethodName := ⟨RX7, "pay", "(II)I"⟩
abbrev cX7_waived : ByteArray := prog_9_method_20_code
def yX7_waived : MethodName := ⟨RX7, "waived", "(I)I"⟩
abbrev cX7_waive : ByteArray := prog_9_method_21_code
def yX7_waive : MethodName := ⟨RX7, "waive", "(III)I"⟩
abbrev cX7_open : ByteArray := prog_9_method_22_code
def yX7_open : MethodName := ⟨RX7, "open", "(I)I"⟩
abbrev cX7_upper : ByteArray := prog_9_method_23_code
def yX7_upper : MethodName := ⟨RX7, "upper", "(I)I"⟩
abbrev cX7_degree : ByteArray := prog_9_method_24_code
def yX7_degree : MethodName := ⟨RX7, "degree", "(I)I"⟩
abbrev cX7_of : ByteArray := prog_9_method_25_code
def yX7_of : MethodName := ⟨RX7, "of", "(II)I"⟩
abbrev cX7_day : ByteArray := prog_9_method_26_code
def yX7_day : MethodName := ⟨RX7, "day", "(I)I"⟩
abbrev cX7_mostOf : ByteArray := prog_9_method_27_code
def yX7_mostOf : MethodName := ⟨RX7, "mostOf", "(I)I"⟩
abbrev cX7_law : ByteArray := prog_9_method_28_code
def yX7_law : MethodName := ⟨RX7, "law", "(II)I"⟩
abbrev cX7_file : ByteArray := prog_9_method_29_code
def yX7_file : MethodName := ⟨RX7, "file", "(II)I"⟩
abbrev cX7_sue : ByteArray := prog_9_method_30_code
def yX7_sue : MethodName := ⟨RX7, "sue", "(I)I"⟩
abbrev cX7_bond : ByteArray := prog_9_method_31_code
def yX7_bond : MethodName := ⟨RX7, "bond", "(II)I"⟩
abbrev cX7_late : ByteArray := prog_9_method_32_code
def yX7_late : MethodName := ⟨RX7, "late", "(IIII)I"⟩
abbrev cX7_barred : ByteArray := prog_9_method_33_code
def yX7_barred : MethodName := ⟨RX7, "barred", "(III)I"⟩
abbrev cX7_firstBar : ByteArray := prog_9_method_34_code
def yX7_firstBar : MethodName := ⟨RX7, "firstBar", "(III)I"⟩
abbrev cX7_judged : ByteArray := prog_9_method_35_code
def yX7_judged : MethodName := ⟨RX7, "judged", "(II)I"⟩
abbrev cX7_isJudgeable : ByteArray := prog_9_method_36_code
def yX7_isJudgeable : MethodName := ⟨RX7, "isJudgeable", "(II)Z"⟩
abbrev cX7_judge : ByteArray := prog_9_method_37_code
def yX7_judge : MethodName := ⟨RX7, "judge", "(II)I"⟩
abbrev cX7_bar : ByteArray := prog_9_method_38_code
def yX7_bar : MethodName := ⟨RX7, "bar", "(II)I"⟩
abbrev cX7_bound : ByteArray := prog_9_method_39_code
def yX7_bound : MethodName := ⟨RX7, "bound", "(I)I"⟩
abbrev cX7_worthOf : ByteArray := prog_9_method_40_code
def yX7_worthOf : MethodName := ⟨RX7, "worthOf", "(II)I"⟩
abbrev cX7_worth : ByteArray := prog_9_method_41_code
def yX7_worth : MethodName := ⟨RX7, "worth", "(II)I"⟩
abbrev cX7_rankOf : ByteArray := prog_9_method_42_code
def yX7_rankOf : MethodName := ⟨RX7, "rankOf", "(II)I"⟩
abbrev cX7_rank : ByteArray := prog_9_method_43_code
def yX7_rank : MethodName := ⟨RX7, "rank", "(II)I"⟩
abbrev cX7_loan : ByteArray := prog_9_method_44_code
def yX7_loan : MethodName := ⟨RX7, "loan", "(II)I"⟩
abbrev cX7_lines : ByteArray := prog_9_method_45_code
def yX7_lines : MethodName := ⟨RX7, "lines", "(I)V"⟩
abbrev cX7_nextRank : ByteArray := prog_9_method_46_code
def yX7_nextRank : MethodName := ⟨RX7, "nextRank", "(I)I"⟩
abbrev cX7_sell : ByteArray := prog_9_method_47_code
def yX7_sell : MethodName := ⟨RX7, "sell", "(II)V"⟩
abbrev cX7_sale : ByteArray := prog_9_method_48_code
def yX7_sale : MethodName := ⟨RX7, "sale", "(IIII)I"⟩
abbrev cX7_isBelow : ByteArray := prog_9_method_49_code
def yX7_isBelow : MethodName := ⟨RX7, "isBelow", "(II)Z"⟩
abbrev cX7_twice : ByteArray := prog_9_method_50_code
def yX7_twice : MethodName := ⟨RX7, "twice", "(I)I"⟩
abbrev cX7_bits : ByteArray := prog_9_method_51_code
def yX7_bits : MethodName := ⟨RX7, "bits", "(I)I"⟩
abbrev cX7_sign : ByteArray := prog_9_method_52_code
def yX7_sign : MethodName := ⟨RX7, "sign", "(III)I"⟩
abbrev cX7_isBuilder : ByteArray := prog_9_method_53_code
def yX7_isBuilder : MethodName := ⟨RX7, "isBuilder", "(I)Z"⟩
abbrev cX7_in : ByteArray := prog_9_method_54_code
def yX7_in : MethodName := ⟨RX7, "in", "(III)I"⟩
abbrev cX7_account : ByteArray := prog_9_method_55_code
def yX7_account : MethodName := ⟨RX7, "account", "(I)I"⟩
abbrev cX7_out : ByteArray := prog_9_method_56_code
def yX7_out : MethodName := ⟨RX7, "out", "(II)I"⟩
abbrev cX7_goes : ByteArray := prog_9_method_57_code
def yX7_goes : MethodName := ⟨RX7, "goes", "(IIIZI)I"⟩
abbrev cX7_traces : ByteArray := prog_9_method_58_code
def yX7_traces : MethodName := ⟨RX7, "traces", "(I)V"⟩
abbrev cX7_trace : ByteArray := prog_9_method_59_code
def yX7_trace : MethodName := ⟨RX7, "trace", "(II)I"⟩
abbrev cX7_held : ByteArray := prog_9_method_60_code
def yX7_held : MethodName := ⟨RX7, "held", "(III)I"⟩
abbrev cX7_tell : ByteArray := prog_9_method_61_code
def yX7_tell : MethodName := ⟨RX7, "tell", "(I)I"⟩
abbrev cX7_check : ByteArray := prog_9_method_62_code
def yX7_check : MethodName := ⟨RX7, "check", "(I)I"⟩
abbrev cX7_count : ByteArray := prog_9_method_63_code
def yX7_count : MethodName := ⟨RX7, "count", "(I)I"⟩
abbrev cX7_found : ByteArray := prog_9_method_64_code
def yX7_found : MethodName := ⟨RX7, "found", "(I)I"⟩
def RJ6 : String := "java/lang/Integer"
def TJ6 : u_T := fun k => match k with
  | _ => ("", "", "", false)
def tyJ6 : Nat → FieldType := fun k => match k with
  | _ => .int
theorem nmJ6 : ∀ a, a < 0 → ∀ b, b < 0 → a ≠ b → (TJ6 a).2.1 ≠ (TJ6 b).2.1 := by decide +kernel
theorem tyJ6_ok : ∀ k, k < 0 → parseFieldDescriptor (TJ6 k).2.2.1 = some (tyJ6 k) := by decide +kernel
abbrev cJ6_bitCount_0f7a4 : ByteArray := prog_10_method_49_code
def yJ6_bitCount_0f7a4 : MethodName := ⟨RJ6, "bitCount", "(I)I"⟩
def RJ9 : String := "java/lang/Math"
def TJ9 : u_T := fun k => match k with
  | _ => ("", "", "", false)
def tyJ9 : Nat → FieldType := fun k => match k with
  | _ => .int
theorem nmJ9 : ∀ a, a < 0 → ∀ b, b < 0 → a ≠ b → (TJ9 a).2.1 ≠ (TJ9 b).2.1 := by decide +kernel
theorem tyJ9_ok : ∀ k, k < 0 → parseFieldDescriptor (TJ9 k).2.2.1 = some (tyJ9 k) := by decide +kernel
abbrev cJ9_max_7cf53 : ByteArray := prog_11_method_65_code
def yJ9_max_7cf53 : MethodName := ⟨RJ9, "max", "(II)I"⟩
abbrev cJ9_min_7cf53 : ByteArray := prog_11_method_69_code
def yJ9_min_7cf53 : MethodName := ⟨RJ9, "min", "(II)I"⟩
def RL : String := "LienTowerLaw"
abbrev cL_law : ByteArray := code
def yL_law : MethodName := ⟨RL, "law", "([I)Z"⟩
abbrev classes : List vw_C := [(RX0, TX0, 5), (RX1, TX1, 6), (RX2, TX2, 5), (RX3, TX3, 13), (RX4, TX4, 7), (RX5, TX5, 8), (RX6, TX6, 10), (RX7, TX7, 46)]
def tw : List Cond := lw_tbl.filter goodWord
theorem tbl_at {w : Cond} (i : Nat) (h : tables_1[i]? = some w) (hg : goodWord w = true) : w ∈ tw := List.mem_filter.mpr ⟨List.mem_append_right _ (List.mem_of_getElem? h), hg⟩
theorem tbl_sel {w : Cond} (i : Nat) (h : (k2_sels lw_privs)[i]? = some w) (hg : goodWord w = true) : w ∈ tw := List.mem_filter.mpr ⟨List.mem_append_left _ (List.mem_of_getElem? h), hg⟩
theorem tbl_good : ∀ w ∈ tw, goodWord w = true := fun w h => (List.mem_filter.mp h).2
theorem tbl_in : ∀ w ∈ tw, w ∈ lw_tbl := fun w h => (List.mem_filter.mp h).1
set_option maxRecDepth 100000 in
theorem iX0 : ∀ w ∈ u_ws RX0 TX0 5, w ∈ tw := by
  have h : u_ws RX0 TX0 5 = [233, 235, 237, 239, 241].filterMap (fun i => tables_1[i]?) := by decide +kernel
  have hg : (u_ws RX0 TX0 5).all goodWord = true := by decide +kernel
  intro w hw
  have hw0 := hw
  rw [h] at hw
  obtain ⟨i, -, hi⟩ := List.mem_filterMap.mp hw
  exact tbl_at i hi (List.all_eq_true.mp hg w hw0)
set_option maxRecDepth 100000 in
theorem iX1 : ∀ w ∈ u_ws RX1 TX1 6, w ∈ tw := by
  have h : u_ws RX1 TX1 6 = [109, 111, 113, 115, 117, 119].filterMap (fun i => tables_1[i]?) := by decide +kernel
  have hg : (u_ws RX1 TX1 6).all goodWord = true := by decide +kernel
  intro w hw
  have hw0 := hw
  rw [h] at hw
  obtain ⟨i, -, hi⟩ := List.mem_filterMap.mp hw
  exact tbl_at i hi (List.all_eq_true.mp hg w hw0)
set_option maxRecDepth 100000 in
theorem iX2 : ∀ w ∈ u_ws RX2 TX2 5, w ∈ tw := by
  have h : u_ws RX2 TX2 5 = [144, 146, 148, 150, 152].filterMap (fun i => tables_1[i]?) := by decide +kernel
  have hg : (u_ws RX2 TX2 5).all goodWord = true := by decide +kernel
  intro w hw
  have hw0 := hw
  rw [h] at hw
  obtain ⟨i, -, hi⟩ := List.mem_filterMap.mp hw
  exact tbl_at i hi (List.all_eq_true.mp hg w hw0)
set_option maxRecDepth 100000 in
theorem iX3 : ∀ w ∈ u_ws RX3 TX3 13, w ∈ tw := by
  have h : u_ws RX3 TX3 13 = [70, 72, 74, 76, 78, 80, 82, 84, 86, 88, 90, 92, 94].filterMap (fun i => tables_1[i]?) := by decide +kernel
  have hg : (u_ws RX3 TX3 13).all goodWord = true := by decide +kernel
  intro w hw
  have hw0 := hw
  rw [h] at hw
  obtain ⟨i, -, hi⟩ := List.mem_filterMap.mp hw
  exact tbl_at i hi (List.all_eq_true.mp hg w hw0)
set_option maxRecDepth 100000 in
theorem iX4 : ∀ w ∈ u_ws RX4 TX4 7, w ∈ tw := by
  have h : u_ws RX4 TX4 7 = [169, 171, 173, 175, 177, 179, 181].filterMap (fun i => tables_1[i]?) := by decide +kernel
  have hg : (u_ws RX4 TX4 7).all goodWord = true := by decide +kernel
  intro w hw
  have hw0 := hw
  rw [h] at hw
  obtain ⟨i, -, hi⟩ := List.mem_filterMap.mp hw
  exact tbl_at i hi (List.all_eq_true.mp hg w hw0)
set_option maxRecDepth 100000 in
theorem iX5 : ∀ w ∈ u_ws RX5 TX5 8, w ∈ tw := by
  have h : u_ws RX5 TX5 8 = [200, 202, 204, 206, 208, 210, 212, 214].filterMap (fun i => tables_1[i]?) := by decide +kernel
  have hg : (u_ws RX5 TX5 8).all goodWord = true := by decide +kernel
  intro w hw
  have hw0 := hw
  rw [h] at hw
  obtain ⟨i, -, hi⟩ := List.mem_filterMap.mp hw
  exact tbl_at i hi (List.all_eq_true.mp hg w hw0)
set_option maxRecDepth 100000 in
theorem iX6 : ∀ w ∈ u_ws RX6 TX6 10, w ∈ tw := by
  have h : u_ws RX6 TX6 10 = [254, 256, 258, 260, 262, 264, 266, 268, 270, 272].filterMap (fun i => tables_1[i]?) := by decide +kernel
  have hg : (u_ws RX6 TX6 10).all goodWord = true := by decide +kernel
  intro w hw
  have hw0 := hw
  rw [h] at hw
  obtain ⟨i, -, hi⟩ := List.mem_filterMap.mp hw
  exact tbl_at i hi (List.all_eq_true.mp hg w hw0)
set_option maxRecDepth 100000 in
theorem iX7 : ∀ w ∈ u_ws RX7 TX7 46, w ∈ tw := by
  have h : u_ws RX7 TX7 46 = [703, 705, 707, 709, 711, 713, 715, 717, 719, 721, 723, 725, 727, 729, 731, 733, 735, 737, 739, 741, 743, 745, 747, 749, 751, 753, 755, 757, 759, 761, 763, 765, 767, 769, 771, 773, 775, 777, 779, 781, 783, 785, 787, 789, 791, 793].filterMap (fun i => tables_1[i]?) := by decide +kernel
  have hg : (u_ws RX7 TX7 46).all goodWord = true := by decide +kernel
  intro w hw
  have hw0 := hw
  rw [h] at hw
  obtain ⟨i, -, hi⟩ := List.mem_filterMap.mp hw
  exact tbl_at i hi (List.all_eq_true.mp hg w hw0)
end
section
/-! the picture of the heap: 64 groups of cells; (first place, how many, tag, class, fields or length, aim); tag 0 an object, 1 int[], 2 boolean[], 3 an array of references -/
abbrev TH : Type := Nat → Nat → Nat → Int32
def up (h : TH) (g i k : Nat) (v : Int32) : TH := fun g' i' k' => if g' = g ∧ k' = k ∧ i' = i then v else h g' i' k'
def gT : List (Nat × Nat × Nat × Nat × Nat × Nat) := [(0, 1, 0, 6, 10, 0), (1, 1, 1, 0, 12, 0), (2, 1, 0, 1, 6, 0), (3, 1, 3, 2, 10, 4), (4, 10, 0, 3, 13, 0), (14, 1, 1, 0, 20, 0), (15, 1, 1, 0, 20, 0), (16, 1, 1, 0, 20, 0), (17, 1, 0, 4, 7, 0), (18, 1, 1, 0, 6, 0), (19, 1, 3, 3, 16, 11), (20, 16, 0, 2, 5, 0), (36, 1, 1, 0, 16, 0), (37, 1, 1, 0, 16, 0), (38, 1, 1, 0, 10, 0), (39, 1, 0, 5, 8, 0), (40, 1, 1, 0, 6, 0), (41, 1, 1, 0, 6, 0), (42, 1, 1, 0, 22, 0), (43, 1, 1, 0, 22, 0), (44, 1, 1, 0, 22, 0), (45, 1, 0, 0, 5, 0), (46, 1, 1, 0, 40, 0), (47, 1, 1, 0, 40, 0), (48, 1, 3, 4, 3, 25), (49, 3, 1, 0, 40, 0), (52, 1, 1, 0, 16, 0), (53, 1, 1, 0, 6, 0), (54, 1, 0, 7, 46, 0), (55, 1, 1, 0, 12, 0), (56, 1, 1, 0, 10, 0), (57, 1, 1, 0, 10, 0), (58, 1, 1, 0, 10, 0), (59, 1, 1, 0, 10, 0), (60, 1, 1, 0, 10, 0), (61, 1, 1, 0, 10, 0), (62, 1, 1, 0, 10, 0), (63, 1, 1, 0, 10, 0), (64, 1, 1, 0, 10, 0), (65, 1, 1, 0, 20, 0), (66, 1, 1, 0, 20, 0), (67, 1, 2, 1, 20, 0), (68, 1, 1, 0, 6, 0), (69, 1, 1, 0, 16, 0), (70, 1, 1, 0, 16, 0), (71, 1, 1, 0, 16, 0), (72, 1, 1, 0, 16, 0), (73, 1, 2, 1, 16, 0), (74, 1, 1, 0, 6, 0), (75, 1, 1, 0, 6, 0), (76, 1, 1, 0, 40, 0), (77, 1, 1, 0, 40, 0), (78, 1, 1, 0, 40, 0), (79, 1, 1, 0, 40, 0), (80, 1, 1, 0, 40, 0), (81, 1, 1, 0, 80, 0), (82, 1, 1, 0, 16, 0), (83, 1, 1, 0, 6, 0), (84, 1, 2, 1, 22, 0), (85, 1, 1, 0, 22, 0), (86, 1, 1, 0, 22, 0), (87, 1, 1, 0, 22, 0), (88, 1, 1, 0, 10, 0), (89, 1, 1, 0, 40, 0)]
def gR : List (List (Option Nat)) := [[some 1, none, some 2, some 8, some 15, some 21, none, some 26, none, some 27], [], [some 3, none, some 5, some 6, some 7, none], [], [none, none, none, none, none, none, none, none, none, none, none, none, none], [], [], [], [some 2, some 9, some 10, none, some 12, some 13, some 14], [], [], [none, none, none, none, none], [], [], [], [some 8, some 16, some 17, none, some 18, some 19, some 20, none], [], [], [], [], [], [some 22, some 23, some 24, none, none], [], [], [], [], [], [], [none, none, none, none, none, none, none, none, none, none, some 29, some 30, some 31, some 32, some 33, some 34, some 35, some 36, some 37, some 38, some 39, some 40, some 41, some 42, some 43, some 44, some 45, some 46, some 47, some 48, some 49, some 50, some 51, some 52, some 53, some 54, some 55, some 56, some 57, some 58, some 59, some 60, some 61, none, some 62, some 63], [], [], [], [], [], [], [], [], [], [], [], [], [], [], [], [], [], [], [], [], [], [], [], [], [], [], [], [], [], [], [], [], [], [], []]
def gBase (g : Nat) : Nat := (gT.getD g (0, 0, 9, 0, 0, 0)).1
def gCnt (g : Nat) : Nat := (gT.getD g (0, 0, 9, 0, 0, 0)).2.1
def gTag (g : Nat) : Nat := (gT.getD g (0, 0, 9, 0, 0, 0)).2.2.1
def gCi (g : Nat) : Nat := (gT.getD g (0, 0, 9, 0, 0, 0)).2.2.2.1
def gN (g : Nat) : Nat := (gT.getD g (0, 0, 9, 0, 0, 0)).2.2.2.2.1
def gTgt (g : Nat) : Nat := (gT.getD g (0, 0, 9, 0, 0, 0)).2.2.2.2.2
def gSlot (g k : Nat) : Option Nat := (gR.getD g []).getD k none
def gOfL : List (Nat × Nat) := [(0, 0), (1, 0), (2, 0), (3, 0), (4, 0), (4, 1), (4, 2), (4, 3), (4, 4), (4, 5), (4, 6), (4, 7), (4, 8), (4, 9), (5, 0), (6, 0), (7, 0), (8, 0), (9, 0), (10, 0), (11, 0), (11, 1), (11, 2), (11, 3), (11, 4), (11, 5), (11, 6), (11, 7), (11, 8), (11, 9), (11, 10), (11, 11), (11, 12), (11, 13), (11, 14), (11, 15), (12, 0), (13, 0), (14, 0), (15, 0), (16, 0), (17, 0), (18, 0), (19, 0), (20, 0), (21, 0), (22, 0), (23, 0), (24, 0), (25, 0), (25, 1), (25, 2), (26, 0), (27, 0), (28, 0), (29, 0), (30, 0), (31, 0), (32, 0), (33, 0), (34, 0), (35, 0), (36, 0), (37, 0), (38, 0), (39, 0), (40, 0), (41, 0), (42, 0), (43, 0), (44, 0), (45, 0), (46, 0), (47, 0), (48, 0), (49, 0), (50, 0), (51, 0), (52, 0), (53, 0), (54, 0), (55, 0), (56, 0), (57, 0), (58, 0), (59, 0), (60, 0), (61, 0), (62, 0), (63, 0)]
def gOf (p : Nat) : Nat := (gOfL.getD p (0, 0)).1
def iOf (p : Nat) : Nat := (gOfL.getD p (0, 0)).2
theorem g_ok : ∀ g, g < 64 → ∀ i, i < gCnt g → gBase g + i < 90 ∧ gOf (gBase g + i) = g ∧ iOf (gBase g + i) = i := by decide +kernel
theorem g_lt : ∀ g i, i < gCnt g → g < 64 := by
  intro g i h
  rcases Nat.lt_or_ge g 64 with q | q
  · exact q
  · have : gT[g]? = none := by rw [List.getElem?_eq_none_iff]; exact q
    simp [gCnt, List.getD, this] at h
theorem g_all : ∀ p, p < 90 → gBase (gOf p) + iOf p = p ∧ iOf p < gCnt (gOf p) := by decide +kernel

abbrev EN : Type := Launch × va_G × Nat × (Nat → ClassId) × (Nat → Nat) × Nat × (Nat → Int32)
def eL (E : EN) : Launch := E.1
def eD (E : EN) : va_G := E.2.1
def eB (E : EN) : Nat := E.2.2.1
def eC (E : EN) : Nat → ClassId := E.2.2.2.1
def eX (E : EN) : Nat → Nat := E.2.2.2.2.1
def eN (E : EN) : Nat := E.2.2.2.2.2.1
def eS (E : EN) : Nat → Int32 := E.2.2.2.2.2.2
def eA (E : EN) : Nat → Prop := fun q => eB E ≤ q
def NP : Nat := 90
def ad (E : EN) (p : Nat) : Nat := if p < 1000 then eB E + p else eX E (p - 1000)
def V (E : EN) : Value → Value
  | .ref p => .ref (ad E p)
  | v => v
def rf (g i : Nat) : Value := .ref (gBase g + i)
def slV (E : EN) (hv : Nat → Int32) (g k : Nat) : Value := match gSlot g k with
  | none => .int (hv k)
  | some t => .ref (eB E + gBase t)
def en (E : EN) (h : TH) (g i : Nat) : va_E :=
  if gTag g = 0 then .inr (gCi g, (List.range (gN g)).map (slV E (h g i) g))
  else if gTag g = 1 then .inl (eC E 0, gN g, .inl (h g i))
  else if gTag g = 2 then .inl (eC E 1, gN g, .inl (h g i))
  else .inl (eC E (gCi g), gN g, .inr (.inr (.inr (.inr (fun j => some (eB E + (gBase (gTgt g) + j)))))))
def wd (E : EN) (h : TH) : va_W := (List.range NP).map (fun p => (eB E + p, en E h (gOf p) (iOf p)))
def tys (E : EN) : List (ClassId × FieldType) := [(eC E 0, .int), (eC E 1, .boolean), (eC E 2, .object "LienTower$Contract"), (eC E 3, .object "LienTower$Claim"), (eC E 4, .array .int)]
def oLeast : Nat → Int32 := fun j => ([0, 0, 0, 1, 0, 0] : List Int32).getD j 0
def oMost : Nat → Int32 := fun j => ([365, 365, 1000, 9, 2, 1] : List Int32).getD j 0
def oN (E : EN) (t : Nat) : Nat := if t = 2 then eN E else 6
def oF (E : EN) (t : Nat) : Nat → Int32 := if t = 0 then oLeast else if t = 1 then oMost else eS E
def OUT (E : EN) (U : State) (H : Heap) : Prop :=
  va_Z "LienTower" "LAW_LEAST" "[I" (.ref (eX E 0)) (eA E) U H ∧ va_Z "LienTower" "LAW_MOST" "[I" (.ref (eX E 1)) (eA E) U H ∧
  ∀ t, t < 3 → va_T .int (eX E t) (oN E t) (fun j => .int (oF E t j)) (eA E) U H
theorem OUT.moved {E : EN} {u U : State} {H : Heap} (hvm : u.vm.Alike U.vm) (h : OUT E u H) : OUT E U H := ⟨h.1.moved hvm, h.2.1.moved hvm, fun t ht => (h.2.2 t ht).moved hvm⟩
theorem OUT.kept {E : EN} {U : State} {H H1 : Heap} (h : OUT E U H) (hq : ∀ a : Nat, a < H.size → ¬ eA E a → H1[a]? = H[a]?) : OUT E U H1 := ⟨h.1.kept hq, h.2.1.kept hq, fun t ht => (h.2.2 t ht).kept hq⟩
def Rp (E : EN) (h : TH) (U : State) (H : Heap) : Prop := va_P (eD E) classes (wd E h) H ∧ va_K (eD E) classes (tys E) U ∧ OUT E U H
theorem Rp.moved {E : EN} {h : TH} {u U : State} {H : Heap} (hvm : u.vm.Alike U.vm) (r : Rp E h u H) : Rp E h U H := ⟨r.1, r.2.1.moved hvm, r.2.2.moved hvm⟩
abbrev MD : Type := MethodName × ByteArray × Nat × Option FieldType × Room
def Cx (E : EN) (M : MD) (p : Program) (s : State) (m : MethodId) (args : Array Value) (meth : Method) (c : Code) : Prop :=
  p.tables.exec = Jvm.exec ∧ c.code = M.2.1 ∧ meth.sig.returnType = M.2.2.2.1 ∧ c.maxLocals = M.2.2.1 ∧ s.vm.findClass M.1.cls = some m.cls ∧ (∀ w ∈ tw, w.before args s = true) ∧ meth.locks = false ∧ va_K (eD E) classes (tys E) s ∧ OUT E s s.heap
def LR (E : EN) (n : Nat) (ls : List (Option Value)) (rl : Array Slot) : Prop := ls.length = n ∧ rl.size = n ∧ lv_wf rl ∧ ∀ (k : Nat) (v : Value), ls[k]? = some (some v) → rl[k]? = some (.val (V E v))
def wz (E : EN) (M : MD) (ce sl : Nat) (Z : List Frame → Array Value → State → State → Prop) (pc : Nat) (ls : List (Option Value)) (st : List Value) (h : TH) : Prop :=
  ∀ (p : Program) (e : Env) (s : State) (m : MethodId) (args : Array Value) (below : List Frame) (meth : Method) (c : Code), Cx E M p s m args meth c →
  ∀ (H : Heap) (locs : List Loc) (rl : Array Slot), va_P (eD E) classes (wd E h) H → va_S (eA E) s.heap H locs → LR E M.2.2.1 ls rl →
    W p (eL E) e M.2.2.2.2 s m args below meth c H locs ce sl (Z below args s) (F0 m pc rl (st.map (V E)))
-- facts of the picture
theorem wd_at (E : EN) (h : TH) {p : Nat} (hp : p < NP) : (wd E h)[p]? = some (eB E + p, en E h (gOf p) (iOf p)) := by
  unfold wd
  rw [List.getElem?_map, List.getElem?_range hp]
  rfl
theorem wd_g (E : EN) (h : TH) {g i : Nat} (hi : i < gCnt g) : (wd E h)[gBase g + i]? = some (eB E + (gBase g + i), en E h g i) := by
  obtain ⟨h1, h2, h3⟩ := g_ok g (g_lt g i hi) i hi
  rw [wd_at E h h1, h2, h3]
theorem wd_D (E : EN) (h : TH) : va_D (eA E) (wd E h) := by
  have hl : ∀ (k : Nat) (q : Nat × va_E), (wd E h)[k]? = some q → q.1 = eB E + k := by
    intro k q hq
    have hk : k < NP := by
      have := (List.getElem?_eq_some_iff.mp hq).1
      simpa [wd] using this
    rw [wd_at E h hk] at hq
    cases hq
    rfl
  refine ⟨fun i j p q hi hj e => ?_, fun k q hq => ?_⟩
  · have e1 := hl i p hi
    have e2 := hl j q hj
    omega
  · have e1 := hl k q hq
    show eB E ≤ q.1
    omega
theorem ad_g {E : EN} {g i : Nat} (hi : i < gCnt g) : ad E (gBase g + i) = eB E + (gBase g + i) := by
  obtain ⟨h1, -, -⟩ := g_ok g (g_lt g i hi) i hi
  unfold ad
  rw [if_pos]
  have : NP = 90 := rfl
  omega
theorem V_rf {E : EN} {g i : Nat} (hi : i < gCnt g) : V E (rf g i) = .ref (eB E + (gBase g + i)) := by
  show Value.ref (ad E (gBase g + i)) = _
  rw [ad_g hi]
theorem V_cat (E : EN) (v : Value) : (V E v).category = v.category := by cases v <;> rfl
theorem V_sum (E : EN) (st : List Value) : ((st.map (V E)).map fun v => v.category).sum = (st.map fun v => v.category).sum := by
  rw [List.map_map]
  congr 1
  apply List.map_congr_left
  intro v _
  exact V_cat E v
theorem wd_set (E : EN) (h h' : TH) {g i : Nat} (hi : i < gCnt g) (e : va_E) (he : e = en E h' g i) (hs : ∀ g' i', (g' ≠ g ∨ i' ≠ i) → en E h' g' i' = en E h g' i') :
    (wd E h).set (gBase g + i) (eB E + (gBase g + i), e) = wd E h' := by
  obtain ⟨h1, h2, h3⟩ := g_ok g (g_lt g i hi) i hi
  apply List.ext_getElem?
  intro k
  rcases Nat.lt_or_ge k NP with hk | hk
  · rw [wd_at E h' hk]
    by_cases hkp : gBase g + i = k
    · subst hkp
      rw [List.getElem?_set_self (by simpa [wd] using hk), h2, h3, he]
    · rw [List.getElem?_set_ne hkp, wd_at E h hk]
      rw [hs]
      by_cases hg : gOf k = g
      · right
        intro hi2
        apply hkp
        have := (g_all k hk).1
        rw [hg, hi2] at this
        exact this
      · exact Or.inl hg
  · rw [List.getElem?_eq_none (by simpa [wd] using hk), List.getElem?_eq_none (by simpa [wd] using hk)]
theorem en_up {E : EN} {h : TH} {g i k : Nat} {v : Int32} {g' i' : Nat} (hn : g' ≠ g ∨ i' ≠ i) : en E (up h g i k v) g' i' = en E h g' i' := by
  have e : (up h g i k v) g' i' = h g' i' := by
    funext j
    unfold up
    rw [if_neg]
    rintro ⟨a, -, c⟩
    rcases hn with q | q
    · exact q a
    · exact q c
  unfold en
  rw [e]

section Rules
variable {E : EN} {M : MD} {ce sl : Nat} {Z : List Frame → Array Value → State → State → Prop} {pc : Nat} {ls : List (Option Value)} {st : List Value} {h : TH}
theorem wz_iadd {x y : Int32} (hd : decode M.2.1 pc = .ok (.iadd, 1)) (k : wz E M ce sl Z (pc + 1) ls (.int (x + y) :: st) h) : wz E M ce sl Z pc ls (.int y :: .int x :: st) h := by
  intro p e s m args below meth c C H locs rl hP hS hl
  exact lv_iadd C.1 C.2.1 hd (k p e s m args below meth c C H locs rl hP hS hl)
theorem wz_isub {x y : Int32} (hd : decode M.2.1 pc = .ok (.isub, 1)) (k : wz E M ce sl Z (pc + 1) ls (.int (x - y) :: st) h) : wz E M ce sl Z pc ls (.int y :: .int x :: st) h := by
  intro p e s m args below meth c C H locs rl hP hS hl
  exact lv_isub C.1 C.2.1 hd (k p e s m args below meth c C H locs rl hP hS hl)
theorem wz_iand {x y : Int32} (hd : decode M.2.1 pc = .ok (.iand, 1)) (k : wz E M ce sl Z (pc + 1) ls (.int (x &&& y) :: st) h) : wz E M ce sl Z pc ls (.int y :: .int x :: st) h := by
  intro p e s m args below meth c C H locs rl hP hS hl
  exact lv_iand C.1 C.2.1 hd (k p e s m args below meth c C H locs rl hP hS hl)
theorem wz_ior {x y : Int32} (hd : decode M.2.1 pc = .ok (.ior, 1)) (k : wz E M ce sl Z (pc + 1) ls (.int (x ||| y) :: st) h) : wz E M ce sl Z pc ls (.int y :: .int x :: st) h := by
  intro p e s m args below meth c C H locs rl hP hS hl
  exact lv_ior C.1 C.2.1 hd (k p e s m args below meth c C H locs rl hP hS hl)
theorem wz_ixor {x y : Int32} (hd : decode M.2.1 pc = .ok (.ixor, 1)) (k : wz E M ce sl Z (pc + 1) ls (.int (x ^^^ y) :: st) h) : wz E M ce sl Z pc ls (.int y :: .int x :: st) h := by
  intro p e s m args below meth c C H locs rl hP hS hl
  exact lv_ixor C.1 C.2.1 hd (k p e s m args below meth c C H locs rl hP hS hl)
theorem wz_ishl {x y : Int32} (hd : decode M.2.1 pc = .ok (.ishl, 1)) (k : wz E M ce sl Z (pc + 1) ls (.int (x <<< (y &&& 31)) :: st) h) : wz E M ce sl Z pc ls (.int y :: .int x :: st) h := by
  intro p e s m args below meth c C H locs rl hP hS hl
  exact lv_ishl C.1 C.2.1 hd (k p e s m args below meth c C H locs rl hP hS hl)
theorem wz_ishr {x y : Int32} (hd : decode M.2.1 pc = .ok (.ishr, 1)) (k : wz E M ce sl Z (pc + 1) ls (.int (x >>> (y &&& 31)) :: st) h) : wz E M ce sl Z pc ls (.int y :: .int x :: st) h := by
  intro p e s m args below meth c C H locs rl hP hS hl
  exact lv_ishr C.1 C.2.1 hd (k p e s m args below meth c C H locs rl hP hS hl)
theorem wz_ladd {x y : Int64} (hd : decode M.2.1 pc = .ok (.ladd, 1)) (k : wz E M ce sl Z (pc + 1) ls (.long (x + y) :: st) h) : wz E M ce sl Z pc ls (.long y :: .long x :: st) h := by
  intro p e s m args below meth c C H locs rl hP hS hl
  exact lv_ladd C.1 C.2.1 hd (k p e s m args below meth c C H locs rl hP hS hl)
theorem wz_lsub {x y : Int64} (hd : decode M.2.1 pc = .ok (.lsub, 1)) (k : wz E M ce sl Z (pc + 1) ls (.long (x - y) :: st) h) : wz E M ce sl Z pc ls (.long y :: .long x :: st) h := by
  intro p e s m args below meth c C H locs rl hP hS hl
  exact lv_lsub C.1 C.2.1 hd (k p e s m args below meth c C H locs rl hP hS hl)
theorem wz_lmul {x y : Int64} (hd : decode M.2.1 pc = .ok (.lmul, 1)) (k : wz E M ce sl Z (pc + 1) ls (.long (x * y) :: st) h) : wz E M ce sl Z pc ls (.long y :: .long x :: st) h := by
  intro p e s m args below meth c C H locs rl hP hS hl
  exact lv_lmul C.1 C.2.1 hd (k p e s m args below meth c C H locs rl hP hS hl)
theorem wz_ldiv {x y : Int64} (hd : decode M.2.1 pc = .ok (.ldiv, 1)) (hne : ¬ y = 0) (k : wz E M ce sl Z (pc + 1) ls (.long (x / y) :: st) h) : wz E M ce sl Z pc ls (.long y :: .long x :: st) h := by
  intro p e s m args below meth c C H locs rl hP hS hl
  exact lv_ldiv C.1 C.2.1 hd hne (k p e s m args below meth c C H locs rl hP hS hl)
theorem wz_iushr {x y : Int32} (hd : decode M.2.1 pc = .ok (.iushr, 1)) (k : wz E M ce sl Z (pc + 1) ls (.int (x.toUInt32 >>> (y.toUInt32 &&& Int32.toUInt32 31)).toInt32 :: st) h) : wz E M ce sl Z pc ls (.int y :: .int x :: st) h := by
  intro p e s m args below meth c C H locs rl hP hS hl
  exact lv_iushr C.1 C.2.1 hd rfl (k p e s m args below meth c C H locs rl hP hS hl)
theorem wz_lcmp {x y : Int64} (hd : decode M.2.1 pc = .ok (.lcmp, 1)) (k : wz E M ce sl Z (pc + 1) ls (.int (lg_cmp x y) :: st) h) : wz E M ce sl Z pc ls (.long y :: .long x :: st) h := by
  intro p e s m args below meth c C H locs rl hP hS hl
  exact W.lcmp C.1 C.2.1 hd (k p e s m args below meth c C H locs rl hP hS hl)
theorem wz_i2l {x : Int32} (hd : decode M.2.1 pc = .ok (.i2l, 1)) (k : wz E M ce sl Z (pc + 1) ls (.long x.toInt64 :: st) h) : wz E M ce sl Z pc ls (.int x :: st) h := by
  intro p e s m args below meth c C H locs rl hP hS hl
  exact lv_i2l C.1 C.2.1 hd rfl (k p e s m args below meth c C H locs rl hP hS hl)
theorem wz_l2i {x : Int64} (hd : decode M.2.1 pc = .ok (.l2i, 1)) (k : wz E M ce sl Z (pc + 1) ls (.int x.toInt32 :: st) h) : wz E M ce sl Z pc ls (.long x :: st) h := by
  intro p e s m args below meth c C H locs rl hP hS hl
  exact lv_l2i C.1 C.2.1 hd rfl (k p e s m args below meth c C H locs rl hP hS hl)
theorem wz_iconst {n : Int} {v : Int32} (hd : decode M.2.1 pc = .ok (.iconst n, 1)) (hv : Int32.ofInt n = v) (k : wz E M ce sl Z (pc + 1) ls (.int v :: st) h) : wz E M ce sl Z pc ls st h := by
  intro p e s m args below meth c C H locs rl hP hS hl
  exact lv_iconst C.1 C.2.1 hd hv (k p e s m args below meth c C H locs rl hP hS hl)
theorem wz_bipush {n : Int} {v : Int32} (hd : decode M.2.1 pc = .ok (.bipush n, 2)) (hv : (Int8.ofInt n).toInt32 = v) (k : wz E M ce sl Z (pc + 2) ls (.int v :: st) h) : wz E M ce sl Z pc ls st h := by
  intro p e s m args below meth c C H locs rl hP hS hl
  exact lv_bipush C.1 C.2.1 hd hv (k p e s m args below meth c C H locs rl hP hS hl)
theorem wz_sipush {n : Int} {v : Int32} (hd : decode M.2.1 pc = .ok (.sipush n, 3)) (hv : (Int16.ofInt n).toInt32 = v) (k : wz E M ce sl Z (pc + 3) ls (.int v :: st) h) : wz E M ce sl Z pc ls st h := by
  intro p e s m args below meth c C H locs rl hP hS hl
  exact lv_sipush C.1 C.2.1 hd hv (k p e s m args below meth c C H locs rl hP hS hl)
theorem wz_lconst {n : Fin 2} {v : Int64} (hd : decode M.2.1 pc = .ok (.lconst n, 1)) (hv : Int64.ofNat (n : Nat) = v) (k : wz E M ce sl Z (pc + 1) ls (.long v :: st) h) : wz E M ce sl Z pc ls st h := by
  intro p e s m args below meth c C H locs rl hP hS hl
  exact lv_lconst C.1 C.2.1 hd hv (k p e s m args below meth c C H locs rl hP hS hl)
theorem wz_ldc {v : Int32} {idx : Nat} (hd : decode M.2.1 pc = .ok (.ldc idx, 2)) (hw : Cond.constant M.1.cls idx v ∈ tw) (k : wz E M ce sl Z (pc + 2) ls (.int v :: st) h) : wz E M ce sl Z pc ls st h := by
  intro p e s m args below meth c C H locs rl hP hS hl
  exact lv_ldc C.1 C.2.1 C.2.2.2.2.1 (C.2.2.2.2.2.1 _ hw) hd (k p e s m args below meth c C H locs rl hP hS hl)
theorem wz_ldcw {v : Int32} {idx : Nat} (hd : decode M.2.1 pc = .ok (.ldc_w idx, 3)) (hw : Cond.constant M.1.cls idx v ∈ tw) (k : wz E M ce sl Z (pc + 3) ls (.int v :: st) h) : wz E M ce sl Z pc ls st h := by
  intro p e s m args below meth c C H locs rl hP hS hl
  exact lv_ldcw C.1 C.2.1 C.2.2.2.2.1 (C.2.2.2.2.2.1 _ hw) hd (k p e s m args below meth c C H locs rl hP hS hl)
theorem wz_iload_n {i : Fin 4} {x : Int32} (hd : decode M.2.1 pc = .ok (.iload_n i, 1)) (hv : ls[(i : Nat)]? = some (some (.int x))) (k : wz E M ce sl Z (pc + 1) ls (.int x :: st) h) : wz E M ce sl Z pc ls st h := by
  intro p e s m args below meth c C H locs rl hP hS hl
  exact lv_iload_n C.1 C.2.1 hd rfl (hl.2.2.2 _ _ hv) (k p e s m args below meth c C H locs rl hP hS hl)
theorem wz_iload {i : Nat} {x : Int32} (hd : decode M.2.1 pc = .ok (.iload i, 2)) (hv : ls[i]? = some (some (.int x))) (k : wz E M ce sl Z (pc + 2) ls (.int x :: st) h) : wz E M ce sl Z pc ls st h := by
  intro p e s m args below meth c C H locs rl hP hS hl
  exact lv_iload C.1 C.2.1 hd (hl.2.2.2 _ _ hv) (k p e s m args below meth c C H locs rl hP hS hl)
theorem wz_lload_n {i : Fin 4} {x : Int64} (hd : decode M.2.1 pc = .ok (.lload_n i, 1)) (hv : ls[(i : Nat)]? = some (some (.long x))) (k : wz E M ce sl Z (pc + 1) ls (.long x :: st) h) : wz E M ce sl Z pc ls st h := by
  intro p e s m args below meth c C H locs rl hP hS hl
  exact lv_lload_n C.1 C.2.1 hd rfl (hl.2.2.2 _ _ hv) (k p e s m args below meth c C H locs rl hP hS hl)
theorem wz_lload {i : Nat} {x : Int64} (hd : decode M.2.1 pc = .ok (.lload i, 2)) (hv : ls[i]? = some (some (.long x))) (k : wz E M ce sl Z (pc + 2) ls (.long x :: st) h) : wz E M ce sl Z pc ls st h := by
  intro p e s m args below meth c C H locs rl hP hS hl
  exact lv_lload C.1 C.2.1 hd (hl.2.2.2 _ _ hv) (k p e s m args below meth c C H locs rl hP hS hl)
theorem wz_aload_n {i : Fin 4} {x : Nat} (hd : decode M.2.1 pc = .ok (.aload_n i, 1)) (hv : ls[(i : Nat)]? = some (some (.ref x))) (k : wz E M ce sl Z (pc + 1) ls (.ref x :: st) h) : wz E M ce sl Z pc ls st h := by
  intro p e s m args below meth c C H locs rl hP hS hl
  exact lv_aload_n C.1 C.2.1 hd rfl (hl.2.2.2 _ _ hv) (k p e s m args below meth c C H locs rl hP hS hl)
theorem wz_aload {i : Nat} {x : Nat} (hd : decode M.2.1 pc = .ok (.aload i, 2)) (hv : ls[i]? = some (some (.ref x))) (k : wz E M ce sl Z (pc + 2) ls (.ref x :: st) h) : wz E M ce sl Z pc ls st h := by
  intro p e s m args below meth c C H locs rl hP hS hl
  exact lv_aload C.1 C.2.1 hd (hl.2.2.2 _ _ hv) (k p e s m args below meth c C H locs rl hP hS hl)
theorem wz_aloadR_n {i : Fin 4} {g j : Nat} (hd : decode M.2.1 pc = .ok (.aload_n i, 1)) (hv : ls[(i : Nat)]? = some (some (rf g j))) (k : wz E M ce sl Z (pc + 1) ls (rf g j :: st) h) : wz E M ce sl Z pc ls st h := wz_aload_n (x := gBase g + j) hd hv k
theorem wz_aloadR {i : Nat} {g j : Nat} (hd : decode M.2.1 pc = .ok (.aload i, 2)) (hv : ls[i]? = some (some (rf g j))) (k : wz E M ce sl Z (pc + 2) ls (rf g j :: st) h) : wz E M ce sl Z pc ls st h := wz_aload (x := gBase g + j) hd hv k
def lst (E : EN) (ls : List (Option Value)) : List (Nat × Value) := (List.range ls.length).filterMap (fun k => (ls[k]?.join).map (fun v => (k, V E v)))
theorem lst_mem {E : EN} {ls : List (Option Value)} {k : Nat} {v : Value} (hk : ls[k]? = some (some v)) : (k, V E v) ∈ lst E ls := by
  refine List.mem_filterMap.mpr ⟨k, List.mem_range.mpr (List.getElem?_eq_some_iff.mp hk).1, ?_⟩
  rw [hk]
  rfl
theorem LR.has {n : Nat} {rl : Array Slot} (r : LR E n ls rl) : lv_has rl n (lst E ls) := by
  refine ⟨r.2.1, r.2.2.1, fun q hq => ?_⟩
  obtain ⟨k, hk, he⟩ := List.mem_filterMap.mp hq
  cases hj : ls[k]?.join with
  | none => rw [hj] at he; cases he
  | some v =>
    rw [hj] at he
    cases he
    refine r.2.2.2 k v ?_
    cases hq2 : ls[k]? with
    | none => rw [hq2] at hj; cases hj
    | some w => rw [hq2] at hj; cases hj; rfl
/-- no long stands in the place before -/
def okS (ls : List (Option Value)) (i : Nat) : Bool := match i with
  | 0 => true
  | j + 1 => match ls[j]? with
    | some (some (.long _)) => false
    | some (some (.double _)) => false
    | _ => true
theorem okS_cat {ls : List (Option Value)} {k : Nat} {v : Value} (ho : okS ls (k + 1) = true) (hv : ls[k]? = some (some v)) : ¬ v.category = 2 := by
  intro hc
  unfold okS at ho
  simp only [hv] at ho
  cases v <;> simp_all [Value.category]
theorem LR.set {n i : Nat} {rl rl' : Array Slot} {v : Value} (r : LR E n ls rl) (ho : okS ls i = true)
    (hn : lv_has rl' n ((i, V E v) :: (lst E ls).filter (fun q => !(q.1 == i) && !(q.1 + 1 == i && q.2.category == 2)))) : LR E n (ls.set i (some v)) rl' := by
  refine ⟨by rw [List.length_set]; exact r.1, hn.1, hn.2.1, fun k w hk => ?_⟩
  by_cases hki : i = k
  · subst hki
    rw [List.getElem?_set_self (by have := (List.getElem?_eq_some_iff.mp hk).1; simpa using this)] at hk
    cases hk
    exact hn.2.2 (i, V E v) List.mem_cons_self
  · rw [List.getElem?_set_ne hki] at hk
    refine hn.2.2 (k, V E w) (List.mem_cons_of_mem _ (List.mem_filter.mpr ⟨lst_mem hk, ?_⟩))
    have h1 : (k == i) = false := by simpa using fun q => hki q.symm
    simp only [h1, Bool.not_false, Bool.true_and, Bool.not_eq_true', Bool.and_eq_false_iff, beq_eq_false_iff_ne]
    by_cases h2 : k + 1 = i
    · right
      subst h2
      rw [V_cat]
      exact okS_cat ho hk
    · exact Or.inl h2
theorem LR.setL {n i : Nat} {rl rl' : Array Slot} {v : Value} (r : LR E n ls rl) (ho : okS ls i = true)
    (hn : lv_has rl' n ((i, V E v) :: (lst E ls).filter (fun q => !(q.1 == i) && (!(q.1 == i + 1) && !(q.1 + 1 == i && q.2.category == 2))))) : LR E n ((ls.set i (some v)).set (i + 1) none) rl' := by
  refine ⟨by rw [List.length_set, List.length_set]; exact r.1, hn.1, hn.2.1, fun k w hk => ?_⟩
  by_cases hki1 : i + 1 = k
  · subst hki1
    rw [List.getElem?_set_self (by have := (List.getElem?_eq_some_iff.mp hk).1; simpa using this)] at hk
    cases hk
  · rw [List.getElem?_set_ne hki1] at hk
    by_cases hki : i = k
    · subst hki
      rw [List.getElem?_set_self (by have := (List.getElem?_eq_some_iff.mp hk).1; simpa using this)] at hk
      cases hk
      exact hn.2.2 (i, V E v) List.mem_cons_self
    · rw [List.getElem?_set_ne hki] at hk
      refine hn.2.2 (k, V E w) (List.mem_cons_of_mem _ (List.mem_filter.mpr ⟨lst_mem hk, ?_⟩))
      have h1 : (k == i) = false := by simpa using fun q => hki q.symm
      have h3 : (k == i + 1) = false := by simpa using fun q => hki1 q.symm
      simp only [h1, h3, Bool.not_false, Bool.true_and, Bool.not_eq_true', Bool.and_eq_false_iff, beq_eq_false_iff_ne]
      by_cases h2 : k + 1 = i
      · right
        subst h2
        rw [V_cat]
        exact okS_cat ho hk
      · exact Or.inl h2
theorem wz_istore_n {i : Fin 4} {x : Int32} {ls2 : List (Option Value)} (hd : decode M.2.1 pc = .ok (.istore_n i, 1)) (hn : (i : Nat) < M.2.2.1) (ho : okS ls (i : Nat) = true) (hs : ls.set (i : Nat) (some (.int x)) = ls2) (k : wz E M ce sl Z (pc + 1) ls2 st h) : wz E M ce sl Z pc ls (.int x :: st) h := by
  intro p e s m args below meth c C H locs rl hP hS hl
  subst hs
  exact lv_istore_n C.1 C.2.1 hd rfl hl.has hn rfl (fun rl2 h2 => k p e s m args below meth c C H locs rl2 hP hS (LR.set (v := .int x) hl ho h2))
theorem wz_istore {i : Nat} {x : Int32} {ls2 : List (Option Value)} (hd : decode M.2.1 pc = .ok (.istore i, 2)) (hn : i < M.2.2.1) (ho : okS ls i = true) (hs : ls.set i (some (.int x)) = ls2) (k : wz E M ce sl Z (pc + 2) ls2 st h) : wz E M ce sl Z pc ls (.int x :: st) h := by
  intro p e s m args below meth c C H locs rl hP hS hl
  subst hs
  exact lv_istore C.1 C.2.1 hd hl.has hn rfl (fun rl2 h2 => k p e s m args below meth c C H locs rl2 hP hS (LR.set (v := .int x) hl ho h2))
theorem wz_astore_n {i : Fin 4} {x : Nat} {ls2 : List (Option Value)} (hd : decode M.2.1 pc = .ok (.astore_n i, 1)) (hn : (i : Nat) < M.2.2.1) (ho : okS ls (i : Nat) = true) (hs : ls.set (i : Nat) (some (.ref x)) = ls2) (k : wz E M ce sl Z (pc + 1) ls2 st h) : wz E M ce sl Z pc ls (.ref x :: st) h := by
  intro p e s m args below meth c C H locs rl hP hS hl
  subst hs
  exact lv_astore_n C.1 C.2.1 hd rfl hl.has hn rfl (fun rl2 h2 => k p e s m args below meth c C H locs rl2 hP hS (LR.set (v := .ref x) hl ho h2))
theorem wz_astore {i : Nat} {x : Nat} {ls2 : List (Option Value)} (hd : decode M.2.1 pc = .ok (.astore i, 2)) (hn : i < M.2.2.1) (ho : okS ls i = true) (hs : ls.set i (some (.ref x)) = ls2) (k : wz E M ce sl Z (pc + 2) ls2 st h) : wz E M ce sl Z pc ls (.ref x :: st) h := by
  intro p e s m args below meth c C H locs rl hP hS hl
  subst hs
  exact lv_astore C.1 C.2.1 hd hl.has hn rfl (fun rl2 h2 => k p e s m args below meth c C H locs rl2 hP hS (LR.set (v := .ref x) hl ho h2))
theorem wz_lstore_n {i : Fin 4} {x : Int64} {ls2 : List (Option Value)} (hd : decode M.2.1 pc = .ok (.lstore_n i, 1)) (hn : (i : Nat) + 1 < M.2.2.1) (ho : okS ls (i : Nat) = true) (hs : (ls.set (i : Nat) (some (.long x))).set ((i : Nat) + 1) none = ls2) (k : wz E M ce sl Z (pc + 1) ls2 st h) : wz E M ce sl Z pc ls (.long x :: st) h := by
  intro p e s m args below meth c C H locs rl hP hS hl
  subst hs
  exact lv_lstore_n C.1 C.2.1 hd rfl hl.has hn rfl (fun rl2 h2 => k p e s m args below meth c C H locs rl2 hP hS (LR.setL (v := .long x) hl ho h2))
theorem wz_astoreR_n {i : Fin 4} {g j : Nat} {ls2 : List (Option Value)} (hd : decode M.2.1 pc = .ok (.astore_n i, 1)) (hn : (i : Nat) < M.2.2.1) (ho : okS ls (i : Nat) = true) (hs : ls.set (i : Nat) (some (rf g j)) = ls2) (k : wz E M ce sl Z (pc + 1) ls2 st h) : wz E M ce sl Z pc ls (rf g j :: st) h := wz_astore_n (x := gBase g + j) hd hn ho hs k
theorem wz_lstore {i : Nat} {x : Int64} {ls2 : List (Option Value)} (hd : decode M.2.1 pc = .ok (.lstore i, 2)) (hn : i + 1 < M.2.2.1) (ho : okS ls i = true) (hs : (ls.set i (some (.long x))).set (i + 1) none = ls2) (k : wz E M ce sl Z (pc + 2) ls2 st h) : wz E M ce sl Z pc ls (.long x :: st) h := by
  intro p e s m args below meth c C H locs rl hP hS hl
  subst hs
  exact lv_lstore C.1 C.2.1 hd hl.has hn rfl (fun rl2 h2 => k p e s m args below meth c C H locs rl2 hP hS (LR.setL (v := .long x) hl ho h2))
theorem wz_astoreR {i : Nat} {g j : Nat} {ls2 : List (Option Value)} (hd : decode M.2.1 pc = .ok (.astore i, 2)) (hn : i < M.2.2.1) (ho : okS ls i = true) (hs : ls.set i (some (rf g j)) = ls2) (k : wz E M ce sl Z (pc + 2) ls2 st h) : wz E M ce sl Z pc ls (rf g j :: st) h := wz_astore (x := gBase g + j) hd hn ho hs k
theorem wz_iinc {i : Nat} {n : Int} {x v : Int32} {ls2 : List (Option Value)} (hd : decode M.2.1 pc = .ok (.iinc i n, 3)) (hx : ls[i]? = some (some (.int x))) (hv : x + Int32.ofInt n = v) (hn : i < M.2.2.1) (ho : okS ls i = true) (hs : ls.set i (some (.int v)) = ls2) (k : wz E M ce sl Z (pc + 3) ls2 st h) : wz E M ce sl Z pc ls st h := by
  intro p e s m args below meth c C H locs rl hP hS hl
  subst hs
  obtain ⟨kk, hkk⟩ := List.getElem?_of_mem (lst_mem (E := E) hx)
  exact lv_iinc C.1 C.2.1 hd hl.has hkk hv hn rfl (fun rl2 h2 => k p e s m args below meth c C H locs rl2 hP hS (LR.set (v := .int v) hl ho h2))
theorem wz_dup {v : Value} (hd : decode M.2.1 pc = .ok (.dup, 1)) (hc : v.category = 1) (k : wz E M ce sl Z (pc + 1) ls (v :: v :: st) h) : wz E M ce sl Z pc ls (v :: st) h := by
  intro p e s m args below meth c C H locs rl hP hS hl
  exact lv_dup C.1 C.2.1 hd ((V_cat E v).trans hc) (k p e s m args below meth c C H locs rl hP hS hl)
theorem wz_dup2 {v w : Value} (hd : decode M.2.1 pc = .ok (.dup2, 1)) (hc : v.category = 1) (hc2 : w.category = 1) (k : wz E M ce sl Z (pc + 1) ls (v :: w :: v :: w :: st) h) : wz E M ce sl Z pc ls (v :: w :: st) h := by
  intro p e s m args below meth c C H locs rl hP hS hl
  exact lv_dup2_11 C.1 C.2.1 hd ((V_cat E v).trans hc) ((V_cat E w).trans hc2) (k p e s m args below meth c C H locs rl hP hS hl)
theorem wz_icmp_eq {x y : Int32} {off : Int} {tgt : Nat} (hd : decode M.2.1 pc = .ok (.if_icmp .eq off, 3)) (ht : (pc : Int) + off = (tgt : Int)) (kt : x = y → wz E M ce sl Z tgt ls st h) (kf : ¬ x = y → wz E M ce sl Z (pc + 3) ls st h) : wz E M ce sl Z pc ls (.int y :: .int x :: st) h := by
  intro p e s m args below meth c C H locs rl hP hS hl
  exact lv_icmp_eq C.1 C.2.1 hd ht (fun q => kt q p e s m args below meth c C H locs rl hP hS hl) (fun q => kf q p e s m args below meth c C H locs rl hP hS hl)
theorem wz_if_eq {x : Int32} {off : Int} {tgt : Nat} (hd : decode M.2.1 pc = .ok (.ifCond .eq off, 3)) (ht : (pc : Int) + off = (tgt : Int)) (kt : x = 0 → wz E M ce sl Z tgt ls st h) (kf : ¬ x = 0 → wz E M ce sl Z (pc + 3) ls st h) : wz E M ce sl Z pc ls (.int x :: st) h := by
  intro p e s m args below meth c C H locs rl hP hS hl
  exact lv_if_eq C.1 C.2.1 hd ht (fun q => kt q p e s m args below meth c C H locs rl hP hS hl) (fun q => kf q p e s m args below meth c C H locs rl hP hS hl)
theorem wz_icmp_ne {x y : Int32} {off : Int} {tgt : Nat} (hd : decode M.2.1 pc = .ok (.if_icmp .ne off, 3)) (ht : (pc : Int) + off = (tgt : Int)) (kt : ¬ x = y → wz E M ce sl Z tgt ls st h) (kf : x = y → wz E M ce sl Z (pc + 3) ls st h) : wz E M ce sl Z pc ls (.int y :: .int x :: st) h := by
  intro p e s m args below meth c C H locs rl hP hS hl
  exact lv_icmp_ne C.1 C.2.1 hd ht (fun q => kt q p e s m args below meth c C H locs rl hP hS hl) (fun q => kf q p e s m args below meth c C H locs rl hP hS hl)
theorem wz_if_ne {x : Int32} {off : Int} {tgt : Nat} (hd : decode M.2.1 pc = .ok (.ifCond .ne off, 3)) (ht : (pc : Int) + off = (tgt : Int)) (kt : ¬ x = 0 → wz E M ce sl Z tgt ls st h) (kf : x = 0 → wz E M ce sl Z (pc + 3) ls st h) : wz E M ce sl Z pc ls (.int x :: st) h := by
  intro p e s m args below meth c C H locs rl hP hS hl
  exact lv_if_ne C.1 C.2.1 hd ht (fun q => kt q p e s m args below meth c C H locs rl hP hS hl) (fun q => kf q p e s m args below meth c C H locs rl hP hS hl)
theorem wz_icmp_lt {x y : Int32} {off : Int} {tgt : Nat} (hd : decode M.2.1 pc = .ok (.if_icmp .lt off, 3)) (ht : (pc : Int) + off = (tgt : Int)) (kt : x < y → wz E M ce sl Z tgt ls st h) (kf : ¬ x < y → wz E M ce sl Z (pc + 3) ls st h) : wz E M ce sl Z pc ls (.int y :: .int x :: st) h := by
  intro p e s m args below meth c C H locs rl hP hS hl
  exact lv_icmp_lt C.1 C.2.1 hd ht (fun q => kt q p e s m args below meth c C H locs rl hP hS hl) (fun q => kf q p e s m args below meth c C H locs rl hP hS hl)
theorem wz_if_lt {x : Int32} {off : Int} {tgt : Nat} (hd : decode M.2.1 pc = .ok (.ifCond .lt off, 3)) (ht : (pc : Int) + off = (tgt : Int)) (kt : x < 0 → wz E M ce sl Z tgt ls st h) (kf : ¬ x < 0 → wz E M ce sl Z (pc + 3) ls st h) : wz E M ce sl Z pc ls (.int x :: st) h := by
  intro p e s m args below meth c C H locs rl hP hS hl
  exact lv_if_lt C.1 C.2.1 hd ht (fun q => kt q p e s m args below meth c C H locs rl hP hS hl) (fun q => kf q p e s m args below meth c C H locs rl hP hS hl)
theorem wz_icmp_ge {x y : Int32} {off : Int} {tgt : Nat} (hd : decode M.2.1 pc = .ok (.if_icmp .ge off, 3)) (ht : (pc : Int) + off = (tgt : Int)) (kt : y ≤ x → wz E M ce sl Z tgt ls st h) (kf : ¬ y ≤ x → wz E M ce sl Z (pc + 3) ls st h) : wz E M ce sl Z pc ls (.int y :: .int x :: st) h := by
  intro p e s m args below meth c C H locs rl hP hS hl
  exact lv_icmp_ge C.1 C.2.1 hd ht (fun q => kt q p e s m args below meth c C H locs rl hP hS hl) (fun q => kf q p e s m args below meth c C H locs rl hP hS hl)
theorem wz_if_ge {x : Int32} {off : Int} {tgt : Nat} (hd : decode M.2.1 pc = .ok (.ifCond .ge off, 3)) (ht : (pc : Int) + off = (tgt : Int)) (kt : 0 ≤ x → wz E M ce sl Z tgt ls st h) (kf : ¬ 0 ≤ x → wz E M ce sl Z (pc + 3) ls st h) : wz E M ce sl Z pc ls (.int x :: st) h := by
  intro p e s m args below meth c C H locs rl hP hS hl
  exact lv_if_ge C.1 C.2.1 hd ht (fun q => kt q p e s m args below meth c C H locs rl hP hS hl) (fun q => kf q p e s m args below meth c C H locs rl hP hS hl)
theorem wz_icmp_gt {x y : Int32} {off : Int} {tgt : Nat} (hd : decode M.2.1 pc = .ok (.if_icmp .gt off, 3)) (ht : (pc : Int) + off = (tgt : Int)) (kt : y < x → wz E M ce sl Z tgt ls st h) (kf : ¬ y < x → wz E M ce sl Z (pc + 3) ls st h) : wz E M ce sl Z pc ls (.int y :: .int x :: st) h := by
  intro p e s m args below meth c C H locs rl hP hS hl
  exact lv_icmp_gt C.1 C.2.1 hd ht (fun q => kt q p e s m args below meth c C H locs rl hP hS hl) (fun q => kf q p e s m args below meth c C H locs rl hP hS hl)
theorem wz_if_gt {x : Int32} {off : Int} {tgt : Nat} (hd : decode M.2.1 pc = .ok (.ifCond .gt off, 3)) (ht : (pc : Int) + off = (tgt : Int)) (kt : 0 < x → wz E M ce sl Z tgt ls st h) (kf : ¬ 0 < x → wz E M ce sl Z (pc + 3) ls st h) : wz E M ce sl Z pc ls (.int x :: st) h := by
  intro p e s m args below meth c C H locs rl hP hS hl
  exact lv_if_gt C.1 C.2.1 hd ht (fun q => kt q p e s m args below meth c C H locs rl hP hS hl) (fun q => kf q p e s m args below meth c C H locs rl hP hS hl)
theorem wz_icmp_le {x y : Int32} {off : Int} {tgt : Nat} (hd : decode M.2.1 pc = .ok (.if_icmp .le off, 3)) (ht : (pc : Int) + off = (tgt : Int)) (kt : x ≤ y → wz E M ce sl Z tgt ls st h) (kf : ¬ x ≤ y → wz E M ce sl Z (pc + 3) ls st h) : wz E M ce sl Z pc ls (.int y :: .int x :: st) h := by
  intro p e s m args below meth c C H locs rl hP hS hl
  exact lv_icmp_le C.1 C.2.1 hd ht (fun q => kt q p e s m args below meth c C H locs rl hP hS hl) (fun q => kf q p e s m args below meth c C H locs rl hP hS hl)
theorem wz_if_le {x : Int32} {off : Int} {tgt : Nat} (hd : decode M.2.1 pc = .ok (.ifCond .le off, 3)) (ht : (pc : Int) + off = (tgt : Int)) (kt : x ≤ 0 → wz E M ce sl Z tgt ls st h) (kf : ¬ x ≤ 0 → wz E M ce sl Z (pc + 3) ls st h) : wz E M ce sl Z pc ls (.int x :: st) h := by
  intro p e s m args below meth c C H locs rl hP hS hl
  exact lv_if_le C.1 C.2.1 hd ht (fun q => kt q p e s m args below meth c C H locs rl hP hS hl) (fun q => kf q p e s m args below meth c C H locs rl hP hS hl)
theorem wz_goto {off : Int} {tgt : Nat} (hd : decode M.2.1 pc = .ok (.goto off, 3)) (ht : (pc : Int) + off = (tgt : Int)) (k : wz E M ce sl Z tgt ls st h) : wz E M ce sl Z pc ls st h := by
  intro p e s m args below meth c C H locs rl hP hS hl
  exact lv_goto C.1 C.2.1 hd ht (k p e s m args below meth c C H locs rl hP hS hl)
theorem wz_table {dflt lo hi : Int} {offs : Array Int} {len : Nat} {x : Int32} {tgts : List Nat} {td : Nat} (hd : decode M.2.1 pc = .ok (.tableswitch dflt lo hi offs, len)) (ht : (pc : Int) + dflt = (td : Int)) (hlo : 0 ≤ lo) (hhi : hi = lo + (tgts.length : Int) - 1)
    (ho : ∀ j : Nat, j < tgts.length → ∃ off : Int, offs[j]? = some off ∧ (pc : Int) + off = ((tgts.getD j 0 : Nat) : Int))
    (ki : ∀ j : Nat, j < tgts.length → x.toInt = lo + (j : Int) → wz E M ce sl Z (tgts.getD j 0) ls st h) (kd : (x.toInt < lo ∨ hi < x.toInt) → wz E M ce sl Z td ls st h) : wz E M ce sl Z pc ls (.int x :: st) h := by
  intro p e s m args below meth c C H locs rl hP hS hl
  by_cases q : x.toInt < lo ∨ hi < x.toInt
  · exact lv_tableOut C.1 C.2.1 hd q ht (kd q p e s m args below meth c C H locs rl hP hS hl)
  · have q1 : ¬ x.toInt < lo := fun z => q (Or.inl z)
    have q2 : ¬ hi < x.toInt := fun z => q (Or.inr z)
    have hj : (x.toInt - lo).toNat < tgts.length := by omega
    obtain ⟨off, h1, h2⟩ := ho _ hj
    exact lv_tableIn C.1 C.2.1 hd q1 q2 h1 h2 (ki _ hj (by omega) p e s m args below meth c C H locs rl hP hS hl)
theorem wz_less {ls2 : List (Option Value)} (hn : ls2.length = ls.length) (hle : ∀ (k : Nat) (v : Value), ls2[k]? = some (some v) → ls[k]? = some (some v)) (k : wz E M ce sl Z pc ls2 st h) : wz E M ce sl Z pc ls st h := by
  intro p e s m args below meth c C H locs rl hP hS hl
  exact k p e s m args below meth c C H locs rl hP hS ⟨hn.trans hl.1, hl.2.1, hl.2.2.1, fun j v hj => hl.2.2.2 j v (hle j v hj)⟩
end Rules
end
section
section Heap
variable {E : EN} {M : MD} {ce sl : Nat} {Z : List Frame → Array Value → State → State → Prop} {pc : Nat} {ls : List (Option Value)} {st : List Value} {h : TH}
/-- a class of the list, with its tables -/
def CF (ci : Nat) (C : String) (T : u_T) (N : Nat) (ty : Nat → FieldType) : Prop := classes[ci]? = some (C, T, N) ∧ (∀ w ∈ u_ws C T N, w ∈ tw) ∧ (∀ k, k < N → parseFieldDescriptor (T k).2.2.1 = some (ty k)) ∧ (∀ a, a < N → ∀ b, b < N → a ≠ b → (T a).2.1 ≠ (T b).2.1)
theorem cf0 : CF 0 RX0 TX0 5 tyX0 := ⟨rfl, iX0, tyX0_ok, nmX0⟩
theorem cf1 : CF 1 RX1 TX1 6 tyX1 := ⟨rfl, iX1, tyX1_ok, nmX1⟩
theorem cf2 : CF 2 RX2 TX2 5 tyX2 := ⟨rfl, iX2, tyX2_ok, nmX2⟩
theorem cf3 : CF 3 RX3 TX3 13 tyX3 := ⟨rfl, iX3, tyX3_ok, nmX3⟩
theorem cf4 : CF 4 RX4 TX4 7 tyX4 := ⟨rfl, iX4, tyX4_ok, nmX4⟩
theorem cf5 : CF 5 RX5 TX5 8 tyX5 := ⟨rfl, iX5, tyX5_ok, nmX5⟩
theorem cf6 : CF 6 RX6 TX6 10 tyX6 := ⟨rfl, iX6, tyX6_ok, nmX6⟩
theorem cf7 : CF 7 RX7 TX7 46 tyX7 := ⟨rfl, iX7, tyX7_ok, nmX7⟩
theorem en_obj (E : EN) (h : TH) {g : Nat} (i : Nat) (ht : gTag g = 0) : en E h g i = .inr (gCi g, (List.range (gN g)).map (slV E (h g i) g)) := by
  unfold en
  rw [if_pos ht]
theorem en_int (E : EN) (h : TH) {g : Nat} (i : Nat) (ht : gTag g = 1) : en E h g i = .inl (eC E 0, gN g, .inl (h g i)) := by
  unfold en
  rw [if_neg (by rw [ht]; decide), if_pos ht]
theorem en_bool (E : EN) (h : TH) {g : Nat} (i : Nat) (ht : gTag g = 2) : en E h g i = .inl (eC E 1, gN g, .inl (h g i)) := by
  unfold en
  rw [if_neg (by rw [ht]; decide), if_neg (by rw [ht]; decide), if_pos ht]
theorem en_ref (E : EN) (h : TH) {g : Nat} (i : Nat) (ht : gTag g = 3) : en E h g i = .inl (eC E (gCi g), gN g, .inr (.inr (.inr (.inr (fun j => some (eB E + (gBase (gTgt g) + j))))))) := by
  unfold en
  rw [if_neg (by rw [ht]; decide), if_neg (by rw [ht]; decide), if_neg (by rw [ht]; decide)]
theorem wz_getI {idx ci N g i kf : Nat} {C : String} {T : u_T} {ty : Nat → FieldType} {v : Int32} (hd : decode M.2.1 pc = .ok (.getfield idx, 3)) (cf : CF ci C T N ty) (hw : Cond.fieldLink M.1.cls idx (T kf).1 (T kf).2.1 (T kf).2.2.1 ∈ tw)
    (hg : gTag g = 0 ∧ gCi g = ci ∧ gN g = N ∧ kf < N ∧ gSlot g kf = none) (hi : i < gCnt g) (hv : h g i kf = v) (k : wz E M ce sl Z (pc + 3) ls (.int v :: st) h) : wz E M ce sl Z pc ls (rf g i :: st) h := by
  intro p e s m args below meth c C H locs rl hP hS hl
  obtain ⟨g1, g2, g3, g4, g5⟩ := hg
  have he := wd_g E h hi
  rw [en_obj E h i g1, g2, g3] at he
  show W p (eL E) e M.2.2.2.2 s m args below meth c H locs ce sl (Z below args s) (F0 m pc rl (V E (rf g i) :: st.map (V E)))
  rw [V_rf hi]
  refine va_get C.1 C.2.1 C.2.2.2.2.2.1 cf.2.1 C.2.2.2.2.1 C.2.2.2.2.2.2.2.1 hP _ he cf.1 _ g4 (C.2.2.2.2.2.1 _ hw) (fun _ q => q) (v := .int v) ?_ hd (k p e s m args below meth c C H locs rl hP hS hl)
  rw [List.getElem?_map, List.getElem?_range g4]
  simp only [Option.map_some, slV, g5, hv]
theorem wz_getR {idx ci N g i kf t : Nat} {C : String} {T : u_T} {ty : Nat → FieldType} (hd : decode M.2.1 pc = .ok (.getfield idx, 3)) (cf : CF ci C T N ty) (hw : Cond.fieldLink M.1.cls idx (T kf).1 (T kf).2.1 (T kf).2.2.1 ∈ tw)
    (hg : gTag g = 0 ∧ gCi g = ci ∧ gN g = N ∧ kf < N ∧ gSlot g kf = some t ∧ 0 < gCnt t) (hi : i < gCnt g) (k : wz E M ce sl Z (pc + 3) ls (rf t 0 :: st) h) : wz E M ce sl Z pc ls (rf g i :: st) h := by
  intro p e s m args below meth c C H locs rl hP hS hl
  obtain ⟨g1, g2, g3, g4, g5, g6⟩ := hg
  have he := wd_g E h hi
  rw [en_obj E h i g1, g2, g3] at he
  show W p (eL E) e M.2.2.2.2 s m args below meth c H locs ce sl (Z below args s) (F0 m pc rl (V E (rf g i) :: st.map (V E)))
  rw [V_rf hi]
  refine va_get C.1 C.2.1 C.2.2.2.2.2.1 cf.2.1 C.2.2.2.2.1 C.2.2.2.2.2.2.2.1 hP _ he cf.1 _ g4 (C.2.2.2.2.2.1 _ hw) (fun _ q => q) (v := V E (rf t 0)) ?_ hd (k p e s m args below meth c C H locs rl hP hS hl)
  rw [List.getElem?_map, List.getElem?_range g4]
  simp only [Option.map_some, slV, g5, V_rf g6, Nat.add_zero]
theorem wz_putI {idx ci N g i kf : Nat} {C : String} {T : u_T} {ty : Nat → FieldType} {v : Int32} {h2 : TH} (hd : decode M.2.1 pc = .ok (.putfield idx, 3)) (cf : CF ci C T N ty) (hw : Cond.fieldLink M.1.cls idx (T kf).1 (T kf).2.1 (T kf).2.2.1 ∈ tw)
    (hg : gTag g = 0 ∧ gCi g = ci ∧ gN g = N ∧ kf < N ∧ gSlot g kf = none ∧ (T kf).2.2.2 = false ∧ (T kf).2.2.1 = "I") (hi : i < gCnt g) (hh : up h g i kf v = h2) (k : wz E M ce sl Z (pc + 3) ls st h2) : wz E M ce sl Z pc ls (.int v :: rf g i :: st) h := by
  intro p e s m args below meth c C H locs rl hP hS hl
  obtain ⟨g1, g2, g3, g4, g5, g6, g7⟩ := hg
  subst hh
  have he := wd_g E h hi
  rw [en_obj E h i g1, g2, g3] at he
  show W p (eL E) e M.2.2.2.2 s m args below meth c H locs ce sl (Z below args s) (F0 m pc rl (.int v :: V E (rf g i) :: st.map (V E)))
  rw [V_rf hi]
  refine va_put C.1 C.2.1 C.2.2.2.2.2.1 cf.2.1 ty cf.2.2.1 cf.2.2.2 C.2.2.2.2.1 C.2.2.2.2.2.2.2.1 hP (wd_D E h) hS _ he cf.1 _ g4 (C.2.2.2.2.2.1 _ hw) (fun _ q => q) g6 (ty := .int) (by rw [g7]; decide +kernel) rfl rfl (by simpa using g4) hd (fun H1 locs1 hP1 _ hS1 => ?_)
  refine k p e s m args below meth c C H1 locs1 rl ?_ hS1 hl
  rw [wd_set E h (up h g i kf v) hi _ ?_ (fun g' i' q => en_up q)] at hP1
  · exact hP1
  · rw [en_obj E _ i g1, g2, g3]
    congr 2
    apply List.ext_getElem?
    intro j
    rw [List.getElem?_set]
    by_cases hj : kf = j
    · subst hj
      rw [if_pos rfl, if_pos (by simpa using g4), List.getElem?_map, List.getElem?_range g4]
      simp only [Option.map_some, slV, g5, up, and_self, if_true]
    · rw [if_neg hj, List.getElem?_map, List.getElem?_map]
      rcases Nat.lt_or_ge j N with hjn | hjn
      · rw [List.getElem?_range hjn]
        simp only [Option.map_some, slV]
        cases gSlot g j with
        | none => simp only [up]; rw [if_neg (fun q => hj q.2.1.symm)]
        | some t => rfl
      · rw [List.getElem?_eq_none (by simpa using hjn)]
        rfl
theorem wz_iald {g i : Nat} {j v : Int32} (hd : decode M.2.1 pc = .ok (.iaload, 1)) (ht : gTag g = 1) (hi : i < gCnt g) (hin : vp_in j (gN g)) (hv : h g i j.toNatClampNeg = v) (k : wz E M ce sl Z (pc + 1) ls (.int v :: st) h) : wz E M ce sl Z pc ls (.int j :: rf g i :: st) h := by
  intro p e s m args below meth c C H locs rl hP hS hl
  subst hv
  have he := wd_g E h hi
  rw [en_int E h i ht] at he
  show W p (eL E) e M.2.2.2.2 s m args below meth c H locs ce sl (Z below args s) (F0 m pc rl (.int j :: V E (rf g i) :: st.map (V E)))
  rw [V_rf hi]
  exact va_iald C.1 C.2.1 C.2.2.2.2.2.2.2.1 hP _ 0 he rfl hin hd (k p e s m args below meth c C H locs rl hP hS hl)
theorem wz_zald {g i : Nat} {j v : Int32} (hd : decode M.2.1 pc = .ok (.baload, 1)) (ht : gTag g = 2) (hi : i < gCnt g) (hin : vp_in j (gN g)) (hv : h g i j.toNatClampNeg = v) (k : wz E M ce sl Z (pc + 1) ls (.int v :: st) h) : wz E M ce sl Z pc ls (.int j :: rf g i :: st) h := by
  intro p e s m args below meth c C H locs rl hP hS hl
  subst hv
  have he := wd_g E h hi
  rw [en_bool E h i ht] at he
  show W p (eL E) e M.2.2.2.2 s m args below meth c H locs ce sl (Z below args s) (F0 m pc rl (.int j :: V E (rf g i) :: st.map (V E)))
  rw [V_rf hi]
  exact va_zald C.1 C.2.1 C.2.2.2.2.2.2.2.1 hP _ 1 he rfl hin hd (k p e s m args below meth c C H locs rl hP hS hl)
theorem upd_up {h : TH} {g i j : Nat} {v : Int32} : upd (h g i) j v = (up h g i j v) g i := by
  funext q
  unfold upd up
  by_cases hq : q = j
  · rw [if_pos hq, if_pos ⟨rfl, hq, rfl⟩]
  · rw [if_neg hq, if_neg (fun z => hq z.2.1)]
theorem wz_iast {g i : Nat} {j v : Int32} {h2 : TH} (hd : decode M.2.1 pc = .ok (.iastore, 1)) (ht : gTag g = 1) (hi : i < gCnt g) (hin : vp_in j (gN g)) (hh : up h g i j.toNatClampNeg v = h2) (k : wz E M ce sl Z (pc + 1) ls st h2) : wz E M ce sl Z pc ls (.int v :: .int j :: rf g i :: st) h := by
  intro p e s m args below meth c C H locs rl hP hS hl
  subst hh
  have he := wd_g E h hi
  rw [en_int E h i ht] at he
  show W p (eL E) e M.2.2.2.2 s m args below meth c H locs ce sl (Z below args s) (F0 m pc rl (.int v :: .int j :: V E (rf g i) :: st.map (V E)))
  rw [V_rf hi]
  refine va_iast C.1 C.2.1 C.2.2.2.2.2.2.2.1 hP (wd_D E h) hS _ 0 he rfl hin hd (fun H1 locs1 hP1 _ hS1 => ?_)
  refine k p e s m args below meth c C H1 locs1 rl ?_ hS1 hl
  rw [wd_set E h (up h g i j.toNatClampNeg v) hi _ ?_ (fun g' i' q => en_up q)] at hP1
  · exact hP1
  · rw [en_int E _ i ht, upd_up]
theorem wz_zast {g i : Nat} {j v : Int32} {h2 : TH} (hd : decode M.2.1 pc = .ok (.bastore, 1)) (ht : gTag g = 2) (hi : i < gCnt g) (hin : vp_in j (gN g)) (hb : vp_nar .boolean v = v) (hh : up h g i j.toNatClampNeg v = h2) (k : wz E M ce sl Z (pc + 1) ls st h2) : wz E M ce sl Z pc ls (.int v :: .int j :: rf g i :: st) h := by
  intro p e s m args below meth c C H locs rl hP hS hl
  subst hh
  have he := wd_g E h hi
  rw [en_bool E h i ht] at he
  show W p (eL E) e M.2.2.2.2 s m args below meth c H locs ce sl (Z below args s) (F0 m pc rl (.int v :: .int j :: V E (rf g i) :: st.map (V E)))
  rw [V_rf hi]
  refine va_zast C.1 C.2.1 C.2.2.2.2.2.2.2.1 hP (wd_D E h) hS _ 1 he rfl hin hd (fun H1 locs1 hP1 _ hS1 => ?_)
  refine k p e s m args below meth c C H1 locs1 rl ?_ hS1 hl
  rw [hb, wd_set E h (up h g i j.toNatClampNeg v) hi _ ?_ (fun g' i' q => en_up q)] at hP1
  · exact hP1
  · rw [en_bool E _ i ht, upd_up]
/-- an element of an array of references is the cell of that number -/
theorem wz_aald {g i t : Nat} {j : Int32} (hd : decode M.2.1 pc = .ok (.aaload, 1)) (hg : gTag g = 3 ∧ gTgt g = t ∧ gN g = gCnt t ∧ 2 ≤ gCi g ∧ gCi g < 5) (hi : i < gCnt g) (hin : vp_in j (gN g)) (k : wz E M ce sl Z (pc + 1) ls (rf t j.toNatClampNeg :: st) h) : wz E M ce sl Z pc ls (.int j :: rf g i :: st) h := by
  intro p e s m args below meth c C H locs rl hP hS hl
  obtain ⟨g1, g2, g3, g4, g5⟩ := hg
  have he := wd_g E h hi
  rw [en_ref E h i g1] at he
  have hlt : j.toNatClampNeg < gN g := Nat.not_le.mp fun q => hin (Or.inr q)
  show W p (eL E) e M.2.2.2.2 s m args below meth c H locs ce sl (Z below args s) (F0 m pc rl (.int j :: V E (rf g i) :: st.map (V E)))
  rw [V_rf hi]
  have hty : ∃ ty : FieldType, (tys E)[gCi g]? = some (eC E (gCi g), ty) ∧ ty.isReference = true := by
    rcases (show gCi g = 2 ∨ gCi g = 3 ∨ gCi g = 4 by omega) with q | q | q <;> rw [q]
    · exact ⟨_, rfl, rfl⟩
    · exact ⟨_, rfl, rfl⟩
    · exact ⟨_, rfl, rfl⟩
  obtain ⟨ty, t1, t2⟩ := hty
  refine W.aald (v := V E (rf t j.toNatClampNeg)) (ty := ty) C.1 C.2.1 (hP _ _ he) ((C.2.2.2.2.2.2.2.1.2 _ _ t1).1 (gN g) (fun q => va_rf (some (eB E + (gBase (gTgt g) + q))))) t2 (fun q => by cases q) (by show ¬ (j < 0 ∨ (arrV _ _ _).slots.size ≤ _); rw [arrV_size]; exact hin) (by show (arrV _ _ _).slots[_]? = _; rw [arrV_read _ _ hlt, V_rf (by rw [← g3]; exact hlt), g2]; rfl) rfl rfl hd (k p e s m args below meth c C H locs rl hP hS hl)
/-- an int out of an array that stood there before: the two static ones, and the script -/
theorem wz_tI {t : Nat} {j v : Int32} (hd : decode M.2.1 pc = .ok (.iaload, 1)) (ht : t < 3) (hin : vp_in j (oN E t)) (hv : oF E t j.toNatClampNeg = v) (k : wz E M ce sl Z (pc + 1) ls (.int v :: st) h) : wz E M ce sl Z pc ls (.int j :: .ref (1000 + t) :: st) h := by
  intro p e s m args below meth c C H locs rl hP hS hl
  subst hv
  show W p (eL E) e M.2.2.2.2 s m args below meth c H locs ce sl (Z below args s) (F0 m pc rl (.int j :: .ref (ad E (1000 + t)) :: st.map (V E)))
  have ha : ad E (1000 + t) = eX E t := by
    unfold ad
    rw [if_neg (by omega), Nat.add_sub_cancel_left]
  rw [ha]
  exact va_ti C.1 C.2.1 (C.2.2.2.2.2.2.2.2.2.2 t ht) hS hin rfl hd (k p e s m args below meth c C H locs rl hP hS hl)
theorem wz_tLen {t : Nat} {v : Int32} (hd : decode M.2.1 pc = .ok (.arraylength, 1)) (ht : t < 3) (hv : Int32.ofNat (oN E t) = v) (k : wz E M ce sl Z (pc + 1) ls (.int v :: st) h) : wz E M ce sl Z pc ls (.ref (1000 + t) :: st) h := by
  intro p e s m args below meth c C H locs rl hP hS hl
  show W p (eL E) e M.2.2.2.2 s m args below meth c H locs ce sl (Z below args s) (F0 m pc rl (.ref (ad E (1000 + t)) :: st.map (V E)))
  have ha : ad E (1000 + t) = eX E t := by
    unfold ad
    rw [if_neg (by omega), Nat.add_sub_cancel_left]
  rw [ha]
  exact va_tlen C.1 C.2.1 (C.2.2.2.2.2.2.2.2.2.2 t ht) hS hv hd (k p e s m args below meth c C H locs rl hP hS hl)
theorem wz_sLeast {idx : Nat} (hd : decode M.2.1 pc = .ok (.getstatic idx, 3)) (hw : Cond.fieldLink M.1.cls idx "LienTower" "LAW_LEAST" "[I" ∈ tw) (k : wz E M ce sl Z (pc + 3) ls (.ref (1000 + 0) :: st) h) : wz E M ce sl Z pc ls st h := by
  intro p e s m args below meth c C H locs rl hP hS hl
  exact va_gets C.1 C.2.1 C.2.2.2.2.2.2.2.2.1 hS C.2.2.2.2.1 (C.2.2.2.2.2.1 _ hw) (fun _ q => q) hd (k p e s m args below meth c C H locs rl hP hS hl)
theorem wz_sMost {idx : Nat} (hd : decode M.2.1 pc = .ok (.getstatic idx, 3)) (hw : Cond.fieldLink M.1.cls idx "LienTower" "LAW_MOST" "[I" ∈ tw) (k : wz E M ce sl Z (pc + 3) ls (.ref (1000 + 1) :: st) h) : wz E M ce sl Z pc ls st h := by
  intro p e s m args below meth c C H locs rl hP hS hl
  exact va_gets C.1 C.2.1 C.2.2.2.2.2.2.2.2.2.1 hS C.2.2.2.2.1 (C.2.2.2.2.2.1 _ hw) (fun _ q => q) hd (k p e s m args below meth c C H locs rl hP hS hl)
end Heap
section Calls
variable {E : EN} {M : MD} {ce sl : Nat} {Z : List Frame → Array Value → State → State → Prop} {pc : Nat} {ls : List (Option Value)} {st : List Value} {h : TH}
/-- how a method ends: an int, with the picture u; or nothing -/
def Zi (E : EN) (Q : Int32 → TH → Prop) : List Frame → Array Value → State → State → Prop := fun below args s => MQ below (va_Qi (fun r u => Q r u) (fun u t => Rp E u t t.heap) (eA E)) args s 0 0 (eA E)
def Zv (E : EN) (Q : TH → Prop) : List Frame → Array Value → State → State → Prop := fun below args s => MQ below (va_Qv (fun u => Q u) (fun u t => Rp E u t t.heap) (eA E)) args s 0 0 (eA E)
abbrev wi (E : EN) (M : MD) (Q : Int32 → TH → Prop) (pc : Nat) (ls : List (Option Value)) (st : List Value) (h : TH) : Prop := wz E M 0 0 (Zi E Q) pc ls st h
abbrev wv (E : EN) (M : MD) (Q : TH → Prop) (pc : Nat) (ls : List (Option Value)) (st : List Value) (h : TH) : Prop := wz E M 0 0 (Zv E Q) pc ls st h
theorem Rp_of {p : Program} {s t : State} {m : MethodId} {args : Array Value} {meth : Method} {c : Code} {H : Heap} {locs : List Loc} (C : Cx E M p s m args meth c) (hP : va_P (eD E) classes (wd E h) H) (hS : va_S (eA E) s.heap H locs) (ht : t.heap = H) (hW : s.WarmedH t.vm) : Rp E h t t.heap := by
  rw [ht]
  exact ⟨hP, C.2.2.2.2.2.2.2.1.moved hW.alike, (C.2.2.2.2.2.2.2.2.moved hW.alike).kept hS.2.1⟩
theorem wi_ret {Q : Int32 → TH → Prop} {x : Int32} (hd : decode M.2.1 pc = .ok (.ireturn, 1)) (hr : M.2.2.2.1 = some .int) (hq : Q x h) : wi E M Q pc ls [.int x] h := by
  intro p e s m args below meth c C H locs rl hP hS hl
  exact W.iret C.1 C.2.1 (C.2.2.1.trans hr) (fun t ht hW => ⟨⟨x, h, rfl, hq, Rp_of C hP hS ht hW⟩, hS.F ht⟩) hS.2.2 hd C.2.2.2.2.2.2.1
theorem wi_zret {Q : Int32 → TH → Prop} {x : Int32} (hd : decode M.2.1 pc = .ok (.ireturn, 1)) (hr : M.2.2.2.1 = some .boolean) (hn : vp_nar .boolean x = x) (hq : Q x h) : wi E M Q pc ls [.int x] h := by
  intro p e s m args below meth c C H locs rl hP hS hl
  have hn2 : narrow .boolean (.int x) = .int x := by
    have h1 : narrow .boolean (.int x) = .int (vp_nar .boolean x) := rfl
    rw [h1, hn]
  exact W.zret C.1 C.2.1 (C.2.2.1.trans hr) hn2 (fun t ht hW => ⟨⟨x, h, rfl, hq, Rp_of C hP hS ht hW⟩, hS.F ht⟩) hS.2.2 hd C.2.2.2.2.2.2.1
theorem wv_ret {Q : TH → Prop} (hd : decode M.2.1 pc = .ok (.return_, 1)) (hr : M.2.2.2.1 = none) (hq : Q h) : wv E M Q pc ls [] h := by
  intro p e s m args below meth c C H locs rl hP hS hl
  exact W.vret C.1 C.2.1 (C.2.2.1.trans hr) (fun t ht hW => ⟨⟨h, rfl, hq, Rp_of C hP hS ht hW⟩, hS.F ht⟩) hS.2.2 hd C.2.2.2.2.2.2.1
def wsOf (M : MD) : List Cond := .code M.1 M.2.1 M.2.2.1 M.2.2.2.1 :: tw
/-- the locals at a method's entry -/
def ent (As : List Value) (n : Nat) : List (Option Value) := As.map some ++ List.replicate (n - As.length) none
theorem lv_args_one : ∀ (vs : List Value) (i k : Nat) (v : Value), (∀ w ∈ vs, w.category = 1) → vs[k]? = some v → (i + k, v) ∈ lv_args i vs
  | [], _, k, v, _, hk => by simp at hk
  | w :: vs, i, 0, v, _, hk => by
    simp at hk
    subst hk
    exact List.mem_cons_self
  | w :: vs, i, k + 1, v, hc, hk => by
    have h1 : w.category = 1 := hc w List.mem_cons_self
    have h2 := lv_args_one vs (i + 1) k v (fun z hz => hc z (List.mem_cons_of_mem _ hz)) (by simpa using hk)
    unfold lv_args
    rw [h1, if_neg (by decide)]
    refine List.mem_cons_of_mem _ ?_
    rw [show i + (k + 1) = i + 1 + k by omega]
    exact h2
theorem lg_sl_one : ∀ (vs : List Value), (∀ w ∈ vs, w.category = 1) → (lg_sl vs).length = vs.length
  | [], _ => rfl
  | w :: vs, hc => by
    have h1 : w.category = 1 := hc w List.mem_cons_self
    have h2 := lg_sl_one vs (fun z hz => hc z (List.mem_cons_of_mem _ hz))
    unfold lg_sl at h2 ⊢
    rw [List.flatMap_cons, List.length_append, h2, h1, if_neg (by decide)]
    simp [Nat.add_comm]
theorem met_of {As : List Value} {mc ms : Nat} {Qc : Array Value → State → Outcome → State → Prop} (hy : plainName M.1.cls = true) (hc : ∀ w ∈ As, w.category = 1) (hn : As.length ≤ M.2.2.1)
    (k : wz E M 0 0 (fun below args s => MQ below Qc args s mc ms (eA E)) 0 (ent As M.2.2.1) [] h) :
    Met (eL E) M.1 (wsOf M) M.2.2.2.2 (va_Pc (As.map (V E)) (fun U => Rp E h U U.heap)) Qc mc ms (eA E) := by
  refine Met.ofW (cc := M.2.1) (maxL := M.2.2.1) (ret := M.2.2.2.1) hy rfl ?_
  intro p e s m args below meth c s₁ B hml hv
  obtain ⟨rfl, hR⟩ := hv
  have hts : ∀ w ∈ wsOf M, w.before (As.map (V E)).toArray s = true := atoms_spec (ws := wsOf M) B.pre
  have hcv : ∀ w ∈ As.map (V E), w.category = 1 := by
    intro w hw
    obtain ⟨v, hv, rfl⟩ := List.mem_map.mp hw
    rw [V_cat]
    exact hc v hv
  have hlen : (lg_sl (As.map (V E))).length ≤ M.2.2.1 := by
    rw [lg_sl_one _ hcv, List.length_map]
    exact hn
  have hl := lv_entry (As.map (V E)) (n := M.2.2.1) hlen
  rw [lg_entry_eq]
  refine k p e s m _ below meth c ⟨B.exec, B.bytes, B.returns, hml, findClass_of_methodNamed B.named, fun w hw => hts w (List.mem_cons_of_mem _ hw), B.notSynchronized, hR.2.1, hR.2.2⟩ s.heap [] _ hR.1 va_S.rf ⟨?_, hl.1, hl.2.1, fun j v hj => ?_⟩
  · unfold ent
    rw [List.length_append, List.length_map, List.length_replicate]
    omega
  · have hjl : As[j]? = some v := by
      unfold ent at hj
      rcases Nat.lt_or_ge j As.length with q | q
      · rw [List.getElem?_append_left (by simpa using q), List.getElem?_map] at hj
        cases hA : As[j]? with
        | none => rw [hA] at hj; cases hj
        | some w => rw [hA] at hj; cases hj; rfl
      · rw [List.getElem?_append_right (by simpa using q)] at hj
        have := List.mem_of_getElem? hj
        have := List.eq_of_mem_replicate this
        cases this
    have h3 := lv_args_one (As.map (V E)) 0 j (V E v) hcv (by rw [List.getElem?_map, hjl]; rfl)
    rw [Nat.zero_add] at h3
    exact hl.2.2 _ h3
theorem good_ws {M' : MD} (hw : Cond.code M'.1 M'.2.1 M'.2.2.1 M'.2.2.2.1 ∈ tw) : GoodIn tw (wsOf M') := by
  intro w h1
  rcases List.mem_cons.mp h1 with q | q
  · rw [q]
    exact ⟨hw, good_of_word (tbl_good _ hw)⟩
  · exact ⟨q, good_of_word (tbl_good _ q)⟩
/-- what a call asks of the callee M', its index in the caller's pool, and the room -/
def okC (M M' : MD) (n : Nat) : Prop := plainName M'.1.cls = true ∧ (M'.1.cls ≠ "java/lang/invoke/MethodHandle" ∧ M'.1.cls ≠ "java/lang/invoke/VarHandle" ∧ (parseMethodDescriptor M'.1.desc).map (fun d => d.parameters.length) = some n) ∧ M'.2.2.2.2.cells = 0 ∧ M'.2.2.2.2.slots = 0 ∧ M'.2.2.2.2.frames + 1 ≤ M.2.2.2.2.frames ∧ 8 + (M'.2.2.1 + 11) + M'.2.2.2.2.locals ≤ M.2.2.2.2.locals
theorem blind {E : EN} {h : TH} {av : List Value} : FrameBlind (va_Pc av (fun U => Rp E h U U.heap)) := by
  intro a U g mk q
  refine ⟨q.1, ?_⟩
  have h1 : Rp E h U U.heap := q.2
  exact Rp.moved (u := U) (U := U.calling g mk a) (Vm.Alike.refl U.vm) h1
theorem fix_of {p : Program} {s : State} {m : MethodId} {args : Array Value} {meth : Method} {c : Code} (C : Cx E M p s m args meth c) : CallFix p m c M.2.1 M.2.2.1 s args tw M.1.cls := ⟨C.1, C.2.1, C.2.2.2.1, C.2.2.2.2.1, C.2.2.2.2.2.1⟩
theorem callB_at {M' : MD} {idx n : Nat} {p : Program} {s : State} {m : MethodId} {args : Array Value} {meth : Method} {c : Code} (C : Cx E M p s m args meth c) (ok : okC M M' n) (hcode : Cond.code M'.1 M'.2.1 M'.2.2.1 M'.2.2.2.1 ∈ tw) (hini : Cond.initialized M'.1.cls ∈ tw) (hl : Cond.methodLink M.1.cls idx M'.1 ∈ tw) :
    CallB M.2.2.2.2 s args M.1.cls idx M'.1 M'.2.1 M'.2.2.1 M'.2.2.2.1 (wsOf M') M'.2.2.2.2 0 0 n :=
  callB_of n C.2.2.2.2.2.1 (good_ws hcode) rfl ok.2.2.1 ok.2.2.2.1 (C.2.2.2.2.2.1 _ hini) (C.2.2.2.2.2.1 _ hl) ok.2.1 ⟨ok.2.2.2.2.1, ok.2.2.2.2.2⟩
theorem pre_at {p : Program} {s : State} {m : MethodId} {args : Array Value} {meth : Method} {c : Code} {H : Heap} {locs : List Loc} {As : List Value} (C : Cx E M p s m args meth c) (hP : va_P (eD E) classes (wd E h) H) (hS : va_S (eA E) s.heap H locs) : PreS s H (va_Pc (As.map (V E)) (fun U => Rp E h U U.heap)) (As.map (V E)) :=
  ⟨blind, fun U hU hW => ⟨rfl, Rp_of C hP hS hU hW⟩⟩
/-- an instance method of a class of the list, on the cell rf g i: an int comes back -/
theorem wz_virtI {M' : MD} {idx n ci N g i : Nat} {C0 : String} {T : u_T} {ty : Nat → FieldType} {As : List Value} {Q : Int32 → TH → Prop} (hd : decode M.2.1 pc = .ok (.invokevirtual idx, 3)) (cf : CF ci C0 T N ty) (hC : M'.1.cls = C0) (hg : gTag g = 0 ∧ gCi g = ci) (hi : i < gCnt g) (hn : As.length = n) (hcat : ∀ w ∈ As, w.category = 1)
    (ok : okC M M' n) (hlen : n + 1 ≤ M'.2.2.1) (hw : Cond.code M'.1 M'.2.1 M'.2.2.1 M'.2.2.2.1 ∈ tw ∧ Cond.initialized M'.1.cls ∈ tw ∧ Cond.methodLink M.1.cls idx M'.1 ∈ tw ∧ Cond.instanceMethod M'.1 ∈ tw ∧ Cond.selects M'.1.cls M'.1 M'.1 ∈ tw) (hroom : (st.map fun v => v.category).sum ≤ 8) (hcs : ce ≤ M.2.2.2.2.cells ∧ sl ≤ M.2.2.2.2.slots) {st0 : List Value} (hst : As.reverse ++ rf g i :: st = st0)
    (kc : wi E M' Q 0 (ent (rf g i :: As) M'.2.2.1) [] h) (k : ∀ (r : Int32) (h1 : TH), Q r h1 → wz E M ce sl Z (pc + 3) ls (.int r :: st) h1) : wz E M ce sl Z pc ls st0 h := by
  intro p e s m args below meth c C H locs rl hP hS hl
  subst hst
  subst hC
  have he := wd_g E h hi
  rw [en_obj E h i hg.1, hg.2] at he
  have hM := met_of (As := rf g i :: As) ok.1 (fun w hw => (List.mem_cons.mp hw).elim (fun q => by rw [q]; rfl) (hcat w)) (by rw [List.length_cons, hn]; exact hlen) kc
  have hpre := pre_at (As := rf g i :: As) C hP hS
  have hv : (rf g i :: As).map (V E) = .ref (eB E + (gBase g + i)) :: As.map (V E) := by rw [List.map_cons, V_rf hi]
  rw [hv] at hM hpre
  refine va_calli (va_runV (As := As.map (V E)) (b := eB E + (gBase g + i)) (rest := st.map (V E)) (n := n) (fix_of C) hM ⟨callB_at C ok hw.1 hw.2.1 hw.2.2.1, C.2.2.2.2.2.1 _ hw.2.2.2.1, C.2.2.2.2.2.1 _ hw.2.2.2.2⟩ ⟨hpre.1, va_recv C.2.2.2.2.2.2.2.1 hP cf.1 he, hpre.2⟩ rfl (by rw [List.length_map, hn]) hl.2.1 ?_ (lv_room (by rw [V_sum]; exact hroom)) hd ⟨hcs.1, hcs.2⟩) hS (fun q _ z => z) (fun q z => z) (fun r u t H1 locs1 ht hvm hpost hB hz1 hk1 hS1 => ?_)
  · show List.map (V E) (As.reverse ++ rf g i :: st) = _
    rw [List.map_append, List.map_reverse, List.map_cons, V_rf hi]
  · rw [ht] at hB
    exact k r u hpost p e s m args below meth c C H1 locs1 rl hB.1 hS1 hl
theorem wz_virtV {M' : MD} {idx n ci N g i : Nat} {C0 : String} {T : u_T} {ty : Nat → FieldType} {As : List Value} {Q : TH → Prop} (hd : decode M.2.1 pc = .ok (.invokevirtual idx, 3)) (cf : CF ci C0 T N ty) (hC : M'.1.cls = C0) (hg : gTag g = 0 ∧ gCi g = ci) (hi : i < gCnt g) (hn : As.length = n) (hcat : ∀ w ∈ As, w.category = 1)
    (ok : okC M M' n) (hlen : n + 1 ≤ M'.2.2.1) (hw : Cond.code M'.1 M'.2.1 M'.2.2.1 M'.2.2.2.1 ∈ tw ∧ Cond.initialized M'.1.cls ∈ tw ∧ Cond.methodLink M.1.cls idx M'.1 ∈ tw ∧ Cond.instanceMethod M'.1 ∈ tw ∧ Cond.selects M'.1.cls M'.1 M'.1 ∈ tw) (hroom : (st.map fun v => v.category).sum ≤ 8) (hcs : ce ≤ M.2.2.2.2.cells ∧ sl ≤ M.2.2.2.2.slots) {st0 : List Value} (hst : As.reverse ++ rf g i :: st = st0)
    (kc : wv E M' Q 0 (ent (rf g i :: As) M'.2.2.1) [] h) (k : ∀ (h1 : TH), Q h1 → wz E M ce sl Z (pc + 3) ls st h1) : wz E M ce sl Z pc ls st0 h := by
  intro p e s m args below meth c C H locs rl hP hS hl
  subst hst
  subst hC
  have he := wd_g E h hi
  rw [en_obj E h i hg.1, hg.2] at he
  have hM := met_of (As := rf g i :: As) ok.1 (fun w hw => (List.mem_cons.mp hw).elim (fun q => by rw [q]; rfl) (hcat w)) (by rw [List.length_cons, hn]; exact hlen) kc
  have hpre := pre_at (As := rf g i :: As) C hP hS
  have hv : (rf g i :: As).map (V E) = .ref (eB E + (gBase g + i)) :: As.map (V E) := by rw [List.map_cons, V_rf hi]
  rw [hv] at hM hpre
  refine va_callv (va_runV (As := As.map (V E)) (b := eB E + (gBase g + i)) (rest := st.map (V E)) (n := n) (fix_of C) hM ⟨callB_at C ok hw.1 hw.2.1 hw.2.2.1, C.2.2.2.2.2.1 _ hw.2.2.2.1, C.2.2.2.2.2.1 _ hw.2.2.2.2⟩ ⟨hpre.1, va_recv C.2.2.2.2.2.2.2.1 hP cf.1 he, hpre.2⟩ rfl (by rw [List.length_map, hn]) hl.2.1 ?_ (lv_room (by rw [V_sum]; exact hroom)) hd ⟨hcs.1, hcs.2⟩) hS (fun q _ z => z) (fun q z => z) (fun u t H1 locs1 ht hvm hpost hB hz1 hk1 hS1 => ?_)
  · show List.map (V E) (As.reverse ++ rf g i :: st) = _
    rw [List.map_append, List.map_reverse, List.map_cons, V_rf hi]
  · rw [ht] at hB
    exact k u hpost p e s m args below meth c C H1 locs1 rl hB.1 hS1 hl
/-- a static method -/
theorem wz_statI {M' : MD} {idx n : Nat} {As : List Value} {Q : Int32 → TH → Prop} (hd : decode M.2.1 pc = .ok (.invokestatic idx, 3)) (hn : As.length = n) (hcat : ∀ w ∈ As, w.category = 1)
    (ok : okC M M' n) (hlen : n ≤ M'.2.2.1) (hw : Cond.code M'.1 M'.2.1 M'.2.2.1 M'.2.2.2.1 ∈ tw ∧ Cond.initialized M'.1.cls ∈ tw ∧ Cond.methodLink M.1.cls idx M'.1 ∈ tw ∧ Cond.static M'.1 ∈ tw) (hroom : (st.map fun v => v.category).sum ≤ 8) (hcs : ce ≤ M.2.2.2.2.cells ∧ sl ≤ M.2.2.2.2.slots) {st0 : List Value} (hst : As.reverse ++ st = st0)
    (kc : wi E M' Q 0 (ent As M'.2.2.1) [] h) (k : ∀ (r : Int32) (h1 : TH), Q r h1 → wz E M ce sl Z (pc + 3) ls (.int r :: st) h1) : wz E M ce sl Z pc ls st0 h := by
  intro p e s m args below meth c C H locs rl hP hS hl
  subst hst
  have hM := met_of (As := As) ok.1 hcat (by rw [hn]; exact hlen) kc
  refine va_calli (va_runS (As := As.map (V E)) (rest := st.map (V E)) (n := n) (fix_of C) hM ⟨callB_at C ok hw.1 hw.2.1 hw.2.2.1, C.2.2.2.2.2.1 _ hw.2.2.2⟩ (pre_at C hP hS) rfl (by rw [List.length_map, hn]) hl.2.1 ?_ (lv_room (by rw [V_sum]; exact hroom)) hd ⟨hcs.1, hcs.2⟩) hS (fun q _ z => z) (fun q z => z) (fun r u t H1 locs1 ht hvm hpost hB hz1 hk1 hS1 => ?_)
  · show List.map (V E) (As.reverse ++ st) = _
    rw [List.map_append, List.map_reverse]
  · rw [ht] at hB
    exact k r u hpost p e s m args below meth c C H1 locs1 rl hB.1 hS1 hl
/-- a nest mate's private static method -/
theorem wz_nestI {M' : MD} {idx n : Nat} {host : String} {As : List Value} {Q : Int32 → TH → Prop} (hd : decode M.2.1 pc = .ok (.invokestatic idx, 3)) (hn : As.length = n) (hcat : ∀ w ∈ As, w.category = 1)
    (ok : okC M M' n) (hlen : n ≤ M'.2.2.1) (hw : Cond.code M'.1 M'.2.1 M'.2.2.1 M'.2.2.2.1 ∈ tw ∧ Cond.initialized M'.1.cls ∈ tw ∧ Cond.methodLinkNest M.1.cls idx M'.1 host ∈ tw ∧ Cond.static M'.1 ∈ tw) (hroom : (st.map fun v => v.category).sum ≤ 8) (hcs : ce ≤ M.2.2.2.2.cells ∧ sl ≤ M.2.2.2.2.slots) {st0 : List Value} (hst : As.reverse ++ st = st0)
    (kc : wi E M' Q 0 (ent As M'.2.2.1) [] h) (k : ∀ (r : Int32) (h1 : TH), Q r h1 → wz E M ce sl Z (pc + 3) ls (.int r :: st) h1) : wz E M ce sl Z pc ls st0 h := by
  intro p e s m args below meth c C H locs rl hP hS hl
  subst hst
  have hM := met_of (As := As) ok.1 hcat (by rw [hn]; exact hlen) kc
  have hNw : va_Nw (.methodLinkNest M.1.cls idx M'.1 host) s := by
    have h1 := C.2.2.2.2.2.1 _ hw.2.2.1
    exact h1
  refine va_calli (va_runSN (As := As.map (V E)) (rest := st.map (V E)) (n := n) (host := host) (fix_of C) hM ⟨va_cnB n C.2.2.2.2.2.1 (good_ws hw.1) rfl ok.2.2.1 ok.2.2.2.1 hNw (C.2.2.2.2.2.1 _ hw.2.1) ok.2.1 ⟨ok.2.2.2.2.1, ok.2.2.2.2.2⟩, C.2.2.2.2.2.1 _ hw.2.2.2, trivial⟩ (pre_at C hP hS) rfl (by rw [List.length_map, hn]) hl.2.1 ?_ (lv_room (by rw [V_sum]; exact hroom)) hd ⟨hcs.1, hcs.2⟩) hS (fun q _ z => z) (fun q z => z) (fun r u t H1 locs1 ht hvm hpost hB hz1 hk1 hS1 => ?_)
  · show List.map (V E) (As.reverse ++ st) = _
    rw [List.map_append, List.map_reverse]
  · rw [ht] at hB
    exact k r u hpost p e s m args below meth c C H1 locs1 rl hB.1 hS1 hl
end Calls
end
