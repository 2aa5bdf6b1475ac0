def RX0 : String := "LienTower$Accounts"
def TX0 : u_T := fun k => match k with
  | 0 => ("LienTower$Accounts", "holders", "[I", true)
  | 1 => ("LienTower$Accounts", "purposes", "[I", true)
  | 2 => ("LienTower$Accounts", "left", "[[I", true)
  | 3 => ("LienTower$Accounts", "ins", "I", false)
  | _ => ("LienTower$Accounts", "outs", "I", false)
def tyX0 : Nat → FieldType := fun k => match k with
  | 0 => .array .int
  | 1 => .array .int
  | 2 => .array (.array .int)
  | 3 => .int
  | _ => .int
theorem nmX0 : ∀ a, a < 5 → ∀ b, b < 5 → a ≠ b → (TX0 a).2.1 ≠ (TX0 b).2.1 := by decide +kernel
theorem tyX0_ok : ∀ k, k < 5 → parseFieldDescriptor (TX0 k).2.2.1 = some (tyX0 k) := by decide +kernel
abbrev cX0_init : ByteArray := prog_2_method_1_code
def yX0_init : MethodName := ⟨RX0, "<init>", "()V"⟩
abbrev cX0_receive : ByteArray := prog_2_method_2_code
def yX0_receive : MethodName := ⟨RX0, "receive", "(III)I"⟩
abbrev cX0_balance : ByteArray := prog_2_method_3_code
def yX0_balance : MethodName := ⟨RX0, "balance", "(I)I"⟩
abbrev cX0_leftFor : ByteArray := prog_2_method_4_code
def yX0_leftFor : MethodName := ⟨RX0, "leftFor", "(III)I"⟩
abbrev cX0_spend : ByteArray := prog_2_method_5_code
def yX0_spend : MethodName := ⟨RX0, "spend", "(II)V"⟩
abbrev cX0_spendForward : ByteArray := prog_2_method_6_code
def yX0_spendForward : MethodName := ⟨RX0, "spendForward", "(III)V"⟩
abbrev cX0_take : ByteArray := prog_2_method_7_code
def yX0_take : MethodName := ⟨RX0, "take", "(IIII)I"⟩
def RX1 : String := "LienTower$Book"
def TX1 : u_T := fun k => match k with
  | 0 => ("LienTower$Book", "contracts", "[LLienTower$Contract;", true)
  | 1 => ("LienTower$Book", "count", "I", false)
  | 2 => ("LienTower$Book", "waiverContracts", "[I", true)
  | 3 => ("LienTower$Book", "waiverAmounts", "[I", true)
  | 4 => ("LienTower$Book", "waiverConditions", "[I", true)
  | _ => ("LienTower$Book", "waivers", "I", false)
def tyX1 : Nat → FieldType := fun k => match k with
  | 0 => .array (.object "LienTower$Contract")
  | 1 => .int
  | 2 => .array .int
  | 3 => .array .int
  | 4 => .array .int
  | _ => .int
theorem nmX1 : ∀ a, a < 6 → ∀ b, b < 6 → a ≠ b → (TX1 a).2.1 ≠ (TX1 b).2.1 := by decide +kernel
theorem tyX1_ok : ∀ k, k < 6 → parseFieldDescriptor (TX1 k).2.2.1 = some (tyX1 k) := by decide +kernel
abbrev cX1_init : ByteArray := prog_3_method_1_code
def yX1_init : MethodName := ⟨RX1, "<init>", "()V"⟩
abbrev cX1_has : ByteArray := prog_3_method_2_code
def yX1_has : MethodName := ⟨RX1, "has", "(I)Z"⟩
abbrev cX1_whosePayeeIs : ByteArray := prog_3_method_3_code
def yX1_whosePayeeIs : MethodName := ⟨RX1, "whosePayeeIs", "(I)I"⟩
abbrev cX1_howManyPaidBy : ByteArray := prog_3_method_4_code
def yX1_howManyPaidBy : MethodName := ⟨RX1, "howManyPaidBy", "(I)I"⟩
abbrev cX1_agree : ByteArray := prog_3_method_5_code
def yX1_agree : MethodName := ⟨RX1, "agree", "(III)I"⟩
abbrev cX1_addWaiver : ByteArray := prog_3_method_6_code
def yX1_addWaiver : MethodName := ⟨RX1, "addWaiver", "(III)V"⟩
abbrev cX1_settleWaived : ByteArray := prog_3_method_7_code
def yX1_settleWaived : MethodName := ⟨RX1, "settleWaived", "(I)V"⟩
abbrev cX1_firstSpade : ByteArray := prog_3_method_8_code
def yX1_firstSpade : MethodName := ⟨RX1, "firstSpade", "(I)I"⟩
abbrev cX1_boundOf : ByteArray := prog_3_method_9_code
def yX1_boundOf : MethodName := ⟨RX1, "boundOf", "(LLienTower$Contract;Z)I"⟩
abbrev cX1_fewestSigners : ByteArray := prog_3_method_10_code
def yX1_fewestSigners : MethodName := ⟨RX1, "fewestSigners", "(III)I"⟩
abbrev cX1_openOfSet : ByteArray := prog_3_method_11_code
def yX1_openOfSet : MethodName := ⟨RX1, "openOfSet", "(I)I"⟩
def RX2 : String := "LienTower$Claim"
def TX2 : u_T := fun k => match k with
  | 0 => ("LienTower$Claim", "contract", "I", false)
  | 1 => ("LienTower$Claim", "amount", "I", false)
  | 2 => ("LienTower$Claim", "filedDay", "I", false)
  | 3 => ("LienTower$Claim", "suedDay", "I", false)
  | _ => ("LienTower$Claim", "bonded", "I", false)
def tyX2 : Nat → FieldType := fun k => match k with
  | 0 => .int
  | 1 => .int
  | 2 => .int
  | 3 => .int
  | _ => .int
theorem nmX2 : ∀ a, a < 5 → ∀ b, b < 5 → a ≠ b → (TX2 a).2.1 ≠ (TX2 b).2.1 := by decide +kernel
theorem tyX2_ok : ∀ k, k < 5 → parseFieldDescriptor (TX2 k).2.2.1 = some (tyX2 k) := by decide +kernel
abbrev cX2_init : ByteArray := prog_4_method_1_code
def yX2_init : MethodName := ⟨RX2, "<init>", "()V"⟩
def RX3 : String := "LienTower$Contract"
def TX3 : u_T := fun k => match k with
  | 0 => ("LienTower$Contract", "payer", "I", false)
  | 1 => ("LienTower$Contract", "payee", "I", false)
  | 2 => ("LienTower$Contract", "upper", "I", false)
  | 3 => ("LienTower$Contract", "uppers", "I", false)
  | 4 => ("LienTower$Contract", "degree", "I", false)
  | 5 => ("LienTower$Contract", "sum", "I", false)
  | 6 => ("LienTower$Contract", "paid", "I", false)
  | 7 => ("LienTower$Contract", "waived", "I", false)
  | 8 => ("LienTower$Contract", "noticeDay", "I", false)
  | 9 => ("LienTower$Contract", "beganFirst", "I", false)
  | 10 => ("LienTower$Contract", "beganLast", "I", false)
  | 11 => ("LienTower$Contract", "endedFirst", "I", false)
  | _ => ("LienTower$Contract", "endedLast", "I", false)
def tyX3 : Nat → FieldType := fun k => match k with
  | 0 => .int
  | 1 => .int
  | 2 => .int
  | 3 => .int
  | 4 => .int
  | 5 => .int
  | 6 => .int
  | 7 => .int
  | 8 => .int
  | 9 => .int
  | 10 => .int
  | 11 => .int
  | _ => .int
theorem nmX3 : ∀ a, a < 13 → ∀ b, b < 13 → a ≠ b → (TX3 a).2.1 ≠ (TX3 b).2.1 := by decide +kernel
theorem tyX3_ok : ∀ k, k < 13 → parseFieldDescriptor (TX3 k).2.2.1 = some (tyX3 k) := by decide +kernel
abbrev cX3_init : ByteArray := prog_5_method_1_code
def yX3_init : MethodName := ⟨RX3, "<init>", "()V"⟩
abbrev cX3_owing : ByteArray := prog_5_method_2_code
def yX3_owing : MethodName := ⟨RX3, "owing", "()I"⟩
abbrev cX3_open : ByteArray := prog_5_method_3_code
def yX3_open : MethodName := ⟨RX3, "open", "()I"⟩
abbrev cX3_hasBegun : ByteArray := prog_5_method_4_code
def yX3_hasBegun : MethodName := ⟨RX3, "hasBegun", "()Z"⟩
abbrev cX3_hasEnded : ByteArray := prog_5_method_5_code
def yX3_hasEnded : MethodName := ⟨RX3, "hasEnded", "()Z"⟩
abbrev cX3_isBelow : ByteArray := prog_5_method_6_code
def yX3_isBelow : MethodName := ⟨RX3, "isBelow", "(I)Z"⟩
abbrev cX3_isSideOf : ByteArray := prog_5_method_7_code
def yX3_isSideOf : MethodName := ⟨RX3, "isSideOf", "(I)Z"⟩
abbrev cX3_detail : ByteArray := prog_5_method_8_code
def yX3_detail : MethodName := ⟨RX3, "detail", "(I)I"⟩
def RX4 : String := "LienTower$Docket"
def TX4 : u_T := fun k => match k with
  | 0 => ("LienTower$Docket", "book", "LLienTower$Book;", true)
  | 1 => ("LienTower$Docket", "laws", "[I", true)
  | 2 => ("LienTower$Docket", "claims", "[LLienTower$Claim;", true)
  | 3 => ("LienTower$Docket", "count", "I", false)
  | 4 => ("LienTower$Docket", "verdicts", "[I", true)
  | 5 => ("LienTower$Docket", "worths", "[I", true)
  | _ => ("LienTower$Docket", "boundsLeft", "[I", true)
def tyX4 : Nat → FieldType := fun k => match k with
  | 0 => .object "LienTower$Book"
  | 1 => .array .int
  | 2 => .array (.object "LienTower$Claim")
  | 3 => .int
  | 4 => .array .int
  | 5 => .array .int
  | _ => .array .int
theorem nmX4 : ∀ a, a < 7 → ∀ b, b < 7 → a ≠ b → (TX4 a).2.1 ≠ (TX4 b).2.1 := by decide +kernel
theorem tyX4_ok : ∀ k, k < 7 → parseFieldDescriptor (TX4 k).2.2.1 = some (tyX4 k) := by decide +kernel
abbrev cX4_init : ByteArray := prog_6_method_1_code
def yX4_init : MethodName := ⟨RX4, "<init>", "(LLienTower$Book;)V"⟩
abbrev cX4_has : ByteArray := prog_6_method_2_code
def yX4_has : MethodName := ⟨RX4, "has", "(I)Z"⟩
abbrev cX4_enter : ByteArray := prog_6_method_3_code
def yX4_enter : MethodName := ⟨RX4, "enter", "(III)I"⟩
abbrev cX4_barOn : ByteArray := prog_6_method_4_code
def yX4_barOn : MethodName := ⟨RX4, "barOn", "(II)I"⟩
abbrev cX4_verdictOfBar : ByteArray := prog_6_method_5_code
def yX4_verdictOfBar : MethodName := ⟨RX4, "verdictOfBar", "(I)I"⟩
abbrev cX4_noticeBar : ByteArray := prog_6_method_6_code
def yX4_noticeBar : MethodName := ⟨RX4, "noticeBar", "(LLienTower$Contract;)I"⟩
abbrev cX4_lateness : ByteArray := prog_6_method_7_code
def yX4_lateness : MethodName := ⟨RX4, "lateness", "(IIII)I"⟩
abbrev cX4_isSuitLost : ByteArray := prog_6_method_8_code
def yX4_isSuitLost : MethodName := ⟨RX4, "isSuitLost", "(LLienTower$Claim;I)Z"⟩
abbrev cX4_weigh : ByteArray := prog_6_method_9_code
def yX4_weigh : MethodName := ⟨RX4, "weigh", "(I)V"⟩
abbrev cX4_worthBelow : ByteArray := prog_6_method_10_code
def yX4_worthBelow : MethodName := ⟨RX4, "worthBelow", "(II)I"⟩
abbrev cX4_howManyGood : ByteArray := prog_6_method_11_code
def yX4_howManyGood : MethodName := ⟨RX4, "howManyGood", "(I)I"⟩
abbrev cX4_rankDay : ByteArray := prog_6_method_12_code
def yX4_rankDay : MethodName := ⟨RX4, "rankDay", "(II)I"⟩
def RX5 : String := "LienTower$Land"
def TX5 : u_T := fun k => match k with
  | 0 => ("LienTower$Land", "docket", "LLienTower$Docket;", true)
  | 1 => ("LienTower$Land", "loanSums", "[I", true)
  | 2 => ("LienTower$Land", "loanDays", "[I", true)
  | 3 => ("LienTower$Land", "loans", "I", false)
  | 4 => ("LienTower$Land", "ranks", "[I", true)
  | 5 => ("LienTower$Land", "worths", "[I", true)
  | 6 => ("LienTower$Land", "shares", "[I", true)
  | _ => ("LienTower$Land", "left", "I", false)
def tyX5 : Nat → FieldType := fun k => match k with
  | 0 => .object "LienTower$Docket"
  | 1 => .array .int
  | 2 => .array .int
  | 3 => .int
  | 4 => .array .int
  | 5 => .array .int
  | 6 => .array .int
  | _ => .int
theorem nmX5 : ∀ a, a < 8 → ∀ b, b < 8 → a ≠ b → (TX5 a).2.1 ≠ (TX5 b).2.1 := by decide +kernel
theorem tyX5_ok : ∀ k, k < 8 → parseFieldDescriptor (TX5 k).2.2.1 = some (tyX5 k) := by decide +kernel
abbrev cX5_init : ByteArray := prog_7_method_1_code
def yX5_init : MethodName := ⟨RX5, "<init>", "(LLienTower$Docket;)V"⟩
abbrev cX5_record : ByteArray := prog_7_method_2_code
def yX5_record : MethodName := ⟨RX5, "record", "(II)I"⟩
abbrev cX5_loanShare : ByteArray := prog_7_method_3_code
def yX5_loanShare : MethodName := ⟨RX5, "loanShare", "(I)I"⟩
abbrev cX5_claimShare : ByteArray := prog_7_method_4_code
def yX5_claimShare : MethodName := ⟨RX5, "claimShare", "(I)I"⟩
abbrev cX5_sell : ByteArray := prog_7_method_5_code
def yX5_sell : MethodName := ⟨RX5, "sell", "(III)V"⟩
abbrev cX5_enterLoans : ByteArray := prog_7_method_6_code
def yX5_enterLoans : MethodName := ⟨RX5, "enterLoans", "()V"⟩
abbrev cX5_enterClaims : ByteArray := prog_7_method_7_code
def yX5_enterClaims : MethodName := ⟨RX5, "enterClaims", "(II)V"⟩
abbrev cX5_rankAfter : ByteArray := prog_7_method_8_code
def yX5_rankAfter : MethodName := ⟨RX5, "rankAfter", "(I)I"⟩
abbrev cX5_payRank : ByteArray := prog_7_method_9_code
def yX5_payRank : MethodName := ⟨RX5, "payRank", "(I)V"⟩
abbrev cX5_payWhole : ByteArray := prog_7_method_10_code
def yX5_payWhole : MethodName := ⟨RX5, "payWhole", "(I)V"⟩
abbrev cX5_shareLeft : ByteArray := prog_7_method_11_code
def yX5_shareLeft : MethodName := ⟨RX5, "shareLeft", "(II)V"⟩
def RX6 : String := "LienTower"
def TX6 : u_T := fun k => match k with
  | 0 => ("LienTower", "kinds", "[I", true)
  | 1 => ("LienTower", "parties", "I", false)
  | 2 => ("LienTower", "book", "LLienTower$Book;", true)
  | 3 => ("LienTower", "docket", "LLienTower$Docket;", true)
  | 4 => ("LienTower", "land", "LLienTower$Land;", true)
  | 5 => ("LienTower", "accounts", "LLienTower$Accounts;", true)
  | 6 => ("LienTower", "today", "I", false)
  | 7 => ("LienTower", "waiting", "[I", true)
  | 8 => ("LienTower", "waitingCount", "I", false)
  | _ => ("LienTower", "findings", "[I", true)
def tyX6 : Nat → FieldType := fun k => match k with
  | 0 => .array .int
  | 1 => .int
  | 2 => .object "LienTower$Book"
  | 3 => .object "LienTower$Docket"
  | 4 => .object "LienTower$Land"
  | 5 => .object "LienTower$Accounts"
  | 6 => .int
  | 7 => .array .int
  | 8 => .int
  | _ => .array .int
theorem nmX6 : ∀ a, a < 10 → ∀ b, b < 10 → a ≠ b → (TX6 a).2.1 ≠ (TX6 b).2.1 := by decide +kernel
theorem tyX6_ok : ∀ k, k < 10 → parseFieldDescriptor (TX6 k).2.2.1 = some (tyX6 k) := by decide +kernel
abbrev cX6_init : ByteArray := prog_1_method_1_code
def yX6_init : MethodName := ⟨RX6, "<init>", "()V"⟩
abbrev cX6_party : ByteArray := prog_1_method_2_code
def yX6_party : MethodName := ⟨RX6, "party", "(I)I"⟩
abbrev cX6_as : ByteArray := prog_1_method_3_code
def yX6_as : MethodName := ⟨RX6, "as", "(II)I"⟩
abbrev cX6_contract : ByteArray := prog_1_method_4_code
def yX6_contract : MethodName := ⟨RX6, "contract", "(III)I"⟩
abbrev cX6_extra : ByteArray := prog_1_method_5_code
def yX6_extra : MethodName := ⟨RX6, "extra", "(II)I"⟩
abbrev cX6_began : ByteArray := prog_1_method_6_code
def yX6_began : MethodName := ⟨RX6, "began", "(III)I"⟩
abbrev cX6_ended : ByteArray := prog_1_method_7_code
def yX6_ended : MethodName := ⟨RX6, "ended", "(III)I"⟩
abbrev cX6_notice : ByteArray := prog_1_method_8_code
def yX6_notice : MethodName := ⟨RX6, "notice", "(I)I"⟩
abbrev cX6_pay : ByteArray := prog_1_method_9_code
def yX6_pay : MethodName := ⟨RX6, "pay", "(II)I"⟩
abbrev cX6_waive : ByteArray := prog_1_method_10_code
def yX6_waive : MethodName := ⟨RX6, "waive", "(III)I"⟩
abbrev cX6_of : ByteArray := prog_1_method_11_code
def yX6_of : MethodName := ⟨RX6, "of", "(II)I"⟩
abbrev cX6_day : ByteArray := prog_1_method_12_code
def yX6_day : MethodName := ⟨RX6, "day", "(I)I"⟩
abbrev cX6_law : ByteArray := prog_1_method_13_code
def yX6_law : MethodName := ⟨RX6, "law", "(II)I"⟩
abbrev cX6_file : ByteArray := prog_1_method_14_code
def yX6_file : MethodName := ⟨RX6, "file", "(II)I"⟩
abbrev cX6_sue : ByteArray := prog_1_method_15_code
def yX6_sue : MethodName := ⟨RX6, "sue", "(I)I"⟩
abbrev cX6_bond : ByteArray := prog_1_method_16_code
def yX6_bond : MethodName := ⟨RX6, "bond", "(II)I"⟩
abbrev cX6_judge : ByteArray := prog_1_method_17_code
def yX6_judge : MethodName := ⟨RX6, "judge", "(II)I"⟩
abbrev cX6_bar : ByteArray := prog_1_method_18_code
def yX6_bar : MethodName := ⟨RX6, "bar", "(II)I"⟩
abbrev cX6_worth : ByteArray := prog_1_method_19_code
def yX6_worth : MethodName := ⟨RX6, "worth", "(II)I"⟩
abbrev cX6_rank : ByteArray := prog_1_method_20_code
def yX6_rank : MethodName := ⟨RX6, "rank", "(II)I"⟩
abbrev cX6_loan : ByteArray := prog_1_method_21_code
def yX6_loan : MethodName := ⟨RX6, "loan", "(II)I"⟩
abbrev cX6_sale : ByteArray := prog_1_method_22_code
def yX6_sale : MethodName := ⟨RX6, "sale", "(IIII)I"⟩
abbrev cX6_twice : ByteArray := prog_1_method_23_code
def yX6_twice : MethodName := ⟨RX6, "twice", "(I)I"⟩
abbrev cX6_sign : ByteArray := prog_1_method_24_code
def yX6_sign : MethodName := ⟨RX6, "sign", "(III)I"⟩
abbrev cX6_in : ByteArray := prog_1_method_25_code
def yX6_in : MethodName := ⟨RX6, "in", "(III)I"⟩
abbrev cX6_out : ByteArray := prog_1_method_26_code
def yX6_out : MethodName := ⟨RX6, "out", "(II)I"⟩
abbrev cX6_trace : ByteArray := prog_1_method_27_code
def yX6_trace : MethodName := ⟨RX6, "trace", "(II)I"⟩
abbrev cX6_held : ByteArray := prog_1_method_28_code
def yX6_held : MethodName := ⟨RX6, "held", "(III)I"⟩
abbrev cX6_tell : ByteArray := prog_1_method_29_code
def yX6_tell : MethodName := ⟨RX6, "tell", "(I)I"⟩
abbrev cX6_check : ByteArray := prog_1_method_30_code
def yX6_check : MethodName := ⟨RX6, "check", "(I)I"⟩
abbrev cX6_count : ByteArray := prog_1_method_31_code
def yX6_count : MethodName := ⟨RX6, "count", "(I)I"⟩
abbrev cX6_found : ByteArray := prog_1_method_32_code
def yX6_found : MethodName := ⟨RX6, "found", "(I)I"⟩
abbrev cX6_finding : ByteArray := prog_1_method_33_code
def yX6_finding : MethodName := ⟨RX6, "finding", "(I)I"⟩
abbrev cX6_within : ByteArray := prog_1_method_34_code
def yX6_within : MethodName := ⟨RX6, "within", "(III)Z"⟩
abbrev cX6_isKindNumber : ByteArray := prog_1_method_35_code
def yX6_isKindNumber : MethodName := ⟨RX6, "isKindNumber", "(I)Z"⟩
abbrev cX6_isParty : ByteArray := prog_1_method_36_code
def yX6_isParty : MethodName := ⟨RX6, "isParty", "(I)Z"⟩
abbrev cX6_isOfKind : ByteArray := prog_1_method_37_code
def yX6_isOfKind : MethodName := ⟨RX6, "isOfKind", "(II)Z"⟩
abbrev cX6_isSpanUpToToday : ByteArray := prog_1_method_38_code
def yX6_isSpanUpToToday : MethodName := ⟨RX6, "isSpanUpToToday", "(II)Z"⟩
abbrev cX6_isJudgeable : ByteArray := prog_1_method_39_code
def yX6_isJudgeable : MethodName := ⟨RX6, "isJudgeable", "(II)Z"⟩
abbrev cX6_isSaleCoin : ByteArray := prog_1_method_40_code
def yX6_isSaleCoin : MethodName := ⟨RX6, "isSaleCoin", "(I)Z"⟩
abbrev cX6_isSharer : ByteArray := prog_1_method_41_code
def yX6_isSharer : MethodName := ⟨RX6, "isSharer", "(II)Z"⟩
abbrev cX6_isPurpose : ByteArray := prog_1_method_42_code
def yX6_isPurpose : MethodName := ⟨RX6, "isPurpose", "(I)Z"⟩
def RX7 : String := "LienTowerModel"
def TX7 : u_T := fun k => match k with
  | 0 => ("LienTowerModel", "parties", "I", false)
  | 1 => ("LienTowerModel", "contracts", "I", false)
  | 2 => ("LienTowerModel", "claims", "I", false)
  | 3 => ("LienTowerModel", "loans", "I", false)
  | 4 => ("LienTowerModel", "waivers", "I", false)
  | 5 => ("LienTowerModel", "ins", "I", false)
  | 6 => ("LienTowerModel", "outs", "I", false)
  | 7 => ("LienTowerModel", "events", "I", false)
  | 8 => ("LienTowerModel", "today", "I", false)
  | 9 => ("LienTowerModel", "waiting", "I", false)
  | 10 => ("LienTowerModel", "kind", "[I", true)
  | 11 => ("LienTowerModel", "payer", "[I", true)
  | 12 => ("LienTowerModel", "payee", "[I", true)
  | 13 => ("LienTowerModel", "sum", "[I", true)
  | 14 => ("LienTowerModel", "paid", "[I", true)
  | 15 => ("LienTowerModel", "noticed", "[I", true)
  | 16 => ("LienTowerModel", "beganFirst", "[I", true)
  | 17 => ("LienTowerModel", "beganLast", "[I", true)
  | 18 => ("LienTowerModel", "endedFirst", "[I", true)
  | 19 => ("LienTowerModel", "endedLast", "[I", true)
  | 20 => ("LienTowerModel", "waivedOf", "[I", true)
  | 21 => ("LienTowerModel", "waivedUpTo", "[I", true)
  | 22 => ("LienTowerModel", "waivedIf", "[Z", true)
  | 23 => ("LienTowerModel", "laws", "[I", true)
  | 24 => ("LienTowerModel", "claimOf", "[I", true)
  | 25 => ("LienTowerModel", "amount", "[I", true)
  | 26 => ("LienTowerModel", "filed", "[I", true)
  | 27 => ("LienTowerModel", "sued", "[I", true)
  | 28 => ("LienTowerModel", "bonded", "[Z", true)
  | 29 => ("LienTowerModel", "loanSum", "[I", true)
  | 30 => ("LienTowerModel", "recorded", "[I", true)
  | 31 => ("LienTowerModel", "inParty", "[I", true)
  | 32 => ("LienTowerModel", "inFor", "[I", true)
  | 33 => ("LienTowerModel", "inCoin", "[I", true)
  | 34 => ("LienTowerModel", "outParty", "[I", true)
  | 35 => ("LienTowerModel", "outCoin", "[I", true)
  | 36 => ("LienTowerModel", "event", "[I", true)
  | 37 => ("LienTowerModel", "numbers", "[I", true)
  | 38 => ("LienTowerModel", "finds", "[I", true)
  | 39 => ("LienTowerModel", "takes", "[Z", true)
  | 40 => ("LienTowerModel", "ranks", "[I", true)
  | 41 => ("LienTowerModel", "worths", "[I", true)
  | 42 => ("LienTowerModel", "has", "[I", true)
  | 43 => ("LienTowerModel", "owners", "I", false)
  | 44 => ("LienTowerModel", "opens", "[I", true)
  | _ => ("LienTowerModel", "rest", "[I", true)
def tyX7 : Nat → FieldType := fun k => match k with
  | 0 => .int
  | 1 => .int
  | 2 => .int
  | 3 => .int
  | 4 => .int
  | 5 => .int
  | 6 => .int
  | 7 => .int
  | 8 => .int
  | 9 => .int
  | 10 => .array .int
  | 11 => .array .int
  | 12 => .array .int
  | 13 => .array .int
  | 14 => .array .int
  | 15 => .array .int
  | 16 => .array .int
  | 17 => .array .int
  | 18 => .array .int
  | 19 => .array .int
  | 20 => .array .int
  | 21 => .array .int
  | 22 => .array .boolean
  | 23 => .array .int
  | 24 => .array .int
  | 25 => .array .int
  | 26 => .array .int
  | 27 => .array .int
  | 28 => .array .boolean
  | 29 => .array .int
  | 30 => .array .int
  | 31 => .array .int
  | 32 => .array .int
  | 33 => .array .int
  | 34 => .array .int
  | 35 => .array .int
  | 36 => .array .int
  | 37 => .array .int
  | 38 => .array .int
  | 39 => .array .boolean
  | 40 => .array .int
  | 41 => .array .int
  | 42 => .array .int
  | 43 => .int
  | 44 => .array .int
  | _ => .array .int
theorem nmX7 : ∀ a, a < 46 → ∀ b, b < 46 → a ≠ b → (TX7 a).2.1 ≠ (TX7 b).2.1 := by decide +kernel
theorem tyX7_ok : ∀ k, k < 46 → parseFieldDescriptor (TX7 k).2.2.1 = some (tyX7 k) := by decide +kernel
abbrev cX7_init : ByteArray := prog_9_method_1_code
def yX7_init : MethodName := ⟨RX7, "<init>", "()V"⟩
abbrev cX7_isIn : ByteArray := prog_9_method_3_code
def yX7_isIn : MethodName := ⟨RX7, "isIn", "(III)Z"⟩
abbrev cX7_finds : ByteArray := prog_9_method_4_code
def yX7_finds : MethodName := ⟨RX7, "finds", "(I)I"⟩
abbrev cX7_isParty : ByteArray := prog_9_method_5_code
def yX7_isParty : MethodName := ⟨RX7, "isParty", "(I)Z"⟩
abbrev cX7_isContract : ByteArray := prog_9_method_6_code
def yX7_isContract : MethodName := ⟨RX7, "isContract", "(I)Z"⟩
abbrev cX7_isClaim : ByteArray := prog_9_method_7_code
def yX7_isClaim : MethodName := ⟨RX7, "isClaim", "(I)Z"⟩
abbrev cX7_isUnder : ByteArray := prog_9_method_8_code
def yX7_isUnder : MethodName := ⟨RX7, "isUnder", "(II)Z"⟩
abbrev cX7_party : ByteArray := prog_9_method_9_code
def yX7_party : MethodName := ⟨RX7, "party", "(I)I"⟩
abbrev cX7_as : ByteArray := prog_9_method_10_code
def yX7_as : MethodName := ⟨RX7, "as", "(II)I"⟩
abbrev cX7_contractTo : ByteArray := prog_9_method_11_code
def yX7_contractTo : MethodName := ⟨RX7, "contractTo", "(I)I"⟩
abbrev cX7_contract : ByteArray := prog_9_method_12_code
def yX7_contract : MethodName := ⟨RX7, "contract", "(III)I"⟩
abbrev cX7_extra : ByteArray := prog_9_method_13_code
def yX7_extra : MethodName := ⟨RX7, "extra", "(II)I"⟩
abbrev cX7_isSpan : ByteArray := prog_9_method_14_code
def yX7_isSpan : MethodName := ⟨RX7, "isSpan", "(II)Z"⟩
abbrev cX7_began : ByteArray := prog_9_method_15_code
def yX7_began : MethodName := ⟨RX7, "began", "(III)I"⟩
abbrev cX7_ended : ByteArray := prog_9_method_16_code
def yX7_ended : MethodName := ⟨RX7, "ended", "(III)I"⟩
abbrev cX7_notice : ByteArray := prog_9_method_17_code
def yX7_notice : MethodName := ⟨RX7, "notice", "(I)I"⟩
abbrev cX7_owing : ByteArray := prog_9_method_18_code
def yX7_owing : MethodName := ⟨RX7, "owing", "(I)I"⟩
abbrev cX7_pay : ByteArray := prog_9_method_19_code
def yX7_pay : MethodName := ⟨RX7, "pay", "(II)I"⟩
abbrev cX7_waived : ByteArray := prog_9_method_20_code
def yX7_waived : MethodName := ⟨RX7, "waived", "(I)I"⟩
abbrev cX7_waive : ByteArray := prog_9_method_21_code
def yX7_waive : MethodName := ⟨RX7, "waive", "(III)I"⟩
abbrev cX7_open : ByteArray := prog_9_method_22_code
def yX7_open : MethodName := ⟨RX7, "open", "(I)I"⟩
abbrev cX7_upper : ByteArray := prog_9_method_23_code
def yX7_upper : MethodName := ⟨RX7, "upper", "(I)I"⟩
abbrev cX7_degree : ByteArray := prog_9_method_24_code
def yX7_degree : MethodName := ⟨RX7, "degree", "(I)I"⟩
abbrev cX7_of : ByteArray := prog_9_method_25_code
def yX7_of : MethodName := ⟨RX7, "of", "(II)I"⟩
abbrev cX7_day : ByteArray := prog_9_method_26_code
def yX7_day : MethodName := ⟨RX7, "day", "(I)I"⟩
abbrev cX7_mostOf : ByteArray := prog_9_method_27_code
def yX7_mostOf : MethodName := ⟨RX7, "mostOf", "(I)I"⟩
abbrev cX7_law : ByteArray := prog_9_method_28_code
def yX7_law : MethodName := ⟨RX7, "law", "(II)I"⟩
abbrev cX7_file : ByteArray := prog_9_method_29_code
def yX7_file : MethodName := ⟨RX7, "file", "(II)I"⟩
abbrev cX7_sue : ByteArray := prog_9_method_30_code
def yX7_sue : MethodName := ⟨RX7, "sue", "(I)I"⟩
abbrev cX7_bond : ByteArray := prog_9_method_31_code
def yX7_bond : MethodName := ⟨RX7, "bond", "(II)I"⟩
abbrev cX7_late : ByteArray := prog_9_method_32_code
def yX7_late : MethodName := ⟨RX7, "late", "(IIII)I"⟩
abbrev cX7_barred : ByteArray := prog_9_method_33_code
def yX7_barred : MethodName := ⟨RX7, "barred", "(III)I"⟩
abbrev cX7_firstBar : ByteArray := prog_9_method_34_code
def yX7_firstBar : MethodName := ⟨RX7, "firstBar", "(III)I"⟩
abbrev cX7_judged : ByteArray := prog_9_method_35_code
def yX7_judged : MethodName := ⟨RX7, "judged", "(II)I"⟩
abbrev cX7_isJudgeable : ByteArray := prog_9_method_36_code
def yX7_isJudgeable : MethodName := ⟨RX7, "isJudgeable", "(II)Z"⟩
abbrev cX7_judge : ByteArray := prog_9_method_37_code
def yX7_judge : MethodName := ⟨RX7, "judge", "(II)I"⟩
abbrev cX7_bar : ByteArray := prog_9_method_38_code
def yX7_bar : MethodName := ⟨RX7, "bar", "(II)I"⟩
abbrev cX7_bound : ByteArray := prog_9_method_39_code
def yX7_bound : MethodName := ⟨RX7, "bound", "(I)I"⟩
abbrev cX7_worthOf : ByteArray := prog_9_method_40_code
def yX7_worthOf : MethodName := ⟨RX7, "worthOf", "(II)I"⟩
abbrev cX7_worth : ByteArray := prog_9_method_41_code
def yX7_worth : MethodName := ⟨RX7, "worth", "(II)I"⟩
abbrev cX7_rankOf : ByteArray := prog_9_method_42_code
def yX7_rankOf : MethodName := ⟨RX7, "rankOf", "(II)I"⟩
abbrev cX7_rank : ByteArray := prog_9_method_43_code
def yX7_rank : MethodName := ⟨RX7, "rank", "(II)I"⟩
abbrev cX7_loan : ByteArray := prog_9_method_44_code
def yX7_loan : MethodName := ⟨RX7, "loan", "(II)I"⟩
abbrev cX7_lines : ByteArray := prog_9_method_45_code
def yX7_lines : MethodName := ⟨RX7, "lines", "(I)V"⟩
abbrev cX7_nextRank : ByteArray := prog_9_method_46_code
def yX7_nextRank : MethodName := ⟨RX7, "nextRank", "(I)I"⟩
abbrev cX7_sell : ByteArray := prog_9_method_47_code
def yX7_sell : MethodName := ⟨RX7, "sell", "(II)V"⟩
abbrev cX7_sale : ByteArray := prog_9_method_48_code
def yX7_sale : MethodName := ⟨RX7, "sale", "(IIII)I"⟩
abbrev cX7_isBelow : ByteArray := prog_9_method_49_code
def yX7_isBelow : MethodName := ⟨RX7, "isBelow", "(II)Z"⟩
abbrev cX7_twice : ByteArray := prog_9_method_50_code
def yX7_twice : MethodName := ⟨RX7, "twice", "(I)I"⟩
abbrev cX7_bits : ByteArray := prog_9_method_51_code
def yX7_bits : MethodName := ⟨RX7, "bits", "(I)I"⟩
abbrev cX7_sign : ByteArray := prog_9_method_52_code
def yX7_sign : MethodName := ⟨RX7, "sign", "(III)I"⟩
abbrev cX7_isBuilder : ByteArray := prog_9_method_53_code
def yX7_isBuilder : MethodName := ⟨RX7, "isBuilder", "(I)Z"⟩
abbrev cX7_in : ByteArray := prog_9_method_54_code
def yX7_in : MethodName := ⟨RX7, "in", "(III)I"⟩
abbrev cX7_account : ByteArray := prog_9_method_55_code
def yX7_account : MethodName := ⟨RX7, "account", "(I)I"⟩
abbrev cX7_out : ByteArray := prog_9_method_56_code
def yX7_out : MethodName := ⟨RX7, "out", "(II)I"⟩
abbrev cX7_goes : ByteArray := prog_9_method_57_code
def yX7_goes : MethodName := ⟨RX7, "goes", "(IIIZI)I"⟩
abbrev cX7_traces : ByteArray := prog_9_method_58_code
def yX7_traces : MethodName := ⟨RX7, "traces", "(I)V"⟩
abbrev cX7_trace : ByteArray := prog_9_method_59_code
def yX7_trace : MethodName := ⟨RX7, "trace", "(II)I"⟩
abbrev cX7_held : ByteArray := prog_9_method_60_code
def yX7_held : MethodName := ⟨RX7, "held", "(III)I"⟩
abbrev cX7_tell : ByteArray := prog_9_method_61_code
def yX7_tell : MethodName := ⟨RX7, "tell", "(I)I"⟩
abbrev cX7_check : ByteArray := prog_9_method_62_code
def yX7_check : MethodName := ⟨RX7, "check", "(I)I"⟩
abbrev cX7_count : ByteArray := prog_9_method_63_code
def yX7_count : MethodName := ⟨RX7, "count", "(I)I"⟩
abbrev cX7_found : ByteArray := prog_9_method_64_code
def yX7_found : MethodName := ⟨RX7, "found", "(I)I"⟩
def RJ6 : String := "java/lang/Integer"
def TJ6 : u_T := fun k => match k with
  | _ => ("", "", "", false)
def tyJ6 : Nat → FieldType := fun k => match k with
  | _ => .int
theorem nmJ6 : ∀ a, a < 0 → ∀ b, b < 0 → a ≠ b → (TJ6 a).2.1 ≠ (TJ6 b).2.1 := by decide +kernel
theorem tyJ6_ok : ∀ k, k < 0 → parseFieldDescriptor (TJ6 k).2.2.1 = some (tyJ6 k) := by decide +kernel
abbrev cJ6_bitCount_0f7a4 : ByteArray := prog_10_method_49_code
def yJ6_bitCount_0f7a4 : MethodName := ⟨RJ6, "bitCount", "(I)I"⟩
def RJ9 : String := "java/lang/Math"
def TJ9 : u_T := fun k => match k with
  | _ => ("", "", "", false)
def tyJ9 : Nat → FieldType := fun k => match k with
  | _ => .int
theorem nmJ9 : ∀ a, a < 0 → ∀ b, b < 0 → a ≠ b → (TJ9 a).2.1 ≠ (TJ9 b).2.1 := by decide +kernel
theorem tyJ9_ok : ∀ k, k < 0 → parseFieldDescriptor (TJ9 k).2.2.1 = some (tyJ9 k) := by decide +kernel
abbrev cJ9_max_7cf53 : ByteArray := prog_11_method_65_code
def yJ9_max_7cf53 : MethodName := ⟨RJ9, "max", "(II)I"⟩
abbrev cJ9_min_7cf53 : ByteArray := prog_11_method_69_code
def yJ9_min_7cf53 : MethodName := ⟨RJ9, "min", "(II)I"⟩
def RL : String := "LienTowerLaw"
abbrev cL_law : ByteArray := code
def yL_law : MethodName := ⟨RL, "law", "([I)Z"⟩
abbrev classes : List vw_C := [(RX0, TX0, 5), (RX1, TX1, 6), (RX2, TX2, 5), (RX3, TX3, 13), (RX4, TX4, 7), (RX5, TX5, 8), (RX6, TX6, 10), (RX7, TX7, 46)]
def tw : List Cond := lw_tbl.filter goodWord
theorem tbl_at {w : Cond} (i : Nat) (h : tables_1[i]? = some w) (hg : goodWord w = true) : w ∈ tw := List.mem_filter.mpr ⟨List.mem_append_right _ (List.mem_of_getElem? h), hg⟩
theorem tbl_sel {w : Cond} (i : Nat) (h : (k2_sels lw_privs)[i]? = some w) (hg : goodWord w = true) : w ∈ tw := List.mem_filter.mpr ⟨List.mem_append_left _ (List.mem_of_getElem? h), hg⟩
theorem tbl_good : ∀ w ∈ tw, goodWord w = true := fun w h => (List.mem_filter.mp h).2
theorem tbl_in : ∀ w ∈ tw, w ∈ lw_tbl := fun w h => (List.mem_filter.mp h).1
set_option maxRecDepth 100000 in
theorem iX0 : ∀ w ∈ u_ws RX0 TX0 5, w ∈ tw := by
  have h : u_ws RX0 TX0 5 = [233, 235, 237, 239, 241].filterMap (fun i => tables_1[i]?) := by decide +kernel
  have hg : (u_ws RX0 TX0 5).all goodWord = true := by decide +kernel
  intro w hw
  have hw0 := hw
  rw [h] at hw
  obtain ⟨i, -, hi⟩ := List.mem_filterMap.mp hw
  exact tbl_at i hi (List.all_eq_true.mp hg w hw0)
set_option maxRecDepth 100000 in
theorem iX1 : ∀ w ∈ u_ws RX1 TX1 6, w ∈ tw := by
  have h : u_ws RX1 TX1 6 = [109, 111, 113, 115, 117, 119].filterMap (fun i => tables_1[i]?) := by decide +kernel
  have hg : (u_ws RX1 TX1 6).all goodWord = true := by decide +kernel
  intro w hw
  have hw0 := hw
  rw [h] at hw
  obtain ⟨i, -, hi⟩ := List.mem_filterMap.mp hw
  exact tbl_at i hi (List.all_eq_true.mp hg w hw0)
set_option maxRecDepth 100000 in
theorem iX2 : ∀ w ∈ u_ws RX2 TX2 5, w ∈ tw := by
  have h : u_ws RX2 TX2 5 = [144, 146, 148, 150, 152].filterMap (fun i => tables_1[i]?) := by decide +kernel
  have hg : (u_ws RX2 TX2 5).all goodWord = true := by decide +kernel
  intro w hw
  have hw0 := hw
  rw [h] at hw
  obtain ⟨i, -, hi⟩ := List.mem_filterMap.mp hw
  exact tbl_at i hi (List.all_eq_true.mp hg w hw0)
set_option maxRecDepth 100000 in
theorem iX3 : ∀ w ∈ u_ws RX3 TX3 13, w ∈ tw := by
  have h : u_ws RX3 TX3 13 = [70, 72, 74, 76, 78, 80, 82, 84, 86, 88, 90, 92, 94].filterMap (fun i => tables_1[i]?) := by decide +kernel
  have hg : (u_ws RX3 TX3 13).all goodWord = true := by decide +kernel
  intro w hw
  have hw0 := hw
  rw [h] at hw
  obtain ⟨i, -, hi⟩ := List.mem_filterMap.mp hw
  exact tbl_at i hi (List.all_eq_true.mp hg w hw0)
set_option maxRecDepth 100000 in
theorem iX4 : ∀ w ∈ u_ws RX4 TX4 7, w ∈ tw := by
  have h : u_ws RX4 TX4 7 = [169, 171, 173, 175, 177, 179, 181].filterMap (fun i => tables_1[i]?) := by decide +kernel
  have hg : (u_ws RX4 TX4 7).all goodWord = true := by decide +kernel
  intro w hw
  have hw0 := hw
  rw [h] at hw
  obtain ⟨i, -, hi⟩ := List.mem_filterMap.mp hw
  exact tbl_at i hi (List.all_eq_true.mp hg w hw0)
set_option maxRecDepth 100000 in
theorem iX5 : ∀ w ∈ u_ws RX5 TX5 8, w ∈ tw := by
  have h : u_ws RX5 TX5 8 = [200, 202, 204, 206, 208, 210, 212, 214].filterMap (fun i => tables_1[i]?) := by decide +kernel
  have hg : (u_ws RX5 TX5 8).all goodWord = true := by decide +kernel
  intro w hw
  have hw0 := hw
  rw [h] at hw
  obtain ⟨i, -, hi⟩ := List.mem_filterMap.mp hw
  exact tbl_at i hi (List.all_eq_true.mp hg w hw0)
set_option maxRecDepth 100000 in
theorem iX6 : ∀ w ∈ u_ws RX6 TX6 10, w ∈ tw := by
  have h : u_ws RX6 TX6 10 = [254, 256, 258, 260, 262, 264, 266, 268, 270, 272].filterMap (fun i => tables_1[i]?) := by decide +kernel
  have hg : (u_ws RX6 TX6 10).all goodWord = true := by decide +kernel
  intro w hw
  have hw0 := hw
  rw [h] at hw
  obtain ⟨i, -, hi⟩ := List.mem_filterMap.mp hw
  exact tbl_at i hi (List.all_eq_true.mp hg w hw0)
set_option maxRecDepth 100000 in
theorem iX7 : ∀ w ∈ u_ws RX7 TX7 46, w ∈ tw := by
  have h : u_ws RX7 TX7 46 = [703, 705, 707, 709, 711, 713, 715, 717, 719, 721, 723, 725, 727, 729, 731, 733, 735, 737, 739, 741, 743, 745, 747, 749, 751, 753, 755, 757, 759, 761, 763, 765, 767, 769, 771, 773, 775, 777, 779, 781, 783, 785, 787, 789, 791, 793].filterMap (fun i => tables_1[i]?) := by decide +kernel
  have hg : (u_ws RX7 TX7 46).all goodWord = true := by decide +kernel
  intro w hw
  have hw0 := hw
  rw [h] at hw
  obtain ⟨i, -, hi⟩ := List.mem_filterMap.mp hw
  exact tbl_at i hi (List.all_eq_true.mp hg w hw0)
