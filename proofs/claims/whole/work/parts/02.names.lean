def RX0 : String := "TurningMarket$Alone"
def TX0 : u_T := fun k => match k with
  | 0 => ("TurningMarket$Alone", "pieces", "I", false)
  | 1 => ("TurningMarket$Alone", "spent", "I", false)
  | 2 => ("TurningMarket$Alone", "inMinute", "[I", true)
  | 3 => ("TurningMarket$Alone", "market", "LTurningMarket$Market;", false)
  | 4 => ("TurningMarket$Alone", "course", "LTurningMarket$Course;", false)
  | 5 => ("TurningMarket$Alone", "buyer", "LTurningMarket$Buyer;", false)
  | 6 => ("TurningMarket$Alone", "lacks", "[I", true)
  | 7 => ("TurningMarket$Alone", "taken", "[J", true)
  | 8 => ("TurningMarket$Alone", "nextStall", "I", false)
  | 9 => ("TurningMarket$Alone", "nextMinute", "I", false)
  | _ => ("TurningMarket$Alone", "nextPrice", "I", false)
def tyX0 : Nat → FieldType := fun k => match k with
  | 0 => .int
  | 1 => .int
  | 2 => .array .int
  | 3 => .object "TurningMarket$Market"
  | 4 => .object "TurningMarket$Course"
  | 5 => .object "TurningMarket$Buyer"
  | 6 => .array .int
  | 7 => .array .long
  | 8 => .int
  | 9 => .int
  | _ => .int
theorem nmX0 : ∀ a, a < 11 → ∀ b, b < 11 → a ≠ b → (TX0 a).2.1 ≠ (TX0 b).2.1 := by decide +kernel
theorem tyX0_ok : ∀ k, k < 11 → parseFieldDescriptor (TX0 k).2.2.1 = some (tyX0 k) := by decide +kernel
abbrev cX0_init : ByteArray := prog_2_method_1_code
def yX0_init : MethodName := ⟨RX0, "<init>", "()V"⟩
abbrev cX0_shop : ByteArray := prog_2_method_2_code
def yX0_shop : MethodName := ⟨RX0, "shop", "(LTurningMarket$Market;LTurningMarket$Course;II)V"⟩
abbrev cX0_findNext : ByteArray := prog_2_method_3_code
def yX0_findNext : MethodName := ⟨RX0, "findNext", "()Z"⟩
abbrev cX0_isToBeHad : ByteArray := prog_2_method_4_code
def yX0_isToBeHad : MethodName := ⟨RX0, "isToBeHad", "(II)Z"⟩
abbrev cX0_takeNext : ByteArray := prog_2_method_5_code
def yX0_takeNext : MethodName := ⟨RX0, "takeNext", "()V"⟩
def RX1 : String := "TurningMarket$Buyer"
def TX1 : u_T := fun k => match k with
  | 0 => ("TurningMarket$Buyer", "place", "I", false)
  | 1 => ("TurningMarket$Buyer", "coins", "I", false)
  | 2 => ("TurningMarket$Buyer", "habit", "I", false)
  | 3 => ("TurningMarket$Buyer", "wants", "I", false)
  | 4 => ("TurningMarket$Buyer", "good", "[I", true)
  | 5 => ("TurningMarket$Buyer", "pieces", "[I", true)
  | _ => ("TurningMarket$Buyer", "limit", "[I", true)
def tyX1 : Nat → FieldType := fun k => match k with
  | 0 => .int
  | 1 => .int
  | 2 => .int
  | 3 => .int
  | 4 => .array .int
  | 5 => .array .int
  | _ => .array .int
theorem nmX1 : ∀ a, a < 7 → ∀ b, b < 7 → a ≠ b → (TX1 a).2.1 ≠ (TX1 b).2.1 := by decide +kernel
theorem tyX1_ok : ∀ k, k < 7 → parseFieldDescriptor (TX1 k).2.2.1 = some (tyX1 k) := by decide +kernel
abbrev cX1_init : ByteArray := prog_3_method_1_code
def yX1_init : MethodName := ⟨RX1, "<init>", "()V"⟩
abbrev cX1_take : ByteArray := prog_3_method_2_code
def yX1_take : MethodName := ⟨RX1, "take", "(LTurningMarket$Buyer;)V"⟩
abbrev cX1_wantOf : ByteArray := prog_3_method_3_code
def yX1_wantOf : MethodName := ⟨RX1, "wantOf", "(I)I"⟩
abbrev cX1_wanted : ByteArray := prog_3_method_4_code
def yX1_wanted : MethodName := ⟨RX1, "wanted", "()I"⟩
def RX2 : String := "TurningMarket$Course"
def TX2 : u_T := fun k => match k with
  | 0 => ("TurningMarket$Course", "turned", "[[I", true)
  | _ => ("TurningMarket$Course", "place", "[[I", true)
def tyX2 : Nat → FieldType := fun k => match k with
  | 0 => .array (.array .int)
  | _ => .array (.array .int)
theorem nmX2 : ∀ a, a < 2 → ∀ b, b < 2 → a ≠ b → (TX2 a).2.1 ≠ (TX2 b).2.1 := by decide +kernel
theorem tyX2_ok : ∀ k, k < 2 → parseFieldDescriptor (TX2 k).2.2.1 = some (tyX2 k) := by decide +kernel
abbrev cX2_init : ByteArray := prog_4_method_1_code
def yX2_init : MethodName := ⟨RX2, "<init>", "()V"⟩
abbrev cX2_follow : ByteArray := prog_4_method_2_code
def yX2_follow : MethodName := ⟨RX2, "follow", "(LTurningMarket$Market;)V"⟩
abbrev cX2_turnRing : ByteArray := prog_4_method_3_code
def yX2_turnRing : MethodName := ⟨RX2, "turnRing", "(LTurningMarket$Ring;[II)V"⟩
abbrev cX2_carry : ByteArray := prog_4_method_4_code
def yX2_carry : MethodName := ⟨RX2, "carry", "(LTurningMarket$Market;I)V"⟩
abbrev cX2_quietPrice : ByteArray := prog_4_method_5_code
def yX2_quietPrice : MethodName := ⟨RX2, "quietPrice", "(LTurningMarket$Stall;I)I"⟩
def RX3 : String := "TurningMarket$Hour"
def TX3 : u_T := fun k => match k with
  | 0 => ("TurningMarket$Hour", "course", "LTurningMarket$Course;", true)
  | 1 => ("TurningMarket$Hour", "asked", "[[I", true)
  | 2 => ("TurningMarket$Hour", "left", "[[I", true)
  | 3 => ("TurningMarket$Hour", "purse", "[[I", true)
  | 4 => ("TurningMarket$Hour", "sales", "I", false)
  | 5 => ("TurningMarket$Hour", "saleMinute", "[I", true)
  | 6 => ("TurningMarket$Hour", "saleStall", "[I", true)
  | 7 => ("TurningMarket$Hour", "saleBuyer", "[I", true)
  | 8 => ("TurningMarket$Hour", "salePrice", "[I", true)
  | 9 => ("TurningMarket$Hour", "doneIn", "[I", true)
  | 10 => ("TurningMarket$Hour", "market", "LTurningMarket$Market;", false)
  | 11 => ("TurningMarket$Hour", "price", "[I", true)
  | 12 => ("TurningMarket$Hour", "stock", "[I", true)
  | 13 => ("TurningMarket$Hour", "soldNow", "[Z", true)
  | 14 => ("TurningMarket$Hour", "tooDearNow", "[Z", true)
  | 15 => ("TurningMarket$Hour", "coins", "[I", true)
  | 16 => ("TurningMarket$Hour", "lacks", "[[I", true)
  | _ => ("TurningMarket$Hour", "lastBought", "[I", true)
def tyX3 : Nat → FieldType := fun k => match k with
  | 0 => .object "TurningMarket$Course"
  | 1 => .array (.array .int)
  | 2 => .array (.array .int)
  | 3 => .array (.array .int)
  | 4 => .int
  | 5 => .array .int
  | 6 => .array .int
  | 7 => .array .int
  | 8 => .array .int
  | 9 => .array .int
  | 10 => .object "TurningMarket$Market"
  | 11 => .array .int
  | 12 => .array .int
  | 13 => .array .boolean
  | 14 => .array .boolean
  | 15 => .array .int
  | 16 => .array (.array .int)
  | _ => .array .int
theorem nmX3 : ∀ a, a < 18 → ∀ b, b < 18 → a ≠ b → (TX3 a).2.1 ≠ (TX3 b).2.1 := by decide +kernel
theorem tyX3_ok : ∀ k, k < 18 → parseFieldDescriptor (TX3 k).2.2.1 = some (tyX3 k) := by decide +kernel
abbrev cX3_init : ByteArray := prog_5_method_1_code
def yX3_init : MethodName := ⟨RX3, "<init>", "()V"⟩
abbrev cX3_play : ByteArray := prog_5_method_2_code
def yX3_play : MethodName := ⟨RX3, "play", "(LTurningMarket$Market;)V"⟩
abbrev cX3_begin : ByteArray := prog_5_method_3_code
def yX3_begin : MethodName := ⟨RX3, "begin", "()V"⟩
abbrev cX3_openMinute : ByteArray := prog_5_method_4_code
def yX3_openMinute : MethodName := ⟨RX3, "openMinute", "(I)V"⟩
abbrev cX3_tradeAt : ByteArray := prog_5_method_5_code
def yX3_tradeAt : MethodName := ⟨RX3, "tradeAt", "(II)V"⟩
abbrev cX3_meet : ByteArray := prog_5_method_6_code
def yX3_meet : MethodName := ⟨RX3, "meet", "(III)V"⟩
abbrev cX3_wouldBuy : ByteArray := prog_5_method_7_code
def yX3_wouldBuy : MethodName := ⟨RX3, "wouldBuy", "(IIII)Z"⟩
abbrev cX3_sell : ByteArray := prog_5_method_8_code
def yX3_sell : MethodName := ⟨RX3, "sell", "(III)V"⟩
abbrev cX3_closeMinute : ByteArray := prog_5_method_9_code
def yX3_closeMinute : MethodName := ⟨RX3, "closeMinute", "(I)V"⟩
abbrev cX3_learn : ByteArray := prog_5_method_10_code
def yX3_learn : MethodName := ⟨RX3, "learn", "(II)V"⟩
abbrev cX3_salesAt : ByteArray := prog_5_method_11_code
def yX3_salesAt : MethodName := ⟨RX3, "salesAt", "(I)I"⟩
abbrev cX3_takenAt : ByteArray := prog_5_method_12_code
def yX3_takenAt : MethodName := ⟨RX3, "takenAt", "(I)I"⟩
abbrev cX3_firstMinuteAt : ByteArray := prog_5_method_13_code
def yX3_firstMinuteAt : MethodName := ⟨RX3, "firstMinuteAt", "(I)I"⟩
abbrev cX3_salesTo : ByteArray := prog_5_method_14_code
def yX3_salesTo : MethodName := ⟨RX3, "salesTo", "(I)I"⟩
abbrev cX3_spentBy : ByteArray := prog_5_method_15_code
def yX3_spentBy : MethodName := ⟨RX3, "spentBy", "(I)I"⟩
abbrev cX3_lackOf : ByteArray := prog_5_method_16_code
def yX3_lackOf : MethodName := ⟨RX3, "lackOf", "(I)I"⟩
abbrev cX3_paidInAll : ByteArray := prog_5_method_17_code
def yX3_paidInAll : MethodName := ⟨RX3, "paidInAll", "()I"⟩
abbrev cX3_lackInAll : ByteArray := prog_5_method_18_code
def yX3_lackInAll : MethodName := ⟨RX3, "lackInAll", "()I"⟩
abbrev cX3_buyersDone : ByteArray := prog_5_method_19_code
def yX3_buyersDone : MethodName := ⟨RX3, "buyersDone", "()I"⟩
abbrev cX3_busiestMinute : ByteArray := prog_5_method_20_code
def yX3_busiestMinute : MethodName := ⟨RX3, "busiestMinute", "()I"⟩
def RX4 : String := "TurningMarket$Market"
def TX4 : u_T := fun k => match k with
  | 0 => ("TurningMarket$Market", "places", "I", false)
  | 1 => ("TurningMarket$Market", "minutes", "I", false)
  | 2 => ("TurningMarket$Market", "lines", "I", false)
  | 3 => ("TurningMarket$Market", "ringCount", "I", false)
  | 4 => ("TurningMarket$Market", "stallCount", "I", false)
  | 5 => ("TurningMarket$Market", "buyerCount", "I", false)
  | 6 => ("TurningMarket$Market", "rings", "[LTurningMarket$Ring;", true)
  | 7 => ("TurningMarket$Market", "stalls", "[LTurningMarket$Stall;", true)
  | _ => ("TurningMarket$Market", "buyers", "[LTurningMarket$Buyer;", true)
def tyX4 : Nat → FieldType := fun k => match k with
  | 0 => .int
  | 1 => .int
  | 2 => .int
  | 3 => .int
  | 4 => .int
  | 5 => .int
  | 6 => .array (.object "TurningMarket$Ring")
  | 7 => .array (.object "TurningMarket$Stall")
  | _ => .array (.object "TurningMarket$Buyer")
theorem nmX4 : ∀ a, a < 9 → ∀ b, b < 9 → a ≠ b → (TX4 a).2.1 ≠ (TX4 b).2.1 := by decide +kernel
theorem tyX4_ok : ∀ k, k < 9 → parseFieldDescriptor (TX4 k).2.2.1 = some (tyX4 k) := by decide +kernel
abbrev cX4_init : ByteArray := prog_6_method_1_code
def yX4_init : MethodName := ⟨RX4, "<init>", "()V"⟩
abbrev cX4_clear : ByteArray := prog_6_method_2_code
def yX4_clear : MethodName := ⟨RX4, "clear", "()V"⟩
abbrev cX4_take : ByteArray := prog_6_method_3_code
def yX4_take : MethodName := ⟨RX4, "take", "(LTurningMarket$Market;)V"⟩
abbrev cX4_isTold : ByteArray := prog_6_method_4_code
def yX4_isTold : MethodName := ⟨RX4, "isTold", "()Z"⟩
abbrev cX4_hasPlace : ByteArray := prog_6_method_5_code
def yX4_hasPlace : MethodName := ⟨RX4, "hasPlace", "(I)Z"⟩
abbrev cX4_hasMinute : ByteArray := prog_6_method_6_code
def yX4_hasMinute : MethodName := ⟨RX4, "hasMinute", "(I)Z"⟩
abbrev cX4_hasRing : ByteArray := prog_6_method_7_code
def yX4_hasRing : MethodName := ⟨RX4, "hasRing", "(I)Z"⟩
abbrev cX4_hasStall : ByteArray := prog_6_method_8_code
def yX4_hasStall : MethodName := ⟨RX4, "hasStall", "(I)Z"⟩
abbrev cX4_hasBuyer : ByteArray := prog_6_method_9_code
def yX4_hasBuyer : MethodName := ⟨RX4, "hasBuyer", "(I)Z"⟩
abbrev cX4_buyersAt : ByteArray := prog_6_method_10_code
def yX4_buyersAt : MethodName := ⟨RX4, "buyersAt", "(I)I"⟩
abbrev cX4_stuckMinutes : ByteArray := prog_6_method_11_code
def yX4_stuckMinutes : MethodName := ⟨RX4, "stuckMinutes", "()I"⟩
def RX5 : String := "TurningMarket$Post"
def TX5 : u_T := fun k => match k with
  | 0 => ("TurningMarket$Post", "arrival", "I", false)
  | 1 => ("TurningMarket$Post", "byStalls", "I", false)
  | 2 => ("TurningMarket$Post", "held", "[I", true)
  | _ => ("TurningMarket$Post", "laid", "[I", true)
def tyX5 : Nat → FieldType := fun k => match k with
  | 0 => .int
  | 1 => .int
  | 2 => .array .int
  | _ => .array .int
theorem nmX5 : ∀ a, a < 4 → ∀ b, b < 4 → a ≠ b → (TX5 a).2.1 ≠ (TX5 b).2.1 := by decide +kernel
theorem tyX5_ok : ∀ k, k < 4 → parseFieldDescriptor (TX5 k).2.2.1 = some (tyX5 k) := by decide +kernel
abbrev cX5_init : ByteArray := prog_7_method_1_code
def yX5_init : MethodName := ⟨RX5, "<init>", "()V"⟩
abbrev cX5_bring : ByteArray := prog_7_method_2_code
def yX5_bring : MethodName := ⟨RX5, "bring", "(LTurningMarket$Market;LTurningMarket$Course;III)V"⟩
abbrev cX5_unload : ByteArray := prog_7_method_3_code
def yX5_unload : MethodName := ⟨RX5, "unload", "(LTurningMarket$Market;LTurningMarket$Course;II)V"⟩
abbrev cX5_load : ByteArray := prog_7_method_4_code
def yX5_load : MethodName := ⟨RX5, "load", "(LTurningMarket$Market;LTurningMarket$Course;I)V"⟩
def RX6 : String := "TurningMarket$Reader"
def TX6 : u_T := fun k => match k with
  | 0 => ("TurningMarket$Reader", "bytes", "[B", true)
  | 1 => ("TurningMarket$Reader", "length", "I", false)
  | 2 => ("TurningMarket$Reader", "fault", "I", false)
  | 3 => ("TurningMarket$Reader", "faultPlace", "I", false)
  | 4 => ("TurningMarket$Reader", "from", "I", false)
  | 5 => ("TurningMarket$Reader", "upTo", "I", false)
  | 6 => ("TurningMarket$Reader", "sort", "I", false)
  | 7 => ("TurningMarket$Reader", "value", "I", false)
  | _ => ("TurningMarket$Reader", "stucksTold", "I", false)
def tyX6 : Nat → FieldType := fun k => match k with
  | 0 => .array .byte
  | 1 => .int
  | 2 => .int
  | 3 => .int
  | 4 => .int
  | 5 => .int
  | 6 => .int
  | 7 => .int
  | _ => .int
theorem nmX6 : ∀ a, a < 9 → ∀ b, b < 9 → a ≠ b → (TX6 a).2.1 ≠ (TX6 b).2.1 := by decide +kernel
theorem tyX6_ok : ∀ k, k < 9 → parseFieldDescriptor (TX6 k).2.2.1 = some (tyX6 k) := by decide +kernel
abbrev cX6_init : ByteArray := prog_8_method_1_code
def yX6_init : MethodName := ⟨RX6, "<init>", "()V"⟩
abbrev cX6_add : ByteArray := prog_8_method_2_code
def yX6_add : MethodName := ⟨RX6, "add", "(I)V"⟩
abbrev cX6_read : ByteArray := prog_8_method_3_code
def yX6_read : MethodName := ⟨RX6, "read", "(LTurningMarket$Market;)Z"⟩
abbrev cX6_readLine : ByteArray := prog_8_method_4_code
def yX6_readLine : MethodName := ⟨RX6, "readLine", "(LTurningMarket$Market;)V"⟩
abbrev cX6_readMarket : ByteArray := prog_8_method_5_code
def yX6_readMarket : MethodName := ⟨RX6, "readMarket", "(LTurningMarket$Market;)V"⟩
abbrev cX6_readRing : ByteArray := prog_8_method_6_code
def yX6_readRing : MethodName := ⟨RX6, "readRing", "(LTurningMarket$Market;)V"⟩
abbrev cX6_readStall : ByteArray := prog_8_method_7_code
def yX6_readStall : MethodName := ⟨RX6, "readStall", "(LTurningMarket$Market;)V"⟩
abbrev cX6_readKind : ByteArray := prog_8_method_8_code
def yX6_readKind : MethodName := ⟨RX6, "readKind", "(LTurningMarket$Stall;)V"⟩
abbrev cX6_readBuyer : ByteArray := prog_8_method_9_code
def yX6_readBuyer : MethodName := ⟨RX6, "readBuyer", "(LTurningMarket$Market;)V"⟩
abbrev cX6_readHabit : ByteArray := prog_8_method_10_code
def yX6_readHabit : MethodName := ⟨RX6, "readHabit", "(LTurningMarket$Buyer;)V"⟩
abbrev cX6_readWants : ByteArray := prog_8_method_11_code
def yX6_readWants : MethodName := ⟨RX6, "readWants", "(LTurningMarket$Market;)V"⟩
abbrev cX6_readStuck : ByteArray := prog_8_method_12_code
def yX6_readStuck : MethodName := ⟨RX6, "readStuck", "(LTurningMarket$Market;)V"⟩
abbrev cX6_refuse : ByteArray := prog_8_method_13_code
def yX6_refuse : MethodName := ⟨RX6, "refuse", "(I)V"⟩
abbrev cX6_isFull : ByteArray := prog_8_method_14_code
def yX6_isFull : MethodName := ⟨RX6, "isFull", "(II)Z"⟩
abbrev cX6_word : ByteArray := prog_8_method_15_code
def yX6_word : MethodName := ⟨RX6, "word", "(Ljava/lang/String;)V"⟩
abbrev cX6_sign : ByteArray := prog_8_method_16_code
def yX6_sign : MethodName := ⟨RX6, "sign", "()V"⟩
abbrev cX6_number : ByteArray := prog_8_method_17_code
def yX6_number : MethodName := ⟨RX6, "number", "(II)I"⟩
abbrev cX6_numberHere : ByteArray := prog_8_method_18_code
def yX6_numberHere : MethodName := ⟨RX6, "numberHere", "(II)I"⟩
abbrev cX6_isWord : ByteArray := prog_8_method_19_code
def yX6_isWord : MethodName := ⟨RX6, "isWord", "(Ljava/lang/String;)Z"⟩
abbrev cX6_next : ByteArray := prog_8_method_20_code
def yX6_next : MethodName := ⟨RX6, "next", "()V"⟩
abbrev cX6_takeWord : ByteArray := prog_8_method_21_code
def yX6_takeWord : MethodName := ⟨RX6, "takeWord", "()V"⟩
abbrev cX6_takeNumber : ByteArray := prog_8_method_22_code
def yX6_takeNumber : MethodName := ⟨RX6, "takeNumber", "()V"⟩
abbrev cX6_isLetter : ByteArray := prog_8_method_23_code
def yX6_isLetter : MethodName := ⟨RX6, "isLetter", "(I)Z"⟩
abbrev cX6_isDigit : ByteArray := prog_8_method_24_code
def yX6_isDigit : MethodName := ⟨RX6, "isDigit", "(I)Z"⟩
def RX7 : String := "TurningMarket$Ring"
def TX7 : u_T := fun k => match k with
  | 0 => ("TurningMarket$Ring", "turns", "I", false)
  | 1 => ("TurningMarket$Ring", "east", "Z", false)
  | _ => ("TurningMarket$Ring", "stuck", "J", false)
def tyX7 : Nat → FieldType := fun k => match k with
  | 0 => .int
  | 1 => .boolean
  | _ => .long
theorem nmX7 : ∀ a, a < 3 → ∀ b, b < 3 → a ≠ b → (TX7 a).2.1 ≠ (TX7 b).2.1 := by decide +kernel
theorem tyX7_ok : ∀ k, k < 3 → parseFieldDescriptor (TX7 k).2.2.1 = some (tyX7 k) := by decide +kernel
abbrev cX7_init : ByteArray := prog_9_method_1_code
def yX7_init : MethodName := ⟨RX7, "<init>", "()V"⟩
abbrev cX7_take : ByteArray := prog_9_method_2_code
def yX7_take : MethodName := ⟨RX7, "take", "(LTurningMarket$Ring;)V"⟩
def RX8 : String := "TurningMarket$Row"
def TX8 : u_T := fun k => match k with
  | 0 => ("TurningMarket$Row", "isThere", "Z", false)
  | 1 => ("TurningMarket$Row", "width", "I", false)
  | 2 => ("TurningMarket$Row", "length", "I", false)
  | _ => ("TurningMarket$Row", "numbers", "[J", true)
def tyX8 : Nat → FieldType := fun k => match k with
  | 0 => .boolean
  | 1 => .int
  | 2 => .int
  | _ => .array .long
theorem nmX8 : ∀ a, a < 4 → ∀ b, b < 4 → a ≠ b → (TX8 a).2.1 ≠ (TX8 b).2.1 := by decide +kernel
theorem tyX8_ok : ∀ k, k < 4 → parseFieldDescriptor (TX8 k).2.2.1 = some (tyX8 k) := by decide +kernel
abbrev cX8_init : ByteArray := prog_10_method_1_code
def yX8_init : MethodName := ⟨RX8, "<init>", "()V"⟩
abbrev cX8_begin : ByteArray := prog_10_method_2_code
def yX8_begin : MethodName := ⟨RX8, "begin", "(II)V"⟩
abbrev cX8_cut : ByteArray := prog_10_method_3_code
def yX8_cut : MethodName := ⟨RX8, "cut", "(J)J"⟩
abbrev cX8_holds : ByteArray := prog_10_method_4_code
def yX8_holds : MethodName := ⟨RX8, "holds", "(II)Z"⟩
abbrev cX8_isWithin : ByteArray := prog_10_method_5_code
def yX8_isWithin : MethodName := ⟨RX8, "isWithin", "(II)Z"⟩
def RX9 : String := "TurningMarket$Stall"
def TX9 : u_T := fun k => match k with
  | 0 => ("TurningMarket$Stall", "ring", "I", false)
  | 1 => ("TurningMarket$Stall", "spot", "I", false)
  | 2 => ("TurningMarket$Stall", "good", "I", false)
  | 3 => ("TurningMarket$Stall", "pieces", "I", false)
  | 4 => ("TurningMarket$Stall", "price", "I", false)
  | 5 => ("TurningMarket$Stall", "kind", "I", false)
  | _ => ("TurningMarket$Stall", "step", "I", false)
def tyX9 : Nat → FieldType := fun k => match k with
  | 0 => .int
  | 1 => .int
  | 2 => .int
  | 3 => .int
  | 4 => .int
  | 5 => .int
  | _ => .int
theorem nmX9 : ∀ a, a < 7 → ∀ b, b < 7 → a ≠ b → (TX9 a).2.1 ≠ (TX9 b).2.1 := by decide +kernel
theorem tyX9_ok : ∀ k, k < 7 → parseFieldDescriptor (TX9 k).2.2.1 = some (tyX9 k) := by decide +kernel
abbrev cX9_init : ByteArray := prog_11_method_1_code
def yX9_init : MethodName := ⟨RX9, "<init>", "()V"⟩
abbrev cX9_take : ByteArray := prog_11_method_2_code
def yX9_take : MethodName := ⟨RX9, "take", "(LTurningMarket$Stall;)V"⟩
def RX10 : String := "TurningMarket"
def TX10 : u_T := fun k => match k with
  | 0 => ("TurningMarket", "reader", "LTurningMarket$Reader;", true)
  | 1 => ("TurningMarket", "now", "LTurningMarket$Market;", false)
  | 2 => ("TurningMarket", "draft", "LTurningMarket$Market;", false)
  | 3 => ("TurningMarket", "images", "[LTurningMarket$Market;", true)
  | 4 => ("TurningMarket", "kept", "[Z", true)
  | 5 => ("TurningMarket", "rows", "[LTurningMarket$Row;", true)
  | 6 => ("TurningMarket", "hour", "LTurningMarket$Hour;", true)
  | 7 => ("TurningMarket", "played", "Z", false)
  | 8 => ("TurningMarket", "alone", "LTurningMarket$Alone;", true)
  | _ => ("TurningMarket", "post", "LTurningMarket$Post;", true)
def tyX10 : Nat → FieldType := fun k => match k with
  | 0 => .object "TurningMarket$Reader"
  | 1 => .object "TurningMarket$Market"
  | 2 => .object "TurningMarket$Market"
  | 3 => .array (.object "TurningMarket$Market")
  | 4 => .array .boolean
  | 5 => .array (.object "TurningMarket$Row")
  | 6 => .object "TurningMarket$Hour"
  | 7 => .boolean
  | 8 => .object "TurningMarket$Alone"
  | _ => .object "TurningMarket$Post"
theorem nmX10 : ∀ a, a < 10 → ∀ b, b < 10 → a ≠ b → (TX10 a).2.1 ≠ (TX10 b).2.1 := by decide +kernel
theorem tyX10_ok : ∀ k, k < 10 → parseFieldDescriptor (TX10 k).2.2.1 = some (tyX10 k) := by decide +kernel
abbrev cX10_init : ByteArray := prog_1_method_1_code
def yX10_init : MethodName := ⟨RX10, "<init>", "()V"⟩
abbrev cX10_feed : ByteArray := prog_1_method_2_code
def yX10_feed : MethodName := ⟨RX10, "feed", "(IIIII)I"⟩
abbrev cX10_end : ByteArray := prog_1_method_3_code
def yX10_end : MethodName := ⟨RX10, "end", "(I)I"⟩
abbrev cX10_market : ByteArray := prog_1_method_4_code
def yX10_market : MethodName := ⟨RX10, "market", "()I"⟩
abbrev cX10_fault : ByteArray := prog_1_method_5_code
def yX10_fault : MethodName := ⟨RX10, "fault", "(I)I"⟩
abbrev cX10_stall : ByteArray := prog_1_method_6_code
def yX10_stall : MethodName := ⟨RX10, "stall", "(II)I"⟩
abbrev cX10_buyer : ByteArray := prog_1_method_7_code
def yX10_buyer : MethodName := ⟨RX10, "buyer", "(II)I"⟩
abbrev cX10_want : ByteArray := prog_1_method_8_code
def yX10_want : MethodName := ⟨RX10, "want", "(III)I"⟩
abbrev cX10_at : ByteArray := prog_1_method_9_code
def yX10_at : MethodName := ⟨RX10, "at", "(II)I"⟩
abbrev cX10_comes : ByteArray := prog_1_method_10_code
def yX10_comes : MethodName := ⟨RX10, "comes", "(III)I"⟩
abbrev cX10_there : ByteArray := prog_1_method_11_code
def yX10_there : MethodName := ⟨RX10, "there", "(III)I"⟩
abbrev cX10_face : ByteArray := prog_1_method_12_code
def yX10_face : MethodName := ⟨RX10, "face", "(III)I"⟩
abbrev cX10_often : ByteArray := prog_1_method_13_code
def yX10_often : MethodName := ⟨RX10, "often", "(II)I"⟩
abbrev cX10_asks : ByteArray := prog_1_method_14_code
def yX10_asks : MethodName := ⟨RX10, "asks", "(II)I"⟩
abbrev cX10_has : ByteArray := prog_1_method_15_code
def yX10_has : MethodName := ⟨RX10, "has", "(II)I"⟩
abbrev cX10_sold : ByteArray := prog_1_method_16_code
def yX10_sold : MethodName := ⟨RX10, "sold", "(II)I"⟩
abbrev cX10_bought : ByteArray := prog_1_method_17_code
def yX10_bought : MethodName := ⟨RX10, "bought", "(II)I"⟩
abbrev cX10_coins : ByteArray := prog_1_method_18_code
def yX10_coins : MethodName := ⟨RX10, "coins", "(II)I"⟩
abbrev cX10_sale : ByteArray := prog_1_method_19_code
def yX10_sale : MethodName := ⟨RX10, "sale", "(II)I"⟩
abbrev cX10_all : ByteArray := prog_1_method_20_code
def yX10_all : MethodName := ⟨RX10, "all", "(I)I"⟩
abbrev cX10_best : ByteArray := prog_1_method_21_code
def yX10_best : MethodName := ⟨RX10, "best", "(I)I"⟩
abbrev cX10_cost : ByteArray := prog_1_method_22_code
def yX10_cost : MethodName := ⟨RX10, "cost", "(I)I"⟩
abbrev cX10_choice : ByteArray := prog_1_method_23_code
def yX10_choice : MethodName := ⟨RX10, "choice", "(II)I"⟩
abbrev cX10_needs : ByteArray := prog_1_method_24_code
def yX10_needs : MethodName := ⟨RX10, "needs", "(I)I"⟩
abbrev cX10_send : ByteArray := prog_1_method_25_code
def yX10_send : MethodName := ⟨RX10, "send", "(IIII)I"⟩
abbrev cX10_round : ByteArray := prog_1_method_26_code
def yX10_round : MethodName := ⟨RX10, "round", "(II)I"⟩
abbrev cX10_swap : ByteArray := prog_1_method_27_code
def yX10_swap : MethodName := ⟨RX10, "swap", "(I)I"⟩
abbrev cX10_moves : ByteArray := prog_1_method_28_code
def yX10_moves : MethodName := ⟨RX10, "moves", "(II)I"⟩
abbrev cX10_offer : ByteArray := prog_1_method_29_code
def yX10_offer : MethodName := ⟨RX10, "offer", "(II)I"⟩
abbrev cX10_wise : ByteArray := prog_1_method_30_code
def yX10_wise : MethodName := ⟨RX10, "wise", "(I)I"⟩
abbrev cX10_theft : ByteArray := prog_1_method_31_code
def yX10_theft : MethodName := ⟨RX10, "theft", "(II)I"⟩
abbrev cX10_passed : ByteArray := prog_1_method_32_code
def yX10_passed : MethodName := ⟨RX10, "passed", "(III)I"⟩
abbrev cX10_harm : ByteArray := prog_1_method_33_code
def yX10_harm : MethodName := ⟨RX10, "harm", "(II)I"⟩
abbrev cX10_least : ByteArray := prog_1_method_34_code
def yX10_least : MethodName := ⟨RX10, "least", "(I)I"⟩
abbrev cX10_turn : ByteArray := prog_1_method_35_code
def yX10_turn : MethodName := ⟨RX10, "turn", "(II)I"⟩
abbrev cX10_again : ByteArray := prog_1_method_36_code
def yX10_again : MethodName := ⟨RX10, "again", "()I"⟩
abbrev cX10_drawn : ByteArray := prog_1_method_37_code
def yX10_drawn : MethodName := ⟨RX10, "drawn", "(II)I"⟩
abbrev cX10_chance : ByteArray := prog_1_method_38_code
def yX10_chance : MethodName := ⟨RX10, "chance", "(IIII)I"⟩
abbrev cX10_judge : ByteArray := prog_1_method_39_code
def yX10_judge : MethodName := ⟨RX10, "judge", "(I)I"⟩
abbrev cX10_count : ByteArray := prog_1_method_40_code
def yX10_count : MethodName := ⟨RX10, "count", "(I)I"⟩
abbrev cX10_keep : ByteArray := prog_1_method_41_code
def yX10_keep : MethodName := ⟨RX10, "keep", "(I)I"⟩
abbrev cX10_back : ByteArray := prog_1_method_42_code
def yX10_back : MethodName := ⟨RX10, "back", "(I)I"⟩
abbrev cX10_row : ByteArray := prog_1_method_43_code
def yX10_row : MethodName := ⟨RX10, "row", "(III)I"⟩
abbrev cX10_write : ByteArray := prog_1_method_44_code
def yX10_write : MethodName := ⟨RX10, "write", "(IIJ)I"⟩
abbrev cX10_paste : ByteArray := prog_1_method_45_code
def yX10_paste : MethodName := ⟨RX10, "paste", "(IIIII)I"⟩
abbrev cX10_isSlot : ByteArray := prog_1_method_46_code
def yX10_isSlot : MethodName := ⟨RX10, "isSlot", "(I)Z"⟩
abbrev cX10_areOdds : ByteArray := prog_1_method_47_code
def yX10_areOdds : MethodName := ⟨RX10, "areOdds", "(II)Z"⟩
abbrev cX10_areTwoStalls : ByteArray := prog_1_method_48_code
def yX10_areTwoStalls : MethodName := ⟨RX10, "areTwoStalls", "(II)Z"⟩
abbrev cX10_rowsThere : ByteArray := prog_1_method_49_code
def yX10_rowsThere : MethodName := ⟨RX10, "rowsThere", "()I"⟩
abbrev cX10_areRingsRound : ByteArray := prog_1_method_50_code
def yX10_areRingsRound : MethodName := ⟨RX10, "areRingsRound", "(I)Z"⟩
abbrev cX10_toldHour : ByteArray := prog_1_method_51_code
def yX10_toldHour : MethodName := ⟨RX10, "toldHour", "()LTurningMarket$Hour;"⟩
abbrev cX10_trialMarket : ByteArray := prog_1_method_52_code
def yX10_trialMarket : MethodName := ⟨RX10, "trialMarket", "()LTurningMarket$Market;"⟩
abbrev cX10_trialHour : ByteArray := prog_1_method_53_code
def yX10_trialHour : MethodName := ⟨RX10, "trialHour", "(LTurningMarket$Market;)LTurningMarket$Hour;"⟩
abbrev cX10_salesIfSwapped : ByteArray := prog_1_method_54_code
def yX10_salesIfSwapped : MethodName := ⟨RX10, "salesIfSwapped", "(II)I"⟩
abbrev cX10_salesIfStuck : ByteArray := prog_1_method_55_code
def yX10_salesIfStuck : MethodName := ⟨RX10, "salesIfStuck", "(II)I"⟩
abbrev cX10_drawnHour : ByteArray := prog_1_method_56_code
def yX10_drawnHour : MethodName := ⟨RX10, "drawnHour", "(II)LTurningMarket$Hour;"⟩
abbrev cX10_thefts : ByteArray := prog_1_method_57_code
def yX10_thefts : MethodName := ⟨RX10, "thefts", "(LTurningMarket$Row;I)I"⟩
def RX11 : String := "TurningMarketModel"
def TX11 : u_T := fun k => match k with
  | 0 => ("TurningMarketModel", "thrown", "I", false)
  | 1 => ("TurningMarketModel", "width", "[I", true)
  | 2 => ("TurningMarketModel", "many", "[I", true)
  | 3 => ("TurningMarketModel", "cells", "[J", true)
  | 4 => ("TurningMarketModel", "moved", "[J", true)
  | 5 => ("TurningMarketModel", "tape", "[B", true)
  | 6 => ("TurningMarketModel", "taped", "I", false)
  | 7 => ("TurningMarketModel", "at", "I", false)
  | 8 => ("TurningMarketModel", "token", "I", false)
  | 9 => ("TurningMarketModel", "place", "I", false)
  | 10 => ("TurningMarketModel", "value", "I", false)
  | 11 => ("TurningMarketModel", "word", "J", false)
  | 12 => ("TurningMarketModel", "bad", "I", false)
  | 13 => ("TurningMarketModel", "badPlace", "I", false)
  | 14 => ("TurningMarketModel", "fault", "I", false)
  | 15 => ("TurningMarketModel", "faultPlace", "I", false)
  | 16 => ("TurningMarketModel", "lines", "[I", true)
  | 17 => ("TurningMarketModel", "has", "[I", true)
  | 18 => ("TurningMarketModel", "ring", "[I", true)
  | 19 => ("TurningMarketModel", "stall", "[I", true)
  | 20 => ("TurningMarketModel", "buyer", "[I", true)
  | 21 => ("TurningMarketModel", "want", "[I", true)
  | 22 => ("TurningMarketModel", "stuck", "[I", true)
  | 23 => ("TurningMarketModel", "isKept", "[Z", true)
  | 24 => ("TurningMarketModel", "turned", "[I", true)
  | 25 => ("TurningMarketModel", "stillRing", "I", false)
  | 26 => ("TurningMarketModel", "stillFrom", "I", false)
  | 27 => ("TurningMarketModel", "odds", "I", false)
  | 28 => ("TurningMarketModel", "x", "J", false)
  | 29 => ("TurningMarketModel", "counts", "[I", true)
  | 30 => ("TurningMarketModel", "pieces", "[I", true)
  | 31 => ("TurningMarketModel", "price", "[I", true)
  | 32 => ("TurningMarketModel", "taken", "[I", true)
  | 33 => ("TurningMarketModel", "soldMany", "[I", true)
  | 34 => ("TurningMarketModel", "firstSale", "[I", true)
  | 35 => ("TurningMarketModel", "isSold", "[Z", true)
  | 36 => ("TurningMarketModel", "isDear", "[Z", true)
  | 37 => ("TurningMarketModel", "purse", "[I", true)
  | 38 => ("TurningMarketModel", "got", "[I", true)
  | 39 => ("TurningMarketModel", "allAt", "[I", true)
  | 40 => ("TurningMarketModel", "lacks", "[I", true)
  | 41 => ("TurningMarketModel", "hasBought", "[Z", true)
  | 42 => ("TurningMarketModel", "asksOn", "[I", true)
  | 43 => ("TurningMarketModel", "hasOn", "[I", true)
  | 44 => ("TurningMarketModel", "coinsOn", "[I", true)
  | 45 => ("TurningMarketModel", "sale", "[I", true)
  | 46 => ("TurningMarketModel", "sales", "I", false)
  | 47 => ("TurningMarketModel", "paid", "I", false)
  | 48 => ("TurningMarketModel", "chosen", "I", false)
  | 49 => ("TurningMarketModel", "spent", "I", false)
  | 50 => ("TurningMarketModel", "chosenOn", "[I", true)
  | 51 => ("TurningMarketModel", "isTaken", "[Z", true)
  | 52 => ("TurningMarketModel", "soon", "[I", true)
  | _ => ("TurningMarketModel", "then", "[I", true)
def tyX11 : Nat → FieldType := fun k => match k with
  | 0 => .int
  | 1 => .array .int
  | 2 => .array .int
  | 3 => .array .long
  | 4 => .array .long
  | 5 => .array .byte
  | 6 => .int
  | 7 => .int
  | 8 => .int
  | 9 => .int
  | 10 => .int
  | 11 => .long
  | 12 => .int
  | 13 => .int
  | 14 => .int
  | 15 => .int
  | 16 => .array .int
  | 17 => .array .int
  | 18 => .array .int
  | 19 => .array .int
  | 20 => .array .int
  | 21 => .array .int
  | 22 => .array .int
  | 23 => .array .boolean
  | 24 => .array .int
  | 25 => .int
  | 26 => .int
  | 27 => .int
  | 28 => .long
  | 29 => .array .int
  | 30 => .array .int
  | 31 => .array .int
  | 32 => .array .int
  | 33 => .array .int
  | 34 => .array .int
  | 35 => .array .boolean
  | 36 => .array .boolean
  | 37 => .array .int
  | 38 => .array .int
  | 39 => .array .int
  | 40 => .array .int
  | 41 => .array .boolean
  | 42 => .array .int
  | 43 => .array .int
  | 44 => .array .int
  | 45 => .array .int
  | 46 => .int
  | 47 => .int
  | 48 => .int
  | 49 => .int
  | 50 => .array .int
  | 51 => .array .boolean
  | 52 => .array .int
  | _ => .array .int
theorem nmX11 : ∀ a, a < 54 → ∀ b, b < 54 → a ≠ b → (TX11 a).2.1 ≠ (TX11 b).2.1 := by decide +kernel
theorem tyX11_ok : ∀ k, k < 54 → parseFieldDescriptor (TX11 k).2.2.1 = some (tyX11 k) := by decide +kernel
abbrev cX11_init : ByteArray := prog_13_method_1_code
def yX11_init : MethodName := ⟨RX11, "<init>", "()V"⟩
abbrev cX11_in : ByteArray := prog_13_method_3_code
def yX11_in : MethodName := ⟨RX11, "in", "(JJJ)Z"⟩
abbrev cX11_isSlot : ByteArray := prog_13_method_4_code
def yX11_isSlot : MethodName := ⟨RX11, "isSlot", "(I)Z"⟩
abbrev cX11_row : ByteArray := prog_13_method_5_code
def yX11_row : MethodName := ⟨RX11, "row", "(III)I"⟩
abbrev cX11_cut : ByteArray := prog_13_method_6_code
def yX11_cut : MethodName := ⟨RX11, "cut", "(JI)J"⟩
abbrev cX11_write : ByteArray := prog_13_method_7_code
def yX11_write : MethodName := ⟨RX11, "write", "(IIJ)I"⟩
abbrev cX11_paste : ByteArray := prog_13_method_8_code
def yX11_paste : MethodName := ⟨RX11, "paste", "(IIIII)I"⟩
abbrev cX11_feed : ByteArray := prog_13_method_9_code
def yX11_feed : MethodName := ⟨RX11, "feed", "(IIIII)I"⟩
abbrev cX11_four : ByteArray := prog_13_method_10_code
def yX11_four : MethodName := ⟨RX11, "four", "(I)V"⟩
abbrev cX11_end : ByteArray := prog_13_method_11_code
def yX11_end : MethodName := ⟨RX11, "end", "(I)I"⟩
abbrev cX11_isByte : ByteArray := prog_13_method_12_code
def yX11_isByte : MethodName := ⟨RX11, "isByte", "(III)Z"⟩
abbrev cX11_next : ByteArray := prog_13_method_13_code
def yX11_next : MethodName := ⟨RX11, "next", "()V"⟩
abbrev cX11_isGood : ByteArray := prog_13_method_14_code
def yX11_isGood : MethodName := ⟨RX11, "isGood", "()Z"⟩
abbrev cX11_fails : ByteArray := prog_13_method_15_code
def yX11_fails : MethodName := ⟨RX11, "fails", "(I)V"⟩
abbrev cX11_is : ByteArray := prog_13_method_16_code
def yX11_is : MethodName := ⟨RX11, "is", "(J)Z"⟩
abbrev cX11_takes : ByteArray := prog_13_method_17_code
def yX11_takes : MethodName := ⟨RX11, "takes", "(J)Z"⟩
abbrev cX11_asks : ByteArray := prog_13_method_18_code
def yX11_asks : MethodName := ⟨RX11, "asks", "(J)V"⟩
abbrev cX11_number : ByteArray := prog_13_method_19_code
def yX11_number : MethodName := ⟨RX11, "number", "(II)I"⟩
abbrev cX11_number_ : ByteArray := prog_13_method_20_code
def yX11_number_ : MethodName := ⟨RX11, "number", "(JII)I"⟩
abbrev cX11_ends : ByteArray := prog_13_method_21_code
def yX11_ends : MethodName := ⟨RX11, "ends", "()V"⟩
abbrev cX11_begins : ByteArray := prog_13_method_22_code
def yX11_begins : MethodName := ⟨RX11, "begins", "()V"⟩
abbrev cX11_isOver : ByteArray := prog_13_method_23_code
def yX11_isOver : MethodName := ⟨RX11, "isOver", "()V"⟩
abbrev cX11_fault : ByteArray := prog_13_method_24_code
def yX11_fault : MethodName := ⟨RX11, "fault", "(I)I"⟩
abbrev cX11_hasRead : ByteArray := prog_13_method_25_code
def yX11_hasRead : MethodName := ⟨RX11, "hasRead", "(I)I"⟩
abbrev cX11_ringLine : ByteArray := prog_13_method_26_code
def yX11_ringLine : MethodName := ⟨RX11, "ringLine", "()V"⟩
abbrev cX11_stallLine : ByteArray := prog_13_method_27_code
def yX11_stallLine : MethodName := ⟨RX11, "stallLine", "()V"⟩
abbrev cX11_buyerLine : ByteArray := prog_13_method_28_code
def yX11_buyerLine : MethodName := ⟨RX11, "buyerLine", "()V"⟩
abbrev cX11_wantLine : ByteArray := prog_13_method_29_code
def yX11_wantLine : MethodName := ⟨RX11, "wantLine", "()V"⟩
abbrev cX11_stuckLine : ByteArray := prog_13_method_30_code
def yX11_stuckLine : MethodName := ⟨RX11, "stuckLine", "()V"⟩
abbrev cX11_line : ByteArray := prog_13_method_31_code
def yX11_line : MethodName := ⟨RX11, "line", "()V"⟩
abbrev cX11_clears : ByteArray := prog_13_method_32_code
def yX11_clears : MethodName := ⟨RX11, "clears", "()V"⟩
abbrev cX11_market : ByteArray := prog_13_method_33_code
def yX11_market : MethodName := ⟨RX11, "market", "()I"⟩
abbrev cX11_copyRow : ByteArray := prog_13_method_34_code
def yX11_copyRow : MethodName := ⟨RX11, "copyRow", "([IIII)V"⟩
abbrev cX11_copyMarket : ByteArray := prog_13_method_35_code
def yX11_copyMarket : MethodName := ⟨RX11, "copyMarket", "(II)V"⟩
abbrev cX11_isMarket : ByteArray := prog_13_method_36_code
def yX11_isMarket : MethodName := ⟨RX11, "isMarket", "()Z"⟩
abbrev cX11_isPlace : ByteArray := prog_13_method_37_code
def yX11_isPlace : MethodName := ⟨RX11, "isPlace", "(I)Z"⟩
abbrev cX11_isMinute : ByteArray := prog_13_method_38_code
def yX11_isMinute : MethodName := ⟨RX11, "isMinute", "(I)Z"⟩
abbrev cX11_isRing : ByteArray := prog_13_method_39_code
def yX11_isRing : MethodName := ⟨RX11, "isRing", "(I)Z"⟩
abbrev cX11_isStall : ByteArray := prog_13_method_40_code
def yX11_isStall : MethodName := ⟨RX11, "isStall", "(I)Z"⟩
abbrev cX11_isBuyer : ByteArray := prog_13_method_41_code
def yX11_isBuyer : MethodName := ⟨RX11, "isBuyer", "(I)Z"⟩
abbrev cX11_of : ByteArray := prog_13_method_42_code
def yX11_of : MethodName := ⟨RX11, "of", "(II)I"⟩
abbrev cX11_stall : ByteArray := prog_13_method_43_code
def yX11_stall : MethodName := ⟨RX11, "stall", "(II)I"⟩
abbrev cX11_buyer : ByteArray := prog_13_method_44_code
def yX11_buyer : MethodName := ⟨RX11, "buyer", "(II)I"⟩
abbrev cX11_want : ByteArray := prog_13_method_45_code
def yX11_want : MethodName := ⟨RX11, "want", "(III)I"⟩
abbrev cX11_isStuck : ByteArray := prog_13_method_46_code
def yX11_isStuck : MethodName := ⟨RX11, "isStuck", "(II)Z"⟩
abbrev cX11_isDrawn : ByteArray := prog_13_method_47_code
def yX11_isDrawn : MethodName := ⟨RX11, "isDrawn", "()Z"⟩
abbrev cX11_laysTurns : ByteArray := prog_13_method_48_code
def yX11_laysTurns : MethodName := ⟨RX11, "laysTurns", "()V"⟩
abbrev cX11_plainly : ByteArray := prog_13_method_49_code
def yX11_plainly : MethodName := ⟨RX11, "plainly", "()V"⟩
abbrev cX11_asTold : ByteArray := prog_13_method_50_code
def yX11_asTold : MethodName := ⟨RX11, "asTold", "()V"⟩
abbrev cX11_placeOf : ByteArray := prog_13_method_51_code
def yX11_placeOf : MethodName := ⟨RX11, "placeOf", "(II)I"⟩
abbrev cX11_at : ByteArray := prog_13_method_52_code
def yX11_at : MethodName := ⟨RX11, "at", "(II)I"⟩
abbrev cX11_comes : ByteArray := prog_13_method_53_code
def yX11_comes : MethodName := ⟨RX11, "comes", "(III)I"⟩
abbrev cX11_there : ByteArray := prog_13_method_54_code
def yX11_there : MethodName := ⟨RX11, "there", "(III)I"⟩
abbrev cX11_face : ByteArray := prog_13_method_55_code
def yX11_face : MethodName := ⟨RX11, "face", "(III)I"⟩
abbrev cX11_often : ByteArray := prog_13_method_56_code
def yX11_often : MethodName := ⟨RX11, "often", "(II)I"⟩
abbrev cX11_wantOf : ByteArray := prog_13_method_57_code
def yX11_wantOf : MethodName := ⟨RX11, "wantOf", "(II)I"⟩
abbrev cX11_lackOf : ByteArray := prog_13_method_58_code
def yX11_lackOf : MethodName := ⟨RX11, "lackOf", "(I)I"⟩
abbrev cX11_begin : ByteArray := prog_13_method_59_code
def yX11_begin : MethodName := ⟨RX11, "begin", "()V"⟩
abbrev cX11_asked : ByteArray := prog_13_method_60_code
def yX11_asked : MethodName := ⟨RX11, "asked", "(II)I"⟩
abbrev cX11_would : ByteArray := prog_13_method_61_code
def yX11_would : MethodName := ⟨RX11, "would", "(IIII)Z"⟩
abbrev cX11_trades : ByteArray := prog_13_method_62_code
def yX11_trades : MethodName := ⟨RX11, "trades", "(III)V"⟩
abbrev cX11_learns : ByteArray := prog_13_method_63_code
def yX11_learns : MethodName := ⟨RX11, "learns", "()V"⟩
abbrev cX11_hour : ByteArray := prog_13_method_64_code
def yX11_hour : MethodName := ⟨RX11, "hour", "()V"⟩
abbrev cX11_plainHour : ByteArray := prog_13_method_65_code
def yX11_plainHour : MethodName := ⟨RX11, "plainHour", "()V"⟩
abbrev cX11_asks_ : ByteArray := prog_13_method_66_code
def yX11_asks_ : MethodName := ⟨RX11, "asks", "(II)I"⟩
abbrev cX11_has : ByteArray := prog_13_method_67_code
def yX11_has : MethodName := ⟨RX11, "has", "(II)I"⟩
abbrev cX11_sold : ByteArray := prog_13_method_68_code
def yX11_sold : MethodName := ⟨RX11, "sold", "(II)I"⟩
abbrev cX11_bought : ByteArray := prog_13_method_69_code
def yX11_bought : MethodName := ⟨RX11, "bought", "(II)I"⟩
abbrev cX11_coins : ByteArray := prog_13_method_70_code
def yX11_coins : MethodName := ⟨RX11, "coins", "(II)I"⟩
abbrev cX11_sale : ByteArray := prog_13_method_71_code
def yX11_sale : MethodName := ⟨RX11, "sale", "(II)I"⟩
abbrev cX11_all : ByteArray := prog_13_method_72_code
def yX11_all : MethodName := ⟨RX11, "all", "(I)I"⟩
abbrev cX11_chooses : ByteArray := prog_13_method_73_code
def yX11_chooses : MethodName := ⟨RX11, "chooses", "(II)V"⟩
abbrev cX11_best : ByteArray := prog_13_method_74_code
def yX11_best : MethodName := ⟨RX11, "best", "(I)I"⟩
abbrev cX11_cost : ByteArray := prog_13_method_75_code
def yX11_cost : MethodName := ⟨RX11, "cost", "(I)I"⟩
abbrev cX11_choice : ByteArray := prog_13_method_76_code
def yX11_choice : MethodName := ⟨RX11, "choice", "(II)I"⟩
abbrev cX11_needs : ByteArray := prog_13_method_77_code
def yX11_needs : MethodName := ⟨RX11, "needs", "(I)I"⟩
abbrev cX11_isHost : ByteArray := prog_13_method_78_code
def yX11_isHost : MethodName := ⟨RX11, "isHost", "(I)Z"⟩
abbrev cX11_goesOn : ByteArray := prog_13_method_79_code
def yX11_goesOn : MethodName := ⟨RX11, "goesOn", "(I)V"⟩
abbrev cX11_rides : ByteArray := prog_13_method_80_code
def yX11_rides : MethodName := ⟨RX11, "rides", "(II)V"⟩
abbrev cX11_sends : ByteArray := prog_13_method_81_code
def yX11_sends : MethodName := ⟨RX11, "sends", "(II)V"⟩
abbrev cX11_send : ByteArray := prog_13_method_82_code
def yX11_send : MethodName := ⟨RX11, "send", "(IIII)I"⟩
abbrev cX11_round : ByteArray := prog_13_method_83_code
def yX11_round : MethodName := ⟨RX11, "round", "(II)I"⟩
abbrev cX11_salesNow : ByteArray := prog_13_method_84_code
def yX11_salesNow : MethodName := ⟨RX11, "salesNow", "()I"⟩
abbrev cX11_change : ByteArray := prog_13_method_85_code
def yX11_change : MethodName := ⟨RX11, "change", "(II)V"⟩
abbrev cX11_swap : ByteArray := prog_13_method_86_code
def yX11_swap : MethodName := ⟨RX11, "swap", "(I)I"⟩
abbrev cX11_moves : ByteArray := prog_13_method_87_code
def yX11_moves : MethodName := ⟨RX11, "moves", "(II)I"⟩
abbrev cX11_offer : ByteArray := prog_13_method_88_code
def yX11_offer : MethodName := ⟨RX11, "offer", "(II)I"⟩
abbrev cX11_wise : ByteArray := prog_13_method_89_code
def yX11_wise : MethodName := ⟨RX11, "wise", "(I)I"⟩
abbrev cX11_theft : ByteArray := prog_13_method_90_code
def yX11_theft : MethodName := ⟨RX11, "theft", "(II)I"⟩
abbrev cX11_passed : ByteArray := prog_13_method_91_code
def yX11_passed : MethodName := ⟨RX11, "passed", "(III)I"⟩
abbrev cX11_harmOf : ByteArray := prog_13_method_92_code
def yX11_harmOf : MethodName := ⟨RX11, "harmOf", "(II)I"⟩
abbrev cX11_harm : ByteArray := prog_13_method_93_code
def yX11_harm : MethodName := ⟨RX11, "harm", "(II)I"⟩
abbrev cX11_least : ByteArray := prog_13_method_94_code
def yX11_least : MethodName := ⟨RX11, "least", "(I)I"⟩
abbrev cX11_turn : ByteArray := prog_13_method_95_code
def yX11_turn : MethodName := ⟨RX11, "turn", "(II)I"⟩
abbrev cX11_isAsAtFirst : ByteArray := prog_13_method_96_code
def yX11_isAsAtFirst : MethodName := ⟨RX11, "isAsAtFirst", "(I)Z"⟩
abbrev cX11_again : ByteArray := prog_13_method_97_code
def yX11_again : MethodName := ⟨RX11, "again", "()I"⟩
abbrev cX11_draws : ByteArray := prog_13_method_98_code
def yX11_draws : MethodName := ⟨RX11, "draws", "(JI)V"⟩
abbrev cX11_isDraw : ByteArray := prog_13_method_99_code
def yX11_isDraw : MethodName := ⟨RX11, "isDraw", "(II)Z"⟩
abbrev cX11_drawn : ByteArray := prog_13_method_100_code
def yX11_drawn : MethodName := ⟨RX11, "drawn", "(II)I"⟩
abbrev cX11_chance : ByteArray := prog_13_method_101_code
def yX11_chance : MethodName := ⟨RX11, "chance", "(IIII)I"⟩
abbrev cX11_judge : ByteArray := prog_13_method_102_code
def yX11_judge : MethodName := ⟨RX11, "judge", "(I)I"⟩
abbrev cX11_count : ByteArray := prog_13_method_103_code
def yX11_count : MethodName := ⟨RX11, "count", "(I)I"⟩
abbrev cX11_keep : ByteArray := prog_13_method_104_code
def yX11_keep : MethodName := ⟨RX11, "keep", "(I)I"⟩
abbrev cX11_back : ByteArray := prog_13_method_105_code
def yX11_back : MethodName := ⟨RX11, "back", "(I)I"⟩
def RX20 : String := "java/lang/Math"
def RX21 : String := "java/util/Arrays"
def RX22 : String := "java/lang/Long"
def RX23 : String := "java/lang/String"
def RX24 : String := "java/lang/StringLatin1"
def RX25 : String := "jdk/internal/util/Preconditions"
abbrev cX20_min : ByteArray := prog_15_method_69_code
def yX20_min : MethodName := ⟨RX20, "min", "(II)I"⟩
abbrev cX20_max : ByteArray := prog_15_method_65_code
def yX20_max : MethodName := ⟨RX20, "max", "(II)I"⟩
abbrev cX20_floorMod : ByteArray := prog_15_method_50_code
def yX20_floorMod : MethodName := ⟨RX20, "floorMod", "(II)I"⟩
abbrev cX21_fillI : ByteArray := prog_20_method_103_code
def yX21_fillI : MethodName := ⟨RX21, "fill", "([II)V"⟩
abbrev cX21_fillJ : ByteArray := prog_20_method_101_code
def yX21_fillJ : MethodName := ⟨RX21, "fill", "([JJ)V"⟩
abbrev cX22_bitCount : ByteArray := prog_14_method_50_code
def yX22_bitCount : MethodName := ⟨RX22, "bitCount", "(J)I"⟩
abbrev cX23_length : ByteArray := prog_16_method_54_code
def yX23_length : MethodName := ⟨RX23, "length", "()I"⟩
abbrev cX23_coder : ByteArray := prog_16_method_152_code
def yX23_coder : MethodName := ⟨RX23, "coder", "()B"⟩
abbrev cX23_charAt : ByteArray := prog_16_method_56_code
def yX23_charAt : MethodName := ⟨RX23, "charAt", "(I)C"⟩
abbrev cX23_isLatin1 : ByteArray := prog_16_method_154_code
def yX23_isLatin1 : MethodName := ⟨RX23, "isLatin1", "()Z"⟩
abbrev cX23_checkIndex : ByteArray := prog_16_method_155_code
def yX23_checkIndex : MethodName := ⟨RX23, "checkIndex", "(II)V"⟩
abbrev cX24_charAt : ByteArray := prog_17_method_2_code
def yX24_charAt : MethodName := ⟨RX24, "charAt", "([BI)C"⟩
abbrev cX25_checkIndex : ByteArray := prog_21_method_11_code
def yX25_checkIndex : MethodName := ⟨RX25, "checkIndex", "(IILjava/util/function/BiFunction;)I"⟩
/-- the texts of the reader: the pool's entries, their bytes -/
def SREF : List (Nat × String) := [(52, "ring"), (61, "stall"), (66, "buyer"), (71, "wants"), (76, "stuck"), (88, "market"), (94, "places"), (102, "minutes"), (117, "turns"), (123, "east"), (128, "west"), (144, "at"), (149, "sells"), (154, "pieces"), (158, "price"), (172, "fixed"), (174, "falls"), (176, "learns"), (190, "coins"), (194, "habit"), (202, "eager"), (206, "thrifty"), (208, "slow"), (222, "limit"), (226, "from"), (228, "to")]
def SBYT : List (List Int32) := [[114, 105, 110, 103], [115, 116, 97, 108, 108], [98, 117, 121, 101, 114], [119, 97, 110, 116, 115], [115, 116, 117, 99, 107], [109, 97, 114, 107, 101, 116], [112, 108, 97, 99, 101, 115], [109, 105, 110, 117, 116, 101, 115], [116, 117, 114, 110, 115], [101, 97, 115, 116], [119, 101, 115, 116], [97, 116], [115, 101, 108, 108, 115], [112, 105, 101, 99, 101, 115], [112, 114, 105, 99, 101], [102, 105, 120, 101, 100], [102, 97, 108, 108, 115], [108, 101, 97, 114, 110, 115], [99, 111, 105, 110, 115], [104, 97, 98, 105, 116], [101, 97, 103, 101, 114], [116, 104, 114, 105, 102, 116, 121], [115, 108, 111, 119], [108, 105, 109, 105, 116], [102, 114, 111, 109], [116, 111]]
def RL : String := "TurningMarketLaw"
def cls : List vw_C := [(RX0, TX0, 11), (RX1, TX1, 7), (RX2, TX2, 2), (RX3, TX3, 18), (RX4, TX4, 9), (RX5, TX5, 4), (RX6, TX6, 9), (RX7, TX7, 3), (RX8, TX8, 4), (RX9, TX9, 7), (RX10, TX10, 10), (RX11, TX11, 54)]
/-- a class's fields: 0 an int, 1 a long, 2 a reference -/
def fk : Nat → List Nat
  | 0 => [0, 0, 2, 2, 2, 2, 2, 2, 0, 0, 0]
  | 1 => [0, 0, 0, 0, 2, 2, 2]
  | 2 => [2, 2]
  | 3 => [2, 2, 2, 2, 0, 2, 2, 2, 2, 2, 2, 2, 2, 2, 2, 2, 2, 2]
  | 4 => [0, 0, 0, 0, 0, 0, 2, 2, 2]
  | 5 => [0, 0, 2, 2]
  | 6 => [2, 0, 0, 0, 0, 0, 0, 0, 0]
  | 7 => [0, 0, 1]
  | 8 => [0, 0, 0, 2]
  | 9 => [0, 0, 0, 0, 0, 0, 0]
  | 10 => [2, 2, 2, 2, 2, 2, 2, 0, 2, 2]
  | 11 => [0, 2, 2, 2, 2, 2, 0, 0, 0, 0, 0, 1, 0, 0, 0, 0, 2, 2, 2, 2, 2, 2, 2, 2, 2, 0, 0, 0, 1, 2, 2, 2, 2, 2, 2, 2, 2, 2, 2, 2, 2, 2, 2, 2, 2, 2, 0, 0, 0, 0, 2, 2, 2, 2]
  | _ => []
/-- the arrays' elements -/
def tyl : List FieldType := [.int, .long, .boolean, .byte, .object "TurningMarket$Ring", .object "TurningMarket$Stall", .object "TurningMarket$Buyer", .object "TurningMarket$Market", .object "TurningMarket$Row", .array .int]
def ak : Nat → Nat
  | 0 => 0
  | 1 => 1
  | 2 => 0
  | 3 => 0
  | _ => 2
/-- the words that every method may have -/
def WALL : List Cond := lw_tbl.filter goodWord
theorem wm {w : Cond} (i : Nat) (h : lw_tbl[i]? = some w ∧ goodWord w = true) : w ∈ WALL := List.mem_filter.mpr ⟨List.mem_of_getElem? h.1, h.2⟩
theorem WALL_in : ∀ w ∈ WALL, w ∈ lw_tbl := fun _ h => (List.mem_filter.mp h).1
theorem WALL_good : ∀ w ∈ WALL, (w.onTables && w.keeps) = true ∨ ∃ ty, w = .arrayClass ty := fun _ h => good_of_word (List.mem_filter.mp h).2
theorem ly0 : ∀ w ∈ u_ws RX0 TX0 11, w ∈ WALL := by
  have h : u_ws RX0 TX0 11 = [484, 486, 488, 490, 492, 494, 496, 498, 500, 502, 504].filterMap (fun i => lw_tbl[i]?) ∧ (u_ws RX0 TX0 11).all goodWord = true := by decide +kernel
  intro w hw
  refine List.mem_filter.mpr ⟨?_, List.all_eq_true.mp h.2 w hw⟩
  rw [h.1] at hw
  obtain ⟨i, -, hi⟩ := List.mem_filterMap.mp hw
  exact List.mem_of_getElem? hi
theorem ly1 : ∀ w ∈ u_ws RX1 TX1 7, w ∈ WALL := by
  have h : u_ws RX1 TX1 7 = [289, 291, 293, 295, 297, 299, 301].filterMap (fun i => lw_tbl[i]?) ∧ (u_ws RX1 TX1 7).all goodWord = true := by decide +kernel
  intro w hw
  refine List.mem_filter.mpr ⟨?_, List.all_eq_true.mp h.2 w hw⟩
  rw [h.1] at hw
  obtain ⟨i, -, hi⟩ := List.mem_filterMap.mp hw
  exact List.mem_of_getElem? hi
theorem ly2 : ∀ w ∈ u_ws RX2 TX2 2, w ∈ WALL := by
  have h : u_ws RX2 TX2 2 = [392, 394].filterMap (fun i => lw_tbl[i]?) ∧ (u_ws RX2 TX2 2).all goodWord = true := by decide +kernel
  intro w hw
  refine List.mem_filter.mpr ⟨?_, List.all_eq_true.mp h.2 w hw⟩
  rw [h.1] at hw
  obtain ⟨i, -, hi⟩ := List.mem_filterMap.mp hw
  exact List.mem_of_getElem? hi
theorem ly3 : ∀ w ∈ u_ws RX3 TX3 18, w ∈ WALL := by
  have h : u_ws RX3 TX3 18 = [427, 429, 431, 433, 435, 437, 439, 441, 443, 445, 447, 449, 451, 453, 455, 457, 459, 461].filterMap (fun i => lw_tbl[i]?) ∧ (u_ws RX3 TX3 18).all goodWord = true := by decide +kernel
  intro w hw
  refine List.mem_filter.mpr ⟨?_, List.all_eq_true.mp h.2 w hw⟩
  rw [h.1] at hw
  obtain ⟨i, -, hi⟩ := List.mem_filterMap.mp hw
  exact List.mem_of_getElem? hi
theorem ly4 : ∀ w ∈ u_ws RX4 TX4 9, w ∈ WALL := by
  have h : u_ws RX4 TX4 9 = [350, 352, 354, 356, 358, 360, 362, 364, 366].filterMap (fun i => lw_tbl[i]?) ∧ (u_ws RX4 TX4 9).all goodWord = true := by decide +kernel
  intro w hw
  refine List.mem_filter.mpr ⟨?_, List.all_eq_true.mp h.2 w hw⟩
  rw [h.1] at hw
  obtain ⟨i, -, hi⟩ := List.mem_filterMap.mp hw
  exact List.mem_of_getElem? hi
theorem ly5 : ∀ w ∈ u_ws RX5 TX5 4, w ∈ WALL := by
  have h : u_ws RX5 TX5 4 = [520, 522, 524, 526].filterMap (fun i => lw_tbl[i]?) ∧ (u_ws RX5 TX5 4).all goodWord = true := by decide +kernel
  intro w hw
  refine List.mem_filter.mpr ⟨?_, List.all_eq_true.mp h.2 w hw⟩
  rw [h.1] at hw
  obtain ⟨i, -, hi⟩ := List.mem_filterMap.mp hw
  exact List.mem_of_getElem? hi
theorem ly6 : ∀ w ∈ u_ws RX6 TX6 9, w ∈ WALL := by
  have h : u_ws RX6 TX6 9 = [145, 147, 149, 151, 153, 155, 157, 159, 161].filterMap (fun i => lw_tbl[i]?) ∧ (u_ws RX6 TX6 9).all goodWord = true := by decide +kernel
  intro w hw
  refine List.mem_filter.mpr ⟨?_, List.all_eq_true.mp h.2 w hw⟩
  rw [h.1] at hw
  obtain ⟨i, -, hi⟩ := List.mem_filterMap.mp hw
  exact List.mem_of_getElem? hi
theorem ly7 : ∀ w ∈ u_ws RX7 TX7 3, w ∈ WALL := by
  have h : u_ws RX7 TX7 3 = [194, 196, 198].filterMap (fun i => lw_tbl[i]?) ∧ (u_ws RX7 TX7 3).all goodWord = true := by decide +kernel
  intro w hw
  refine List.mem_filter.mpr ⟨?_, List.all_eq_true.mp h.2 w hw⟩
  rw [h.1] at hw
  obtain ⟨i, -, hi⟩ := List.mem_filterMap.mp hw
  exact List.mem_of_getElem? hi
theorem ly8 : ∀ w ∈ u_ws RX8 TX8 4, w ∈ WALL := by
  have h : u_ws RX8 TX8 4 = [542, 544, 546, 548].filterMap (fun i => lw_tbl[i]?) ∧ (u_ws RX8 TX8 4).all goodWord = true := by decide +kernel
  intro w hw
  refine List.mem_filter.mpr ⟨?_, List.all_eq_true.mp h.2 w hw⟩
  rw [h.1] at hw
  obtain ⟨i, -, hi⟩ := List.mem_filterMap.mp hw
  exact List.mem_of_getElem? hi
theorem ly9 : ∀ w ∈ u_ws RX9 TX9 7, w ∈ WALL := by
  have h : u_ws RX9 TX9 7 = [239, 241, 243, 245, 247, 249, 251].filterMap (fun i => lw_tbl[i]?) ∧ (u_ws RX9 TX9 7).all goodWord = true := by decide +kernel
  intro w hw
  refine List.mem_filter.mpr ⟨?_, List.all_eq_true.mp h.2 w hw⟩
  rw [h.1] at hw
  obtain ⟨i, -, hi⟩ := List.mem_filterMap.mp hw
  exact List.mem_of_getElem? hi
theorem ly10 : ∀ w ∈ u_ws RX10 TX10 10, w ∈ WALL := by
  have h : u_ws RX10 TX10 10 = [561, 563, 565, 567, 569, 571, 573, 575, 577, 579].filterMap (fun i => lw_tbl[i]?) ∧ (u_ws RX10 TX10 10).all goodWord = true := by decide +kernel
  intro w hw
  refine List.mem_filter.mpr ⟨?_, List.all_eq_true.mp h.2 w hw⟩
  rw [h.1] at hw
  obtain ⟨i, -, hi⟩ := List.mem_filterMap.mp hw
  exact List.mem_of_getElem? hi
theorem ly11 : ∀ w ∈ u_ws RX11 TX11 54, w ∈ WALL := by
  have h : u_ws RX11 TX11 54 = [1275, 1277, 1279, 1281, 1283, 1285, 1287, 1289, 1291, 1293, 1295, 1297, 1299, 1301, 1303, 1305, 1307, 1309, 1311, 1313, 1315, 1317, 1319, 1321, 1323, 1325, 1327, 1329, 1331, 1333, 1335, 1337, 1339, 1341, 1343, 1345, 1347, 1349, 1351, 1353, 1355, 1357, 1359, 1361, 1363, 1365, 1367, 1369, 1371, 1373, 1375, 1377, 1379, 1381].filterMap (fun i => lw_tbl[i]?) ∧ (u_ws RX11 TX11 54).all goodWord = true := by decide +kernel
  intro w hw
  refine List.mem_filter.mpr ⟨?_, List.all_eq_true.mp h.2 w hw⟩
  rw [h.1] at hw
  obtain ⟨i, -, hi⟩ := List.mem_filterMap.mp hw
  exact List.mem_of_getElem? hi
