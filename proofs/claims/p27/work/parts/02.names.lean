def RX0 : String := "PepperboxTable$Auction"
def TX0 : u_T := fun k => match k with
  | 0 => ("PepperboxTable$Auction", "bids", "[I", true)
  | 1 => ("PepperboxTable$Auction", "count", "I", false)
  | 2 => ("PepperboxTable$Auction", "dealer", "I", false)
  | 3 => ("PepperboxTable$Auction", "lastLevel", "I", false)
  | 4 => ("PepperboxTable$Auction", "lastBidder", "I", false)
  | 5 => ("PepperboxTable$Auction", "times", "I", false)
  | _ => ("PepperboxTable$Auction", "passes", "I", false)
def tyX0 : Nat → FieldType := fun k => match k with
  | 0 => .array .int
  | 1 => .int
  | 2 => .int
  | 3 => .int
  | 4 => .int
  | 5 => .int
  | _ => .int
theorem nmX0 : ∀ a, a < 7 → ∀ b, b < 7 → a ≠ b → (TX0 a).2.1 ≠ (TX0 b).2.1 := by decide +kernel
theorem tyX0_ok : ∀ k, k < 7 → parseFieldDescriptor (TX0 k).2.2.1 = some (tyX0 k) := by decide +kernel
abbrev cX0_init : ByteArray := prog_2_method_1_code
def yX0_init : MethodName := ⟨RX0, "<init>", "()V"⟩
abbrev cX0_clear : ByteArray := prog_2_method_2_code
def yX0_clear : MethodName := ⟨RX0, "clear", "(I)V"⟩
abbrev cX0_bidderAt : ByteArray := prog_2_method_3_code
def yX0_bidderAt : MethodName := ⟨RX0, "bidderAt", "(I)I"⟩
abbrev cX0_turn : ByteArray := prog_2_method_4_code
def yX0_turn : MethodName := ⟨RX0, "turn", "()I"⟩
abbrev cX0_at : ByteArray := prog_2_method_5_code
def yX0_at : MethodName := ⟨RX0, "at", "(I)I"⟩
abbrev cX0_allows : ByteArray := prog_2_method_6_code
def yX0_allows : MethodName := ⟨RX0, "allows", "(I)Z"⟩
abbrev cX0_add : ByteArray := prog_2_method_7_code
def yX0_add : MethodName := ⟨RX0, "add", "(I)V"⟩
abbrev cX0_addCall : ByteArray := prog_2_method_8_code
def yX0_addCall : MethodName := ⟨RX0, "addCall", "(I)V"⟩
abbrev cX0_isPassedOut : ByteArray := prog_2_method_9_code
def yX0_isPassedOut : MethodName := ⟨RX0, "isPassedOut", "()Z"⟩
abbrev cX0_isSettled : ByteArray := prog_2_method_10_code
def yX0_isSettled : MethodName := ⟨RX0, "isSettled", "()Z"⟩
abbrev cX0_level : ByteArray := prog_2_method_11_code
def yX0_level : MethodName := ⟨RX0, "level", "()I"⟩
abbrev cX0_trump : ByteArray := prog_2_method_12_code
def yX0_trump : MethodName := ⟨RX0, "trump", "()I"⟩
abbrev cX0_trumpOf : ByteArray := prog_2_method_13_code
def yX0_trumpOf : MethodName := ⟨RX0, "trumpOf", "(I)I"⟩
abbrev cX0_declarer : ByteArray := prog_2_method_14_code
def yX0_declarer : MethodName := ⟨RX0, "declarer", "()I"⟩
abbrev cX0_scoreFor : ByteArray := prog_2_method_15_code
def yX0_scoreFor : MethodName := ⟨RX0, "scoreFor", "(I)I"⟩
abbrev cX0_worthOf : ByteArray := prog_2_method_16_code
def yX0_worthOf : MethodName := ⟨RX0, "worthOf", "(I)I"⟩
def RX1 : String := "PepperboxTable$Cards"
def TX1 : u_T := fun k => match k with
  | 0 => ("PepperboxTable$Cards", "hands", "[I", true)
  | 1 => ("PepperboxTable$Cards", "playedCards", "[I", true)
  | 2 => ("PepperboxTable$Cards", "leaders", "[I", true)
  | 3 => ("PepperboxTable$Cards", "size", "I", false)
  | 4 => ("PepperboxTable$Cards", "played", "I", false)
  | 5 => ("PepperboxTable$Cards", "revokes", "I", false)
  | 6 => ("PepperboxTable$Cards", "trump", "I", false)
  | _ => ("PepperboxTable$Cards", "turn", "I", false)
def tyX1 : Nat → FieldType := fun k => match k with
  | 0 => .array .int
  | 1 => .array .int
  | 2 => .array .int
  | 3 => .int
  | 4 => .int
  | 5 => .int
  | 6 => .int
  | _ => .int
theorem nmX1 : ∀ a, a < 8 → ∀ b, b < 8 → a ≠ b → (TX1 a).2.1 ≠ (TX1 b).2.1 := by decide +kernel
theorem tyX1_ok : ∀ k, k < 8 → parseFieldDescriptor (TX1 k).2.2.1 = some (tyX1 k) := by decide +kernel
abbrev cX1_init : ByteArray := prog_3_method_1_code
def yX1_init : MethodName := ⟨RX1, "<init>", "()V"⟩
abbrev cX1_clear : ByteArray := prog_3_method_2_code
def yX1_clear : MethodName := ⟨RX1, "clear", "()V"⟩
abbrev cX1_copyFrom : ByteArray := prog_3_method_3_code
def yX1_copyFrom : MethodName := ⟨RX1, "copyFrom", "(LPepperboxTable$Cards;)V"⟩
abbrev cX1_start : ByteArray := prog_3_method_4_code
def yX1_start : MethodName := ⟨RX1, "start", "(II)V"⟩
abbrev cX1_heldBy : ByteArray := prog_3_method_5_code
def yX1_heldBy : MethodName := ⟨RX1, "heldBy", "(I)I"⟩
abbrev cX1_count : ByteArray := prog_3_method_6_code
def yX1_count : MethodName := ⟨RX1, "count", "(I)I"⟩
abbrev cX1_add : ByteArray := prog_3_method_7_code
def yX1_add : MethodName := ⟨RX1, "add", "(II)V"⟩
abbrev cX1_areAllEmpty : ByteArray := prog_3_method_9_code
def yX1_areAllEmpty : MethodName := ⟨RX1, "areAllEmpty", "()Z"⟩
abbrev cX1_areAtMost : ByteArray := prog_3_method_10_code
def yX1_areAtMost : MethodName := ⟨RX1, "areAtMost", "(I)Z"⟩
abbrev cX1_areReady : ByteArray := prog_3_method_11_code
def yX1_areReady : MethodName := ⟨RX1, "areReady", "()Z"⟩
abbrev cX1_ended : ByteArray := prog_3_method_12_code
def yX1_ended : MethodName := ⟨RX1, "ended", "()I"⟩
abbrev cX1_lying : ByteArray := prog_3_method_13_code
def yX1_lying : MethodName := ⟨RX1, "lying", "()I"⟩
abbrev cX1_tricksLeft : ByteArray := prog_3_method_14_code
def yX1_tricksLeft : MethodName := ⟨RX1, "tricksLeft", "()I"⟩
abbrev cX1_leaderOf : ByteArray := prog_3_method_15_code
def yX1_leaderOf : MethodName := ⟨RX1, "leaderOf", "(I)I"⟩
abbrev cX1_playedAt : ByteArray := prog_3_method_16_code
def yX1_playedAt : MethodName := ⟨RX1, "playedAt", "(I)I"⟩
abbrev cX1_playerAt : ByteArray := prog_3_method_17_code
def yX1_playerAt : MethodName := ⟨RX1, "playerAt", "(I)I"⟩
abbrev cX1_cardIn : ByteArray := prog_3_method_18_code
def yX1_cardIn : MethodName := ⟨RX1, "cardIn", "(II)I"⟩
abbrev cX1_takerOf : ByteArray := prog_3_method_19_code
def yX1_takerOf : MethodName := ⟨RX1, "takerOf", "(II)I"⟩
abbrev cX1_beats : ByteArray := prog_3_method_20_code
def yX1_beats : MethodName := ⟨RX1, "beats", "(II)Z"⟩
abbrev cX1_rightCards : ByteArray := prog_3_method_21_code
def yX1_rightCards : MethodName := ⟨RX1, "rightCards", "()I"⟩
abbrev cX1_put : ByteArray := prog_3_method_22_code
def yX1_put : MethodName := ⟨RX1, "put", "(I)I"⟩
abbrev cX1_takeBack : ByteArray := prog_3_method_23_code
def yX1_takeBack : MethodName := ⟨RX1, "takeBack", "()I"⟩
abbrev cX1_hasRevoked : ByteArray := prog_3_method_24_code
def yX1_hasRevoked : MethodName := ⟨RX1, "hasRevoked", "(I)Z"⟩
def RX2 : String := "PepperboxTable"
def TX2 : u_T := fun k => match k with
  | 0 => ("PepperboxTable", "cards", "LPepperboxTable$Cards;", true)
  | 1 => ("PepperboxTable", "trial", "LPepperboxTable$Cards;", true)
  | 2 => ("PepperboxTable", "auction", "LPepperboxTable$Auction;", true)
  | 3 => ("PepperboxTable", "taken", "[I", true)
  | 4 => ("PepperboxTable", "scores", "[I", true)
  | 5 => ("PepperboxTable", "state", "I", false)
  | _ => ("PepperboxTable", "dealsOver", "I", false)
def tyX2 : Nat → FieldType := fun k => match k with
  | 0 => .object "PepperboxTable$Cards"
  | 1 => .object "PepperboxTable$Cards"
  | 2 => .object "PepperboxTable$Auction"
  | 3 => .array .int
  | 4 => .array .int
  | 5 => .int
  | _ => .int
theorem nmX2 : ∀ a, a < 7 → ∀ b, b < 7 → a ≠ b → (TX2 a).2.1 ≠ (TX2 b).2.1 := by decide +kernel
theorem tyX2_ok : ∀ k, k < 7 → parseFieldDescriptor (TX2 k).2.2.1 = some (tyX2 k) := by decide +kernel
abbrev cX2_init : ByteArray := prog_1_method_1_code
def yX2_init : MethodName := ⟨RX2, "<init>", "()V"⟩
abbrev cX2_begin : ByteArray := prog_1_method_2_code
def yX2_begin : MethodName := ⟨RX2, "begin", "(I)I"⟩
abbrev cX2_deal : ByteArray := prog_1_method_3_code
def yX2_deal : MethodName := ⟨RX2, "deal", "(III)I"⟩
abbrev cX2_open : ByteArray := prog_1_method_5_code
def yX2_open : MethodName := ⟨RX2, "open", "()I"⟩
abbrev cX2_has : ByteArray := prog_1_method_6_code
def yX2_has : MethodName := ⟨RX2, "has", "(II)Z"⟩
abbrev cX2_hand : ByteArray := prog_1_method_7_code
def yX2_hand : MethodName := ⟨RX2, "hand", "(III)I"⟩
abbrev cX2_bid : ByteArray := prog_1_method_8_code
def yX2_bid : MethodName := ⟨RX2, "bid", "(I)I"⟩
abbrev cX2_canBid : ByteArray := prog_1_method_9_code
def yX2_canBid : MethodName := ⟨RX2, "canBid", "(I)Z"⟩
abbrev cX2_contract : ByteArray := prog_1_method_11_code
def yX2_contract : MethodName := ⟨RX2, "contract", "(I)I"⟩
abbrev cX2_play : ByteArray := prog_1_method_12_code
def yX2_play : MethodName := ⟨RX2, "play", "(I)I"⟩
abbrev cX2_back : ByteArray := prog_1_method_13_code
def yX2_back : MethodName := ⟨RX2, "back", "()I"⟩
abbrev cX2_isRight : ByteArray := prog_1_method_14_code
def yX2_isRight : MethodName := ⟨RX2, "isRight", "(I)Z"⟩
abbrev cX2_trick : ByteArray := prog_1_method_15_code
def yX2_trick : MethodName := ⟨RX2, "trick", "(II)I"⟩
abbrev cX2_now : ByteArray := prog_1_method_16_code
def yX2_now : MethodName := ⟨RX2, "now", "(I)I"⟩
abbrev cX2_side : ByteArray := prog_1_method_17_code
def yX2_side : MethodName := ⟨RX2, "side", "(II)I"⟩
abbrev cX2_meanScore : ByteArray := prog_1_method_18_code
def yX2_meanScore : MethodName := ⟨RX2, "meanScore", "()D"⟩
abbrev cX2_wouldGet : ByteArray := prog_1_method_19_code
def yX2_wouldGet : MethodName := ⟨RX2, "wouldGet", "(I)I"⟩
abbrev cX2_best : ByteArray := prog_1_method_20_code
def yX2_best : MethodName := ⟨RX2, "best", "()I"⟩
abbrev cX2_bestWith : ByteArray := prog_1_method_21_code
def yX2_bestWith : MethodName := ⟨RX2, "bestWith", "(I)I"⟩
abbrev cX2_bestCard : ByteArray := prog_1_method_22_code
def yX2_bestCard : MethodName := ⟨RX2, "bestCard", "()I"⟩
abbrev cX2_bestIn : ByteArray := prog_1_method_23_code
def yX2_bestIn : MethodName := ⟨RX2, "bestIn", "(I)I"⟩
abbrev cX2_digest : ByteArray := prog_1_method_25_code
def yX2_digest : MethodName := ⟨RX2, "digest", "()J"⟩
abbrev cX2_mix : ByteArray := prog_1_method_26_code
def yX2_mix : MethodName := ⟨RX2, "mix", "(JI)J"⟩
abbrev cX2_mixTricks : ByteArray := prog_1_method_27_code
def yX2_mixTricks : MethodName := ⟨RX2, "mixTricks", "(J)J"⟩
abbrev cX2_mixSides : ByteArray := prog_1_method_28_code
def yX2_mixSides : MethodName := ⟨RX2, "mixSides", "(J)J"⟩
abbrev cX2_mixHands : ByteArray := prog_1_method_29_code
def yX2_mixHands : MethodName := ⟨RX2, "mixHands", "(J)J"⟩
abbrev cX2_isCard : ByteArray := prog_1_method_30_code
def yX2_isCard : MethodName := ⟨RX2, "isCard", "(I)Z"⟩
abbrev cX2_checkPlayer : ByteArray := prog_1_method_31_code
def yX2_checkPlayer : MethodName := ⟨RX2, "checkPlayer", "(I)V"⟩
abbrev cX2_checkCard : ByteArray := prog_1_method_32_code
def yX2_checkCard : MethodName := ⟨RX2, "checkCard", "(I)V"⟩
abbrev cX2_checkBid : ByteArray := prog_1_method_33_code
def yX2_checkBid : MethodName := ⟨RX2, "checkBid", "(I)V"⟩
abbrev cX2_checkPlayable : ByteArray := prog_1_method_34_code
def yX2_checkPlayable : MethodName := ⟨RX2, "checkPlayable", "(I)V"⟩
abbrev cX2_isBidAllowed : ByteArray := prog_1_method_35_code
def yX2_isBidAllowed : MethodName := ⟨RX2, "isBidAllowed", "(I)Z"⟩
abbrev cX2_turnNow : ByteArray := prog_1_method_36_code
def yX2_turnNow : MethodName := ⟨RX2, "turnNow", "()I"⟩
abbrev cX2_revokersOf : ByteArray := prog_1_method_37_code
def yX2_revokersOf : MethodName := ⟨RX2, "revokersOf", "(I)I"⟩
abbrev cX2_finishDeal : ByteArray := prog_1_method_38_code
def yX2_finishDeal : MethodName := ⟨RX2, "finishDeal", "()V"⟩
abbrev cX2_payForRevoke : ByteArray := prog_1_method_39_code
def yX2_payForRevoke : MethodName := ⟨RX2, "payForRevoke", "(I)V"⟩
abbrev cX2_hasBestPlay : ByteArray := prog_1_method_40_code
def yX2_hasBestPlay : MethodName := ⟨RX2, "hasBestPlay", "()Z"⟩
abbrev cX2_bestBehind : ByteArray := prog_1_method_41_code
def yX2_bestBehind : MethodName := ⟨RX2, "bestBehind", "(I)I"⟩
abbrev cX2_mostOfSide0 : ByteArray := prog_1_method_42_code
def yX2_mostOfSide0 : MethodName := ⟨RX2, "mostOfSide0", "(LPepperboxTable$Cards;)I"⟩
abbrev cX2_doesSide0Get : ByteArray := prog_1_method_43_code
def yX2_doesSide0Get : MethodName := ⟨RX2, "doesSide0Get", "(LPepperboxTable$Cards;II)Z"⟩
abbrev cX2_countForSide0 : ByteArray := prog_1_method_44_code
def yX2_countForSide0 : MethodName := ⟨RX2, "countForSide0", "(I)I"⟩
abbrev cX2_sideOf : ByteArray := prog_1_method_45_code
def yX2_sideOf : MethodName := ⟨RX2, "sideOf", "(I)I"⟩
abbrev cX2_nextOf : ByteArray := prog_1_method_46_code
def yX2_nextOf : MethodName := ⟨RX2, "nextOf", "(I)I"⟩
abbrev cX2_contains : ByteArray := prog_1_method_47_code
def yX2_contains : MethodName := ⟨RX2, "contains", "(II)Z"⟩
abbrev cX2_with : ByteArray := prog_1_method_48_code
def yX2_with : MethodName := ⟨RX2, "with", "(II)I"⟩
abbrev cX2_without : ByteArray := prog_1_method_49_code
def yX2_without : MethodName := ⟨RX2, "without", "(II)I"⟩
abbrev cX2_wholeSuit : ByteArray := prog_1_method_50_code
def yX2_wholeSuit : MethodName := ⟨RX2, "wholeSuit", "(I)I"⟩
abbrev cX2_smallest : ByteArray := prog_1_method_51_code
def yX2_smallest : MethodName := ⟨RX2, "smallest", "(I)I"⟩
abbrev cX2_greatest : ByteArray := prog_1_method_52_code
def yX2_greatest : MethodName := ⟨RX2, "greatest", "(I)I"⟩
def RX3 : String := "PepperboxTableLaw$Deal"
def TX3 : u_T := fun k => match k with
  | 0 => ("PepperboxTableLaw$Deal", "m", "LPepperboxTable;", true)
  | 1 => ("PepperboxTableLaw$Deal", "s", "[I", true)
  | 2 => ("PepperboxTableLaw$Deal", "draws", "I", false)
  | 3 => ("PepperboxTableLaw$Deal", "state", "I", false)
  | 4 => ("PepperboxTableLaw$Deal", "dealer", "I", false)
  | 5 => ("PepperboxTableLaw$Deal", "size", "I", false)
  | 6 => ("PepperboxTableLaw$Deal", "has", "[[Z", true)
  | 7 => ("PepperboxTableLaw$Deal", "bids", "[I", false)
  | 8 => ("PepperboxTableLaw$Deal", "contract", "[I", false)
  | 9 => ("PepperboxTableLaw$Deal", "tricks", "[[I", false)
  | 10 => ("PepperboxTableLaw$Deal", "leader", "I", false)
  | 11 => ("PepperboxTableLaw$Deal", "lies", "[I", false)
  | 12 => ("PepperboxTableLaw$Deal", "hasRevoke", "[Z", true)
  | 13 => ("PepperboxTableLaw$Deal", "isWrong", "[Z", false)
  | 14 => ("PepperboxTableLaw$Deal", "hadOne", "[Z", false)
  | 15 => ("PepperboxTableLaw$Deal", "got", "[I", true)
  | 16 => ("PepperboxTableLaw$Deal", "score", "[I", true)
  | _ => ("PepperboxTableLaw$Deal", "deals", "I", false)
def tyX3 : Nat → FieldType := fun k => match k with
  | 0 => .object "PepperboxTable"
  | 1 => .array .int
  | 2 => .int
  | 3 => .int
  | 4 => .int
  | 5 => .int
  | 6 => .array (.array .boolean)
  | 7 => .array .int
  | 8 => .array .int
  | 9 => .array (.array .int)
  | 10 => .int
  | 11 => .array .int
  | 12 => .array .boolean
  | 13 => .array .boolean
  | 14 => .array .boolean
  | 15 => .array .int
  | 16 => .array .int
  | _ => .int
theorem nmX3 : ∀ a, a < 18 → ∀ b, b < 18 → a ≠ b → (TX3 a).2.1 ≠ (TX3 b).2.1 := by decide +kernel
theorem tyX3_ok : ∀ k, k < 18 → parseFieldDescriptor (TX3 k).2.2.1 = some (tyX3 k) := by decide +kernel
abbrev cX3_init : ByteArray := prog_5_method_1_code
def yX3_init : MethodName := ⟨RX3, "<init>", "([II)V"⟩
abbrev cX3_draw : ByteArray := prog_5_method_2_code
def yX3_draw : MethodName := ⟨RX3, "draw", "(I)I"⟩
abbrev cX3_plus : ByteArray := prog_5_method_3_code
def yX3_plus : MethodName := ⟨RX3, "plus", "([II)[I"⟩
abbrev cX3_count : ByteArray := prog_5_method_4_code
def yX3_count : MethodName := ⟨RX3, "count", "(I)I"⟩
abbrev cX3_begin : ByteArray := prog_5_method_5_code
def yX3_begin : MethodName := ⟨RX3, "begin", "()Z"⟩
abbrev cX3_deal : ByteArray := prog_5_method_6_code
def yX3_deal : MethodName := ⟨RX3, "deal", "(I)Z"⟩
abbrev cX3_open : ByteArray := prog_5_method_7_code
def yX3_open : MethodName := ⟨RX3, "open", "()Z"⟩
abbrev cX3_canBid : ByteArray := prog_5_method_8_code
def yX3_canBid : MethodName := ⟨RX3, "canBid", "(I)Z"⟩
abbrev cX3_turn : ByteArray := prog_5_method_9_code
def yX3_turn : MethodName := ⟨RX3, "turn", "()I"⟩
abbrev cX3_bid : ByteArray := prog_5_method_10_code
def yX3_bid : MethodName := ⟨RX3, "bid", "(I)Z"⟩
abbrev cX3_conclude : ByteArray := prog_5_method_11_code
def yX3_conclude : MethodName := ⟨RX3, "conclude", "()V"⟩
abbrev cX3_mustFollow : ByteArray := prog_5_method_13_code
def yX3_mustFollow : MethodName := ⟨RX3, "mustFollow", "(I)Z"⟩
abbrev cX3_isRight : ByteArray := prog_5_method_14_code
def yX3_isRight : MethodName := ⟨RX3, "isRight", "(II)Z"⟩
abbrev cX3_taker : ByteArray := prog_5_method_15_code
def yX3_taker : MethodName := ⟨RX3, "taker", "([II)I"⟩
abbrev cX3_any : ByteArray := prog_5_method_16_code
def yX3_any : MethodName := ⟨RX3, "any", "(Z)I"⟩
abbrev cX3_play : ByteArray := prog_5_method_17_code
def yX3_play : MethodName := ⟨RX3, "play", "(I)Z"⟩
abbrev cX3_end : ByteArray := prog_5_method_18_code
def yX3_end : MethodName := ⟨RX3, "end", "()V"⟩
abbrev cX3_worth : ByteArray := prog_5_method_19_code
def yX3_worth : MethodName := ⟨RX3, "worth", "(I)I"⟩
abbrev cX3_back : ByteArray := prog_5_method_20_code
def yX3_back : MethodName := ⟨RX3, "back", "()Z"⟩
abbrev cX3_step : ByteArray := prog_5_method_21_code
def yX3_step : MethodName := ⟨RX3, "step", "()Z"⟩
def RX4 : String := "PepperboxTableModel"
def TX4 : u_T := fun k => match k with
  | _ => ("", "", "", false)
def tyX4 : Nat → FieldType := fun k => match k with
  | _ => .int
theorem nmX4 : ∀ a, a < 0 → ∀ b, b < 0 → a ≠ b → (TX4 a).2.1 ≠ (TX4 b).2.1 := by decide +kernel
theorem tyX4_ok : ∀ k, k < 0 → parseFieldDescriptor (TX4 k).2.2.1 = some (tyX4 k) := by decide +kernel
def RJ6 : String := "java/lang/Integer"
def TJ6 : u_T := fun k => match k with
  | _ => ("", "", "", false)
def tyJ6 : Nat → FieldType := fun k => match k with
  | _ => .int
theorem nmJ6 : ∀ a, a < 0 → ∀ b, b < 0 → a ≠ b → (TJ6 a).2.1 ≠ (TJ6 b).2.1 := by decide +kernel
theorem tyJ6_ok : ∀ k, k < 0 → parseFieldDescriptor (TJ6 k).2.2.1 = some (tyJ6 k) := by decide +kernel
abbrev cJ6_numberOfLeadingZeros_0f7a4 : ByteArray := prog_11_method_47_code
def yJ6_numberOfLeadingZeros_0f7a4 : MethodName := ⟨RJ6, "numberOfLeadingZeros", "(I)I"⟩
abbrev cJ6_numberOfTrailingZeros_0f7a4 : ByteArray := prog_11_method_48_code
def yJ6_numberOfTrailingZeros_0f7a4 : MethodName := ⟨RJ6, "numberOfTrailingZeros", "(I)I"⟩
abbrev cJ6_bitCount_0f7a4 : ByteArray := prog_11_method_49_code
def yJ6_bitCount_0f7a4 : MethodName := ⟨RJ6, "bitCount", "(I)I"⟩
def RJ9 : String := "java/lang/Math"
def TJ9 : u_T := fun k => match k with
  | _ => ("", "", "", false)
def tyJ9 : Nat → FieldType := fun k => match k with
  | _ => .int
theorem nmJ9 : ∀ a, a < 0 → ∀ b, b < 0 → a ≠ b → (TJ9 a).2.1 ≠ (TJ9 b).2.1 := by decide +kernel
theorem tyJ9_ok : ∀ k, k < 0 → parseFieldDescriptor (TJ9 k).2.2.1 = some (tyJ9 k) := by decide +kernel
abbrev cJ9_abs_0f7a4 : ByteArray := prog_12_method_59_code
def yJ9_abs_0f7a4 : MethodName := ⟨RJ9, "abs", "(I)I"⟩
abbrev cJ9_max_7cf53 : ByteArray := prog_12_method_65_code
def yJ9_max_7cf53 : MethodName := ⟨RJ9, "max", "(II)I"⟩
abbrev cJ9_min_7cf53 : ByteArray := prog_12_method_69_code
def yJ9_min_7cf53 : MethodName := ⟨RJ9, "min", "(II)I"⟩
def RJ0 : String := "java/lang/String"
def TJ0 : u_T := fun k => match k with
  | _ => ("", "", "", false)
def tyJ0 : Nat → FieldType := fun k => match k with
  | _ => .int
theorem nmJ0 : ∀ a, a < 0 → ∀ b, b < 0 → a ≠ b → (TJ0 a).2.1 ≠ (TJ0 b).2.1 := by decide +kernel
theorem tyJ0_ok : ∀ k, k < 0 → parseFieldDescriptor (TJ0 k).2.2.1 = some (tyJ0 k) := by decide +kernel
def RJ10 : String := "java/lang/System"
def TJ10 : u_T := fun k => match k with
  | _ => ("", "", "", false)
def tyJ10 : Nat → FieldType := fun k => match k with
  | _ => .int
theorem nmJ10 : ∀ a, a < 0 → ∀ b, b < 0 → a ≠ b → (TJ10 a).2.1 ≠ (TJ10 b).2.1 := by decide +kernel
theorem tyJ10_ok : ∀ k, k < 0 → parseFieldDescriptor (TJ10 k).2.2.1 = some (tyJ10 k) := by decide +kernel
def RL : String := "PepperboxTableLaw"
abbrev cL_below : ByteArray := method_2_code
def yL_below : MethodName := ⟨RL, "below", "(II)I"⟩
abbrev cL_cell : ByteArray := method_3_code
def yL_cell : MethodName := ⟨RL, "cell", "([II)I"⟩
abbrev cL_law : ByteArray := code
def yL_law : MethodName := ⟨RL, "law", "([I)Z"⟩
theorem dX0_init_0 : decode cX0_init 0 = .ok (.aload_n 0, 1) := by decide +kernel
theorem dX0_init_1 : decode cX0_init 1 = .ok (.invokespecial 3, 3) := by decide +kernel
theorem dX0_init_4 : decode cX0_init 4 = .ok (.aload_n 0, 1) := by decide +kernel
theorem dX0_init_5 : decode cX0_init 5 = .ok (.sipush 364, 3) := by decide +kernel
theorem dX0_init_8 : decode cX0_init 8 = .ok (.newarray .int, 2) := by decide +kernel
theorem dX0_init_10 : decode cX0_init 10 = .ok (.putfield 9, 3) := by decide +kernel
theorem dX0_init_13 : decode cX0_init 13 = .ok (.aload_n 0, 1) := by decide +kernel
theorem dX0_init_14 : decode cX0_init 14 = .ok (.iconst 0, 1) := by decide +kernel
theorem dX0_init_15 : decode cX0_init 15 = .ok (.putfield 15, 3) := by decide +kernel
theorem dX0_init_18 : decode cX0_init 18 = .ok (.aload_n 0, 1) := by decide +kernel
theorem dX0_init_19 : decode cX0_init 19 = .ok (.iconst 0, 1) := by decide +kernel
theorem dX0_init_20 : decode cX0_init 20 = .ok (.putfield 19, 3) := by decide +kernel
theorem dX0_init_23 : decode cX0_init 23 = .ok (.aload_n 0, 1) := by decide +kernel
theorem dX0_init_24 : decode cX0_init 24 = .ok (.iconst 0, 1) := by decide +kernel
theorem dX0_init_25 : decode cX0_init 25 = .ok (.putfield 22, 3) := by decide +kernel
theorem dX0_init_28 : decode cX0_init 28 = .ok (.aload_n 0, 1) := by decide +kernel
theorem dX0_init_29 : decode cX0_init 29 = .ok (.iconst 0, 1) := by decide +kernel
theorem dX0_init_30 : decode cX0_init 30 = .ok (.putfield 25, 3) := by decide +kernel
theorem dX0_init_33 : decode cX0_init 33 = .ok (.aload_n 0, 1) := by decide +kernel
theorem dX0_init_34 : decode cX0_init 34 = .ok (.iconst 1, 1) := by decide +kernel
theorem dX0_init_35 : decode cX0_init 35 = .ok (.putfield 28, 3) := by decide +kernel
theorem dX0_init_38 : decode cX0_init 38 = .ok (.aload_n 0, 1) := by decide +kernel
theorem dX0_init_39 : decode cX0_init 39 = .ok (.iconst 0, 1) := by decide +kernel
theorem dX0_init_40 : decode cX0_init 40 = .ok (.putfield 31, 3) := by decide +kernel
theorem dX0_init_43 : decode cX0_init 43 = .ok (.return_, 1) := by decide +kernel
theorem dX0_clear_0 : decode cX0_clear 0 = .ok (.aload_n 0, 1) := by decide +kernel
theorem dX0_clear_1 : decode cX0_clear 1 = .ok (.iconst 0, 1) := by decide +kernel
theorem dX0_clear_2 : decode cX0_clear 2 = .ok (.putfield 15, 3) := by decide +kernel
theorem dX0_clear_5 : decode cX0_clear 5 = .ok (.aload_n 0, 1) := by decide +kernel
theorem dX0_clear_6 : decode cX0_clear 6 = .ok (.iload_n 1, 1) := by decide +kernel
theorem dX0_clear_7 : decode cX0_clear 7 = .ok (.putfield 19, 3) := by decide +kernel
theorem dX0_clear_10 : decode cX0_clear 10 = .ok (.aload_n 0, 1) := by decide +kernel
theorem dX0_clear_11 : decode cX0_clear 11 = .ok (.iconst 0, 1) := by decide +kernel
theorem dX0_clear_12 : decode cX0_clear 12 = .ok (.putfield 22, 3) := by decide +kernel
theorem dX0_clear_15 : decode cX0_clear 15 = .ok (.aload_n 0, 1) := by decide +kernel
theorem dX0_clear_16 : decode cX0_clear 16 = .ok (.iconst 0, 1) := by decide +kernel
theorem dX0_clear_17 : decode cX0_clear 17 = .ok (.putfield 25, 3) := by decide +kernel
theorem dX0_clear_20 : decode cX0_clear 20 = .ok (.aload_n 0, 1) := by decide +kernel
theorem dX0_clear_21 : decode cX0_clear 21 = .ok (.iconst 1, 1) := by decide +kernel
theorem dX0_clear_22 : decode cX0_clear 22 = .ok (.putfield 28, 3) := by decide +kernel
theorem dX0_clear_25 : decode cX0_clear 25 = .ok (.aload_n 0, 1) := by decide +kernel
theorem dX0_clear_26 : decode cX0_clear 26 = .ok (.iconst 0, 1) := by decide +kernel
theorem dX0_clear_27 : decode cX0_clear 27 = .ok (.putfield 31, 3) := by decide +kernel
theorem dX0_clear_30 : decode cX0_clear 30 = .ok (.return_, 1) := by decide +kernel
theorem dX0_bidderAt_0 : decode cX0_bidderAt 0 = .ok (.aload_n 0, 1) := by decide +kernel
theorem dX0_bidderAt_1 : decode cX0_bidderAt 1 = .ok (.getfield 19, 3) := by decide +kernel
theorem dX0_bidderAt_4 : decode cX0_bidderAt 4 = .ok (.iload_n 1, 1) := by decide +kernel
theorem dX0_bidderAt_5 : decode cX0_bidderAt 5 = .ok (.iadd, 1) := by decide +kernel
theorem dX0_bidderAt_6 : decode cX0_bidderAt 6 = .ok (.iconst 3, 1) := by decide +kernel
theorem dX0_bidderAt_7 : decode cX0_bidderAt 7 = .ok (.iand, 1) := by decide +kernel
theorem dX0_bidderAt_8 : decode cX0_bidderAt 8 = .ok (.ireturn, 1) := by decide +kernel
theorem dX0_turn_0 : decode cX0_turn 0 = .ok (.aload_n 0, 1) := by decide +kernel
theorem dX0_turn_1 : decode cX0_turn 1 = .ok (.aload_n 0, 1) := by decide +kernel
theorem dX0_turn_2 : decode cX0_turn 2 = .ok (.getfield 15, 3) := by decide +kernel
theorem dX0_turn_5 : decode cX0_turn 5 = .ok (.invokevirtual 34, 3) := by decide +kernel
theorem dX0_turn_8 : decode cX0_turn 8 = .ok (.ireturn, 1) := by decide +kernel
theorem dX0_at_0 : decode cX0_at 0 = .ok (.iload_n 1, 1) := by decide +kernel
theorem dX0_at_1 : decode cX0_at 1 = .ok (.ifCond .lt 29, 3) := by decide +kernel
theorem dX0_at_4 : decode cX0_at 4 = .ok (.iload_n 1, 1) := by decide +kernel
theorem dX0_at_5 : decode cX0_at 5 = .ok (.aload_n 0, 1) := by decide +kernel
theorem dX0_at_6 : decode cX0_at 6 = .ok (.getfield 15, 3) := by decide +kernel
theorem dX0_at_9 : decode cX0_at 9 = .ok (.if_icmp .ge 21, 3) := by decide +kernel
theorem dX0_at_12 : decode cX0_at 12 = .ok (.iload_n 1, 1) := by decide +kernel
theorem dX0_at_13 : decode cX0_at 13 = .ok (.aload_n 0, 1) := by decide +kernel
theorem dX0_at_14 : decode cX0_at 14 = .ok (.getfield 9, 3) := by decide +kernel
theorem dX0_at_17 : decode cX0_at 17 = .ok (.arraylength, 1) := by decide +kernel
theorem dX0_at_18 : decode cX0_at 18 = .ok (.if_icmp .ge 12, 3) := by decide +kernel
theorem dX0_at_21 : decode cX0_at 21 = .ok (.aload_n 0, 1) := by decide +kernel
theorem dX0_at_22 : decode cX0_at 22 = .ok (.getfield 9, 3) := by decide +kernel
theorem dX0_at_25 : decode cX0_at 25 = .ok (.iload_n 1, 1) := by decide +kernel
theorem dX0_at_26 : decode cX0_at 26 = .ok (.iaload, 1) := by decide +kernel
theorem dX0_at_27 : decode cX0_at 27 = .ok (.goto 4, 3) := by decide +kernel
theorem dX0_at_30 : decode cX0_at 30 = .ok (.iconst (-1), 1) := by decide +kernel
theorem dX0_at_31 : decode cX0_at 31 = .ok (.ireturn, 1) := by decide +kernel
theorem dX0_allows_0 : decode cX0_allows 0 = .ok (.iload_n 1, 1) := by decide +kernel
theorem dX0_allows_1 : decode cX0_allows 1 = .ok (.ifCond .ne 5, 3) := by decide +kernel
theorem dX0_allows_4 : decode cX0_allows 4 = .ok (.iconst 1, 1) := by decide +kernel
theorem dX0_allows_5 : decode cX0_allows 5 = .ok (.ireturn, 1) := by decide +kernel
theorem dX0_allows_6 : decode cX0_allows 6 = .ok (.iload_n 1, 1) := by decide +kernel
theorem dX0_allows_7 : decode cX0_allows 7 = .ok (.bipush 40, 2) := by decide +kernel
theorem dX0_allows_9 : decode cX0_allows 9 = .ok (.if_icmp .gt 17, 3) := by decide +kernel
theorem dX0_allows_12 : decode cX0_allows 12 = .ok (.iload_n 1, 1) := by decide +kernel
theorem dX0_allows_13 : decode cX0_allows 13 = .ok (.aload_n 0, 1) := by decide +kernel
theorem dX0_allows_14 : decode cX0_allows 14 = .ok (.getfield 22, 3) := by decide +kernel
theorem dX0_allows_17 : decode cX0_allows 17 = .ok (.if_icmp .le 7, 3) := by decide +kernel
theorem dX0_allows_20 : decode cX0_allows 20 = .ok (.iconst 1, 1) := by decide +kernel
theorem dX0_allows_21 : decode cX0_allows 21 = .ok (.goto 4, 3) := by decide +kernel
theorem dX0_allows_24 : decode cX0_allows 24 = .ok (.iconst 0, 1) := by decide +kernel
theorem dX0_allows_25 : decode cX0_allows 25 = .ok (.ireturn, 1) := by decide +kernel
theorem dX0_allows_26 : decode cX0_allows 26 = .ok (.aload_n 0, 1) := by decide +kernel
theorem dX0_allows_27 : decode cX0_allows 27 = .ok (.getfield 22, 3) := by decide +kernel
theorem dX0_allows_30 : decode cX0_allows 30 = .ok (.ifCond .ne 5, 3) := by decide +kernel
theorem dX0_allows_33 : decode cX0_allows 33 = .ok (.iconst 0, 1) := by decide +kernel
theorem dX0_allows_34 : decode cX0_allows 34 = .ok (.ireturn, 1) := by decide +kernel
theorem dX0_allows_35 : decode cX0_allows 35 = .ok (.aload_n 0, 1) := by decide +kernel
theorem dX0_allows_36 : decode cX0_allows 36 = .ok (.invokevirtual 38, 3) := by decide +kernel
theorem dX0_allows_39 : decode cX0_allows 39 = .ok (.invokestatic 42, 3) := by decide +kernel
theorem dX0_allows_42 : decode cX0_allows 42 = .ok (.aload_n 0, 1) := by decide +kernel
theorem dX0_allows_43 : decode cX0_allows 43 = .ok (.getfield 25, 3) := by decide +kernel
theorem dX0_allows_46 : decode cX0_allows 46 = .ok (.invokestatic 42, 3) := by decide +kernel
theorem dX0_allows_49 : decode cX0_allows 49 = .ok (.if_icmp .ne 7, 3) := by decide +kernel
theorem dX0_allows_52 : decode cX0_allows 52 = .ok (.iconst 1, 1) := by decide +kernel
theorem dX0_allows_53 : decode cX0_allows 53 = .ok (.goto 4, 3) := by decide +kernel
theorem dX0_allows_56 : decode cX0_allows 56 = .ok (.iconst 0, 1) := by decide +kernel
theorem dX0_allows_57 : decode cX0_allows 57 = .ok (.istore_n 2, 1) := by decide +kernel
theorem dX0_allows_58 : decode cX0_allows 58 = .ok (.iload_n 1, 1) := by decide +kernel
theorem dX0_allows_59 : decode cX0_allows 59 = .ok (.bipush 41, 2) := by decide +kernel
theorem dX0_allows_61 : decode cX0_allows 61 = .ok (.if_icmp .ne 23, 3) := by decide +kernel
theorem dX0_allows_64 : decode cX0_allows 64 = .ok (.iload_n 2, 1) := by decide +kernel
theorem dX0_allows_65 : decode cX0_allows 65 = .ok (.ifCond .ne 15, 3) := by decide +kernel
theorem dX0_allows_68 : decode cX0_allows 68 = .ok (.aload_n 0, 1) := by decide +kernel
theorem dX0_allows_69 : decode cX0_allows 69 = .ok (.getfield 28, 3) := by decide +kernel
theorem dX0_allows_72 : decode cX0_allows 72 = .ok (.iconst 1, 1) := by decide +kernel
theorem dX0_allows_73 : decode cX0_allows 73 = .ok (.if_icmp .ne 7, 3) := by decide +kernel
theorem dX0_allows_76 : decode cX0_allows 76 = .ok (.iconst 1, 1) := by decide +kernel
theorem dX0_allows_77 : decode cX0_allows 77 = .ok (.goto 24, 3) := by decide +kernel
theorem dX0_allows_80 : decode cX0_allows 80 = .ok (.iconst 0, 1) := by decide +kernel
theorem dX0_allows_81 : decode cX0_allows 81 = .ok (.goto 20, 3) := by decide +kernel
theorem dX0_allows_84 : decode cX0_allows 84 = .ok (.iload_n 2, 1) := by decide +kernel
theorem dX0_allows_85 : decode cX0_allows 85 = .ok (.ifCond .eq 15, 3) := by decide +kernel
theorem dX0_allows_88 : decode cX0_allows 88 = .ok (.aload_n 0, 1) := by decide +kernel
theorem dX0_allows_89 : decode cX0_allows 89 = .ok (.getfield 28, 3) := by decide +kernel
theorem dX0_allows_92 : decode cX0_allows 92 = .ok (.iconst 2, 1) := by decide +kernel
theorem dX0_allows_93 : decode cX0_allows 93 = .ok (.if_icmp .ne 7, 3) := by decide +kernel
theorem dX0_allows_96 : decode cX0_allows 96 = .ok (.iconst 1, 1) := by decide +kernel
theorem dX0_allows_97 : decode cX0_allows 97 = .ok (.goto 4, 3) := by decide +kernel
theorem dX0_allows_100 : decode cX0_allows 100 = .ok (.iconst 0, 1) := by decide +kernel
theorem dX0_allows_101 : decode cX0_allows 101 = .ok (.ireturn, 1) := by decide +kernel
theorem dX0_add_0 : decode cX0_add 0 = .ok (.aload_n 0, 1) := by decide +kernel
theorem dX0_add_1 : decode cX0_add 1 = .ok (.getfield 15, 3) := by decide +kernel
theorem dX0_add_4 : decode cX0_add 4 = .ok (.ifCond .lt 15, 3) := by decide +kernel
theorem dX0_add_7 : decode cX0_add 7 = .ok (.aload_n 0, 1) := by decide +kernel
theorem dX0_add_8 : decode cX0_add 8 = .ok (.getfield 15, 3) := by decide +kernel
theorem dX0_add_11 : decode cX0_add 11 = .ok (.aload_n 0, 1) := by decide +kernel
theorem dX0_add_12 : decode cX0_add 12 = .ok (.getfield 9, 3) := by decide +kernel
theorem dX0_add_15 : decode cX0_add 15 = .ok (.arraylength, 1) := by decide +kernel
theorem dX0_add_16 : decode cX0_add 16 = .ok (.if_icmp .lt 4, 3) := by decide +kernel
theorem dX0_add_19 : decode cX0_add 19 = .ok (.return_, 1) := by decide +kernel
theorem dX0_add_20 : decode cX0_add 20 = .ok (.iload_n 1, 1) := by decide +kernel
theorem dX0_add_21 : decode cX0_add 21 = .ok (.ifCond .ne 16, 3) := by decide +kernel
theorem dX0_add_24 : decode cX0_add 24 = .ok (.aload_n 0, 1) := by decide +kernel
theorem dX0_add_25 : decode cX0_add 25 = .ok (.dup, 1) := by decide +kernel
theorem dX0_add_26 : decode cX0_add 26 = .ok (.getfield 31, 3) := by decide +kernel
theorem dX0_add_29 : decode cX0_add 29 = .ok (.iconst 1, 1) := by decide +kernel
theorem dX0_add_30 : decode cX0_add 30 = .ok (.iadd, 1) := by decide +kernel
theorem dX0_add_31 : decode cX0_add 31 = .ok (.putfield 31, 3) := by decide +kernel
theorem dX0_add_34 : decode cX0_add 34 = .ok (.goto 13, 3) := by decide +kernel
theorem dX0_add_37 : decode cX0_add 37 = .ok (.aload_n 0, 1) := by decide +kernel
theorem dX0_add_38 : decode cX0_add 38 = .ok (.iconst 0, 1) := by decide +kernel
theorem dX0_add_39 : decode cX0_add 39 = .ok (.putfield 31, 3) := by decide +kernel
theorem dX0_add_42 : decode cX0_add 42 = .ok (.aload_n 0, 1) := by decide +kernel
theorem dX0_add_43 : decode cX0_add 43 = .ok (.iload_n 1, 1) := by decide +kernel
theorem dX0_add_44 : decode cX0_add 44 = .ok (.invokevirtual 45, 3) := by decide +kernel
theorem dX0_add_47 : decode cX0_add 47 = .ok (.aload_n 0, 1) := by decide +kernel
theorem dX0_add_48 : decode cX0_add 48 = .ok (.getfield 9, 3) := by decide +kernel
theorem dX0_add_51 : decode cX0_add 51 = .ok (.aload_n 0, 1) := by decide +kernel
theorem dX0_add_52 : decode cX0_add 52 = .ok (.getfield 15, 3) := by decide +kernel
theorem dX0_add_55 : decode cX0_add 55 = .ok (.iload_n 1, 1) := by decide +kernel
theorem dX0_add_56 : decode cX0_add 56 = .ok (.iastore, 1) := by decide +kernel
theorem dX0_add_57 : decode cX0_add 57 = .ok (.aload_n 0, 1) := by decide +kernel
theorem dX0_add_58 : decode cX0_add 58 = .ok (.dup, 1) := by decide +kernel
theorem dX0_add_59 : decode cX0_add 59 = .ok (.getfield 15, 3) := by decide +kernel
theorem dX0_add_62 : decode cX0_add 62 = .ok (.iconst 1, 1) := by decide +kernel
theorem dX0_add_63 : decode cX0_add 63 = .ok (.iadd, 1) := by decide +kernel
theorem dX0_add_64 : decode cX0_add 64 = .ok (.putfield 15, 3) := by decide +kernel
theorem dX0_add_67 : decode cX0_add 67 = .ok (.return_, 1) := by decide +kernel
theorem dX0_addCall_0 : decode cX0_addCall 0 = .ok (.iload_n 1, 1) := by decide +kernel
theorem dX0_addCall_1 : decode cX0_addCall 1 = .ok (.bipush 40, 2) := by decide +kernel
theorem dX0_addCall_3 : decode cX0_addCall 3 = .ok (.if_icmp .gt 24, 3) := by decide +kernel
theorem dX0_addCall_6 : decode cX0_addCall 6 = .ok (.aload_n 0, 1) := by decide +kernel
theorem dX0_addCall_7 : decode cX0_addCall 7 = .ok (.iload_n 1, 1) := by decide +kernel
theorem dX0_addCall_8 : decode cX0_addCall 8 = .ok (.putfield 22, 3) := by decide +kernel
theorem dX0_addCall_11 : decode cX0_addCall 11 = .ok (.aload_n 0, 1) := by decide +kernel
theorem dX0_addCall_12 : decode cX0_addCall 12 = .ok (.aload_n 0, 1) := by decide +kernel
theorem dX0_addCall_13 : decode cX0_addCall 13 = .ok (.invokevirtual 38, 3) := by decide +kernel
theorem dX0_addCall_16 : decode cX0_addCall 16 = .ok (.putfield 25, 3) := by decide +kernel
theorem dX0_addCall_19 : decode cX0_addCall 19 = .ok (.aload_n 0, 1) := by decide +kernel
theorem dX0_addCall_20 : decode cX0_addCall 20 = .ok (.iconst 1, 1) := by decide +kernel
theorem dX0_addCall_21 : decode cX0_addCall 21 = .ok (.putfield 28, 3) := by decide +kernel
theorem dX0_addCall_24 : decode cX0_addCall 24 = .ok (.goto 18, 3) := by decide +kernel
theorem dX0_addCall_27 : decode cX0_addCall 27 = .ok (.aload_n 0, 1) := by decide +kernel
theorem dX0_addCall_28 : decode cX0_addCall 28 = .ok (.iload_n 1, 1) := by decide +kernel
theorem dX0_addCall_29 : decode cX0_addCall 29 = .ok (.bipush 41, 2) := by decide +kernel
theorem dX0_addCall_31 : decode cX0_addCall 31 = .ok (.if_icmp .ne 7, 3) := by decide +kernel
theorem dX0_addCall_34 : decode cX0_addCall 34 = .ok (.iconst 2, 1) := by decide +kernel
theorem dX0_addCall_35 : decode cX0_addCall 35 = .ok (.goto 4, 3) := by decide +kernel
theorem dX0_addCall_38 : decode cX0_addCall 38 = .ok (.iconst 4, 1) := by decide +kernel
theorem dX0_addCall_39 : decode cX0_addCall 39 = .ok (.putfield 28, 3) := by decide +kernel
theorem dX0_addCall_42 : decode cX0_addCall 42 = .ok (.return_, 1) := by decide +kernel
theorem dX0_isPassedOut_0 : decode cX0_isPassedOut 0 = .ok (.aload_n 0, 1) := by decide +kernel
theorem dX0_isPassedOut_1 : decode cX0_isPassedOut 1 = .ok (.getfield 22, 3) := by decide +kernel
theorem dX0_isPassedOut_4 : decode cX0_isPassedOut 4 = .ok (.ifCond .ne 15, 3) := by decide +kernel
theorem dX0_isPassedOut_7 : decode cX0_isPassedOut 7 = .ok (.aload_n 0, 1) := by decide +kernel
theorem dX0_isPassedOut_8 : decode cX0_isPassedOut 8 = .ok (.getfield 31, 3) := by decide +kernel
theorem dX0_isPassedOut_11 : decode cX0_isPassedOut 11 = .ok (.iconst 4, 1) := by decide +kernel
theorem dX0_isPassedOut_12 : decode cX0_isPassedOut 12 = .ok (.if_icmp .lt 7, 3) := by decide +kernel
theorem dX0_isPassedOut_15 : decode cX0_isPassedOut 15 = .ok (.iconst 1, 1) := by decide +kernel
theorem dX0_isPassedOut_16 : decode cX0_isPassedOut 16 = .ok (.goto 4, 3) := by decide +kernel
theorem dX0_isPassedOut_19 : decode cX0_isPassedOut 19 = .ok (.iconst 0, 1) := by decide +kernel
theorem dX0_isPassedOut_20 : decode cX0_isPassedOut 20 = .ok (.ireturn, 1) := by decide +kernel
theorem dX0_isSettled_0 : decode cX0_isSettled 0 = .ok (.aload_n 0, 1) := by decide +kernel
theorem dX0_isSettled_1 : decode cX0_isSettled 1 = .ok (.getfield 22, 3) := by decide +kernel
theorem dX0_isSettled_4 : decode cX0_isSettled 4 = .ok (.ifCond .le 15, 3) := by decide +kernel
theorem dX0_isSettled_7 : decode cX0_isSettled 7 = .ok (.aload_n 0, 1) := by decide +kernel
theorem dX0_isSettled_8 : decode cX0_isSettled 8 = .ok (.getfield 31, 3) := by decide +kernel
theorem dX0_isSettled_11 : decode cX0_isSettled 11 = .ok (.iconst 3, 1) := by decide +kernel
theorem dX0_isSettled_12 : decode cX0_isSettled 12 = .ok (.if_icmp .lt 7, 3) := by decide +kernel
theorem dX0_isSettled_15 : decode cX0_isSettled 15 = .ok (.iconst 1, 1) := by decide +kernel
theorem dX0_isSettled_16 : decode cX0_isSettled 16 = .ok (.goto 4, 3) := by decide +kernel
theorem dX0_isSettled_19 : decode cX0_isSettled 19 = .ok (.iconst 0, 1) := by decide +kernel
theorem dX0_isSettled_20 : decode cX0_isSettled 20 = .ok (.ireturn, 1) := by decide +kernel
theorem dX0_level_0 : decode cX0_level 0 = .ok (.aload_n 0, 1) := by decide +kernel
theorem dX0_level_1 : decode cX0_level 1 = .ok (.getfield 22, 3) := by decide +kernel
theorem dX0_level_4 : decode cX0_level 4 = .ok (.iconst 1, 1) := by decide +kernel
theorem dX0_level_5 : decode cX0_level 5 = .ok (.isub, 1) := by decide +kernel
theorem dX0_level_6 : decode cX0_level 6 = .ok (.iconst 5, 1) := by decide +kernel
theorem dX0_level_7 : decode cX0_level 7 = .ok (.idiv, 1) := by decide +kernel
theorem dX0_level_8 : decode cX0_level 8 = .ok (.iconst 1, 1) := by decide +kernel
theorem dX0_level_9 : decode cX0_level 9 = .ok (.iadd, 1) := by decide +kernel
theorem dX0_level_10 : decode cX0_level 10 = .ok (.ireturn, 1) := by decide +kernel
theorem dX0_trump_0 : decode cX0_trump 0 = .ok (.aload_n 0, 1) := by decide +kernel
theorem dX0_trump_1 : decode cX0_trump 1 = .ok (.getfield 22, 3) := by decide +kernel
theorem dX0_trump_4 : decode cX0_trump 4 = .ok (.invokestatic 49, 3) := by decide +kernel
theorem dX0_trump_7 : decode cX0_trump 7 = .ok (.ireturn, 1) := by decide +kernel
theorem dX0_trumpOf_0 : decode cX0_trumpOf 0 = .ok (.iload_n 0, 1) := by decide +kernel
theorem dX0_trumpOf_1 : decode cX0_trumpOf 1 = .ok (.iconst 1, 1) := by decide +kernel
theorem dX0_trumpOf_2 : decode cX0_trumpOf 2 = .ok (.isub, 1) := by decide +kernel
theorem dX0_trumpOf_3 : decode cX0_trumpOf 3 = .ok (.iconst 5, 1) := by decide +kernel
theorem dX0_trumpOf_4 : decode cX0_trumpOf 4 = .ok (.irem, 1) := by decide +kernel
theorem dX0_trumpOf_5 : decode cX0_trumpOf 5 = .ok (.ireturn, 1) := by decide +kernel
theorem dX0_declarer_0 : decode cX0_declarer 0 = .ok (.iconst 0, 1) := by decide +kernel
theorem dX0_declarer_1 : decode cX0_declarer 1 = .ok (.istore_n 1, 1) := by decide +kernel
theorem dX0_declarer_2 : decode cX0_declarer 2 = .ok (.iload_n 1, 1) := by decide +kernel
theorem dX0_declarer_3 : decode cX0_declarer 3 = .ok (.aload_n 0, 1) := by decide +kernel
theorem dX0_declarer_4 : decode cX0_declarer 4 = .ok (.getfield 15, 3) := by decide +kernel
theorem dX0_declarer_7 : decode cX0_declarer 7 = .ok (.if_icmp .ge 82, 3) := by decide +kernel
theorem dX0_declarer_10 : decode cX0_declarer 10 = .ok (.aload_n 0, 1) := by decide +kernel
theorem dX0_declarer_11 : decode cX0_declarer 11 = .ok (.iload_n 1, 1) := by decide +kernel
theorem dX0_declarer_12 : decode cX0_declarer 12 = .ok (.invokevirtual 52, 3) := by decide +kernel
theorem dX0_declarer_15 : decode cX0_declarer 15 = .ok (.istore_n 2, 1) := by decide +kernel
theorem dX0_declarer_16 : decode cX0_declarer 16 = .ok (.iload_n 2, 1) := by decide +kernel
theorem dX0_declarer_17 : decode cX0_declarer 17 = .ok (.ifCond .le 13, 3) := by decide +kernel
theorem dX0_declarer_20 : decode cX0_declarer 20 = .ok (.iload_n 2, 1) := by decide +kernel
theorem dX0_declarer_21 : decode cX0_declarer 21 = .ok (.bipush 40, 2) := by decide +kernel
theorem dX0_declarer_23 : decode cX0_declarer 23 = .ok (.if_icmp .gt 7, 3) := by decide +kernel
theorem dX0_declarer_26 : decode cX0_declarer 26 = .ok (.iconst 1, 1) := by decide +kernel
theorem dX0_declarer_27 : decode cX0_declarer 27 = .ok (.goto 4, 3) := by decide +kernel
theorem dX0_declarer_30 : decode cX0_declarer 30 = .ok (.iconst 0, 1) := by decide +kernel
theorem dX0_declarer_31 : decode cX0_declarer 31 = .ok (.istore_n 3, 1) := by decide +kernel
theorem dX0_declarer_32 : decode cX0_declarer 32 = .ok (.aload_n 0, 1) := by decide +kernel
theorem dX0_declarer_33 : decode cX0_declarer 33 = .ok (.iload_n 1, 1) := by decide +kernel
theorem dX0_declarer_34 : decode cX0_declarer 34 = .ok (.invokevirtual 34, 3) := by decide +kernel
theorem dX0_declarer_37 : decode cX0_declarer 37 = .ok (.invokestatic 42, 3) := by decide +kernel
theorem dX0_declarer_40 : decode cX0_declarer 40 = .ok (.aload_n 0, 1) := by decide +kernel
theorem dX0_declarer_41 : decode cX0_declarer 41 = .ok (.getfield 25, 3) := by decide +kernel
theorem dX0_declarer_44 : decode cX0_declarer 44 = .ok (.invokestatic 42, 3) := by decide +kernel
theorem dX0_declarer_47 : decode cX0_declarer 47 = .ok (.if_icmp .ne 7, 3) := by decide +kernel
theorem dX0_declarer_50 : decode cX0_declarer 50 = .ok (.iconst 1, 1) := by decide +kernel
theorem dX0_declarer_51 : decode cX0_declarer 51 = .ok (.goto 4, 3) := by decide +kernel
theorem dX0_declarer_54 : decode cX0_declarer 54 = .ok (.iconst 0, 1) := by decide +kernel
theorem dX0_declarer_55 : decode cX0_declarer 55 = .ok (.istore 4, 2) := by decide +kernel
theorem dX0_declarer_57 : decode cX0_declarer 57 = .ok (.iload_n 3, 1) := by decide +kernel
theorem dX0_declarer_58 : decode cX0_declarer 58 = .ok (.ifCond .eq 25, 3) := by decide +kernel
theorem dX0_declarer_61 : decode cX0_declarer 61 = .ok (.iload 4, 2) := by decide +kernel
theorem dX0_declarer_63 : decode cX0_declarer 63 = .ok (.ifCond .eq 20, 3) := by decide +kernel
theorem dX0_declarer_66 : decode cX0_declarer 66 = .ok (.iload_n 2, 1) := by decide +kernel
theorem dX0_declarer_67 : decode cX0_declarer 67 = .ok (.invokestatic 49, 3) := by decide +kernel
theorem dX0_declarer_70 : decode cX0_declarer 70 = .ok (.aload_n 0, 1) := by decide +kernel
theorem dX0_declarer_71 : decode cX0_declarer 71 = .ok (.invokevirtual 55, 3) := by decide +kernel
theorem dX0_declarer_74 : decode cX0_declarer 74 = .ok (.if_icmp .ne 9, 3) := by decide +kernel
theorem dX0_declarer_77 : decode cX0_declarer 77 = .ok (.aload_n 0, 1) := by decide +kernel
theorem dX0_declarer_78 : decode cX0_declarer 78 = .ok (.iload_n 1, 1) := by decide +kernel
theorem dX0_declarer_79 : decode cX0_declarer 79 = .ok (.invokevirtual 34, 3) := by decide +kernel
theorem dX0_declarer_82 : decode cX0_declarer 82 = .ok (.ireturn, 1) := by decide +kernel
theorem dX0_declarer_83 : decode cX0_declarer 83 = .ok (.iinc 1 1, 3) := by decide +kernel
theorem dX0_declarer_86 : decode cX0_declarer 86 = .ok (.goto (-84), 3) := by decide +kernel
theorem dX0_declarer_89 : decode cX0_declarer 89 = .ok (.iconst (-1), 1) := by decide +kernel
theorem dX0_declarer_90 : decode cX0_declarer 90 = .ok (.ireturn, 1) := by decide +kernel
theorem dX0_scoreFor_0 : decode cX0_scoreFor 0 = .ok (.aload_n 0, 1) := by decide +kernel
theorem dX0_scoreFor_1 : decode cX0_scoreFor 1 = .ok (.invokevirtual 58, 3) := by decide +kernel
theorem dX0_scoreFor_4 : decode cX0_scoreFor 4 = .ok (.istore_n 2, 1) := by decide +kernel
theorem dX0_scoreFor_5 : decode cX0_scoreFor 5 = .ok (.iload_n 1, 1) := by decide +kernel
theorem dX0_scoreFor_6 : decode cX0_scoreFor 6 = .ok (.iload_n 2, 1) := by decide +kernel
theorem dX0_scoreFor_7 : decode cX0_scoreFor 7 = .ok (.if_icmp .ge 15, 3) := by decide +kernel
theorem dX0_scoreFor_10 : decode cX0_scoreFor 10 = .ok (.bipush (-50), 2) := by decide +kernel
theorem dX0_scoreFor_12 : decode cX0_scoreFor 12 = .ok (.aload_n 0, 1) := by decide +kernel
theorem dX0_scoreFor_13 : decode cX0_scoreFor 13 = .ok (.getfield 28, 3) := by decide +kernel
theorem dX0_scoreFor_16 : decode cX0_scoreFor 16 = .ok (.imul, 1) := by decide +kernel
theorem dX0_scoreFor_17 : decode cX0_scoreFor 17 = .ok (.iload_n 2, 1) := by decide +kernel
theorem dX0_scoreFor_18 : decode cX0_scoreFor 18 = .ok (.iload_n 1, 1) := by decide +kernel
theorem dX0_scoreFor_19 : decode cX0_scoreFor 19 = .ok (.isub, 1) := by decide +kernel
theorem dX0_scoreFor_20 : decode cX0_scoreFor 20 = .ok (.imul, 1) := by decide +kernel
theorem dX0_scoreFor_21 : decode cX0_scoreFor 21 = .ok (.ireturn, 1) := by decide +kernel
theorem dX0_scoreFor_22 : decode cX0_scoreFor 22 = .ok (.iload_n 2, 1) := by decide +kernel
theorem dX0_scoreFor_23 : decode cX0_scoreFor 23 = .ok (.bipush 6, 2) := by decide +kernel
theorem dX0_scoreFor_25 : decode cX0_scoreFor 25 = .ok (.if_icmp .lt 8, 3) := by decide +kernel
theorem dX0_scoreFor_28 : decode cX0_scoreFor 28 = .ok (.bipush 50, 2) := by decide +kernel
theorem dX0_scoreFor_30 : decode cX0_scoreFor 30 = .ok (.goto 4, 3) := by decide +kernel
theorem dX0_scoreFor_33 : decode cX0_scoreFor 33 = .ok (.iconst 0, 1) := by decide +kernel
theorem dX0_scoreFor_34 : decode cX0_scoreFor 34 = .ok (.istore_n 3, 1) := by decide +kernel
theorem dX0_scoreFor_35 : decode cX0_scoreFor 35 = .ok (.aload_n 0, 1) := by decide +kernel
theorem dX0_scoreFor_36 : decode cX0_scoreFor 36 = .ok (.getfield 28, 3) := by decide +kernel
theorem dX0_scoreFor_39 : decode cX0_scoreFor 39 = .ok (.iload_n 2, 1) := by decide +kernel
theorem dX0_scoreFor_40 : decode cX0_scoreFor 40 = .ok (.imul, 1) := by decide +kernel
theorem dX0_scoreFor_41 : decode cX0_scoreFor 41 = .ok (.aload_n 0, 1) := by decide +kernel
theorem dX0_scoreFor_42 : decode cX0_scoreFor 42 = .ok (.invokevirtual 55, 3) := by decide +kernel
theorem dX0_scoreFor_45 : decode cX0_scoreFor 45 = .ok (.invokestatic 61, 3) := by decide +kernel
theorem dX0_scoreFor_48 : decode cX0_scoreFor 48 = .ok (.imul, 1) := by decide +kernel
theorem dX0_scoreFor_49 : decode cX0_scoreFor 49 = .ok (.bipush 20, 2) := by decide +kernel
theorem dX0_scoreFor_51 : decode cX0_scoreFor 51 = .ok (.aload_n 0, 1) := by decide +kernel
theorem dX0_scoreFor_52 : decode cX0_scoreFor 52 = .ok (.getfield 28, 3) := by decide +kernel
theorem dX0_scoreFor_55 : decode cX0_scoreFor 55 = .ok (.imul, 1) := by decide +kernel
theorem dX0_scoreFor_56 : decode cX0_scoreFor 56 = .ok (.iload_n 1, 1) := by decide +kernel
theorem dX0_scoreFor_57 : decode cX0_scoreFor 57 = .ok (.iload_n 2, 1) := by decide +kernel
theorem dX0_scoreFor_58 : decode cX0_scoreFor 58 = .ok (.isub, 1) := by decide +kernel
theorem dX0_scoreFor_59 : decode cX0_scoreFor 59 = .ok (.imul, 1) := by decide +kernel
theorem dX0_scoreFor_60 : decode cX0_scoreFor 60 = .ok (.iadd, 1) := by decide +kernel
theorem dX0_scoreFor_61 : decode cX0_scoreFor 61 = .ok (.iload_n 3, 1) := by decide +kernel
theorem dX0_scoreFor_62 : decode cX0_scoreFor 62 = .ok (.iadd, 1) := by decide +kernel
theorem dX0_scoreFor_63 : decode cX0_scoreFor 63 = .ok (.ireturn, 1) := by decide +kernel
theorem dX0_worthOf_0 : decode cX0_worthOf 0 = .ok (.iload_n 0, 1) := by decide +kernel
theorem dX0_worthOf_1 : decode cX0_worthOf 1 = .ok (.iconst 4, 1) := by decide +kernel
theorem dX0_worthOf_2 : decode cX0_worthOf 2 = .ok (.if_icmp .lt 6, 3) := by decide +kernel
theorem dX0_worthOf_5 : decode cX0_worthOf 5 = .ok (.bipush 40, 2) := by decide +kernel
theorem dX0_worthOf_7 : decode cX0_worthOf 7 = .ok (.ireturn, 1) := by decide +kernel
theorem dX0_worthOf_8 : decode cX0_worthOf 8 = .ok (.iload_n 0, 1) := by decide +kernel
theorem dX0_worthOf_9 : decode cX0_worthOf 9 = .ok (.iconst 2, 1) := by decide +kernel
theorem dX0_worthOf_10 : decode cX0_worthOf 10 = .ok (.if_icmp .lt 8, 3) := by decide +kernel
theorem dX0_worthOf_13 : decode cX0_worthOf 13 = .ok (.bipush 30, 2) := by decide +kernel
theorem dX0_worthOf_15 : decode cX0_worthOf 15 = .ok (.goto 5, 3) := by decide +kernel
theorem dX0_worthOf_18 : decode cX0_worthOf 18 = .ok (.bipush 20, 2) := by decide +kernel
theorem dX0_worthOf_20 : decode cX0_worthOf 20 = .ok (.ireturn, 1) := by decide +kernel
theorem dX1_init_0 : decode cX1_init 0 = .ok (.aload_n 0, 1) := by decide +kernel
theorem dX1_init_1 : decode cX1_init 1 = .ok (.invokespecial 3, 3) := by decide +kernel
theorem dX1_init_4 : decode cX1_init 4 = .ok (.aload_n 0, 1) := by decide +kernel
theorem dX1_init_5 : decode cX1_init 5 = .ok (.iconst 4, 1) := by decide +kernel
theorem dX1_init_6 : decode cX1_init 6 = .ok (.newarray .int, 2) := by decide +kernel
theorem dX1_init_8 : decode cX1_init 8 = .ok (.putfield 9, 3) := by decide +kernel
theorem dX1_init_11 : decode cX1_init 11 = .ok (.aload_n 0, 1) := by decide +kernel
theorem dX1_init_12 : decode cX1_init 12 = .ok (.bipush 32, 2) := by decide +kernel
theorem dX1_init_14 : decode cX1_init 14 = .ok (.newarray .int, 2) := by decide +kernel
theorem dX1_init_16 : decode cX1_init 16 = .ok (.putfield 15, 3) := by decide +kernel
theorem dX1_init_19 : decode cX1_init 19 = .ok (.aload_n 0, 1) := by decide +kernel
theorem dX1_init_20 : decode cX1_init 20 = .ok (.bipush 9, 2) := by decide +kernel
theorem dX1_init_22 : decode cX1_init 22 = .ok (.newarray .int, 2) := by decide +kernel
theorem dX1_init_24 : decode cX1_init 24 = .ok (.putfield 18, 3) := by decide +kernel
theorem dX1_init_27 : decode cX1_init 27 = .ok (.aload_n 0, 1) := by decide +kernel
theorem dX1_init_28 : decode cX1_init 28 = .ok (.iconst 0, 1) := by decide +kernel
theorem dX1_init_29 : decode cX1_init 29 = .ok (.putfield 21, 3) := by decide +kernel
theorem dX1_init_32 : decode cX1_init 32 = .ok (.aload_n 0, 1) := by decide +kernel
theorem dX1_init_33 : decode cX1_init 33 = .ok (.iconst 0, 1) := by decide +kernel
theorem dX1_init_34 : decode cX1_init 34 = .ok (.putfield 25, 3) := by decide +kernel
theorem dX1_init_37 : decode cX1_init 37 = .ok (.aload_n 0, 1) := by decide +kernel
theorem dX1_init_38 : decode cX1_init 38 = .ok (.iconst 0, 1) := by decide +kernel
theorem dX1_init_39 : decode cX1_init 39 = .ok (.putfield 28, 3) := by decide +kernel
theorem dX1_init_42 : decode cX1_init 42 = .ok (.aload_n 0, 1) := by decide +kernel
theorem dX1_init_43 : decode cX1_init 43 = .ok (.iconst 4, 1) := by decide +kernel
theorem dX1_init_44 : decode cX1_init 44 = .ok (.putfield 31, 3) := by decide +kernel
theorem dX1_init_47 : decode cX1_init 47 = .ok (.aload_n 0, 1) := by decide +kernel
theorem dX1_init_48 : decode cX1_init 48 = .ok (.iconst 0, 1) := by decide +kernel
theorem dX1_init_49 : decode cX1_init 49 = .ok (.putfield 34, 3) := by decide +kernel
theorem dX1_init_52 : decode cX1_init 52 = .ok (.return_, 1) := by decide +kernel
theorem dX1_clear_0 : decode cX1_clear 0 = .ok (.iconst 0, 1) := by decide +kernel
theorem dX1_clear_1 : decode cX1_clear 1 = .ok (.istore_n 1, 1) := by decide +kernel
theorem dX1_clear_2 : decode cX1_clear 2 = .ok (.iload_n 1, 1) := by decide +kernel
theorem dX1_clear_3 : decode cX1_clear 3 = .ok (.iconst 4, 1) := by decide +kernel
theorem dX1_clear_4 : decode cX1_clear 4 = .ok (.if_icmp .ge 16, 3) := by decide +kernel
theorem dX1_clear_7 : decode cX1_clear 7 = .ok (.aload_n 0, 1) := by decide +kernel
theorem dX1_clear_8 : decode cX1_clear 8 = .ok (.getfield 9, 3) := by decide +kernel
theorem dX1_clear_11 : decode cX1_clear 11 = .ok (.iload_n 1, 1) := by decide +kernel
theorem dX1_clear_12 : decode cX1_clear 12 = .ok (.iconst 0, 1) := by decide +kernel
theorem dX1_clear_13 : decode cX1_clear 13 = .ok (.iastore, 1) := by decide +kernel
theorem dX1_clear_14 : decode cX1_clear 14 = .ok (.iinc 1 1, 3) := by decide +kernel
theorem dX1_clear_17 : decode cX1_clear 17 = .ok (.goto (-15), 3) := by decide +kernel
theorem dX1_clear_20 : decode cX1_clear 20 = .ok (.aload_n 0, 1) := by decide +kernel
theorem dX1_clear_21 : decode cX1_clear 21 = .ok (.iconst 0, 1) := by decide +kernel
theorem dX1_clear_22 : decode cX1_clear 22 = .ok (.putfield 21, 3) := by decide +kernel
theorem dX1_clear_25 : decode cX1_clear 25 = .ok (.aload_n 0, 1) := by decide +kernel
theorem dX1_clear_26 : decode cX1_clear 26 = .ok (.iconst 0, 1) := by decide +kernel
theorem dX1_clear_27 : decode cX1_clear 27 = .ok (.putfield 25, 3) := by decide +kernel
theorem dX1_clear_30 : decode cX1_clear 30 = .ok (.aload_n 0, 1) := by decide +kernel
theorem dX1_clear_31 : decode cX1_clear 31 = .ok (.iconst 0, 1) := by decide +kernel
theorem dX1_clear_32 : decode cX1_clear 32 = .ok (.putfield 28, 3) := by decide +kernel
theorem dX1_clear_35 : decode cX1_clear 35 = .ok (.return_, 1) := by decide +kernel
theorem dX1_copyFrom_0 : decode cX1_copyFrom 0 = .ok (.aload_n 1, 1) := by decide +kernel
theorem dX1_copyFrom_1 : decode cX1_copyFrom 1 = .ok (.getfield 9, 3) := by decide +kernel
theorem dX1_copyFrom_4 : decode cX1_copyFrom 4 = .ok (.iconst 0, 1) := by decide +kernel
theorem dX1_copyFrom_5 : decode cX1_copyFrom 5 = .ok (.aload_n 0, 1) := by decide +kernel
theorem dX1_copyFrom_6 : decode cX1_copyFrom 6 = .ok (.getfield 9, 3) := by decide +kernel
theorem dX1_copyFrom_9 : decode cX1_copyFrom 9 = .ok (.iconst 0, 1) := by decide +kernel
theorem dX1_copyFrom_10 : decode cX1_copyFrom 10 = .ok (.iconst 4, 1) := by decide +kernel
theorem dX1_copyFrom_11 : decode cX1_copyFrom 11 = .ok (.invokestatic 37, 3) := by decide +kernel
theorem dX1_copyFrom_14 : decode cX1_copyFrom 14 = .ok (.aload_n 1, 1) := by decide +kernel
theorem dX1_copyFrom_15 : decode cX1_copyFrom 15 = .ok (.getfield 15, 3) := by decide +kernel
theorem dX1_copyFrom_18 : decode cX1_copyFrom 18 = .ok (.iconst 0, 1) := by decide +kernel
theorem dX1_copyFrom_19 : decode cX1_copyFrom 19 = .ok (.aload_n 0, 1) := by decide +kernel
theorem dX1_copyFrom_20 : decode cX1_copyFrom 20 = .ok (.getfield 15, 3) := by decide +kernel
theorem dX1_copyFrom_23 : decode cX1_copyFrom 23 = .ok (.iconst 0, 1) := by decide +kernel
theorem dX1_copyFrom_24 : decode cX1_copyFrom 24 = .ok (.bipush 32, 2) := by decide +kernel
theorem dX1_copyFrom_26 : decode cX1_copyFrom 26 = .ok (.invokestatic 37, 3) := by decide +kernel
theorem dX1_copyFrom_29 : decode cX1_copyFrom 29 = .ok (.aload_n 1, 1) := by decide +kernel
theorem dX1_copyFrom_30 : decode cX1_copyFrom 30 = .ok (.getfield 18, 3) := by decide +kernel
theorem dX1_copyFrom_33 : decode cX1_copyFrom 33 = .ok (.iconst 0, 1) := by decide +kernel
theorem dX1_copyFrom_34 : decode cX1_copyFrom 34 = .ok (.aload_n 0, 1) := by decide +kernel
theorem dX1_copyFrom_35 : decode cX1_copyFrom 35 = .ok (.getfield 18, 3) := by decide +kernel
theorem dX1_copyFrom_38 : decode cX1_copyFrom 38 = .ok (.iconst 0, 1) := by decide +kernel
theorem dX1_copyFrom_39 : decode cX1_copyFrom 39 = .ok (.bipush 9, 2) := by decide +kernel
theorem dX1_copyFrom_41 : decode cX1_copyFrom 41 = .ok (.invokestatic 37, 3) := by decide +kernel
theorem dX1_copyFrom_44 : decode cX1_copyFrom 44 = .ok (.aload_n 0, 1) := by decide +kernel
theorem dX1_copyFrom_45 : decode cX1_copyFrom 45 = .ok (.aload_n 1, 1) := by decide +kernel
theorem dX1_copyFrom_46 : decode cX1_copyFrom 46 = .ok (.getfield 21, 3) := by decide +kernel
theorem dX1_copyFrom_49 : decode cX1_copyFrom 49 = .ok (.putfield 21, 3) := by decide +kernel
theorem dX1_copyFrom_52 : decode cX1_copyFrom 52 = .ok (.aload_n 0, 1) := by decide +kernel
theorem dX1_copyFrom_53 : decode cX1_copyFrom 53 = .ok (.aload_n 1, 1) := by decide +kernel
theorem dX1_copyFrom_54 : decode cX1_copyFrom 54 = .ok (.getfield 25, 3) := by decide +kernel
theorem dX1_copyFrom_57 : decode cX1_copyFrom 57 = .ok (.putfield 25, 3) := by decide +kernel
theorem dX1_copyFrom_60 : decode cX1_copyFrom 60 = .ok (.aload_n 0, 1) := by decide +kernel
theorem dX1_copyFrom_61 : decode cX1_copyFrom 61 = .ok (.aload_n 1, 1) := by decide +kernel
theorem dX1_copyFrom_62 : decode cX1_copyFrom 62 = .ok (.getfield 28, 3) := by decide +kernel
theorem dX1_copyFrom_65 : decode cX1_copyFrom 65 = .ok (.putfield 28, 3) := by decide +kernel
theorem dX1_copyFrom_68 : decode cX1_copyFrom 68 = .ok (.aload_n 0, 1) := by decide +kernel
theorem dX1_copyFrom_69 : decode cX1_copyFrom 69 = .ok (.aload_n 1, 1) := by decide +kernel
theorem dX1_copyFrom_70 : decode cX1_copyFrom 70 = .ok (.getfield 31, 3) := by decide +kernel
theorem dX1_copyFrom_73 : decode cX1_copyFrom 73 = .ok (.putfield 31, 3) := by decide +kernel
theorem dX1_copyFrom_76 : decode cX1_copyFrom 76 = .ok (.aload_n 0, 1) := by decide +kernel
theorem dX1_copyFrom_77 : decode cX1_copyFrom 77 = .ok (.aload_n 1, 1) := by decide +kernel
theorem dX1_copyFrom_78 : decode cX1_copyFrom 78 = .ok (.getfield 34, 3) := by decide +kernel
theorem dX1_copyFrom_81 : decode cX1_copyFrom 81 = .ok (.putfield 34, 3) := by decide +kernel
theorem dX1_copyFrom_84 : decode cX1_copyFrom 84 = .ok (.return_, 1) := by decide +kernel
theorem dX1_start_0 : decode cX1_start 0 = .ok (.aload_n 0, 1) := by decide +kernel
theorem dX1_start_1 : decode cX1_start 1 = .ok (.getfield 18, 3) := by decide +kernel
theorem dX1_start_4 : decode cX1_start 4 = .ok (.iconst 0, 1) := by decide +kernel
theorem dX1_start_5 : decode cX1_start 5 = .ok (.iload_n 1, 1) := by decide +kernel
theorem dX1_start_6 : decode cX1_start 6 = .ok (.iastore, 1) := by decide +kernel
theorem dX1_start_7 : decode cX1_start 7 = .ok (.aload_n 0, 1) := by decide +kernel
theorem dX1_start_8 : decode cX1_start 8 = .ok (.iload_n 1, 1) := by decide +kernel
theorem dX1_start_9 : decode cX1_start 9 = .ok (.putfield 34, 3) := by decide +kernel
theorem dX1_start_12 : decode cX1_start 12 = .ok (.aload_n 0, 1) := by decide +kernel
theorem dX1_start_13 : decode cX1_start 13 = .ok (.iload_n 2, 1) := by decide +kernel
theorem dX1_start_14 : decode cX1_start 14 = .ok (.putfield 31, 3) := by decide +kernel
theorem dX1_start_17 : decode cX1_start 17 = .ok (.return_, 1) := by decide +kernel
theorem dX1_heldBy_0 : decode cX1_heldBy 0 = .ok (.aload_n 0, 1) := by decide +kernel
theorem dX1_heldBy_1 : decode cX1_heldBy 1 = .ok (.getfield 9, 3) := by decide +kernel
theorem dX1_heldBy_4 : decode cX1_heldBy 4 = .ok (.iload_n 1, 1) := by decide +kernel
theorem dX1_heldBy_5 : decode cX1_heldBy 5 = .ok (.iconst 3, 1) := by decide +kernel
theorem dX1_heldBy_6 : decode cX1_heldBy 6 = .ok (.iand, 1) := by decide +kernel
theorem dX1_heldBy_7 : decode cX1_heldBy 7 = .ok (.iaload, 1) := by decide +kernel
theorem dX1_heldBy_8 : decode cX1_heldBy 8 = .ok (.ireturn, 1) := by decide +kernel
theorem dX1_count_0 : decode cX1_count 0 = .ok (.aload_n 0, 1) := by decide +kernel
theorem dX1_count_1 : decode cX1_count 1 = .ok (.iload_n 1, 1) := by decide +kernel
theorem dX1_count_2 : decode cX1_count 2 = .ok (.invokevirtual 43, 3) := by decide +kernel
theorem dX1_count_5 : decode cX1_count 5 = .ok (.invokestatic 47, 3) := by decide +kernel
theorem dX1_count_8 : decode cX1_count 8 = .ok (.ireturn, 1) := by decide +kernel
theorem dX1_add_0 : decode cX1_add 0 = .ok (.aload_n 0, 1) := by decide +kernel
theorem dX1_add_1 : decode cX1_add 1 = .ok (.getfield 9, 3) := by decide +kernel
theorem dX1_add_4 : decode cX1_add 4 = .ok (.iload_n 1, 1) := by decide +kernel
theorem dX1_add_5 : decode cX1_add 5 = .ok (.iconst 3, 1) := by decide +kernel
theorem dX1_add_6 : decode cX1_add 6 = .ok (.iand, 1) := by decide +kernel
theorem dX1_add_7 : decode cX1_add 7 = .ok (.aload_n 0, 1) := by decide +kernel
theorem dX1_add_8 : decode cX1_add 8 = .ok (.iload_n 1, 1) := by decide +kernel
theorem dX1_add_9 : decode cX1_add 9 = .ok (.invokevirtual 43, 3) := by decide +kernel
theorem dX1_add_12 : decode cX1_add 12 = .ok (.iload_n 2, 1) := by decide +kernel
theorem dX1_add_13 : decode cX1_add 13 = .ok (.invokestatic 52, 3) := by decide +kernel
theorem dX1_add_16 : decode cX1_add 16 = .ok (.iastore, 1) := by decide +kernel
theorem dX1_add_17 : decode cX1_add 17 = .ok (.return_, 1) := by decide +kernel
theorem dX1_areAllEmpty_0 : decode cX1_areAllEmpty 0 = .ok (.aload_n 0, 1) := by decide +kernel
theorem dX1_areAllEmpty_1 : decode cX1_areAllEmpty 1 = .ok (.iconst 0, 1) := by decide +kernel
theorem dX1_areAllEmpty_2 : decode cX1_areAllEmpty 2 = .ok (.invokevirtual 60, 3) := by decide +kernel
theorem dX1_areAllEmpty_5 : decode cX1_areAllEmpty 5 = .ok (.ireturn, 1) := by decide +kernel
theorem dX1_areAtMost_0 : decode cX1_areAtMost 0 = .ok (.iconst 0, 1) := by decide +kernel
theorem dX1_areAtMost_1 : decode cX1_areAtMost 1 = .ok (.istore_n 2, 1) := by decide +kernel
theorem dX1_areAtMost_2 : decode cX1_areAtMost 2 = .ok (.iload_n 2, 1) := by decide +kernel
theorem dX1_areAtMost_3 : decode cX1_areAtMost 3 = .ok (.iconst 4, 1) := by decide +kernel
theorem dX1_areAtMost_4 : decode cX1_areAtMost 4 = .ok (.if_icmp .ge 20, 3) := by decide +kernel
theorem dX1_areAtMost_7 : decode cX1_areAtMost 7 = .ok (.aload_n 0, 1) := by decide +kernel
theorem dX1_areAtMost_8 : decode cX1_areAtMost 8 = .ok (.iload_n 2, 1) := by decide +kernel
theorem dX1_areAtMost_9 : decode cX1_areAtMost 9 = .ok (.invokevirtual 64, 3) := by decide +kernel
theorem dX1_areAtMost_12 : decode cX1_areAtMost 12 = .ok (.iload_n 1, 1) := by decide +kernel
theorem dX1_areAtMost_13 : decode cX1_areAtMost 13 = .ok (.if_icmp .le 5, 3) := by decide +kernel
theorem dX1_areAtMost_16 : decode cX1_areAtMost 16 = .ok (.iconst 0, 1) := by decide +kernel
theorem dX1_areAtMost_17 : decode cX1_areAtMost 17 = .ok (.ireturn, 1) := by decide +kernel
theorem dX1_areAtMost_18 : decode cX1_areAtMost 18 = .ok (.iinc 2 1, 3) := by decide +kernel
theorem dX1_areAtMost_21 : decode cX1_areAtMost 21 = .ok (.goto (-19), 3) := by decide +kernel
theorem dX1_areAtMost_24 : decode cX1_areAtMost 24 = .ok (.iconst 1, 1) := by decide +kernel
theorem dX1_areAtMost_25 : decode cX1_areAtMost 25 = .ok (.ireturn, 1) := by decide +kernel
theorem dX1_areReady_0 : decode cX1_areReady 0 = .ok (.iconst 1, 1) := by decide +kernel
theorem dX1_areReady_1 : decode cX1_areReady 1 = .ok (.istore_n 1, 1) := by decide +kernel
theorem dX1_areReady_2 : decode cX1_areReady 2 = .ok (.iload_n 1, 1) := by decide +kernel
theorem dX1_areReady_3 : decode cX1_areReady 3 = .ok (.iconst 4, 1) := by decide +kernel
theorem dX1_areReady_4 : decode cX1_areReady 4 = .ok (.if_icmp .ge 24, 3) := by decide +kernel
theorem dX1_areReady_7 : decode cX1_areReady 7 = .ok (.aload_n 0, 1) := by decide +kernel
theorem dX1_areReady_8 : decode cX1_areReady 8 = .ok (.iload_n 1, 1) := by decide +kernel
theorem dX1_areReady_9 : decode cX1_areReady 9 = .ok (.invokevirtual 64, 3) := by decide +kernel
theorem dX1_areReady_12 : decode cX1_areReady 12 = .ok (.aload_n 0, 1) := by decide +kernel
theorem dX1_areReady_13 : decode cX1_areReady 13 = .ok (.iconst 0, 1) := by decide +kernel
theorem dX1_areReady_14 : decode cX1_areReady 14 = .ok (.invokevirtual 64, 3) := by decide +kernel
theorem dX1_areReady_17 : decode cX1_areReady 17 = .ok (.if_icmp .eq 5, 3) := by decide +kernel
theorem dX1_areReady_20 : decode cX1_areReady 20 = .ok (.iconst 0, 1) := by decide +kernel
theorem dX1_areReady_21 : decode cX1_areReady 21 = .ok (.ireturn, 1) := by decide +kernel
theorem dX1_areReady_22 : decode cX1_areReady 22 = .ok (.iinc 1 1, 3) := by decide +kernel
theorem dX1_areReady_25 : decode cX1_areReady 25 = .ok (.goto (-23), 3) := by decide +kernel
theorem dX1_areReady_28 : decode cX1_areReady 28 = .ok (.aload_n 0, 1) := by decide +kernel
theorem dX1_areReady_29 : decode cX1_areReady 29 = .ok (.iconst 0, 1) := by decide +kernel
theorem dX1_areReady_30 : decode cX1_areReady 30 = .ok (.invokevirtual 64, 3) := by decide +kernel
theorem dX1_areReady_33 : decode cX1_areReady 33 = .ok (.ifCond .le 7, 3) := by decide +kernel
theorem dX1_areReady_36 : decode cX1_areReady 36 = .ok (.iconst 1, 1) := by decide +kernel
theorem dX1_areReady_37 : decode cX1_areReady 37 = .ok (.goto 4, 3) := by decide +kernel
theorem dX1_areReady_40 : decode cX1_areReady 40 = .ok (.iconst 0, 1) := by decide +kernel
theorem dX1_areReady_41 : decode cX1_areReady 41 = .ok (.ireturn, 1) := by decide +kernel
theorem dX1_ended_0 : decode cX1_ended 0 = .ok (.aload_n 0, 1) := by decide +kernel
theorem dX1_ended_1 : decode cX1_ended 1 = .ok (.getfield 25, 3) := by decide +kernel
theorem dX1_ended_4 : decode cX1_ended 4 = .ok (.iconst 4, 1) := by decide +kernel
theorem dX1_ended_5 : decode cX1_ended 5 = .ok (.idiv, 1) := by decide +kernel
theorem dX1_ended_6 : decode cX1_ended 6 = .ok (.ireturn, 1) := by decide +kernel
theorem dX1_lying_0 : decode cX1_lying 0 = .ok (.aload_n 0, 1) := by decide +kernel
theorem dX1_lying_1 : decode cX1_lying 1 = .ok (.getfield 25, 3) := by decide +kernel
theorem dX1_lying_4 : decode cX1_lying 4 = .ok (.iconst 4, 1) := by decide +kernel
theorem dX1_lying_5 : decode cX1_lying 5 = .ok (.irem, 1) := by decide +kernel
theorem dX1_lying_6 : decode cX1_lying 6 = .ok (.ireturn, 1) := by decide +kernel
theorem dX1_tricksLeft_0 : decode cX1_tricksLeft 0 = .ok (.aload_n 0, 1) := by decide +kernel
theorem dX1_tricksLeft_1 : decode cX1_tricksLeft 1 = .ok (.getfield 21, 3) := by decide +kernel
theorem dX1_tricksLeft_4 : decode cX1_tricksLeft 4 = .ok (.aload_n 0, 1) := by decide +kernel
theorem dX1_tricksLeft_5 : decode cX1_tricksLeft 5 = .ok (.invokevirtual 67, 3) := by decide +kernel
theorem dX1_tricksLeft_8 : decode cX1_tricksLeft 8 = .ok (.isub, 1) := by decide +kernel
theorem dX1_tricksLeft_9 : decode cX1_tricksLeft 9 = .ok (.ireturn, 1) := by decide +kernel
theorem dX1_leaderOf_0 : decode cX1_leaderOf 0 = .ok (.iload_n 1, 1) := by decide +kernel
theorem dX1_leaderOf_1 : decode cX1_leaderOf 1 = .ok (.ifCond .lt 21, 3) := by decide +kernel
theorem dX1_leaderOf_4 : decode cX1_leaderOf 4 = .ok (.iload_n 1, 1) := by decide +kernel
theorem dX1_leaderOf_5 : decode cX1_leaderOf 5 = .ok (.aload_n 0, 1) := by decide +kernel
theorem dX1_leaderOf_6 : decode cX1_leaderOf 6 = .ok (.getfield 18, 3) := by decide +kernel
theorem dX1_leaderOf_9 : decode cX1_leaderOf 9 = .ok (.arraylength, 1) := by decide +kernel
theorem dX1_leaderOf_10 : decode cX1_leaderOf 10 = .ok (.if_icmp .ge 12, 3) := by decide +kernel
theorem dX1_leaderOf_13 : decode cX1_leaderOf 13 = .ok (.aload_n 0, 1) := by decide +kernel
theorem dX1_leaderOf_14 : decode cX1_leaderOf 14 = .ok (.getfield 18, 3) := by decide +kernel
theorem dX1_leaderOf_17 : decode cX1_leaderOf 17 = .ok (.iload_n 1, 1) := by decide +kernel
theorem dX1_leaderOf_18 : decode cX1_leaderOf 18 = .ok (.iaload, 1) := by decide +kernel
theorem dX1_leaderOf_19 : decode cX1_leaderOf 19 = .ok (.goto 4, 3) := by decide +kernel
theorem dX1_leaderOf_22 : decode cX1_leaderOf 22 = .ok (.iconst (-1), 1) := by decide +kernel
theorem dX1_leaderOf_23 : decode cX1_leaderOf 23 = .ok (.ireturn, 1) := by decide +kernel
theorem dX1_playedAt_0 : decode cX1_playedAt 0 = .ok (.iload_n 1, 1) := by decide +kernel
theorem dX1_playedAt_1 : decode cX1_playedAt 1 = .ok (.ifCond .lt 21, 3) := by decide +kernel
theorem dX1_playedAt_4 : decode cX1_playedAt 4 = .ok (.iload_n 1, 1) := by decide +kernel
theorem dX1_playedAt_5 : decode cX1_playedAt 5 = .ok (.aload_n 0, 1) := by decide +kernel
theorem dX1_playedAt_6 : decode cX1_playedAt 6 = .ok (.getfield 15, 3) := by decide +kernel
theorem dX1_playedAt_9 : decode cX1_playedAt 9 = .ok (.arraylength, 1) := by decide +kernel
theorem dX1_playedAt_10 : decode cX1_playedAt 10 = .ok (.if_icmp .ge 12, 3) := by decide +kernel
theorem dX1_playedAt_13 : decode cX1_playedAt 13 = .ok (.aload_n 0, 1) := by decide +kernel
theorem dX1_playedAt_14 : decode cX1_playedAt 14 = .ok (.getfield 15, 3) := by decide +kernel
theorem dX1_playedAt_17 : decode cX1_playedAt 17 = .ok (.iload_n 1, 1) := by decide +kernel
theorem dX1_playedAt_18 : decode cX1_playedAt 18 = .ok (.iaload, 1) := by decide +kernel
theorem dX1_playedAt_19 : decode cX1_playedAt 19 = .ok (.goto 4, 3) := by decide +kernel
theorem dX1_playedAt_22 : decode cX1_playedAt 22 = .ok (.iconst (-1), 1) := by decide +kernel
theorem dX1_playedAt_23 : decode cX1_playedAt 23 = .ok (.ireturn, 1) := by decide +kernel
theorem dX1_playerAt_0 : decode cX1_playerAt 0 = .ok (.aload_n 0, 1) := by decide +kernel
theorem dX1_playerAt_1 : decode cX1_playerAt 1 = .ok (.iload_n 1, 1) := by decide +kernel
theorem dX1_playerAt_2 : decode cX1_playerAt 2 = .ok (.iconst 4, 1) := by decide +kernel
theorem dX1_playerAt_3 : decode cX1_playerAt 3 = .ok (.idiv, 1) := by decide +kernel
theorem dX1_playerAt_4 : decode cX1_playerAt 4 = .ok (.invokevirtual 71, 3) := by decide +kernel
theorem dX1_playerAt_7 : decode cX1_playerAt 7 = .ok (.iload_n 1, 1) := by decide +kernel
theorem dX1_playerAt_8 : decode cX1_playerAt 8 = .ok (.iconst 4, 1) := by decide +kernel
theorem dX1_playerAt_9 : decode cX1_playerAt 9 = .ok (.irem, 1) := by decide +kernel
theorem dX1_playerAt_10 : decode cX1_playerAt 10 = .ok (.iadd, 1) := by decide +kernel
theorem dX1_playerAt_11 : decode cX1_playerAt 11 = .ok (.iconst 3, 1) := by decide +kernel
theorem dX1_playerAt_12 : decode cX1_playerAt 12 = .ok (.iand, 1) := by decide +kernel
theorem dX1_playerAt_13 : decode cX1_playerAt 13 = .ok (.ireturn, 1) := by decide +kernel
theorem dX1_cardIn_0 : decode cX1_cardIn 0 = .ok (.iload_n 2, 1) := by decide +kernel
theorem dX1_cardIn_1 : decode cX1_cardIn 1 = .ok (.aload_n 0, 1) := by decide +kernel
theorem dX1_cardIn_2 : decode cX1_cardIn 2 = .ok (.iload_n 1, 1) := by decide +kernel
theorem dX1_cardIn_3 : decode cX1_cardIn 3 = .ok (.invokevirtual 71, 3) := by decide +kernel
theorem dX1_cardIn_6 : decode cX1_cardIn 6 = .ok (.isub, 1) := by decide +kernel
theorem dX1_cardIn_7 : decode cX1_cardIn 7 = .ok (.iconst 3, 1) := by decide +kernel
theorem dX1_cardIn_8 : decode cX1_cardIn 8 = .ok (.iand, 1) := by decide +kernel
theorem dX1_cardIn_9 : decode cX1_cardIn 9 = .ok (.istore_n 3, 1) := by decide +kernel
theorem dX1_cardIn_10 : decode cX1_cardIn 10 = .ok (.aload_n 0, 1) := by decide +kernel
theorem dX1_cardIn_11 : decode cX1_cardIn 11 = .ok (.iconst 4, 1) := by decide +kernel
theorem dX1_cardIn_12 : decode cX1_cardIn 12 = .ok (.iload_n 1, 1) := by decide +kernel
theorem dX1_cardIn_13 : decode cX1_cardIn 13 = .ok (.imul, 1) := by decide +kernel
theorem dX1_cardIn_14 : decode cX1_cardIn 14 = .ok (.iload_n 3, 1) := by decide +kernel
theorem dX1_cardIn_15 : decode cX1_cardIn 15 = .ok (.iadd, 1) := by decide +kernel
theorem dX1_cardIn_16 : decode cX1_cardIn 16 = .ok (.invokevirtual 74, 3) := by decide +kernel
theorem dX1_cardIn_19 : decode cX1_cardIn 19 = .ok (.ireturn, 1) := by decide +kernel
theorem dX1_takerOf_0 : decode cX1_takerOf 0 = .ok (.iconst (-1), 1) := by decide +kernel
theorem dX1_takerOf_1 : decode cX1_takerOf 1 = .ok (.istore_n 3, 1) := by decide +kernel
theorem dX1_takerOf_2 : decode cX1_takerOf 2 = .ok (.iconst (-1), 1) := by decide +kernel
theorem dX1_takerOf_3 : decode cX1_takerOf 3 = .ok (.istore 4, 2) := by decide +kernel
theorem dX1_takerOf_5 : decode cX1_takerOf 5 = .ok (.iconst 0, 1) := by decide +kernel
theorem dX1_takerOf_6 : decode cX1_takerOf 6 = .ok (.istore 5, 2) := by decide +kernel
theorem dX1_takerOf_8 : decode cX1_takerOf 8 = .ok (.iload 5, 2) := by decide +kernel
theorem dX1_takerOf_10 : decode cX1_takerOf 10 = .ok (.iload_n 2, 1) := by decide +kernel
theorem dX1_takerOf_11 : decode cX1_takerOf 11 = .ok (.if_icmp .ge 52, 3) := by decide +kernel
theorem dX1_takerOf_14 : decode cX1_takerOf 14 = .ok (.aload_n 0, 1) := by decide +kernel
theorem dX1_takerOf_15 : decode cX1_takerOf 15 = .ok (.iconst 4, 1) := by decide +kernel
theorem dX1_takerOf_16 : decode cX1_takerOf 16 = .ok (.iload_n 1, 1) := by decide +kernel
theorem dX1_takerOf_17 : decode cX1_takerOf 17 = .ok (.imul, 1) := by decide +kernel
theorem dX1_takerOf_18 : decode cX1_takerOf 18 = .ok (.iload 5, 2) := by decide +kernel
theorem dX1_takerOf_20 : decode cX1_takerOf 20 = .ok (.iadd, 1) := by decide +kernel
theorem dX1_takerOf_21 : decode cX1_takerOf 21 = .ok (.invokevirtual 74, 3) := by decide +kernel
theorem dX1_takerOf_24 : decode cX1_takerOf 24 = .ok (.istore 6, 2) := by decide +kernel
theorem dX1_takerOf_26 : decode cX1_takerOf 26 = .ok (.iload_n 3, 1) := by decide +kernel
theorem dX1_takerOf_27 : decode cX1_takerOf 27 = .ok (.iconst (-1), 1) := by decide +kernel
theorem dX1_takerOf_28 : decode cX1_takerOf 28 = .ok (.if_icmp .eq 14, 3) := by decide +kernel
theorem dX1_takerOf_31 : decode cX1_takerOf 31 = .ok (.aload_n 0, 1) := by decide +kernel
theorem dX1_takerOf_32 : decode cX1_takerOf 32 = .ok (.iload 6, 2) := by decide +kernel
theorem dX1_takerOf_34 : decode cX1_takerOf 34 = .ok (.iload 4, 2) := by decide +kernel
theorem dX1_takerOf_36 : decode cX1_takerOf 36 = .ok (.invokevirtual 77, 3) := by decide +kernel
theorem dX1_takerOf_39 : decode cX1_takerOf 39 = .ok (.ifCond .eq 18, 3) := by decide +kernel
theorem dX1_takerOf_42 : decode cX1_takerOf 42 = .ok (.aload_n 0, 1) := by decide +kernel
theorem dX1_takerOf_43 : decode cX1_takerOf 43 = .ok (.iload_n 1, 1) := by decide +kernel
theorem dX1_takerOf_44 : decode cX1_takerOf 44 = .ok (.invokevirtual 71, 3) := by decide +kernel
theorem dX1_takerOf_47 : decode cX1_takerOf 47 = .ok (.iload 5, 2) := by decide +kernel
theorem dX1_takerOf_49 : decode cX1_takerOf 49 = .ok (.iadd, 1) := by decide +kernel
theorem dX1_takerOf_50 : decode cX1_takerOf 50 = .ok (.iconst 3, 1) := by decide +kernel
theorem dX1_takerOf_51 : decode cX1_takerOf 51 = .ok (.iand, 1) := by decide +kernel
theorem dX1_takerOf_52 : decode cX1_takerOf 52 = .ok (.istore_n 3, 1) := by decide +kernel
theorem dX1_takerOf_53 : decode cX1_takerOf 53 = .ok (.iload 6, 2) := by decide +kernel
theorem dX1_takerOf_55 : decode cX1_takerOf 55 = .ok (.istore 4, 2) := by decide +kernel
theorem dX1_takerOf_57 : decode cX1_takerOf 57 = .ok (.iinc 5 1, 3) := by decide +kernel
theorem dX1_takerOf_60 : decode cX1_takerOf 60 = .ok (.goto (-52), 3) := by decide +kernel
theorem dX1_takerOf_63 : decode cX1_takerOf 63 = .ok (.iload_n 3, 1) := by decide +kernel
theorem dX1_takerOf_64 : decode cX1_takerOf 64 = .ok (.ireturn, 1) := by decide +kernel
theorem dX1_beats_0 : decode cX1_beats 0 = .ok (.iload_n 1, 1) := by decide +kernel
theorem dX1_beats_1 : decode cX1_beats 1 = .ok (.bipush 8, 2) := by decide +kernel
theorem dX1_beats_3 : decode cX1_beats 3 = .ok (.idiv, 1) := by decide +kernel
theorem dX1_beats_4 : decode cX1_beats 4 = .ok (.istore_n 3, 1) := by decide +kernel
theorem dX1_beats_5 : decode cX1_beats 5 = .ok (.iload_n 3, 1) := by decide +kernel
theorem dX1_beats_6 : decode cX1_beats 6 = .ok (.iload_n 2, 1) := by decide +kernel
theorem dX1_beats_7 : decode cX1_beats 7 = .ok (.bipush 8, 2) := by decide +kernel
theorem dX1_beats_9 : decode cX1_beats 9 = .ok (.idiv, 1) := by decide +kernel
theorem dX1_beats_10 : decode cX1_beats 10 = .ok (.if_icmp .ne 16, 3) := by decide +kernel
theorem dX1_beats_13 : decode cX1_beats 13 = .ok (.iload_n 1, 1) := by decide +kernel
theorem dX1_beats_14 : decode cX1_beats 14 = .ok (.iload_n 2, 1) := by decide +kernel
theorem dX1_beats_15 : decode cX1_beats 15 = .ok (.if_icmp .le 7, 3) := by decide +kernel
theorem dX1_beats_18 : decode cX1_beats 18 = .ok (.iconst 1, 1) := by decide +kernel
theorem dX1_beats_19 : decode cX1_beats 19 = .ok (.goto 20, 3) := by decide +kernel
theorem dX1_beats_22 : decode cX1_beats 22 = .ok (.iconst 0, 1) := by decide +kernel
theorem dX1_beats_23 : decode cX1_beats 23 = .ok (.goto 16, 3) := by decide +kernel
theorem dX1_beats_26 : decode cX1_beats 26 = .ok (.iload_n 3, 1) := by decide +kernel
theorem dX1_beats_27 : decode cX1_beats 27 = .ok (.aload_n 0, 1) := by decide +kernel
theorem dX1_beats_28 : decode cX1_beats 28 = .ok (.getfield 31, 3) := by decide +kernel
theorem dX1_beats_31 : decode cX1_beats 31 = .ok (.if_icmp .ne 7, 3) := by decide +kernel
theorem dX1_beats_34 : decode cX1_beats 34 = .ok (.iconst 1, 1) := by decide +kernel
theorem dX1_beats_35 : decode cX1_beats 35 = .ok (.goto 4, 3) := by decide +kernel
theorem dX1_beats_38 : decode cX1_beats 38 = .ok (.iconst 0, 1) := by decide +kernel
theorem dX1_beats_39 : decode cX1_beats 39 = .ok (.ireturn, 1) := by decide +kernel
theorem dX1_rightCards_0 : decode cX1_rightCards 0 = .ok (.aload_n 0, 1) := by decide +kernel
theorem dX1_rightCards_1 : decode cX1_rightCards 1 = .ok (.aload_n 0, 1) := by decide +kernel
theorem dX1_rightCards_2 : decode cX1_rightCards 2 = .ok (.getfield 34, 3) := by decide +kernel
theorem dX1_rightCards_5 : decode cX1_rightCards 5 = .ok (.invokevirtual 43, 3) := by decide +kernel
theorem dX1_rightCards_8 : decode cX1_rightCards 8 = .ok (.istore_n 1, 1) := by decide +kernel
theorem dX1_rightCards_9 : decode cX1_rightCards 9 = .ok (.aload_n 0, 1) := by decide +kernel
theorem dX1_rightCards_10 : decode cX1_rightCards 10 = .ok (.invokevirtual 80, 3) := by decide +kernel
theorem dX1_rightCards_13 : decode cX1_rightCards 13 = .ok (.ifCond .ne 5, 3) := by decide +kernel
theorem dX1_rightCards_16 : decode cX1_rightCards 16 = .ok (.iload_n 1, 1) := by decide +kernel
theorem dX1_rightCards_17 : decode cX1_rightCards 17 = .ok (.ireturn, 1) := by decide +kernel
theorem dX1_rightCards_18 : decode cX1_rightCards 18 = .ok (.aload_n 0, 1) := by decide +kernel
theorem dX1_rightCards_19 : decode cX1_rightCards 19 = .ok (.iconst 4, 1) := by decide +kernel
theorem dX1_rightCards_20 : decode cX1_rightCards 20 = .ok (.aload_n 0, 1) := by decide +kernel
theorem dX1_rightCards_21 : decode cX1_rightCards 21 = .ok (.invokevirtual 67, 3) := by decide +kernel
theorem dX1_rightCards_24 : decode cX1_rightCards 24 = .ok (.imul, 1) := by decide +kernel
theorem dX1_rightCards_25 : decode cX1_rightCards 25 = .ok (.invokevirtual 74, 3) := by decide +kernel
theorem dX1_rightCards_28 : decode cX1_rightCards 28 = .ok (.bipush 8, 2) := by decide +kernel
theorem dX1_rightCards_30 : decode cX1_rightCards 30 = .ok (.idiv, 1) := by decide +kernel
theorem dX1_rightCards_31 : decode cX1_rightCards 31 = .ok (.istore_n 2, 1) := by decide +kernel
theorem dX1_rightCards_32 : decode cX1_rightCards 32 = .ok (.iload_n 1, 1) := by decide +kernel
theorem dX1_rightCards_33 : decode cX1_rightCards 33 = .ok (.iload_n 2, 1) := by decide +kernel
theorem dX1_rightCards_34 : decode cX1_rightCards 34 = .ok (.invokestatic 83, 3) := by decide +kernel
theorem dX1_rightCards_37 : decode cX1_rightCards 37 = .ok (.iand, 1) := by decide +kernel
theorem dX1_rightCards_38 : decode cX1_rightCards 38 = .ok (.istore_n 3, 1) := by decide +kernel
theorem dX1_rightCards_39 : decode cX1_rightCards 39 = .ok (.iload_n 3, 1) := by decide +kernel
theorem dX1_rightCards_40 : decode cX1_rightCards 40 = .ok (.ifCond .ne 7, 3) := by decide +kernel
theorem dX1_rightCards_43 : decode cX1_rightCards 43 = .ok (.iload_n 1, 1) := by decide +kernel
theorem dX1_rightCards_44 : decode cX1_rightCards 44 = .ok (.goto 4, 3) := by decide +kernel
theorem dX1_rightCards_47 : decode cX1_rightCards 47 = .ok (.iload_n 3, 1) := by decide +kernel
theorem dX1_rightCards_48 : decode cX1_rightCards 48 = .ok (.ireturn, 1) := by decide +kernel
theorem dX1_put_0 : decode cX1_put 0 = .ok (.aload_n 0, 1) := by decide +kernel
theorem dX1_put_1 : decode cX1_put 1 = .ok (.getfield 25, 3) := by decide +kernel
theorem dX1_put_4 : decode cX1_put 4 = .ok (.ifCond .lt 15, 3) := by decide +kernel
theorem dX1_put_7 : decode cX1_put 7 = .ok (.aload_n 0, 1) := by decide +kernel
theorem dX1_put_8 : decode cX1_put 8 = .ok (.getfield 25, 3) := by decide +kernel
theorem dX1_put_11 : decode cX1_put 11 = .ok (.aload_n 0, 1) := by decide +kernel
theorem dX1_put_12 : decode cX1_put 12 = .ok (.getfield 15, 3) := by decide +kernel
theorem dX1_put_15 : decode cX1_put 15 = .ok (.arraylength, 1) := by decide +kernel
theorem dX1_put_16 : decode cX1_put 16 = .ok (.if_icmp .lt 5, 3) := by decide +kernel
theorem dX1_put_19 : decode cX1_put 19 = .ok (.iconst (-1), 1) := by decide +kernel
theorem dX1_put_20 : decode cX1_put 20 = .ok (.ireturn, 1) := by decide +kernel
theorem dX1_put_21 : decode cX1_put 21 = .ok (.aload_n 0, 1) := by decide +kernel
theorem dX1_put_22 : decode cX1_put 22 = .ok (.invokevirtual 67, 3) := by decide +kernel
theorem dX1_put_25 : decode cX1_put 25 = .ok (.istore_n 2, 1) := by decide +kernel
theorem dX1_put_26 : decode cX1_put 26 = .ok (.aload_n 0, 1) := by decide +kernel
theorem dX1_put_27 : decode cX1_put 27 = .ok (.invokevirtual 86, 3) := by decide +kernel
theorem dX1_put_30 : decode cX1_put 30 = .ok (.iload_n 1, 1) := by decide +kernel
theorem dX1_put_31 : decode cX1_put 31 = .ok (.invokestatic 56, 3) := by decide +kernel
theorem dX1_put_34 : decode cX1_put 34 = .ok (.ifCond .ne 18, 3) := by decide +kernel
theorem dX1_put_37 : decode cX1_put 37 = .ok (.aload_n 0, 1) := by decide +kernel
theorem dX1_put_38 : decode cX1_put 38 = .ok (.aload_n 0, 1) := by decide +kernel
theorem dX1_put_39 : decode cX1_put 39 = .ok (.getfield 28, 3) := by decide +kernel
theorem dX1_put_42 : decode cX1_put 42 = .ok (.aload_n 0, 1) := by decide +kernel
theorem dX1_put_43 : decode cX1_put 43 = .ok (.getfield 25, 3) := by decide +kernel
theorem dX1_put_46 : decode cX1_put 46 = .ok (.invokestatic 52, 3) := by decide +kernel
theorem dX1_put_49 : decode cX1_put 49 = .ok (.putfield 28, 3) := by decide +kernel
theorem dX1_put_52 : decode cX1_put 52 = .ok (.aload_n 0, 1) := by decide +kernel
theorem dX1_put_53 : decode cX1_put 53 = .ok (.getfield 9, 3) := by decide +kernel
theorem dX1_put_56 : decode cX1_put 56 = .ok (.aload_n 0, 1) := by decide +kernel
theorem dX1_put_57 : decode cX1_put 57 = .ok (.getfield 34, 3) := by decide +kernel
theorem dX1_put_60 : decode cX1_put 60 = .ok (.iconst 3, 1) := by decide +kernel
theorem dX1_put_61 : decode cX1_put 61 = .ok (.iand, 1) := by decide +kernel
theorem dX1_put_62 : decode cX1_put 62 = .ok (.aload_n 0, 1) := by decide +kernel
theorem dX1_put_63 : decode cX1_put 63 = .ok (.aload_n 0, 1) := by decide +kernel
theorem dX1_put_64 : decode cX1_put 64 = .ok (.getfield 34, 3) := by decide +kernel
theorem dX1_put_67 : decode cX1_put 67 = .ok (.invokevirtual 43, 3) := by decide +kernel
theorem dX1_put_70 : decode cX1_put 70 = .ok (.iload_n 1, 1) := by decide +kernel
theorem dX1_put_71 : decode cX1_put 71 = .ok (.invokestatic 89, 3) := by decide +kernel
theorem dX1_put_74 : decode cX1_put 74 = .ok (.iastore, 1) := by decide +kernel
theorem dX1_put_75 : decode cX1_put 75 = .ok (.aload_n 0, 1) := by decide +kernel
theorem dX1_put_76 : decode cX1_put 76 = .ok (.getfield 15, 3) := by decide +kernel
theorem dX1_put_79 : decode cX1_put 79 = .ok (.aload_n 0, 1) := by decide +kernel
theorem dX1_put_80 : decode cX1_put 80 = .ok (.getfield 25, 3) := by decide +kernel
theorem dX1_put_83 : decode cX1_put 83 = .ok (.iload_n 1, 1) := by decide +kernel
theorem dX1_put_84 : decode cX1_put 84 = .ok (.iastore, 1) := by decide +kernel
theorem dX1_put_85 : decode cX1_put 85 = .ok (.aload_n 0, 1) := by decide +kernel
theorem dX1_put_86 : decode cX1_put 86 = .ok (.dup, 1) := by decide +kernel
theorem dX1_put_87 : decode cX1_put 87 = .ok (.getfield 25, 3) := by decide +kernel
theorem dX1_put_90 : decode cX1_put 90 = .ok (.iconst 1, 1) := by decide +kernel
theorem dX1_put_91 : decode cX1_put 91 = .ok (.iadd, 1) := by decide +kernel
theorem dX1_put_92 : decode cX1_put 92 = .ok (.putfield 25, 3) := by decide +kernel
theorem dX1_put_95 : decode cX1_put 95 = .ok (.aload_n 0, 1) := by decide +kernel
theorem dX1_put_96 : decode cX1_put 96 = .ok (.invokevirtual 80, 3) := by decide +kernel
theorem dX1_put_99 : decode cX1_put 99 = .ok (.ifCond .eq 16, 3) := by decide +kernel
theorem dX1_put_102 : decode cX1_put 102 = .ok (.aload_n 0, 1) := by decide +kernel
theorem dX1_put_103 : decode cX1_put 103 = .ok (.aload_n 0, 1) := by decide +kernel
theorem dX1_put_104 : decode cX1_put 104 = .ok (.getfield 34, 3) := by decide +kernel
theorem dX1_put_107 : decode cX1_put 107 = .ok (.invokestatic 92, 3) := by decide +kernel
theorem dX1_put_110 : decode cX1_put 110 = .ok (.putfield 34, 3) := by decide +kernel
theorem dX1_put_113 : decode cX1_put 113 = .ok (.iconst (-1), 1) := by decide +kernel
theorem dX1_put_114 : decode cX1_put 114 = .ok (.ireturn, 1) := by decide +kernel
theorem dX1_put_115 : decode cX1_put 115 = .ok (.aload_n 0, 1) := by decide +kernel
theorem dX1_put_116 : decode cX1_put 116 = .ok (.aload_n 0, 1) := by decide +kernel
theorem dX1_put_117 : decode cX1_put 117 = .ok (.iload_n 2, 1) := by decide +kernel
theorem dX1_put_118 : decode cX1_put 118 = .ok (.iconst 4, 1) := by decide +kernel
theorem dX1_put_119 : decode cX1_put 119 = .ok (.invokevirtual 95, 3) := by decide +kernel
theorem dX1_put_122 : decode cX1_put 122 = .ok (.putfield 34, 3) := by decide +kernel
theorem dX1_put_125 : decode cX1_put 125 = .ok (.iload_n 2, 1) := by decide +kernel
theorem dX1_put_126 : decode cX1_put 126 = .ok (.ifCond .lt 26, 3) := by decide +kernel
theorem dX1_put_129 : decode cX1_put 129 = .ok (.iload_n 2, 1) := by decide +kernel
theorem dX1_put_130 : decode cX1_put 130 = .ok (.iconst 1, 1) := by decide +kernel
theorem dX1_put_131 : decode cX1_put 131 = .ok (.iadd, 1) := by decide +kernel
theorem dX1_put_132 : decode cX1_put 132 = .ok (.aload_n 0, 1) := by decide +kernel
theorem dX1_put_133 : decode cX1_put 133 = .ok (.getfield 18, 3) := by decide +kernel
theorem dX1_put_136 : decode cX1_put 136 = .ok (.arraylength, 1) := by decide +kernel
theorem dX1_put_137 : decode cX1_put 137 = .ok (.if_icmp .ge 15, 3) := by decide +kernel
theorem dX1_put_140 : decode cX1_put 140 = .ok (.aload_n 0, 1) := by decide +kernel
theorem dX1_put_141 : decode cX1_put 141 = .ok (.getfield 18, 3) := by decide +kernel
theorem dX1_put_144 : decode cX1_put 144 = .ok (.iload_n 2, 1) := by decide +kernel
theorem dX1_put_145 : decode cX1_put 145 = .ok (.iconst 1, 1) := by decide +kernel
theorem dX1_put_146 : decode cX1_put 146 = .ok (.iadd, 1) := by decide +kernel
theorem dX1_put_147 : decode cX1_put 147 = .ok (.aload_n 0, 1) := by decide +kernel
theorem dX1_put_148 : decode cX1_put 148 = .ok (.getfield 34, 3) := by decide +kernel
theorem dX1_put_151 : decode cX1_put 151 = .ok (.iastore, 1) := by decide +kernel
theorem dX1_put_152 : decode cX1_put 152 = .ok (.aload_n 0, 1) := by decide +kernel
theorem dX1_put_153 : decode cX1_put 153 = .ok (.getfield 34, 3) := by decide +kernel
theorem dX1_put_156 : decode cX1_put 156 = .ok (.ireturn, 1) := by decide +kernel
theorem dX1_takeBack_0 : decode cX1_takeBack 0 = .ok (.aload_n 0, 1) := by decide +kernel
theorem dX1_takeBack_1 : decode cX1_takeBack 1 = .ok (.getfield 25, 3) := by decide +kernel
theorem dX1_takeBack_4 : decode cX1_takeBack 4 = .ok (.ifCond .gt 5, 3) := by decide +kernel
theorem dX1_takeBack_7 : decode cX1_takeBack 7 = .ok (.iconst (-1), 1) := by decide +kernel
theorem dX1_takeBack_8 : decode cX1_takeBack 8 = .ok (.ireturn, 1) := by decide +kernel
theorem dX1_takeBack_9 : decode cX1_takeBack 9 = .ok (.aload_n 0, 1) := by decide +kernel
theorem dX1_takeBack_10 : decode cX1_takeBack 10 = .ok (.dup, 1) := by decide +kernel
theorem dX1_takeBack_11 : decode cX1_takeBack 11 = .ok (.getfield 25, 3) := by decide +kernel
theorem dX1_takeBack_14 : decode cX1_takeBack 14 = .ok (.iconst 1, 1) := by decide +kernel
theorem dX1_takeBack_15 : decode cX1_takeBack 15 = .ok (.isub, 1) := by decide +kernel
theorem dX1_takeBack_16 : decode cX1_takeBack 16 = .ok (.putfield 25, 3) := by decide +kernel
theorem dX1_takeBack_19 : decode cX1_takeBack 19 = .ok (.aload_n 0, 1) := by decide +kernel
theorem dX1_takeBack_20 : decode cX1_takeBack 20 = .ok (.aload_n 0, 1) := by decide +kernel
theorem dX1_takeBack_21 : decode cX1_takeBack 21 = .ok (.getfield 25, 3) := by decide +kernel
theorem dX1_takeBack_24 : decode cX1_takeBack 24 = .ok (.invokevirtual 74, 3) := by decide +kernel
theorem dX1_takeBack_27 : decode cX1_takeBack 27 = .ok (.istore_n 1, 1) := by decide +kernel
theorem dX1_takeBack_28 : decode cX1_takeBack 28 = .ok (.aload_n 0, 1) := by decide +kernel
theorem dX1_takeBack_29 : decode cX1_takeBack 29 = .ok (.aload_n 0, 1) := by decide +kernel
theorem dX1_takeBack_30 : decode cX1_takeBack 30 = .ok (.aload_n 0, 1) := by decide +kernel
theorem dX1_takeBack_31 : decode cX1_takeBack 31 = .ok (.getfield 25, 3) := by decide +kernel
theorem dX1_takeBack_34 : decode cX1_takeBack 34 = .ok (.invokevirtual 98, 3) := by decide +kernel
theorem dX1_takeBack_37 : decode cX1_takeBack 37 = .ok (.putfield 34, 3) := by decide +kernel
theorem dX1_takeBack_40 : decode cX1_takeBack 40 = .ok (.aload_n 0, 1) := by decide +kernel
theorem dX1_takeBack_41 : decode cX1_takeBack 41 = .ok (.aload_n 0, 1) := by decide +kernel
theorem dX1_takeBack_42 : decode cX1_takeBack 42 = .ok (.getfield 34, 3) := by decide +kernel
theorem dX1_takeBack_45 : decode cX1_takeBack 45 = .ok (.iload_n 1, 1) := by decide +kernel
theorem dX1_takeBack_46 : decode cX1_takeBack 46 = .ok (.invokevirtual 101, 3) := by decide +kernel
theorem dX1_takeBack_49 : decode cX1_takeBack 49 = .ok (.aload_n 0, 1) := by decide +kernel
theorem dX1_takeBack_50 : decode cX1_takeBack 50 = .ok (.aload_n 0, 1) := by decide +kernel
theorem dX1_takeBack_51 : decode cX1_takeBack 51 = .ok (.getfield 28, 3) := by decide +kernel
theorem dX1_takeBack_54 : decode cX1_takeBack 54 = .ok (.aload_n 0, 1) := by decide +kernel
theorem dX1_takeBack_55 : decode cX1_takeBack 55 = .ok (.getfield 25, 3) := by decide +kernel
theorem dX1_takeBack_58 : decode cX1_takeBack 58 = .ok (.invokestatic 89, 3) := by decide +kernel
theorem dX1_takeBack_61 : decode cX1_takeBack 61 = .ok (.putfield 28, 3) := by decide +kernel
theorem dX1_takeBack_64 : decode cX1_takeBack 64 = .ok (.iload_n 1, 1) := by decide +kernel
theorem dX1_takeBack_65 : decode cX1_takeBack 65 = .ok (.ireturn, 1) := by decide +kernel
theorem dX1_hasRevoked_0 : decode cX1_hasRevoked 0 = .ok (.iconst 0, 1) := by decide +kernel
theorem dX1_hasRevoked_1 : decode cX1_hasRevoked 1 = .ok (.istore_n 2, 1) := by decide +kernel
theorem dX1_hasRevoked_2 : decode cX1_hasRevoked 2 = .ok (.iload_n 2, 1) := by decide +kernel
theorem dX1_hasRevoked_3 : decode cX1_hasRevoked 3 = .ok (.aload_n 0, 1) := by decide +kernel
theorem dX1_hasRevoked_4 : decode cX1_hasRevoked 4 = .ok (.getfield 25, 3) := by decide +kernel
theorem dX1_hasRevoked_7 : decode cX1_hasRevoked 7 = .ok (.if_icmp .ge 31, 3) := by decide +kernel
theorem dX1_hasRevoked_10 : decode cX1_hasRevoked 10 = .ok (.aload_n 0, 1) := by decide +kernel
theorem dX1_hasRevoked_11 : decode cX1_hasRevoked 11 = .ok (.getfield 28, 3) := by decide +kernel
theorem dX1_hasRevoked_14 : decode cX1_hasRevoked 14 = .ok (.iload_n 2, 1) := by decide +kernel
theorem dX1_hasRevoked_15 : decode cX1_hasRevoked 15 = .ok (.invokestatic 56, 3) := by decide +kernel
theorem dX1_hasRevoked_18 : decode cX1_hasRevoked 18 = .ok (.ifCond .eq 14, 3) := by decide +kernel
theorem dX1_hasRevoked_21 : decode cX1_hasRevoked 21 = .ok (.aload_n 0, 1) := by decide +kernel
theorem dX1_hasRevoked_22 : decode cX1_hasRevoked 22 = .ok (.iload_n 2, 1) := by decide +kernel
theorem dX1_hasRevoked_23 : decode cX1_hasRevoked 23 = .ok (.invokevirtual 98, 3) := by decide +kernel
theorem dX1_hasRevoked_26 : decode cX1_hasRevoked 26 = .ok (.iload_n 1, 1) := by decide +kernel
theorem dX1_hasRevoked_27 : decode cX1_hasRevoked 27 = .ok (.if_icmp .ne 5, 3) := by decide +kernel
theorem dX1_hasRevoked_30 : decode cX1_hasRevoked 30 = .ok (.iconst 1, 1) := by decide +kernel
theorem dX1_hasRevoked_31 : decode cX1_hasRevoked 31 = .ok (.ireturn, 1) := by decide +kernel
theorem dX1_hasRevoked_32 : decode cX1_hasRevoked 32 = .ok (.iinc 2 1, 3) := by decide +kernel
theorem dX1_hasRevoked_35 : decode cX1_hasRevoked 35 = .ok (.goto (-33), 3) := by decide +kernel
theorem dX1_hasRevoked_38 : decode cX1_hasRevoked 38 = .ok (.iconst 0, 1) := by decide +kernel
theorem dX1_hasRevoked_39 : decode cX1_hasRevoked 39 = .ok (.ireturn, 1) := by decide +kernel
theorem dX2_init_0 : decode cX2_init 0 = .ok (.aload_n 0, 1) := by decide +kernel
theorem dX2_init_1 : decode cX2_init 1 = .ok (.invokespecial 3, 3) := by decide +kernel
theorem dX2_init_4 : decode cX2_init 4 = .ok (.aload_n 0, 1) := by decide +kernel
theorem dX2_init_5 : decode cX2_init 5 = .ok (.new 9, 3) := by decide +kernel
theorem dX2_init_8 : decode cX2_init 8 = .ok (.dup, 1) := by decide +kernel
theorem dX2_init_9 : decode cX2_init 9 = .ok (.invokespecial 11, 3) := by decide +kernel
theorem dX2_init_12 : decode cX2_init 12 = .ok (.putfield 12, 3) := by decide +kernel
theorem dX2_init_15 : decode cX2_init 15 = .ok (.aload_n 0, 1) := by decide +kernel
theorem dX2_init_16 : decode cX2_init 16 = .ok (.new 9, 3) := by decide +kernel
theorem dX2_init_19 : decode cX2_init 19 = .ok (.dup, 1) := by decide +kernel
theorem dX2_init_20 : decode cX2_init 20 = .ok (.invokespecial 11, 3) := by decide +kernel
theorem dX2_init_23 : decode cX2_init 23 = .ok (.putfield 16, 3) := by decide +kernel
theorem dX2_init_26 : decode cX2_init 26 = .ok (.aload_n 0, 1) := by decide +kernel
theorem dX2_init_27 : decode cX2_init 27 = .ok (.new 19, 3) := by decide +kernel
theorem dX2_init_30 : decode cX2_init 30 = .ok (.dup, 1) := by decide +kernel
theorem dX2_init_31 : decode cX2_init 31 = .ok (.invokespecial 21, 3) := by decide +kernel
theorem dX2_init_34 : decode cX2_init 34 = .ok (.putfield 22, 3) := by decide +kernel
theorem dX2_init_37 : decode cX2_init 37 = .ok (.aload_n 0, 1) := by decide +kernel
theorem dX2_init_38 : decode cX2_init 38 = .ok (.iconst 2, 1) := by decide +kernel
theorem dX2_init_39 : decode cX2_init 39 = .ok (.newarray .int, 2) := by decide +kernel
theorem dX2_init_41 : decode cX2_init 41 = .ok (.putfield 26, 3) := by decide +kernel
theorem dX2_init_44 : decode cX2_init 44 = .ok (.aload_n 0, 1) := by decide +kernel
theorem dX2_init_45 : decode cX2_init 45 = .ok (.iconst 2, 1) := by decide +kernel
theorem dX2_init_46 : decode cX2_init 46 = .ok (.newarray .int, 2) := by decide +kernel
theorem dX2_init_48 : decode cX2_init 48 = .ok (.putfield 30, 3) := by decide +kernel
theorem dX2_init_51 : decode cX2_init 51 = .ok (.aload_n 0, 1) := by decide +kernel
theorem dX2_init_52 : decode cX2_init 52 = .ok (.iconst 0, 1) := by decide +kernel
theorem dX2_init_53 : decode cX2_init 53 = .ok (.putfield 33, 3) := by decide +kernel
theorem dX2_init_56 : decode cX2_init 56 = .ok (.aload_n 0, 1) := by decide +kernel
theorem dX2_init_57 : decode cX2_init 57 = .ok (.iconst 0, 1) := by decide +kernel
theorem dX2_init_58 : decode cX2_init 58 = .ok (.putfield 37, 3) := by decide +kernel
theorem dX2_init_61 : decode cX2_init 61 = .ok (.return_, 1) := by decide +kernel
theorem dX2_begin_0 : decode cX2_begin 0 = .ok (.iload_n 1, 1) := by decide +kernel
theorem dX2_begin_1 : decode cX2_begin 1 = .ok (.invokestatic 40, 3) := by decide +kernel
theorem dX2_begin_4 : decode cX2_begin 4 = .ok (.aload_n 0, 1) := by decide +kernel
theorem dX2_begin_5 : decode cX2_begin 5 = .ok (.getfield 33, 3) := by decide +kernel
theorem dX2_begin_8 : decode cX2_begin 8 = .ok (.istore_n 2, 1) := by decide +kernel
theorem dX2_begin_9 : decode cX2_begin 9 = .ok (.aload_n 0, 1) := by decide +kernel
theorem dX2_begin_10 : decode cX2_begin 10 = .ok (.getfield 12, 3) := by decide +kernel
theorem dX2_begin_13 : decode cX2_begin 13 = .ok (.invokevirtual 44, 3) := by decide +kernel
theorem dX2_begin_16 : decode cX2_begin 16 = .ok (.aload_n 0, 1) := by decide +kernel
theorem dX2_begin_17 : decode cX2_begin 17 = .ok (.getfield 22, 3) := by decide +kernel
theorem dX2_begin_20 : decode cX2_begin 20 = .ok (.iload_n 1, 1) := by decide +kernel
theorem dX2_begin_21 : decode cX2_begin 21 = .ok (.invokevirtual 47, 3) := by decide +kernel
theorem dX2_begin_24 : decode cX2_begin 24 = .ok (.aload_n 0, 1) := by decide +kernel
theorem dX2_begin_25 : decode cX2_begin 25 = .ok (.getfield 26, 3) := by decide +kernel
theorem dX2_begin_28 : decode cX2_begin 28 = .ok (.iconst 0, 1) := by decide +kernel
theorem dX2_begin_29 : decode cX2_begin 29 = .ok (.iconst 0, 1) := by decide +kernel
theorem dX2_begin_30 : decode cX2_begin 30 = .ok (.iastore, 1) := by decide +kernel
theorem dX2_begin_31 : decode cX2_begin 31 = .ok (.aload_n 0, 1) := by decide +kernel
theorem dX2_begin_32 : decode cX2_begin 32 = .ok (.getfield 26, 3) := by decide +kernel
theorem dX2_begin_35 : decode cX2_begin 35 = .ok (.iconst 1, 1) := by decide +kernel
theorem dX2_begin_36 : decode cX2_begin 36 = .ok (.iconst 0, 1) := by decide +kernel
theorem dX2_begin_37 : decode cX2_begin 37 = .ok (.iastore, 1) := by decide +kernel
theorem dX2_begin_38 : decode cX2_begin 38 = .ok (.aload_n 0, 1) := by decide +kernel
theorem dX2_begin_39 : decode cX2_begin 39 = .ok (.iconst 0, 1) := by decide +kernel
theorem dX2_begin_40 : decode cX2_begin 40 = .ok (.putfield 33, 3) := by decide +kernel
theorem dX2_begin_43 : decode cX2_begin 43 = .ok (.iload_n 2, 1) := by decide +kernel
theorem dX2_begin_44 : decode cX2_begin 44 = .ok (.ireturn, 1) := by decide +kernel
theorem dX2_deal_0 : decode cX2_deal 0 = .ok (.iload_n 2, 1) := by decide +kernel
theorem dX2_deal_1 : decode cX2_deal 1 = .ok (.iconst 1, 1) := by decide +kernel
theorem dX2_deal_2 : decode cX2_deal 2 = .ok (.if_icmp .lt 20, 3) := by decide +kernel
theorem dX2_deal_5 : decode cX2_deal 5 = .ok (.iload_n 2, 1) := by decide +kernel
theorem dX2_deal_6 : decode cX2_deal 6 = .ok (.bipush 32, 2) := by decide +kernel
theorem dX2_deal_8 : decode cX2_deal 8 = .ok (.if_icmp .ge 14, 3) := by decide +kernel
theorem dX2_deal_11 : decode cX2_deal 11 = .ok (.iload_n 2, 1) := by decide +kernel
theorem dX2_deal_12 : decode cX2_deal 12 = .ok (.iconst 2, 1) := by decide +kernel
theorem dX2_deal_13 : decode cX2_deal 13 = .ok (.irem, 1) := by decide +kernel
theorem dX2_deal_14 : decode cX2_deal 14 = .ok (.iconst 1, 1) := by decide +kernel
theorem dX2_deal_15 : decode cX2_deal 15 = .ok (.if_icmp .ne 7, 3) := by decide +kernel
theorem dX2_deal_18 : decode cX2_deal 18 = .ok (.iconst 1, 1) := by decide +kernel
theorem dX2_deal_19 : decode cX2_deal 19 = .ok (.goto 4, 3) := by decide +kernel
theorem dX2_deal_22 : decode cX2_deal 22 = .ok (.iconst 0, 1) := by decide +kernel
theorem dX2_deal_23 : decode cX2_deal 23 = .ok (.istore 4, 2) := by decide +kernel
theorem dX2_deal_25 : decode cX2_deal 25 = .ok (.iload_n 1, 1) := by decide +kernel
theorem dX2_deal_26 : decode cX2_deal 26 = .ok (.invokestatic 49, 3) := by decide +kernel
theorem dX2_deal_29 : decode cX2_deal 29 = .ok (.ifCond .eq 18, 3) := by decide +kernel
theorem dX2_deal_32 : decode cX2_deal 32 = .ok (.iload 4, 2) := by decide +kernel
theorem dX2_deal_34 : decode cX2_deal 34 = .ok (.ifCond .eq 13, 3) := by decide +kernel
theorem dX2_deal_37 : decode cX2_deal 37 = .ok (.iload_n 3, 1) := by decide +kernel
theorem dX2_deal_38 : decode cX2_deal 38 = .ok (.ifCond .lt 9, 3) := by decide +kernel
theorem dX2_deal_41 : decode cX2_deal 41 = .ok (.iload_n 3, 1) := by decide +kernel
theorem dX2_deal_42 : decode cX2_deal 42 = .ok (.bipush 8, 2) := by decide +kernel
theorem dX2_deal_44 : decode cX2_deal 44 = .ok (.if_icmp .le 13, 3) := by decide +kernel
theorem dX2_deal_47 : decode cX2_deal 47 = .ok (.new 53, 3) := by decide +kernel
theorem dX2_deal_50 : decode cX2_deal 50 = .ok (.dup, 1) := by decide +kernel
theorem dX2_deal_51 : decode cX2_deal 51 = .ok (.ldc 55, 2) := by decide +kernel
theorem dX2_deal_53 : decode cX2_deal 53 = .ok (.invokespecial 57, 3) := by decide +kernel
theorem dX2_deal_56 : decode cX2_deal 56 = .ok (.athrow, 1) := by decide +kernel
theorem dX2_deal_57 : decode cX2_deal 57 = .ok (.aload_n 0, 1) := by decide +kernel
theorem dX2_deal_58 : decode cX2_deal 58 = .ok (.getfield 33, 3) := by decide +kernel
theorem dX2_deal_61 : decode cX2_deal 61 = .ok (.ifCond .ne 13, 3) := by decide +kernel
theorem dX2_deal_64 : decode cX2_deal 64 = .ok (.aload_n 0, 1) := by decide +kernel
theorem dX2_deal_65 : decode cX2_deal 65 = .ok (.getfield 12, 3) := by decide +kernel
theorem dX2_deal_68 : decode cX2_deal 68 = .ok (.invokevirtual 60, 3) := by decide +kernel
theorem dX2_deal_71 : decode cX2_deal 71 = .ok (.ifCond .ne 13, 3) := by decide +kernel
theorem dX2_deal_74 : decode cX2_deal 74 = .ok (.new 64, 3) := by decide +kernel
theorem dX2_deal_77 : decode cX2_deal 77 = .ok (.dup, 1) := by decide +kernel
theorem dX2_deal_78 : decode cX2_deal 78 = .ok (.ldc 66, 2) := by decide +kernel
theorem dX2_deal_80 : decode cX2_deal 80 = .ok (.invokespecial 68, 3) := by decide +kernel
theorem dX2_deal_83 : decode cX2_deal 83 = .ok (.athrow, 1) := by decide +kernel
theorem dX2_deal_84 : decode cX2_deal 84 = .ok (.iconst 0, 1) := by decide +kernel
theorem dX2_deal_85 : decode cX2_deal 85 = .ok (.istore 5, 2) := by decide +kernel
theorem dX2_deal_87 : decode cX2_deal 87 = .ok (.iload 5, 2) := by decide +kernel
theorem dX2_deal_89 : decode cX2_deal 89 = .ok (.iconst 4, 1) := by decide +kernel
theorem dX2_deal_90 : decode cX2_deal 90 = .ok (.iload_n 3, 1) := by decide +kernel
theorem dX2_deal_91 : decode cX2_deal 91 = .ok (.imul, 1) := by decide +kernel
theorem dX2_deal_92 : decode cX2_deal 92 = .ok (.if_icmp .ge 29, 3) := by decide +kernel
theorem dX2_deal_95 : decode cX2_deal 95 = .ok (.aload_n 0, 1) := by decide +kernel
theorem dX2_deal_96 : decode cX2_deal 96 = .ok (.getfield 12, 3) := by decide +kernel
theorem dX2_deal_99 : decode cX2_deal 99 = .ok (.iload 5, 2) := by decide +kernel
theorem dX2_deal_101 : decode cX2_deal 101 = .ok (.iconst 4, 1) := by decide +kernel
theorem dX2_deal_102 : decode cX2_deal 102 = .ok (.irem, 1) := by decide +kernel
theorem dX2_deal_103 : decode cX2_deal 103 = .ok (.iload_n 1, 1) := by decide +kernel
theorem dX2_deal_104 : decode cX2_deal 104 = .ok (.iload 5, 2) := by decide +kernel
theorem dX2_deal_106 : decode cX2_deal 106 = .ok (.iload_n 2, 1) := by decide +kernel
theorem dX2_deal_107 : decode cX2_deal 107 = .ok (.imul, 1) := by decide +kernel
theorem dX2_deal_108 : decode cX2_deal 108 = .ok (.iadd, 1) := by decide +kernel
theorem dX2_deal_109 : decode cX2_deal 109 = .ok (.bipush 32, 2) := by decide +kernel
theorem dX2_deal_111 : decode cX2_deal 111 = .ok (.irem, 1) := by decide +kernel
theorem dX2_deal_112 : decode cX2_deal 112 = .ok (.invokevirtual 69, 3) := by decide +kernel
theorem dX2_deal_115 : decode cX2_deal 115 = .ok (.iinc 5 1, 3) := by decide +kernel
theorem dX2_deal_118 : decode cX2_deal 118 = .ok (.goto (-31), 3) := by decide +kernel
theorem dX2_deal_121 : decode cX2_deal 121 = .ok (.aload_n 0, 1) := by decide +kernel
theorem dX2_deal_122 : decode cX2_deal 122 = .ok (.getfield 12, 3) := by decide +kernel
theorem dX2_deal_125 : decode cX2_deal 125 = .ok (.iconst 0, 1) := by decide +kernel
theorem dX2_deal_126 : decode cX2_deal 126 = .ok (.invokevirtual 73, 3) := by decide +kernel
theorem dX2_deal_129 : decode cX2_deal 129 = .ok (.invokestatic 77, 3) := by decide +kernel
theorem dX2_deal_132 : decode cX2_deal 132 = .ok (.ireturn, 1) := by decide +kernel
theorem dX2_open_0 : decode cX2_open 0 = .ok (.aload_n 0, 1) := by decide +kernel
theorem dX2_open_1 : decode cX2_open 1 = .ok (.getfield 33, 3) := by decide +kernel
theorem dX2_open_4 : decode cX2_open 4 = .ok (.ifCond .ne 13, 3) := by decide +kernel
theorem dX2_open_7 : decode cX2_open 7 = .ok (.aload_n 0, 1) := by decide +kernel
theorem dX2_open_8 : decode cX2_open 8 = .ok (.getfield 12, 3) := by decide +kernel
theorem dX2_open_11 : decode cX2_open 11 = .ok (.invokevirtual 91, 3) := by decide +kernel
theorem dX2_open_14 : decode cX2_open 14 = .ok (.ifCond .ne 13, 3) := by decide +kernel
theorem dX2_open_17 : decode cX2_open 17 = .ok (.new 64, 3) := by decide +kernel
theorem dX2_open_20 : decode cX2_open 20 = .ok (.dup, 1) := by decide +kernel
theorem dX2_open_21 : decode cX2_open 21 = .ok (.ldc 94, 2) := by decide +kernel
theorem dX2_open_23 : decode cX2_open 23 = .ok (.invokespecial 68, 3) := by decide +kernel
theorem dX2_open_26 : decode cX2_open 26 = .ok (.athrow, 1) := by decide +kernel
theorem dX2_open_27 : decode cX2_open 27 = .ok (.aload_n 0, 1) := by decide +kernel
theorem dX2_open_28 : decode cX2_open 28 = .ok (.getfield 12, 3) := by decide +kernel
theorem dX2_open_31 : decode cX2_open 31 = .ok (.aload_n 0, 1) := by decide +kernel
theorem dX2_open_32 : decode cX2_open 32 = .ok (.getfield 12, 3) := by decide +kernel
theorem dX2_open_35 : decode cX2_open 35 = .ok (.iconst 0, 1) := by decide +kernel
theorem dX2_open_36 : decode cX2_open 36 = .ok (.invokevirtual 83, 3) := by decide +kernel
theorem dX2_open_39 : decode cX2_open 39 = .ok (.putfield 96, 3) := by decide +kernel
theorem dX2_open_42 : decode cX2_open 42 = .ok (.aload_n 0, 1) := by decide +kernel
theorem dX2_open_43 : decode cX2_open 43 = .ok (.iconst 1, 1) := by decide +kernel
theorem dX2_open_44 : decode cX2_open 44 = .ok (.putfield 33, 3) := by decide +kernel
theorem dX2_open_47 : decode cX2_open 47 = .ok (.iconst 4, 1) := by decide +kernel
theorem dX2_open_48 : decode cX2_open 48 = .ok (.aload_n 0, 1) := by decide +kernel
theorem dX2_open_49 : decode cX2_open 49 = .ok (.getfield 12, 3) := by decide +kernel
theorem dX2_open_52 : decode cX2_open 52 = .ok (.getfield 96, 3) := by decide +kernel
theorem dX2_open_55 : decode cX2_open 55 = .ok (.imul, 1) := by decide +kernel
theorem dX2_open_56 : decode cX2_open 56 = .ok (.ireturn, 1) := by decide +kernel
theorem dX2_has_0 : decode cX2_has 0 = .ok (.iload_n 1, 1) := by decide +kernel
theorem dX2_has_1 : decode cX2_has 1 = .ok (.invokestatic 40, 3) := by decide +kernel
theorem dX2_has_4 : decode cX2_has 4 = .ok (.iload_n 2, 1) := by decide +kernel
theorem dX2_has_5 : decode cX2_has 5 = .ok (.invokestatic 80, 3) := by decide +kernel
theorem dX2_has_8 : decode cX2_has 8 = .ok (.aload_n 0, 1) := by decide +kernel
theorem dX2_has_9 : decode cX2_has 9 = .ok (.getfield 12, 3) := by decide +kernel
theorem dX2_has_12 : decode cX2_has 12 = .ok (.iload_n 1, 1) := by decide +kernel
theorem dX2_has_13 : decode cX2_has 13 = .ok (.invokevirtual 73, 3) := by decide +kernel
theorem dX2_has_16 : decode cX2_has 16 = .ok (.iload_n 2, 1) := by decide +kernel
theorem dX2_has_17 : decode cX2_has 17 = .ok (.invokestatic 99, 3) := by decide +kernel
theorem dX2_has_20 : decode cX2_has 20 = .ok (.ireturn, 1) := by decide +kernel
theorem dX2_hand_0 : decode cX2_hand 0 = .ok (.iload_n 1, 1) := by decide +kernel
theorem dX2_hand_1 : decode cX2_hand 1 = .ok (.invokestatic 40, 3) := by decide +kernel
theorem dX2_hand_4 : decode cX2_hand 4 = .ok (.iload_n 2, 1) := by decide +kernel
theorem dX2_hand_5 : decode cX2_hand 5 = .ok (.ifCond .lt 17, 3) := by decide +kernel
theorem dX2_hand_8 : decode cX2_hand 8 = .ok (.iload_n 2, 1) := by decide +kernel
theorem dX2_hand_9 : decode cX2_hand 9 = .ok (.iconst 4, 1) := by decide +kernel
theorem dX2_hand_10 : decode cX2_hand 10 = .ok (.if_icmp .gt 12, 3) := by decide +kernel
theorem dX2_hand_13 : decode cX2_hand 13 = .ok (.iload_n 3, 1) := by decide +kernel
theorem dX2_hand_14 : decode cX2_hand 14 = .ok (.ifCond .lt 8, 3) := by decide +kernel
theorem dX2_hand_17 : decode cX2_hand 17 = .ok (.iload_n 3, 1) := by decide +kernel
theorem dX2_hand_18 : decode cX2_hand 18 = .ok (.iconst 2, 1) := by decide +kernel
theorem dX2_hand_19 : decode cX2_hand 19 = .ok (.if_icmp .le 13, 3) := by decide +kernel
theorem dX2_hand_22 : decode cX2_hand 22 = .ok (.new 53, 3) := by decide +kernel
theorem dX2_hand_25 : decode cX2_hand 25 = .ok (.dup, 1) := by decide +kernel
theorem dX2_hand_26 : decode cX2_hand 26 = .ok (.ldc 103, 2) := by decide +kernel
theorem dX2_hand_28 : decode cX2_hand 28 = .ok (.invokespecial 57, 3) := by decide +kernel
theorem dX2_hand_31 : decode cX2_hand 31 = .ok (.athrow, 1) := by decide +kernel
theorem dX2_hand_32 : decode cX2_hand 32 = .ok (.aload_n 0, 1) := by decide +kernel
theorem dX2_hand_33 : decode cX2_hand 33 = .ok (.getfield 12, 3) := by decide +kernel
theorem dX2_hand_36 : decode cX2_hand 36 = .ok (.iload_n 1, 1) := by decide +kernel
theorem dX2_hand_37 : decode cX2_hand 37 = .ok (.invokevirtual 73, 3) := by decide +kernel
theorem dX2_hand_40 : decode cX2_hand 40 = .ok (.istore 4, 2) := by decide +kernel
theorem dX2_hand_42 : decode cX2_hand 42 = .ok (.iload_n 2, 1) := by decide +kernel
theorem dX2_hand_43 : decode cX2_hand 43 = .ok (.iconst 4, 1) := by decide +kernel
theorem dX2_hand_44 : decode cX2_hand 44 = .ok (.if_icmp .ne 8, 3) := by decide +kernel
theorem dX2_hand_47 : decode cX2_hand 47 = .ok (.iload 4, 2) := by decide +kernel
theorem dX2_hand_49 : decode cX2_hand 49 = .ok (.goto 10, 3) := by decide +kernel
theorem dX2_hand_52 : decode cX2_hand 52 = .ok (.iload 4, 2) := by decide +kernel
theorem dX2_hand_54 : decode cX2_hand 54 = .ok (.iload_n 2, 1) := by decide +kernel
theorem dX2_hand_55 : decode cX2_hand 55 = .ok (.invokestatic 105, 3) := by decide +kernel
theorem dX2_hand_58 : decode cX2_hand 58 = .ok (.iand, 1) := by decide +kernel
theorem dX2_hand_59 : decode cX2_hand 59 = .ok (.istore 5, 2) := by decide +kernel
theorem dX2_hand_61 : decode cX2_hand 61 = .ok (.iload_n 3, 1) := by decide +kernel
theorem dX2_hand_62 : decode cX2_hand 62 = .ok (.ifCond .ne 9, 3) := by decide +kernel
theorem dX2_hand_65 : decode cX2_hand 65 = .ok (.iload 5, 2) := by decide +kernel
theorem dX2_hand_67 : decode cX2_hand 67 = .ok (.invokestatic 108, 3) := by decide +kernel
theorem dX2_hand_70 : decode cX2_hand 70 = .ok (.ireturn, 1) := by decide +kernel
theorem dX2_hand_71 : decode cX2_hand 71 = .ok (.iload_n 3, 1) := by decide +kernel
theorem dX2_hand_72 : decode cX2_hand 72 = .ok (.iconst 1, 1) := by decide +kernel
theorem dX2_hand_73 : decode cX2_hand 73 = .ok (.if_icmp .ne 11, 3) := by decide +kernel
theorem dX2_hand_76 : decode cX2_hand 76 = .ok (.iload 5, 2) := by decide +kernel
theorem dX2_hand_78 : decode cX2_hand 78 = .ok (.invokestatic 113, 3) := by decide +kernel
theorem dX2_hand_81 : decode cX2_hand 81 = .ok (.goto 8, 3) := by decide +kernel
theorem dX2_hand_84 : decode cX2_hand 84 = .ok (.iload 5, 2) := by decide +kernel
theorem dX2_hand_86 : decode cX2_hand 86 = .ok (.invokestatic 77, 3) := by decide +kernel
theorem dX2_hand_89 : decode cX2_hand 89 = .ok (.ireturn, 1) := by decide +kernel
theorem dX2_bid_0 : decode cX2_bid 0 = .ok (.iload_n 1, 1) := by decide +kernel
theorem dX2_bid_1 : decode cX2_bid 1 = .ok (.invokestatic 116, 3) := by decide +kernel
theorem dX2_bid_4 : decode cX2_bid 4 = .ok (.aload_n 0, 1) := by decide +kernel
theorem dX2_bid_5 : decode cX2_bid 5 = .ok (.iload_n 1, 1) := by decide +kernel
theorem dX2_bid_6 : decode cX2_bid 6 = .ok (.invokevirtual 119, 3) := by decide +kernel
theorem dX2_bid_9 : decode cX2_bid 9 = .ok (.ifCond .ne 13, 3) := by decide +kernel
theorem dX2_bid_12 : decode cX2_bid 12 = .ok (.new 64, 3) := by decide +kernel
theorem dX2_bid_15 : decode cX2_bid 15 = .ok (.dup, 1) := by decide +kernel
theorem dX2_bid_16 : decode cX2_bid 16 = .ok (.ldc 122, 2) := by decide +kernel
theorem dX2_bid_18 : decode cX2_bid 18 = .ok (.invokespecial 68, 3) := by decide +kernel
theorem dX2_bid_21 : decode cX2_bid 21 = .ok (.athrow, 1) := by decide +kernel
theorem dX2_bid_22 : decode cX2_bid 22 = .ok (.aload_n 0, 1) := by decide +kernel
theorem dX2_bid_23 : decode cX2_bid 23 = .ok (.getfield 22, 3) := by decide +kernel
theorem dX2_bid_26 : decode cX2_bid 26 = .ok (.iload_n 1, 1) := by decide +kernel
theorem dX2_bid_27 : decode cX2_bid 27 = .ok (.invokevirtual 124, 3) := by decide +kernel
theorem dX2_bid_30 : decode cX2_bid 30 = .ok (.aload_n 0, 1) := by decide +kernel
theorem dX2_bid_31 : decode cX2_bid 31 = .ok (.getfield 22, 3) := by decide +kernel
theorem dX2_bid_34 : decode cX2_bid 34 = .ok (.invokevirtual 126, 3) := by decide +kernel
theorem dX2_bid_37 : decode cX2_bid 37 = .ok (.ifCond .eq 11, 3) := by decide +kernel
theorem dX2_bid_40 : decode cX2_bid 40 = .ok (.aload_n 0, 1) := by decide +kernel
theorem dX2_bid_41 : decode cX2_bid 41 = .ok (.iconst 3, 1) := by decide +kernel
theorem dX2_bid_42 : decode cX2_bid 42 = .ok (.putfield 33, 3) := by decide +kernel
theorem dX2_bid_45 : decode cX2_bid 45 = .ok (.goto 42, 3) := by decide +kernel
theorem dX2_bid_48 : decode cX2_bid 48 = .ok (.aload_n 0, 1) := by decide +kernel
theorem dX2_bid_49 : decode cX2_bid 49 = .ok (.getfield 22, 3) := by decide +kernel
theorem dX2_bid_52 : decode cX2_bid 52 = .ok (.invokevirtual 129, 3) := by decide +kernel
theorem dX2_bid_55 : decode cX2_bid 55 = .ok (.ifCond .eq 32, 3) := by decide +kernel
theorem dX2_bid_58 : decode cX2_bid 58 = .ok (.aload_n 0, 1) := by decide +kernel
theorem dX2_bid_59 : decode cX2_bid 59 = .ok (.iconst 2, 1) := by decide +kernel
theorem dX2_bid_60 : decode cX2_bid 60 = .ok (.putfield 33, 3) := by decide +kernel
theorem dX2_bid_63 : decode cX2_bid 63 = .ok (.aload_n 0, 1) := by decide +kernel
theorem dX2_bid_64 : decode cX2_bid 64 = .ok (.getfield 12, 3) := by decide +kernel
theorem dX2_bid_67 : decode cX2_bid 67 = .ok (.aload_n 0, 1) := by decide +kernel
theorem dX2_bid_68 : decode cX2_bid 68 = .ok (.getfield 22, 3) := by decide +kernel
theorem dX2_bid_71 : decode cX2_bid 71 = .ok (.invokevirtual 132, 3) := by decide +kernel
theorem dX2_bid_74 : decode cX2_bid 74 = .ok (.invokestatic 136, 3) := by decide +kernel
theorem dX2_bid_77 : decode cX2_bid 77 = .ok (.aload_n 0, 1) := by decide +kernel
theorem dX2_bid_78 : decode cX2_bid 78 = .ok (.getfield 22, 3) := by decide +kernel
theorem dX2_bid_81 : decode cX2_bid 81 = .ok (.invokevirtual 139, 3) := by decide +kernel
theorem dX2_bid_84 : decode cX2_bid 84 = .ok (.invokevirtual 142, 3) := by decide +kernel
theorem dX2_bid_87 : decode cX2_bid 87 = .ok (.aload_n 0, 1) := by decide +kernel
theorem dX2_bid_88 : decode cX2_bid 88 = .ok (.invokevirtual 145, 3) := by decide +kernel
theorem dX2_bid_91 : decode cX2_bid 91 = .ok (.ireturn, 1) := by decide +kernel
theorem dX2_canBid_0 : decode cX2_canBid 0 = .ok (.iload_n 1, 1) := by decide +kernel
theorem dX2_canBid_1 : decode cX2_canBid 1 = .ok (.invokestatic 116, 3) := by decide +kernel
theorem dX2_canBid_4 : decode cX2_canBid 4 = .ok (.aload_n 0, 1) := by decide +kernel
theorem dX2_canBid_5 : decode cX2_canBid 5 = .ok (.iload_n 1, 1) := by decide +kernel
theorem dX2_canBid_6 : decode cX2_canBid 6 = .ok (.invokevirtual 119, 3) := by decide +kernel
theorem dX2_canBid_9 : decode cX2_canBid 9 = .ok (.ireturn, 1) := by decide +kernel
theorem dX2_contract_0 : decode cX2_contract 0 = .ok (.iload_n 1, 1) := by decide +kernel
theorem dX2_contract_1 : decode cX2_contract 1 = .ok (.ifCond .lt 8, 3) := by decide +kernel
theorem dX2_contract_4 : decode cX2_contract 4 = .ok (.iload_n 1, 1) := by decide +kernel
theorem dX2_contract_5 : decode cX2_contract 5 = .ok (.iconst 3, 1) := by decide +kernel
theorem dX2_contract_6 : decode cX2_contract 6 = .ok (.if_icmp .le 13, 3) := by decide +kernel
theorem dX2_contract_9 : decode cX2_contract 9 = .ok (.new 53, 3) := by decide +kernel
theorem dX2_contract_12 : decode cX2_contract 12 = .ok (.dup, 1) := by decide +kernel
theorem dX2_contract_13 : decode cX2_contract 13 = .ok (.ldc 158, 2) := by decide +kernel
theorem dX2_contract_15 : decode cX2_contract 15 = .ok (.invokespecial 57, 3) := by decide +kernel
theorem dX2_contract_18 : decode cX2_contract 18 = .ok (.athrow, 1) := by decide +kernel
theorem dX2_contract_19 : decode cX2_contract 19 = .ok (.aload_n 0, 1) := by decide +kernel
theorem dX2_contract_20 : decode cX2_contract 20 = .ok (.getfield 22, 3) := by decide +kernel
theorem dX2_contract_23 : decode cX2_contract 23 = .ok (.invokevirtual 129, 3) := by decide +kernel
theorem dX2_contract_26 : decode cX2_contract 26 = .ok (.ifCond .ne 5, 3) := by decide +kernel
theorem dX2_contract_29 : decode cX2_contract 29 = .ok (.iconst (-1), 1) := by decide +kernel
theorem dX2_contract_30 : decode cX2_contract 30 = .ok (.ireturn, 1) := by decide +kernel
theorem dX2_contract_31 : decode cX2_contract 31 = .ok (.iload_n 1, 1) := by decide +kernel
theorem dX2_contract_32 : decode cX2_contract 32 = .ok (.tableswitch 52 0 2 #[28, 36, 44], 28) := by decide +kernel
theorem dX2_contract_60 : decode cX2_contract 60 = .ok (.aload_n 0, 1) := by decide +kernel
theorem dX2_contract_61 : decode cX2_contract 61 = .ok (.getfield 22, 3) := by decide +kernel
theorem dX2_contract_64 : decode cX2_contract 64 = .ok (.invokevirtual 160, 3) := by decide +kernel
theorem dX2_contract_67 : decode cX2_contract 67 = .ok (.ireturn, 1) := by decide +kernel
theorem dX2_contract_68 : decode cX2_contract 68 = .ok (.aload_n 0, 1) := by decide +kernel
theorem dX2_contract_69 : decode cX2_contract 69 = .ok (.getfield 22, 3) := by decide +kernel
theorem dX2_contract_72 : decode cX2_contract 72 = .ok (.invokevirtual 139, 3) := by decide +kernel
theorem dX2_contract_75 : decode cX2_contract 75 = .ok (.ireturn, 1) := by decide +kernel
theorem dX2_contract_76 : decode cX2_contract 76 = .ok (.aload_n 0, 1) := by decide +kernel
theorem dX2_contract_77 : decode cX2_contract 77 = .ok (.getfield 22, 3) := by decide +kernel
theorem dX2_contract_80 : decode cX2_contract 80 = .ok (.invokevirtual 132, 3) := by decide +kernel
theorem dX2_contract_83 : decode cX2_contract 83 = .ok (.ireturn, 1) := by decide +kernel
theorem dX2_contract_84 : decode cX2_contract 84 = .ok (.aload_n 0, 1) := by decide +kernel
theorem dX2_contract_85 : decode cX2_contract 85 = .ok (.getfield 22, 3) := by decide +kernel
theorem dX2_contract_88 : decode cX2_contract 88 = .ok (.getfield 163, 3) := by decide +kernel
theorem dX2_contract_91 : decode cX2_contract 91 = .ok (.ireturn, 1) := by decide +kernel
theorem dX2_play_0 : decode cX2_play 0 = .ok (.iload_n 1, 1) := by decide +kernel
theorem dX2_play_1 : decode cX2_play 1 = .ok (.invokestatic 80, 3) := by decide +kernel
theorem dX2_play_4 : decode cX2_play 4 = .ok (.aload_n 0, 1) := by decide +kernel
theorem dX2_play_5 : decode cX2_play 5 = .ok (.iload_n 1, 1) := by decide +kernel
theorem dX2_play_6 : decode cX2_play 6 = .ok (.invokevirtual 166, 3) := by decide +kernel
theorem dX2_play_9 : decode cX2_play 9 = .ok (.aload_n 0, 1) := by decide +kernel
theorem dX2_play_10 : decode cX2_play 10 = .ok (.getfield 12, 3) := by decide +kernel
theorem dX2_play_13 : decode cX2_play 13 = .ok (.iload_n 1, 1) := by decide +kernel
theorem dX2_play_14 : decode cX2_play 14 = .ok (.invokevirtual 169, 3) := by decide +kernel
theorem dX2_play_17 : decode cX2_play 17 = .ok (.istore_n 2, 1) := by decide +kernel
theorem dX2_play_18 : decode cX2_play 18 = .ok (.iload_n 2, 1) := by decide +kernel
theorem dX2_play_19 : decode cX2_play 19 = .ok (.iconst (-1), 1) := by decide +kernel
theorem dX2_play_20 : decode cX2_play 20 = .ok (.if_icmp .eq 16, 3) := by decide +kernel
theorem dX2_play_23 : decode cX2_play 23 = .ok (.aload_n 0, 1) := by decide +kernel
theorem dX2_play_24 : decode cX2_play 24 = .ok (.getfield 26, 3) := by decide +kernel
theorem dX2_play_27 : decode cX2_play 27 = .ok (.iload_n 2, 1) := by decide +kernel
theorem dX2_play_28 : decode cX2_play 28 = .ok (.invokestatic 172, 3) := by decide +kernel
theorem dX2_play_31 : decode cX2_play 31 = .ok (.dup2, 1) := by decide +kernel
theorem dX2_play_32 : decode cX2_play 32 = .ok (.iaload, 1) := by decide +kernel
theorem dX2_play_33 : decode cX2_play 33 = .ok (.iconst 1, 1) := by decide +kernel
theorem dX2_play_34 : decode cX2_play 34 = .ok (.iadd, 1) := by decide +kernel
theorem dX2_play_35 : decode cX2_play 35 = .ok (.iastore, 1) := by decide +kernel
theorem dX2_play_36 : decode cX2_play 36 = .ok (.aload_n 0, 1) := by decide +kernel
theorem dX2_play_37 : decode cX2_play 37 = .ok (.getfield 12, 3) := by decide +kernel
theorem dX2_play_40 : decode cX2_play 40 = .ok (.invokevirtual 175, 3) := by decide +kernel
theorem dX2_play_43 : decode cX2_play 43 = .ok (.ifCond .ne 7, 3) := by decide +kernel
theorem dX2_play_46 : decode cX2_play 46 = .ok (.aload_n 0, 1) := by decide +kernel
theorem dX2_play_47 : decode cX2_play 47 = .ok (.invokevirtual 178, 3) := by decide +kernel
theorem dX2_play_50 : decode cX2_play 50 = .ok (.aload_n 0, 1) := by decide +kernel
theorem dX2_play_51 : decode cX2_play 51 = .ok (.invokevirtual 145, 3) := by decide +kernel
theorem dX2_play_54 : decode cX2_play 54 = .ok (.ireturn, 1) := by decide +kernel
theorem dX2_back_0 : decode cX2_back 0 = .ok (.aload_n 0, 1) := by decide +kernel
theorem dX2_back_1 : decode cX2_back 1 = .ok (.getfield 33, 3) := by decide +kernel
theorem dX2_back_4 : decode cX2_back 4 = .ok (.iconst 2, 1) := by decide +kernel
theorem dX2_back_5 : decode cX2_back 5 = .ok (.if_icmp .ne 13, 3) := by decide +kernel
theorem dX2_back_8 : decode cX2_back 8 = .ok (.aload_n 0, 1) := by decide +kernel
theorem dX2_back_9 : decode cX2_back 9 = .ok (.getfield 12, 3) := by decide +kernel
theorem dX2_back_12 : decode cX2_back 12 = .ok (.invokevirtual 181, 3) := by decide +kernel
theorem dX2_back_15 : decode cX2_back 15 = .ok (.ifCond .ne 13, 3) := by decide +kernel
theorem dX2_back_18 : decode cX2_back 18 = .ok (.new 64, 3) := by decide +kernel
theorem dX2_back_21 : decode cX2_back 21 = .ok (.dup, 1) := by decide +kernel
theorem dX2_back_22 : decode cX2_back 22 = .ok (.ldc 184, 2) := by decide +kernel
theorem dX2_back_24 : decode cX2_back 24 = .ok (.invokespecial 68, 3) := by decide +kernel
theorem dX2_back_27 : decode cX2_back 27 = .ok (.athrow, 1) := by decide +kernel
theorem dX2_back_28 : decode cX2_back 28 = .ok (.aload_n 0, 1) := by decide +kernel
theorem dX2_back_29 : decode cX2_back 29 = .ok (.getfield 12, 3) := by decide +kernel
theorem dX2_back_32 : decode cX2_back 32 = .ok (.invokevirtual 186, 3) := by decide +kernel
theorem dX2_back_35 : decode cX2_back 35 = .ok (.ireturn, 1) := by decide +kernel
theorem dX2_isRight_0 : decode cX2_isRight 0 = .ok (.iload_n 1, 1) := by decide +kernel
theorem dX2_isRight_1 : decode cX2_isRight 1 = .ok (.invokestatic 80, 3) := by decide +kernel
theorem dX2_isRight_4 : decode cX2_isRight 4 = .ok (.aload_n 0, 1) := by decide +kernel
theorem dX2_isRight_5 : decode cX2_isRight 5 = .ok (.getfield 33, 3) := by decide +kernel
theorem dX2_isRight_8 : decode cX2_isRight 8 = .ok (.iconst 2, 1) := by decide +kernel
theorem dX2_isRight_9 : decode cX2_isRight 9 = .ok (.if_icmp .ne 21, 3) := by decide +kernel
theorem dX2_isRight_12 : decode cX2_isRight 12 = .ok (.aload_n 0, 1) := by decide +kernel
theorem dX2_isRight_13 : decode cX2_isRight 13 = .ok (.getfield 12, 3) := by decide +kernel
theorem dX2_isRight_16 : decode cX2_isRight 16 = .ok (.invokevirtual 189, 3) := by decide +kernel
theorem dX2_isRight_19 : decode cX2_isRight 19 = .ok (.iload_n 1, 1) := by decide +kernel
theorem dX2_isRight_20 : decode cX2_isRight 20 = .ok (.invokestatic 99, 3) := by decide +kernel
theorem dX2_isRight_23 : decode cX2_isRight 23 = .ok (.ifCond .eq 7, 3) := by decide +kernel
theorem dX2_isRight_26 : decode cX2_isRight 26 = .ok (.iconst 1, 1) := by decide +kernel
theorem dX2_isRight_27 : decode cX2_isRight 27 = .ok (.goto 4, 3) := by decide +kernel
theorem dX2_isRight_30 : decode cX2_isRight 30 = .ok (.iconst 0, 1) := by decide +kernel
theorem dX2_isRight_31 : decode cX2_isRight 31 = .ok (.ireturn, 1) := by decide +kernel
theorem dX2_trick_0 : decode cX2_trick 0 = .ok (.iload_n 1, 1) := by decide +kernel
theorem dX2_trick_1 : decode cX2_trick 1 = .ok (.ifCond .lt 14, 3) := by decide +kernel
theorem dX2_trick_4 : decode cX2_trick 4 = .ok (.iload_n 1, 1) := by decide +kernel
theorem dX2_trick_5 : decode cX2_trick 5 = .ok (.aload_n 0, 1) := by decide +kernel
theorem dX2_trick_6 : decode cX2_trick 6 = .ok (.getfield 12, 3) := by decide +kernel
theorem dX2_trick_9 : decode cX2_trick 9 = .ok (.invokevirtual 192, 3) := by decide +kernel
theorem dX2_trick_12 : decode cX2_trick 12 = .ok (.if_icmp .lt 13, 3) := by decide +kernel
theorem dX2_trick_15 : decode cX2_trick 15 = .ok (.new 150, 3) := by decide +kernel
theorem dX2_trick_18 : decode cX2_trick 18 = .ok (.dup, 1) := by decide +kernel
theorem dX2_trick_19 : decode cX2_trick 19 = .ok (.ldc 195, 2) := by decide +kernel
theorem dX2_trick_21 : decode cX2_trick 21 = .ok (.invokespecial 154, 3) := by decide +kernel
theorem dX2_trick_24 : decode cX2_trick 24 = .ok (.athrow, 1) := by decide +kernel
theorem dX2_trick_25 : decode cX2_trick 25 = .ok (.iload_n 2, 1) := by decide +kernel
theorem dX2_trick_26 : decode cX2_trick 26 = .ok (.ifCond .lt 8, 3) := by decide +kernel
theorem dX2_trick_29 : decode cX2_trick 29 = .ok (.iload_n 2, 1) := by decide +kernel
theorem dX2_trick_30 : decode cX2_trick 30 = .ok (.iconst 5, 1) := by decide +kernel
theorem dX2_trick_31 : decode cX2_trick 31 = .ok (.if_icmp .le 13, 3) := by decide +kernel
theorem dX2_trick_34 : decode cX2_trick 34 = .ok (.new 53, 3) := by decide +kernel
theorem dX2_trick_37 : decode cX2_trick 37 = .ok (.dup, 1) := by decide +kernel
theorem dX2_trick_38 : decode cX2_trick 38 = .ok (.ldc 158, 2) := by decide +kernel
theorem dX2_trick_40 : decode cX2_trick 40 = .ok (.invokespecial 57, 3) := by decide +kernel
theorem dX2_trick_43 : decode cX2_trick 43 = .ok (.athrow, 1) := by decide +kernel
theorem dX2_trick_44 : decode cX2_trick 44 = .ok (.iload_n 2, 1) := by decide +kernel
theorem dX2_trick_45 : decode cX2_trick 45 = .ok (.ifCond .ne 12, 3) := by decide +kernel
theorem dX2_trick_48 : decode cX2_trick 48 = .ok (.aload_n 0, 1) := by decide +kernel
theorem dX2_trick_49 : decode cX2_trick 49 = .ok (.getfield 12, 3) := by decide +kernel
theorem dX2_trick_52 : decode cX2_trick 52 = .ok (.iload_n 1, 1) := by decide +kernel
theorem dX2_trick_53 : decode cX2_trick 53 = .ok (.invokevirtual 197, 3) := by decide +kernel
theorem dX2_trick_56 : decode cX2_trick 56 = .ok (.ireturn, 1) := by decide +kernel
theorem dX2_trick_57 : decode cX2_trick 57 = .ok (.iload_n 2, 1) := by decide +kernel
theorem dX2_trick_58 : decode cX2_trick 58 = .ok (.iconst 1, 1) := by decide +kernel
theorem dX2_trick_59 : decode cX2_trick 59 = .ok (.if_icmp .ne 16, 3) := by decide +kernel
theorem dX2_trick_62 : decode cX2_trick 62 = .ok (.aload_n 0, 1) := by decide +kernel
theorem dX2_trick_63 : decode cX2_trick 63 = .ok (.getfield 12, 3) := by decide +kernel
theorem dX2_trick_66 : decode cX2_trick 66 = .ok (.iload_n 1, 1) := by decide +kernel
theorem dX2_trick_67 : decode cX2_trick 67 = .ok (.iconst 1, 1) := by decide +kernel
theorem dX2_trick_68 : decode cX2_trick 68 = .ok (.iadd, 1) := by decide +kernel
theorem dX2_trick_69 : decode cX2_trick 69 = .ok (.invokevirtual 197, 3) := by decide +kernel
theorem dX2_trick_72 : decode cX2_trick 72 = .ok (.goto 14, 3) := by decide +kernel
theorem dX2_trick_75 : decode cX2_trick 75 = .ok (.aload_n 0, 1) := by decide +kernel
theorem dX2_trick_76 : decode cX2_trick 76 = .ok (.getfield 12, 3) := by decide +kernel
theorem dX2_trick_79 : decode cX2_trick 79 = .ok (.iload_n 1, 1) := by decide +kernel
theorem dX2_trick_80 : decode cX2_trick 80 = .ok (.iload_n 2, 1) := by decide +kernel
theorem dX2_trick_81 : decode cX2_trick 81 = .ok (.iconst 2, 1) := by decide +kernel
theorem dX2_trick_82 : decode cX2_trick 82 = .ok (.isub, 1) := by decide +kernel
theorem dX2_trick_83 : decode cX2_trick 83 = .ok (.invokevirtual 200, 3) := by decide +kernel
theorem dX2_trick_86 : decode cX2_trick 86 = .ok (.ireturn, 1) := by decide +kernel
theorem dX2_now_0 : decode cX2_now 0 = .ok (.iload_n 1, 1) := by decide +kernel
theorem dX2_now_1 : decode cX2_now 1 = .ok (.ifCond .lt 9, 3) := by decide +kernel
theorem dX2_now_4 : decode cX2_now 4 = .ok (.iload_n 1, 1) := by decide +kernel
theorem dX2_now_5 : decode cX2_now 5 = .ok (.bipush 7, 2) := by decide +kernel
theorem dX2_now_7 : decode cX2_now 7 = .ok (.if_icmp .le 13, 3) := by decide +kernel
theorem dX2_now_10 : decode cX2_now 10 = .ok (.new 53, 3) := by decide +kernel
theorem dX2_now_13 : decode cX2_now 13 = .ok (.dup, 1) := by decide +kernel
theorem dX2_now_14 : decode cX2_now 14 = .ok (.ldc 158, 2) := by decide +kernel
theorem dX2_now_16 : decode cX2_now 16 = .ok (.invokespecial 57, 3) := by decide +kernel
theorem dX2_now_19 : decode cX2_now 19 = .ok (.athrow, 1) := by decide +kernel
theorem dX2_now_20 : decode cX2_now 20 = .ok (.iload_n 1, 1) := by decide +kernel
theorem dX2_now_21 : decode cX2_now 21 = .ok (.tableswitch 107 0 6 #[43, 48, 56, 61, 69, 77, 85], 43) := by decide +kernel
theorem dX2_now_64 : decode cX2_now 64 = .ok (.aload_n 0, 1) := by decide +kernel
theorem dX2_now_65 : decode cX2_now 65 = .ok (.getfield 33, 3) := by decide +kernel
theorem dX2_now_68 : decode cX2_now 68 = .ok (.ireturn, 1) := by decide +kernel
theorem dX2_now_69 : decode cX2_now 69 = .ok (.aload_n 0, 1) := by decide +kernel
theorem dX2_now_70 : decode cX2_now 70 = .ok (.getfield 22, 3) := by decide +kernel
theorem dX2_now_73 : decode cX2_now 73 = .ok (.getfield 204, 3) := by decide +kernel
theorem dX2_now_76 : decode cX2_now 76 = .ok (.ireturn, 1) := by decide +kernel
theorem dX2_now_77 : decode cX2_now 77 = .ok (.aload_n 0, 1) := by decide +kernel
theorem dX2_now_78 : decode cX2_now 78 = .ok (.invokevirtual 145, 3) := by decide +kernel
theorem dX2_now_81 : decode cX2_now 81 = .ok (.ireturn, 1) := by decide +kernel
theorem dX2_now_82 : decode cX2_now 82 = .ok (.aload_n 0, 1) := by decide +kernel
theorem dX2_now_83 : decode cX2_now 83 = .ok (.getfield 22, 3) := by decide +kernel
theorem dX2_now_86 : decode cX2_now 86 = .ok (.getfield 148, 3) := by decide +kernel
theorem dX2_now_89 : decode cX2_now 89 = .ok (.ireturn, 1) := by decide +kernel
theorem dX2_now_90 : decode cX2_now 90 = .ok (.aload_n 0, 1) := by decide +kernel
theorem dX2_now_91 : decode cX2_now 91 = .ok (.getfield 12, 3) := by decide +kernel
theorem dX2_now_94 : decode cX2_now 94 = .ok (.invokevirtual 192, 3) := by decide +kernel
theorem dX2_now_97 : decode cX2_now 97 = .ok (.ireturn, 1) := by decide +kernel
theorem dX2_now_98 : decode cX2_now 98 = .ok (.aload_n 0, 1) := by decide +kernel
theorem dX2_now_99 : decode cX2_now 99 = .ok (.getfield 12, 3) := by decide +kernel
theorem dX2_now_102 : decode cX2_now 102 = .ok (.invokevirtual 181, 3) := by decide +kernel
theorem dX2_now_105 : decode cX2_now 105 = .ok (.ireturn, 1) := by decide +kernel
theorem dX2_now_106 : decode cX2_now 106 = .ok (.aload_n 0, 1) := by decide +kernel
theorem dX2_now_107 : decode cX2_now 107 = .ok (.getfield 12, 3) := by decide +kernel
theorem dX2_now_110 : decode cX2_now 110 = .ok (.aload_n 0, 1) := by decide +kernel
theorem dX2_now_111 : decode cX2_now 111 = .ok (.getfield 12, 3) := by decide +kernel
theorem dX2_now_114 : decode cX2_now 114 = .ok (.invokevirtual 192, 3) := by decide +kernel
theorem dX2_now_117 : decode cX2_now 117 = .ok (.aload_n 0, 1) := by decide +kernel
theorem dX2_now_118 : decode cX2_now 118 = .ok (.getfield 12, 3) := by decide +kernel
theorem dX2_now_121 : decode cX2_now 121 = .ok (.invokevirtual 181, 3) := by decide +kernel
theorem dX2_now_124 : decode cX2_now 124 = .ok (.invokevirtual 207, 3) := by decide +kernel
theorem dX2_now_127 : decode cX2_now 127 = .ok (.ireturn, 1) := by decide +kernel
theorem dX2_now_128 : decode cX2_now 128 = .ok (.aload_n 0, 1) := by decide +kernel
theorem dX2_now_129 : decode cX2_now 129 = .ok (.getfield 37, 3) := by decide +kernel
theorem dX2_now_132 : decode cX2_now 132 = .ok (.ireturn, 1) := by decide +kernel
theorem dX2_side_0 : decode cX2_side 0 = .ok (.iload_n 1, 1) := by decide +kernel
theorem dX2_side_1 : decode cX2_side 1 = .ok (.ifCond .lt 8, 3) := by decide +kernel
theorem dX2_side_4 : decode cX2_side 4 = .ok (.iload_n 1, 1) := by decide +kernel
theorem dX2_side_5 : decode cX2_side 5 = .ok (.iconst 1, 1) := by decide +kernel
theorem dX2_side_6 : decode cX2_side 6 = .ok (.if_icmp .le 13, 3) := by decide +kernel
theorem dX2_side_9 : decode cX2_side 9 = .ok (.new 150, 3) := by decide +kernel
theorem dX2_side_12 : decode cX2_side 12 = .ok (.dup, 1) := by decide +kernel
theorem dX2_side_13 : decode cX2_side 13 = .ok (.ldc 210, 2) := by decide +kernel
theorem dX2_side_15 : decode cX2_side 15 = .ok (.invokespecial 154, 3) := by decide +kernel
theorem dX2_side_18 : decode cX2_side 18 = .ok (.athrow, 1) := by decide +kernel
theorem dX2_side_19 : decode cX2_side 19 = .ok (.iload_n 2, 1) := by decide +kernel
theorem dX2_side_20 : decode cX2_side 20 = .ok (.ifCond .lt 8, 3) := by decide +kernel
theorem dX2_side_23 : decode cX2_side 23 = .ok (.iload_n 2, 1) := by decide +kernel
theorem dX2_side_24 : decode cX2_side 24 = .ok (.iconst 2, 1) := by decide +kernel
theorem dX2_side_25 : decode cX2_side 25 = .ok (.if_icmp .le 13, 3) := by decide +kernel
theorem dX2_side_28 : decode cX2_side 28 = .ok (.new 53, 3) := by decide +kernel
theorem dX2_side_31 : decode cX2_side 31 = .ok (.dup, 1) := by decide +kernel
theorem dX2_side_32 : decode cX2_side 32 = .ok (.ldc 158, 2) := by decide +kernel
theorem dX2_side_34 : decode cX2_side 34 = .ok (.invokespecial 57, 3) := by decide +kernel
theorem dX2_side_37 : decode cX2_side 37 = .ok (.athrow, 1) := by decide +kernel
theorem dX2_side_38 : decode cX2_side 38 = .ok (.iload_n 2, 1) := by decide +kernel
theorem dX2_side_39 : decode cX2_side 39 = .ok (.ifCond .ne 10, 3) := by decide +kernel
theorem dX2_side_42 : decode cX2_side 42 = .ok (.aload_n 0, 1) := by decide +kernel
theorem dX2_side_43 : decode cX2_side 43 = .ok (.getfield 26, 3) := by decide +kernel
theorem dX2_side_46 : decode cX2_side 46 = .ok (.iload_n 1, 1) := by decide +kernel
theorem dX2_side_47 : decode cX2_side 47 = .ok (.iaload, 1) := by decide +kernel
theorem dX2_side_48 : decode cX2_side 48 = .ok (.ireturn, 1) := by decide +kernel
theorem dX2_side_49 : decode cX2_side 49 = .ok (.iload_n 2, 1) := by decide +kernel
theorem dX2_side_50 : decode cX2_side 50 = .ok (.iconst 1, 1) := by decide +kernel
theorem dX2_side_51 : decode cX2_side 51 = .ok (.if_icmp .ne 12, 3) := by decide +kernel
theorem dX2_side_54 : decode cX2_side 54 = .ok (.aload_n 0, 1) := by decide +kernel
theorem dX2_side_55 : decode cX2_side 55 = .ok (.getfield 30, 3) := by decide +kernel
theorem dX2_side_58 : decode cX2_side 58 = .ok (.iload_n 1, 1) := by decide +kernel
theorem dX2_side_59 : decode cX2_side 59 = .ok (.iaload, 1) := by decide +kernel
theorem dX2_side_60 : decode cX2_side 60 = .ok (.goto 8, 3) := by decide +kernel
theorem dX2_side_63 : decode cX2_side 63 = .ok (.aload_n 0, 1) := by decide +kernel
theorem dX2_side_64 : decode cX2_side 64 = .ok (.iload_n 1, 1) := by decide +kernel
theorem dX2_side_65 : decode cX2_side 65 = .ok (.invokevirtual 212, 3) := by decide +kernel
theorem dX2_side_68 : decode cX2_side 68 = .ok (.ireturn, 1) := by decide +kernel
theorem dX2_meanScore_0 : decode cX2_meanScore 0 = .ok (.aload_n 0, 1) := by decide +kernel
theorem dX2_meanScore_1 : decode cX2_meanScore 1 = .ok (.getfield 37, 3) := by decide +kernel
theorem dX2_meanScore_4 : decode cX2_meanScore 4 = .ok (.ifCond .ne 5, 3) := by decide +kernel
theorem dX2_meanScore_7 : decode cX2_meanScore 7 = .ok (.dconst 0, 1) := by decide +kernel
theorem dX2_meanScore_8 : decode cX2_meanScore 8 = .ok (.dreturn, 1) := by decide +kernel
theorem dX2_meanScore_9 : decode cX2_meanScore 9 = .ok (.aload_n 0, 1) := by decide +kernel
theorem dX2_meanScore_10 : decode cX2_meanScore 10 = .ok (.getfield 30, 3) := by decide +kernel
theorem dX2_meanScore_13 : decode cX2_meanScore 13 = .ok (.iconst 0, 1) := by decide +kernel
theorem dX2_meanScore_14 : decode cX2_meanScore 14 = .ok (.iaload, 1) := by decide +kernel
theorem dX2_meanScore_15 : decode cX2_meanScore 15 = .ok (.aload_n 0, 1) := by decide +kernel
theorem dX2_meanScore_16 : decode cX2_meanScore 16 = .ok (.getfield 30, 3) := by decide +kernel
theorem dX2_meanScore_19 : decode cX2_meanScore 19 = .ok (.iconst 1, 1) := by decide +kernel
theorem dX2_meanScore_20 : decode cX2_meanScore 20 = .ok (.iaload, 1) := by decide +kernel
theorem dX2_meanScore_21 : decode cX2_meanScore 21 = .ok (.iadd, 1) := by decide +kernel
theorem dX2_meanScore_22 : decode cX2_meanScore 22 = .ok (.i2d, 1) := by decide +kernel
theorem dX2_meanScore_23 : decode cX2_meanScore 23 = .ok (.aload_n 0, 1) := by decide +kernel
theorem dX2_meanScore_24 : decode cX2_meanScore 24 = .ok (.getfield 37, 3) := by decide +kernel
theorem dX2_meanScore_27 : decode cX2_meanScore 27 = .ok (.i2d, 1) := by decide +kernel
theorem dX2_meanScore_28 : decode cX2_meanScore 28 = .ok (.ddiv, 1) := by decide +kernel
theorem dX2_meanScore_29 : decode cX2_meanScore 29 = .ok (.dreturn, 1) := by decide +kernel
theorem dX2_wouldGet_0 : decode cX2_wouldGet 0 = .ok (.iload_n 1, 1) := by decide +kernel
theorem dX2_wouldGet_1 : decode cX2_wouldGet 1 = .ok (.invokestatic 80, 3) := by decide +kernel
theorem dX2_wouldGet_4 : decode cX2_wouldGet 4 = .ok (.aload_n 0, 1) := by decide +kernel
theorem dX2_wouldGet_5 : decode cX2_wouldGet 5 = .ok (.iload_n 1, 1) := by decide +kernel
theorem dX2_wouldGet_6 : decode cX2_wouldGet 6 = .ok (.invokevirtual 166, 3) := by decide +kernel
theorem dX2_wouldGet_9 : decode cX2_wouldGet 9 = .ok (.aload_n 0, 1) := by decide +kernel
theorem dX2_wouldGet_10 : decode cX2_wouldGet 10 = .ok (.getfield 16, 3) := by decide +kernel
theorem dX2_wouldGet_13 : decode cX2_wouldGet 13 = .ok (.aload_n 0, 1) := by decide +kernel
theorem dX2_wouldGet_14 : decode cX2_wouldGet 14 = .ok (.getfield 12, 3) := by decide +kernel
theorem dX2_wouldGet_17 : decode cX2_wouldGet 17 = .ok (.invokevirtual 215, 3) := by decide +kernel
theorem dX2_wouldGet_20 : decode cX2_wouldGet 20 = .ok (.aload_n 0, 1) := by decide +kernel
theorem dX2_wouldGet_21 : decode cX2_wouldGet 21 = .ok (.getfield 16, 3) := by decide +kernel
theorem dX2_wouldGet_24 : decode cX2_wouldGet 24 = .ok (.iload_n 1, 1) := by decide +kernel
theorem dX2_wouldGet_25 : decode cX2_wouldGet 25 = .ok (.invokevirtual 169, 3) := by decide +kernel
theorem dX2_wouldGet_28 : decode cX2_wouldGet 28 = .ok (.pop, 1) := by decide +kernel
theorem dX2_wouldGet_29 : decode cX2_wouldGet 29 = .ok (.aload_n 0, 1) := by decide +kernel
theorem dX2_wouldGet_30 : decode cX2_wouldGet 30 = .ok (.getfield 16, 3) := by decide +kernel
theorem dX2_wouldGet_33 : decode cX2_wouldGet 33 = .ok (.aload_n 0, 1) := by decide +kernel
theorem dX2_wouldGet_34 : decode cX2_wouldGet 34 = .ok (.getfield 12, 3) := by decide +kernel
theorem dX2_wouldGet_37 : decode cX2_wouldGet 37 = .ok (.invokevirtual 192, 3) := by decide +kernel
theorem dX2_wouldGet_40 : decode cX2_wouldGet 40 = .ok (.aload_n 0, 1) := by decide +kernel
theorem dX2_wouldGet_41 : decode cX2_wouldGet 41 = .ok (.getfield 12, 3) := by decide +kernel
theorem dX2_wouldGet_44 : decode cX2_wouldGet 44 = .ok (.invokevirtual 181, 3) := by decide +kernel
theorem dX2_wouldGet_47 : decode cX2_wouldGet 47 = .ok (.iconst 1, 1) := by decide +kernel
theorem dX2_wouldGet_48 : decode cX2_wouldGet 48 = .ok (.iadd, 1) := by decide +kernel
theorem dX2_wouldGet_49 : decode cX2_wouldGet 49 = .ok (.invokevirtual 207, 3) := by decide +kernel
theorem dX2_wouldGet_52 : decode cX2_wouldGet 52 = .ok (.ireturn, 1) := by decide +kernel
theorem dX2_best_0 : decode cX2_best 0 = .ok (.aload_n 0, 1) := by decide +kernel
theorem dX2_best_1 : decode cX2_best 1 = .ok (.aload_n 0, 1) := by decide +kernel
theorem dX2_best_2 : decode cX2_best 2 = .ok (.getfield 12, 3) := by decide +kernel
theorem dX2_best_5 : decode cX2_best 5 = .ok (.getfield 219, 3) := by decide +kernel
theorem dX2_best_8 : decode cX2_best 8 = .ok (.invokevirtual 221, 3) := by decide +kernel
theorem dX2_best_11 : decode cX2_best 11 = .ok (.ireturn, 1) := by decide +kernel
theorem dX2_bestWith_0 : decode cX2_bestWith 0 = .ok (.iload_n 1, 1) := by decide +kernel
theorem dX2_bestWith_1 : decode cX2_bestWith 1 = .ok (.invokestatic 80, 3) := by decide +kernel
theorem dX2_bestWith_4 : decode cX2_bestWith 4 = .ok (.aload_n 0, 1) := by decide +kernel
theorem dX2_bestWith_5 : decode cX2_bestWith 5 = .ok (.iload_n 1, 1) := by decide +kernel
theorem dX2_bestWith_6 : decode cX2_bestWith 6 = .ok (.invokevirtual 166, 3) := by decide +kernel
theorem dX2_bestWith_9 : decode cX2_bestWith 9 = .ok (.aload_n 0, 1) := by decide +kernel
theorem dX2_bestWith_10 : decode cX2_bestWith 10 = .ok (.invokevirtual 224, 3) := by decide +kernel
theorem dX2_bestWith_13 : decode cX2_bestWith 13 = .ok (.ifCond .eq 11, 3) := by decide +kernel
theorem dX2_bestWith_16 : decode cX2_bestWith 16 = .ok (.aload_n 0, 1) := by decide +kernel
theorem dX2_bestWith_17 : decode cX2_bestWith 17 = .ok (.iload_n 1, 1) := by decide +kernel
theorem dX2_bestWith_18 : decode cX2_bestWith 18 = .ok (.invokevirtual 227, 3) := by decide +kernel
theorem dX2_bestWith_21 : decode cX2_bestWith 21 = .ok (.goto 4, 3) := by decide +kernel
theorem dX2_bestWith_24 : decode cX2_bestWith 24 = .ok (.iconst (-1), 1) := by decide +kernel
theorem dX2_bestWith_25 : decode cX2_bestWith 25 = .ok (.ireturn, 1) := by decide +kernel
theorem dX2_bestCard_0 : decode cX2_bestCard 0 = .ok (.aload_n 0, 1) := by decide +kernel
theorem dX2_bestCard_1 : decode cX2_bestCard 1 = .ok (.invokevirtual 224, 3) := by decide +kernel
theorem dX2_bestCard_4 : decode cX2_bestCard 4 = .ok (.ifCond .ne 5, 3) := by decide +kernel
theorem dX2_bestCard_7 : decode cX2_bestCard 7 = .ok (.iconst (-1), 1) := by decide +kernel
theorem dX2_bestCard_8 : decode cX2_bestCard 8 = .ok (.ireturn, 1) := by decide +kernel
theorem dX2_bestCard_9 : decode cX2_bestCard 9 = .ok (.aload_n 0, 1) := by decide +kernel
theorem dX2_bestCard_10 : decode cX2_bestCard 10 = .ok (.aload_n 0, 1) := by decide +kernel
theorem dX2_bestCard_11 : decode cX2_bestCard 11 = .ok (.getfield 12, 3) := by decide +kernel
theorem dX2_bestCard_14 : decode cX2_bestCard 14 = .ok (.getfield 219, 3) := by decide +kernel
theorem dX2_bestCard_17 : decode cX2_bestCard 17 = .ok (.invokevirtual 221, 3) := by decide +kernel
theorem dX2_bestCard_20 : decode cX2_bestCard 20 = .ok (.istore_n 1, 1) := by decide +kernel
theorem dX2_bestCard_21 : decode cX2_bestCard 21 = .ok (.aload_n 0, 1) := by decide +kernel
theorem dX2_bestCard_22 : decode cX2_bestCard 22 = .ok (.getfield 12, 3) := by decide +kernel
theorem dX2_bestCard_25 : decode cX2_bestCard 25 = .ok (.invokevirtual 189, 3) := by decide +kernel
theorem dX2_bestCard_28 : decode cX2_bestCard 28 = .ok (.istore_n 2, 1) := by decide +kernel
theorem dX2_bestCard_29 : decode cX2_bestCard 29 = .ok (.iconst 0, 1) := by decide +kernel
theorem dX2_bestCard_30 : decode cX2_bestCard 30 = .ok (.istore_n 3, 1) := by decide +kernel
theorem dX2_bestCard_31 : decode cX2_bestCard 31 = .ok (.iload_n 3, 1) := by decide +kernel
theorem dX2_bestCard_32 : decode cX2_bestCard 32 = .ok (.bipush 8, 2) := by decide +kernel
theorem dX2_bestCard_34 : decode cX2_bestCard 34 = .ok (.if_icmp .ge 39, 3) := by decide +kernel
theorem dX2_bestCard_37 : decode cX2_bestCard 37 = .ok (.iload_n 2, 1) := by decide +kernel
theorem dX2_bestCard_38 : decode cX2_bestCard 38 = .ok (.ifCond .eq 35, 3) := by decide +kernel
theorem dX2_bestCard_41 : decode cX2_bestCard 41 = .ok (.iload_n 2, 1) := by decide +kernel
theorem dX2_bestCard_42 : decode cX2_bestCard 42 = .ok (.invokestatic 77, 3) := by decide +kernel
theorem dX2_bestCard_45 : decode cX2_bestCard 45 = .ok (.istore 4, 2) := by decide +kernel
theorem dX2_bestCard_47 : decode cX2_bestCard 47 = .ok (.aload_n 0, 1) := by decide +kernel
theorem dX2_bestCard_48 : decode cX2_bestCard 48 = .ok (.iload 4, 2) := by decide +kernel
theorem dX2_bestCard_50 : decode cX2_bestCard 50 = .ok (.invokevirtual 227, 3) := by decide +kernel
theorem dX2_bestCard_53 : decode cX2_bestCard 53 = .ok (.iload_n 1, 1) := by decide +kernel
theorem dX2_bestCard_54 : decode cX2_bestCard 54 = .ok (.if_icmp .ne 6, 3) := by decide +kernel
theorem dX2_bestCard_57 : decode cX2_bestCard 57 = .ok (.iload 4, 2) := by decide +kernel
theorem dX2_bestCard_59 : decode cX2_bestCard 59 = .ok (.ireturn, 1) := by decide +kernel
theorem dX2_bestCard_60 : decode cX2_bestCard 60 = .ok (.iload_n 2, 1) := by decide +kernel
theorem dX2_bestCard_61 : decode cX2_bestCard 61 = .ok (.iload 4, 2) := by decide +kernel
theorem dX2_bestCard_63 : decode cX2_bestCard 63 = .ok (.invokestatic 230, 3) := by decide +kernel
theorem dX2_bestCard_66 : decode cX2_bestCard 66 = .ok (.istore_n 2, 1) := by decide +kernel
theorem dX2_bestCard_67 : decode cX2_bestCard 67 = .ok (.iinc 3 1, 3) := by decide +kernel
theorem dX2_bestCard_70 : decode cX2_bestCard 70 = .ok (.goto (-39), 3) := by decide +kernel
theorem dX2_bestCard_73 : decode cX2_bestCard 73 = .ok (.iconst (-1), 1) := by decide +kernel
theorem dX2_bestCard_74 : decode cX2_bestCard 74 = .ok (.ireturn, 1) := by decide +kernel
theorem dX2_bestIn_0 : decode cX2_bestIn 0 = .ok (.iload_n 1, 1) := by decide +kernel
theorem dX2_bestIn_1 : decode cX2_bestIn 1 = .ok (.ifCond .lt 8, 3) := by decide +kernel
theorem dX2_bestIn_4 : decode cX2_bestIn 4 = .ok (.iload_n 1, 1) := by decide +kernel
theorem dX2_bestIn_5 : decode cX2_bestIn 5 = .ok (.iconst 5, 1) := by decide +kernel
theorem dX2_bestIn_6 : decode cX2_bestIn 6 = .ok (.if_icmp .lt 13, 3) := by decide +kernel
theorem dX2_bestIn_9 : decode cX2_bestIn 9 = .ok (.new 53, 3) := by decide +kernel
theorem dX2_bestIn_12 : decode cX2_bestIn 12 = .ok (.dup, 1) := by decide +kernel
theorem dX2_bestIn_13 : decode cX2_bestIn 13 = .ok (.ldc 233, 2) := by decide +kernel
theorem dX2_bestIn_15 : decode cX2_bestIn 15 = .ok (.invokespecial 57, 3) := by decide +kernel
theorem dX2_bestIn_18 : decode cX2_bestIn 18 = .ok (.athrow, 1) := by decide +kernel
theorem dX2_bestIn_19 : decode cX2_bestIn 19 = .ok (.aload_n 0, 1) := by decide +kernel
theorem dX2_bestIn_20 : decode cX2_bestIn 20 = .ok (.invokevirtual 224, 3) := by decide +kernel
theorem dX2_bestIn_23 : decode cX2_bestIn 23 = .ok (.ifCond .ne 5, 3) := by decide +kernel
theorem dX2_bestIn_26 : decode cX2_bestIn 26 = .ok (.iconst (-1), 1) := by decide +kernel
theorem dX2_bestIn_27 : decode cX2_bestIn 27 = .ok (.ireturn, 1) := by decide +kernel
theorem dX2_bestIn_28 : decode cX2_bestIn 28 = .ok (.aload_n 0, 1) := by decide +kernel
theorem dX2_bestIn_29 : decode cX2_bestIn 29 = .ok (.getfield 16, 3) := by decide +kernel
theorem dX2_bestIn_32 : decode cX2_bestIn 32 = .ok (.aload_n 0, 1) := by decide +kernel
theorem dX2_bestIn_33 : decode cX2_bestIn 33 = .ok (.getfield 12, 3) := by decide +kernel
theorem dX2_bestIn_36 : decode cX2_bestIn 36 = .ok (.invokevirtual 215, 3) := by decide +kernel
theorem dX2_bestIn_39 : decode cX2_bestIn 39 = .ok (.aload_n 0, 1) := by decide +kernel
theorem dX2_bestIn_40 : decode cX2_bestIn 40 = .ok (.getfield 16, 3) := by decide +kernel
theorem dX2_bestIn_43 : decode cX2_bestIn 43 = .ok (.iload_n 1, 1) := by decide +kernel
theorem dX2_bestIn_44 : decode cX2_bestIn 44 = .ok (.putfield 219, 3) := by decide +kernel
theorem dX2_bestIn_47 : decode cX2_bestIn 47 = .ok (.aload_n 0, 1) := by decide +kernel
theorem dX2_bestIn_48 : decode cX2_bestIn 48 = .ok (.getfield 16, 3) := by decide +kernel
theorem dX2_bestIn_51 : decode cX2_bestIn 51 = .ok (.invokestatic 235, 3) := by decide +kernel
theorem dX2_bestIn_54 : decode cX2_bestIn 54 = .ok (.ireturn, 1) := by decide +kernel
theorem dX2_digest_0 : decode cX2_digest 0 = .ok (.ldc2_w 246, 3) := by decide +kernel
theorem dX2_digest_3 : decode cX2_digest 3 = .ok (.lstore_n 1, 1) := by decide +kernel
theorem dX2_digest_4 : decode cX2_digest 4 = .ok (.iconst 0, 1) := by decide +kernel
theorem dX2_digest_5 : decode cX2_digest 5 = .ok (.istore_n 3, 1) := by decide +kernel
theorem dX2_digest_6 : decode cX2_digest 6 = .ok (.iload_n 3, 1) := by decide +kernel
theorem dX2_digest_7 : decode cX2_digest 7 = .ok (.bipush 7, 2) := by decide +kernel
theorem dX2_digest_9 : decode cX2_digest 9 = .ok (.if_icmp .gt 19, 3) := by decide +kernel
theorem dX2_digest_12 : decode cX2_digest 12 = .ok (.lload_n 1, 1) := by decide +kernel
theorem dX2_digest_13 : decode cX2_digest 13 = .ok (.aload_n 0, 1) := by decide +kernel
theorem dX2_digest_14 : decode cX2_digest 14 = .ok (.iload_n 3, 1) := by decide +kernel
theorem dX2_digest_15 : decode cX2_digest 15 = .ok (.invokevirtual 248, 3) := by decide +kernel
theorem dX2_digest_18 : decode cX2_digest 18 = .ok (.invokestatic 251, 3) := by decide +kernel
theorem dX2_digest_21 : decode cX2_digest 21 = .ok (.lstore_n 1, 1) := by decide +kernel
theorem dX2_digest_22 : decode cX2_digest 22 = .ok (.iinc 3 1, 3) := by decide +kernel
theorem dX2_digest_25 : decode cX2_digest 25 = .ok (.goto (-19), 3) := by decide +kernel
theorem dX2_digest_28 : decode cX2_digest 28 = .ok (.iconst 0, 1) := by decide +kernel
theorem dX2_digest_29 : decode cX2_digest 29 = .ok (.istore_n 3, 1) := by decide +kernel
theorem dX2_digest_30 : decode cX2_digest 30 = .ok (.iload_n 3, 1) := by decide +kernel
theorem dX2_digest_31 : decode cX2_digest 31 = .ok (.iconst 3, 1) := by decide +kernel
theorem dX2_digest_32 : decode cX2_digest 32 = .ok (.if_icmp .gt 19, 3) := by decide +kernel
theorem dX2_digest_35 : decode cX2_digest 35 = .ok (.lload_n 1, 1) := by decide +kernel
theorem dX2_digest_36 : decode cX2_digest 36 = .ok (.aload_n 0, 1) := by decide +kernel
theorem dX2_digest_37 : decode cX2_digest 37 = .ok (.iload_n 3, 1) := by decide +kernel
theorem dX2_digest_38 : decode cX2_digest 38 = .ok (.invokevirtual 255, 3) := by decide +kernel
theorem dX2_digest_41 : decode cX2_digest 41 = .ok (.invokestatic 251, 3) := by decide +kernel
theorem dX2_digest_44 : decode cX2_digest 44 = .ok (.lstore_n 1, 1) := by decide +kernel
theorem dX2_digest_45 : decode cX2_digest 45 = .ok (.iinc 3 1, 3) := by decide +kernel
theorem dX2_digest_48 : decode cX2_digest 48 = .ok (.goto (-18), 3) := by decide +kernel
theorem dX2_digest_51 : decode cX2_digest 51 = .ok (.iconst 0, 1) := by decide +kernel
theorem dX2_digest_52 : decode cX2_digest 52 = .ok (.istore_n 3, 1) := by decide +kernel
theorem dX2_digest_53 : decode cX2_digest 53 = .ok (.iload_n 3, 1) := by decide +kernel
theorem dX2_digest_54 : decode cX2_digest 54 = .ok (.aload_n 0, 1) := by decide +kernel
theorem dX2_digest_55 : decode cX2_digest 55 = .ok (.getfield 22, 3) := by decide +kernel
theorem dX2_digest_58 : decode cX2_digest 58 = .ok (.getfield 148, 3) := by decide +kernel
theorem dX2_digest_61 : decode cX2_digest 61 = .ok (.if_icmp .ge 22, 3) := by decide +kernel
theorem dX2_digest_64 : decode cX2_digest 64 = .ok (.lload_n 1, 1) := by decide +kernel
theorem dX2_digest_65 : decode cX2_digest 65 = .ok (.aload_n 0, 1) := by decide +kernel
theorem dX2_digest_66 : decode cX2_digest 66 = .ok (.getfield 22, 3) := by decide +kernel
theorem dX2_digest_69 : decode cX2_digest 69 = .ok (.iload_n 3, 1) := by decide +kernel
theorem dX2_digest_70 : decode cX2_digest 70 = .ok (.invokevirtual 155, 3) := by decide +kernel
theorem dX2_digest_73 : decode cX2_digest 73 = .ok (.invokestatic 251, 3) := by decide +kernel
theorem dX2_digest_76 : decode cX2_digest 76 = .ok (.lstore_n 1, 1) := by decide +kernel
theorem dX2_digest_77 : decode cX2_digest 77 = .ok (.iinc 3 1, 3) := by decide +kernel
theorem dX2_digest_80 : decode cX2_digest 80 = .ok (.goto (-27), 3) := by decide +kernel
theorem dX2_digest_83 : decode cX2_digest 83 = .ok (.aload_n 0, 1) := by decide +kernel
theorem dX2_digest_84 : decode cX2_digest 84 = .ok (.lload_n 1, 1) := by decide +kernel
theorem dX2_digest_85 : decode cX2_digest 85 = .ok (.invokevirtual 258, 3) := by decide +kernel
theorem dX2_digest_88 : decode cX2_digest 88 = .ok (.lstore_n 1, 1) := by decide +kernel
theorem dX2_digest_89 : decode cX2_digest 89 = .ok (.aload_n 0, 1) := by decide +kernel
theorem dX2_digest_90 : decode cX2_digest 90 = .ok (.lload_n 1, 1) := by decide +kernel
theorem dX2_digest_91 : decode cX2_digest 91 = .ok (.invokevirtual 262, 3) := by decide +kernel
theorem dX2_digest_94 : decode cX2_digest 94 = .ok (.lstore_n 1, 1) := by decide +kernel
theorem dX2_digest_95 : decode cX2_digest 95 = .ok (.aload_n 0, 1) := by decide +kernel
theorem dX2_digest_96 : decode cX2_digest 96 = .ok (.lload_n 1, 1) := by decide +kernel
theorem dX2_digest_97 : decode cX2_digest 97 = .ok (.invokevirtual 265, 3) := by decide +kernel
theorem dX2_digest_100 : decode cX2_digest 100 = .ok (.lstore_n 1, 1) := by decide +kernel
theorem dX2_digest_101 : decode cX2_digest 101 = .ok (.lload_n 1, 1) := by decide +kernel
theorem dX2_digest_102 : decode cX2_digest 102 = .ok (.aload_n 0, 1) := by decide +kernel
theorem dX2_digest_103 : decode cX2_digest 103 = .ok (.invokevirtual 268, 3) := by decide +kernel
theorem dX2_digest_106 : decode cX2_digest 106 = .ok (.invokestatic 251, 3) := by decide +kernel
theorem dX2_digest_109 : decode cX2_digest 109 = .ok (.lstore_n 1, 1) := by decide +kernel
theorem dX2_digest_110 : decode cX2_digest 110 = .ok (.lload_n 1, 1) := by decide +kernel
theorem dX2_digest_111 : decode cX2_digest 111 = .ok (.aload_n 0, 1) := by decide +kernel
theorem dX2_digest_112 : decode cX2_digest 112 = .ok (.invokevirtual 271, 3) := by decide +kernel
theorem dX2_digest_115 : decode cX2_digest 115 = .ok (.invokestatic 251, 3) := by decide +kernel
theorem dX2_digest_118 : decode cX2_digest 118 = .ok (.lstore_n 1, 1) := by decide +kernel
theorem dX2_digest_119 : decode cX2_digest 119 = .ok (.iconst 0, 1) := by decide +kernel
theorem dX2_digest_120 : decode cX2_digest 120 = .ok (.istore_n 3, 1) := by decide +kernel
theorem dX2_digest_121 : decode cX2_digest 121 = .ok (.iload_n 3, 1) := by decide +kernel
theorem dX2_digest_122 : decode cX2_digest 122 = .ok (.iconst 5, 1) := by decide +kernel
theorem dX2_digest_123 : decode cX2_digest 123 = .ok (.if_icmp .ge 19, 3) := by decide +kernel
theorem dX2_digest_126 : decode cX2_digest 126 = .ok (.lload_n 1, 1) := by decide +kernel
theorem dX2_digest_127 : decode cX2_digest 127 = .ok (.aload_n 0, 1) := by decide +kernel
theorem dX2_digest_128 : decode cX2_digest 128 = .ok (.iload_n 3, 1) := by decide +kernel
theorem dX2_digest_129 : decode cX2_digest 129 = .ok (.invokevirtual 221, 3) := by decide +kernel
theorem dX2_digest_132 : decode cX2_digest 132 = .ok (.invokestatic 251, 3) := by decide +kernel
theorem dX2_digest_135 : decode cX2_digest 135 = .ok (.lstore_n 1, 1) := by decide +kernel
theorem dX2_digest_136 : decode cX2_digest 136 = .ok (.iinc 3 1, 3) := by decide +kernel
theorem dX2_digest_139 : decode cX2_digest 139 = .ok (.goto (-18), 3) := by decide +kernel
theorem dX2_digest_142 : decode cX2_digest 142 = .ok (.lload_n 1, 1) := by decide +kernel
theorem dX2_digest_143 : decode cX2_digest 143 = .ok (.lreturn, 1) := by decide +kernel
theorem dX2_mix_0 : decode cX2_mix 0 = .ok (.lload_n 0, 1) := by decide +kernel
theorem dX2_mix_1 : decode cX2_mix 1 = .ok (.ldc2_w 274, 3) := by decide +kernel
theorem dX2_mix_4 : decode cX2_mix 4 = .ok (.lmul, 1) := by decide +kernel
theorem dX2_mix_5 : decode cX2_mix 5 = .ok (.iload_n 2, 1) := by decide +kernel
theorem dX2_mix_6 : decode cX2_mix 6 = .ok (.i2l, 1) := by decide +kernel
theorem dX2_mix_7 : decode cX2_mix 7 = .ok (.ladd, 1) := by decide +kernel
theorem dX2_mix_8 : decode cX2_mix 8 = .ok (.lreturn, 1) := by decide +kernel
theorem dX2_mixTricks_0 : decode cX2_mixTricks 0 = .ok (.lload_n 1, 1) := by decide +kernel
theorem dX2_mixTricks_1 : decode cX2_mixTricks 1 = .ok (.lstore_n 3, 1) := by decide +kernel
theorem dX2_mixTricks_2 : decode cX2_mixTricks 2 = .ok (.iconst 0, 1) := by decide +kernel
theorem dX2_mixTricks_3 : decode cX2_mixTricks 3 = .ok (.istore 5, 2) := by decide +kernel
theorem dX2_mixTricks_5 : decode cX2_mixTricks 5 = .ok (.iload 5, 2) := by decide +kernel
theorem dX2_mixTricks_7 : decode cX2_mixTricks 7 = .ok (.aload_n 0, 1) := by decide +kernel
theorem dX2_mixTricks_8 : decode cX2_mixTricks 8 = .ok (.getfield 12, 3) := by decide +kernel
theorem dX2_mixTricks_11 : decode cX2_mixTricks 11 = .ok (.invokevirtual 192, 3) := by decide +kernel
theorem dX2_mixTricks_14 : decode cX2_mixTricks 14 = .ok (.if_icmp .ge 37, 3) := by decide +kernel
theorem dX2_mixTricks_17 : decode cX2_mixTricks 17 = .ok (.iconst 0, 1) := by decide +kernel
theorem dX2_mixTricks_18 : decode cX2_mixTricks 18 = .ok (.istore 6, 2) := by decide +kernel
theorem dX2_mixTricks_20 : decode cX2_mixTricks 20 = .ok (.iload 6, 2) := by decide +kernel
theorem dX2_mixTricks_22 : decode cX2_mixTricks 22 = .ok (.iconst 5, 1) := by decide +kernel
theorem dX2_mixTricks_23 : decode cX2_mixTricks 23 = .ok (.if_icmp .gt 22, 3) := by decide +kernel
theorem dX2_mixTricks_26 : decode cX2_mixTricks 26 = .ok (.lload_n 3, 1) := by decide +kernel
theorem dX2_mixTricks_27 : decode cX2_mixTricks 27 = .ok (.aload_n 0, 1) := by decide +kernel
theorem dX2_mixTricks_28 : decode cX2_mixTricks 28 = .ok (.iload 5, 2) := by decide +kernel
theorem dX2_mixTricks_30 : decode cX2_mixTricks 30 = .ok (.iload 6, 2) := by decide +kernel
theorem dX2_mixTricks_32 : decode cX2_mixTricks 32 = .ok (.invokevirtual 276, 3) := by decide +kernel
theorem dX2_mixTricks_35 : decode cX2_mixTricks 35 = .ok (.invokestatic 251, 3) := by decide +kernel
theorem dX2_mixTricks_38 : decode cX2_mixTricks 38 = .ok (.lstore_n 3, 1) := by decide +kernel
theorem dX2_mixTricks_39 : decode cX2_mixTricks 39 = .ok (.iinc 6 1, 3) := by decide +kernel
theorem dX2_mixTricks_42 : decode cX2_mixTricks 42 = .ok (.goto (-22), 3) := by decide +kernel
theorem dX2_mixTricks_45 : decode cX2_mixTricks 45 = .ok (.iinc 5 1, 3) := by decide +kernel
theorem dX2_mixTricks_48 : decode cX2_mixTricks 48 = .ok (.goto (-43), 3) := by decide +kernel
theorem dX2_mixTricks_51 : decode cX2_mixTricks 51 = .ok (.lload_n 3, 1) := by decide +kernel
theorem dX2_mixTricks_52 : decode cX2_mixTricks 52 = .ok (.lreturn, 1) := by decide +kernel
theorem dX2_mixSides_0 : decode cX2_mixSides 0 = .ok (.lload_n 1, 1) := by decide +kernel
theorem dX2_mixSides_1 : decode cX2_mixSides 1 = .ok (.lstore_n 3, 1) := by decide +kernel
theorem dX2_mixSides_2 : decode cX2_mixSides 2 = .ok (.iconst 0, 1) := by decide +kernel
theorem dX2_mixSides_3 : decode cX2_mixSides 3 = .ok (.istore 5, 2) := by decide +kernel
theorem dX2_mixSides_5 : decode cX2_mixSides 5 = .ok (.iload 5, 2) := by decide +kernel
theorem dX2_mixSides_7 : decode cX2_mixSides 7 = .ok (.iconst 1, 1) := by decide +kernel
theorem dX2_mixSides_8 : decode cX2_mixSides 8 = .ok (.if_icmp .gt 37, 3) := by decide +kernel
theorem dX2_mixSides_11 : decode cX2_mixSides 11 = .ok (.iconst 0, 1) := by decide +kernel
theorem dX2_mixSides_12 : decode cX2_mixSides 12 = .ok (.istore 6, 2) := by decide +kernel
theorem dX2_mixSides_14 : decode cX2_mixSides 14 = .ok (.iload 6, 2) := by decide +kernel
theorem dX2_mixSides_16 : decode cX2_mixSides 16 = .ok (.iconst 2, 1) := by decide +kernel
theorem dX2_mixSides_17 : decode cX2_mixSides 17 = .ok (.if_icmp .gt 22, 3) := by decide +kernel
theorem dX2_mixSides_20 : decode cX2_mixSides 20 = .ok (.lload_n 3, 1) := by decide +kernel
theorem dX2_mixSides_21 : decode cX2_mixSides 21 = .ok (.aload_n 0, 1) := by decide +kernel
theorem dX2_mixSides_22 : decode cX2_mixSides 22 = .ok (.iload 5, 2) := by decide +kernel
theorem dX2_mixSides_24 : decode cX2_mixSides 24 = .ok (.iload 6, 2) := by decide +kernel
theorem dX2_mixSides_26 : decode cX2_mixSides 26 = .ok (.invokevirtual 279, 3) := by decide +kernel
theorem dX2_mixSides_29 : decode cX2_mixSides 29 = .ok (.invokestatic 251, 3) := by decide +kernel
theorem dX2_mixSides_32 : decode cX2_mixSides 32 = .ok (.lstore_n 3, 1) := by decide +kernel
theorem dX2_mixSides_33 : decode cX2_mixSides 33 = .ok (.iinc 6 1, 3) := by decide +kernel
theorem dX2_mixSides_36 : decode cX2_mixSides 36 = .ok (.goto (-22), 3) := by decide +kernel
theorem dX2_mixSides_39 : decode cX2_mixSides 39 = .ok (.iinc 5 1, 3) := by decide +kernel
theorem dX2_mixSides_42 : decode cX2_mixSides 42 = .ok (.goto (-37), 3) := by decide +kernel
theorem dX2_mixSides_45 : decode cX2_mixSides 45 = .ok (.lload_n 3, 1) := by decide +kernel
theorem dX2_mixSides_46 : decode cX2_mixSides 46 = .ok (.lreturn, 1) := by decide +kernel
theorem dX2_mixHands_0 : decode cX2_mixHands 0 = .ok (.lload_n 1, 1) := by decide +kernel
theorem dX2_mixHands_1 : decode cX2_mixHands 1 = .ok (.lstore_n 3, 1) := by decide +kernel
theorem dX2_mixHands_2 : decode cX2_mixHands 2 = .ok (.iconst 0, 1) := by decide +kernel
theorem dX2_mixHands_3 : decode cX2_mixHands 3 = .ok (.istore 5, 2) := by decide +kernel
theorem dX2_mixHands_5 : decode cX2_mixHands 5 = .ok (.iload 5, 2) := by decide +kernel
theorem dX2_mixHands_7 : decode cX2_mixHands 7 = .ok (.iconst 4, 1) := by decide +kernel
theorem dX2_mixHands_8 : decode cX2_mixHands 8 = .ok (.if_icmp .ge 54, 3) := by decide +kernel
theorem dX2_mixHands_11 : decode cX2_mixHands 11 = .ok (.iconst 0, 1) := by decide +kernel
theorem dX2_mixHands_12 : decode cX2_mixHands 12 = .ok (.istore 6, 2) := by decide +kernel
theorem dX2_mixHands_14 : decode cX2_mixHands 14 = .ok (.iload 6, 2) := by decide +kernel
theorem dX2_mixHands_16 : decode cX2_mixHands 16 = .ok (.iconst 4, 1) := by decide +kernel
theorem dX2_mixHands_17 : decode cX2_mixHands 17 = .ok (.if_icmp .gt 39, 3) := by decide +kernel
theorem dX2_mixHands_20 : decode cX2_mixHands 20 = .ok (.iconst 0, 1) := by decide +kernel
theorem dX2_mixHands_21 : decode cX2_mixHands 21 = .ok (.istore 7, 2) := by decide +kernel
theorem dX2_mixHands_23 : decode cX2_mixHands 23 = .ok (.iload 7, 2) := by decide +kernel
theorem dX2_mixHands_25 : decode cX2_mixHands 25 = .ok (.iconst 2, 1) := by decide +kernel
theorem dX2_mixHands_26 : decode cX2_mixHands 26 = .ok (.if_icmp .gt 24, 3) := by decide +kernel
theorem dX2_mixHands_29 : decode cX2_mixHands 29 = .ok (.lload_n 3, 1) := by decide +kernel
theorem dX2_mixHands_30 : decode cX2_mixHands 30 = .ok (.aload_n 0, 1) := by decide +kernel
theorem dX2_mixHands_31 : decode cX2_mixHands 31 = .ok (.iload 5, 2) := by decide +kernel
theorem dX2_mixHands_33 : decode cX2_mixHands 33 = .ok (.iload 6, 2) := by decide +kernel
theorem dX2_mixHands_35 : decode cX2_mixHands 35 = .ok (.iload 7, 2) := by decide +kernel
theorem dX2_mixHands_37 : decode cX2_mixHands 37 = .ok (.invokevirtual 282, 3) := by decide +kernel
theorem dX2_mixHands_40 : decode cX2_mixHands 40 = .ok (.invokestatic 251, 3) := by decide +kernel
theorem dX2_mixHands_43 : decode cX2_mixHands 43 = .ok (.lstore_n 3, 1) := by decide +kernel
theorem dX2_mixHands_44 : decode cX2_mixHands 44 = .ok (.iinc 7 1, 3) := by decide +kernel
theorem dX2_mixHands_47 : decode cX2_mixHands 47 = .ok (.goto (-24), 3) := by decide +kernel
theorem dX2_mixHands_50 : decode cX2_mixHands 50 = .ok (.iinc 6 1, 3) := by decide +kernel
theorem dX2_mixHands_53 : decode cX2_mixHands 53 = .ok (.goto (-39), 3) := by decide +kernel
theorem dX2_mixHands_56 : decode cX2_mixHands 56 = .ok (.iinc 5 1, 3) := by decide +kernel
theorem dX2_mixHands_59 : decode cX2_mixHands 59 = .ok (.goto (-54), 3) := by decide +kernel
theorem dX2_mixHands_62 : decode cX2_mixHands 62 = .ok (.lload_n 3, 1) := by decide +kernel
theorem dX2_mixHands_63 : decode cX2_mixHands 63 = .ok (.lreturn, 1) := by decide +kernel
theorem dX2_isCard_0 : decode cX2_isCard 0 = .ok (.iload_n 0, 1) := by decide +kernel
theorem dX2_isCard_1 : decode cX2_isCard 1 = .ok (.ifCond .lt 13, 3) := by decide +kernel
theorem dX2_isCard_4 : decode cX2_isCard 4 = .ok (.iload_n 0, 1) := by decide +kernel
theorem dX2_isCard_5 : decode cX2_isCard 5 = .ok (.bipush 32, 2) := by decide +kernel
theorem dX2_isCard_7 : decode cX2_isCard 7 = .ok (.if_icmp .ge 7, 3) := by decide +kernel
theorem dX2_isCard_10 : decode cX2_isCard 10 = .ok (.iconst 1, 1) := by decide +kernel
theorem dX2_isCard_11 : decode cX2_isCard 11 = .ok (.goto 4, 3) := by decide +kernel
theorem dX2_isCard_14 : decode cX2_isCard 14 = .ok (.iconst 0, 1) := by decide +kernel
theorem dX2_isCard_15 : decode cX2_isCard 15 = .ok (.ireturn, 1) := by decide +kernel
theorem dX2_checkPlayer_0 : decode cX2_checkPlayer 0 = .ok (.iload_n 0, 1) := by decide +kernel
theorem dX2_checkPlayer_1 : decode cX2_checkPlayer 1 = .ok (.ifCond .lt 8, 3) := by decide +kernel
theorem dX2_checkPlayer_4 : decode cX2_checkPlayer 4 = .ok (.iload_n 0, 1) := by decide +kernel
theorem dX2_checkPlayer_5 : decode cX2_checkPlayer 5 = .ok (.iconst 4, 1) := by decide +kernel
theorem dX2_checkPlayer_6 : decode cX2_checkPlayer 6 = .ok (.if_icmp .lt 14, 3) := by decide +kernel
theorem dX2_checkPlayer_9 : decode cX2_checkPlayer 9 = .ok (.new 150, 3) := by decide +kernel
theorem dX2_checkPlayer_12 : decode cX2_checkPlayer 12 = .ok (.dup, 1) := by decide +kernel
theorem dX2_checkPlayer_13 : decode cX2_checkPlayer 13 = .ok (.ldc_w 286, 3) := by decide +kernel
theorem dX2_checkPlayer_16 : decode cX2_checkPlayer 16 = .ok (.invokespecial 154, 3) := by decide +kernel
theorem dX2_checkPlayer_19 : decode cX2_checkPlayer 19 = .ok (.athrow, 1) := by decide +kernel
theorem dX2_checkPlayer_20 : decode cX2_checkPlayer 20 = .ok (.return_, 1) := by decide +kernel
theorem dX2_checkCard_0 : decode cX2_checkCard 0 = .ok (.iload_n 0, 1) := by decide +kernel
theorem dX2_checkCard_1 : decode cX2_checkCard 1 = .ok (.invokestatic 49, 3) := by decide +kernel
theorem dX2_checkCard_4 : decode cX2_checkCard 4 = .ok (.ifCond .ne 14, 3) := by decide +kernel
theorem dX2_checkCard_7 : decode cX2_checkCard 7 = .ok (.new 150, 3) := by decide +kernel
theorem dX2_checkCard_10 : decode cX2_checkCard 10 = .ok (.dup, 1) := by decide +kernel
theorem dX2_checkCard_11 : decode cX2_checkCard 11 = .ok (.ldc_w 288, 3) := by decide +kernel
theorem dX2_checkCard_14 : decode cX2_checkCard 14 = .ok (.invokespecial 154, 3) := by decide +kernel
theorem dX2_checkCard_17 : decode cX2_checkCard 17 = .ok (.athrow, 1) := by decide +kernel
theorem dX2_checkCard_18 : decode cX2_checkCard 18 = .ok (.return_, 1) := by decide +kernel
theorem dX2_checkBid_0 : decode cX2_checkBid 0 = .ok (.iload_n 0, 1) := by decide +kernel
theorem dX2_checkBid_1 : decode cX2_checkBid 1 = .ok (.ifCond .lt 9, 3) := by decide +kernel
theorem dX2_checkBid_4 : decode cX2_checkBid 4 = .ok (.iload_n 0, 1) := by decide +kernel
theorem dX2_checkBid_5 : decode cX2_checkBid 5 = .ok (.bipush 42, 2) := by decide +kernel
theorem dX2_checkBid_7 : decode cX2_checkBid 7 = .ok (.if_icmp .le 14, 3) := by decide +kernel
theorem dX2_checkBid_10 : decode cX2_checkBid 10 = .ok (.new 53, 3) := by decide +kernel
theorem dX2_checkBid_13 : decode cX2_checkBid 13 = .ok (.dup, 1) := by decide +kernel
theorem dX2_checkBid_14 : decode cX2_checkBid 14 = .ok (.ldc_w 290, 3) := by decide +kernel
theorem dX2_checkBid_17 : decode cX2_checkBid 17 = .ok (.invokespecial 57, 3) := by decide +kernel
theorem dX2_checkBid_20 : decode cX2_checkBid 20 = .ok (.athrow, 1) := by decide +kernel
theorem dX2_checkBid_21 : decode cX2_checkBid 21 = .ok (.return_, 1) := by decide +kernel
theorem dX2_checkPlayable_0 : decode cX2_checkPlayable 0 = .ok (.aload_n 0, 1) := by decide +kernel
theorem dX2_checkPlayable_1 : decode cX2_checkPlayable 1 = .ok (.getfield 33, 3) := by decide +kernel
theorem dX2_checkPlayable_4 : decode cX2_checkPlayable 4 = .ok (.iconst 2, 1) := by decide +kernel
theorem dX2_checkPlayable_5 : decode cX2_checkPlayable 5 = .ok (.if_icmp .ne 24, 3) := by decide +kernel
theorem dX2_checkPlayable_8 : decode cX2_checkPlayable 8 = .ok (.aload_n 0, 1) := by decide +kernel
theorem dX2_checkPlayable_9 : decode cX2_checkPlayable 9 = .ok (.getfield 12, 3) := by decide +kernel
theorem dX2_checkPlayable_12 : decode cX2_checkPlayable 12 = .ok (.aload_n 0, 1) := by decide +kernel
theorem dX2_checkPlayable_13 : decode cX2_checkPlayable 13 = .ok (.getfield 12, 3) := by decide +kernel
theorem dX2_checkPlayable_16 : decode cX2_checkPlayable 16 = .ok (.getfield 292, 3) := by decide +kernel
theorem dX2_checkPlayable_19 : decode cX2_checkPlayable 19 = .ok (.invokevirtual 73, 3) := by decide +kernel
theorem dX2_checkPlayable_22 : decode cX2_checkPlayable 22 = .ok (.iload_n 1, 1) := by decide +kernel
theorem dX2_checkPlayable_23 : decode cX2_checkPlayable 23 = .ok (.invokestatic 99, 3) := by decide +kernel
theorem dX2_checkPlayable_26 : decode cX2_checkPlayable 26 = .ok (.ifCond .ne 14, 3) := by decide +kernel
theorem dX2_checkPlayable_29 : decode cX2_checkPlayable 29 = .ok (.new 64, 3) := by decide +kernel
theorem dX2_checkPlayable_32 : decode cX2_checkPlayable 32 = .ok (.dup, 1) := by decide +kernel
theorem dX2_checkPlayable_33 : decode cX2_checkPlayable 33 = .ok (.ldc_w 295, 3) := by decide +kernel
theorem dX2_checkPlayable_36 : decode cX2_checkPlayable 36 = .ok (.invokespecial 68, 3) := by decide +kernel
theorem dX2_checkPlayable_39 : decode cX2_checkPlayable 39 = .ok (.athrow, 1) := by decide +kernel
theorem dX2_checkPlayable_40 : decode cX2_checkPlayable 40 = .ok (.return_, 1) := by decide +kernel
theorem dX2_isBidAllowed_0 : decode cX2_isBidAllowed 0 = .ok (.aload_n 0, 1) := by decide +kernel
theorem dX2_isBidAllowed_1 : decode cX2_isBidAllowed 1 = .ok (.getfield 33, 3) := by decide +kernel
theorem dX2_isBidAllowed_4 : decode cX2_isBidAllowed 4 = .ok (.iconst 1, 1) := by decide +kernel
theorem dX2_isBidAllowed_5 : decode cX2_isBidAllowed 5 = .ok (.if_icmp .ne 18, 3) := by decide +kernel
theorem dX2_isBidAllowed_8 : decode cX2_isBidAllowed 8 = .ok (.aload_n 0, 1) := by decide +kernel
theorem dX2_isBidAllowed_9 : decode cX2_isBidAllowed 9 = .ok (.getfield 22, 3) := by decide +kernel
theorem dX2_isBidAllowed_12 : decode cX2_isBidAllowed 12 = .ok (.iload_n 1, 1) := by decide +kernel
theorem dX2_isBidAllowed_13 : decode cX2_isBidAllowed 13 = .ok (.invokevirtual 297, 3) := by decide +kernel
theorem dX2_isBidAllowed_16 : decode cX2_isBidAllowed 16 = .ok (.ifCond .eq 7, 3) := by decide +kernel
theorem dX2_isBidAllowed_19 : decode cX2_isBidAllowed 19 = .ok (.iconst 1, 1) := by decide +kernel
theorem dX2_isBidAllowed_20 : decode cX2_isBidAllowed 20 = .ok (.goto 4, 3) := by decide +kernel
theorem dX2_isBidAllowed_23 : decode cX2_isBidAllowed 23 = .ok (.iconst 0, 1) := by decide +kernel
theorem dX2_isBidAllowed_24 : decode cX2_isBidAllowed 24 = .ok (.ireturn, 1) := by decide +kernel
theorem dX2_turnNow_0 : decode cX2_turnNow 0 = .ok (.aload_n 0, 1) := by decide +kernel
theorem dX2_turnNow_1 : decode cX2_turnNow 1 = .ok (.getfield 33, 3) := by decide +kernel
theorem dX2_turnNow_4 : decode cX2_turnNow 4 = .ok (.iconst 1, 1) := by decide +kernel
theorem dX2_turnNow_5 : decode cX2_turnNow 5 = .ok (.if_icmp .ne 11, 3) := by decide +kernel
theorem dX2_turnNow_8 : decode cX2_turnNow 8 = .ok (.aload_n 0, 1) := by decide +kernel
theorem dX2_turnNow_9 : decode cX2_turnNow 9 = .ok (.getfield 22, 3) := by decide +kernel
theorem dX2_turnNow_12 : decode cX2_turnNow 12 = .ok (.invokevirtual 300, 3) := by decide +kernel
theorem dX2_turnNow_15 : decode cX2_turnNow 15 = .ok (.ireturn, 1) := by decide +kernel
theorem dX2_turnNow_16 : decode cX2_turnNow 16 = .ok (.aload_n 0, 1) := by decide +kernel
theorem dX2_turnNow_17 : decode cX2_turnNow 17 = .ok (.getfield 33, 3) := by decide +kernel
theorem dX2_turnNow_20 : decode cX2_turnNow 20 = .ok (.iconst 2, 1) := by decide +kernel
theorem dX2_turnNow_21 : decode cX2_turnNow 21 = .ok (.if_icmp .ne 13, 3) := by decide +kernel
theorem dX2_turnNow_24 : decode cX2_turnNow 24 = .ok (.aload_n 0, 1) := by decide +kernel
theorem dX2_turnNow_25 : decode cX2_turnNow 25 = .ok (.getfield 12, 3) := by decide +kernel
theorem dX2_turnNow_28 : decode cX2_turnNow 28 = .ok (.getfield 292, 3) := by decide +kernel
theorem dX2_turnNow_31 : decode cX2_turnNow 31 = .ok (.goto 4, 3) := by decide +kernel
theorem dX2_turnNow_34 : decode cX2_turnNow 34 = .ok (.iconst (-1), 1) := by decide +kernel
theorem dX2_turnNow_35 : decode cX2_turnNow 35 = .ok (.ireturn, 1) := by decide +kernel
theorem dX2_revokersOf_0 : decode cX2_revokersOf 0 = .ok (.iconst 0, 1) := by decide +kernel
theorem dX2_revokersOf_1 : decode cX2_revokersOf 1 = .ok (.istore_n 2, 1) := by decide +kernel
theorem dX2_revokersOf_2 : decode cX2_revokersOf 2 = .ok (.iload_n 1, 1) := by decide +kernel
theorem dX2_revokersOf_3 : decode cX2_revokersOf 3 = .ok (.istore_n 3, 1) := by decide +kernel
theorem dX2_revokersOf_4 : decode cX2_revokersOf 4 = .ok (.iload_n 3, 1) := by decide +kernel
theorem dX2_revokersOf_5 : decode cX2_revokersOf 5 = .ok (.iconst 4, 1) := by decide +kernel
theorem dX2_revokersOf_6 : decode cX2_revokersOf 6 = .ok (.if_icmp .ge 23, 3) := by decide +kernel
theorem dX2_revokersOf_9 : decode cX2_revokersOf 9 = .ok (.aload_n 0, 1) := by decide +kernel
theorem dX2_revokersOf_10 : decode cX2_revokersOf 10 = .ok (.getfield 12, 3) := by decide +kernel
theorem dX2_revokersOf_13 : decode cX2_revokersOf 13 = .ok (.iload_n 3, 1) := by decide +kernel
theorem dX2_revokersOf_14 : decode cX2_revokersOf 14 = .ok (.invokevirtual 302, 3) := by decide +kernel
theorem dX2_revokersOf_17 : decode cX2_revokersOf 17 = .ok (.ifCond .eq 6, 3) := by decide +kernel
theorem dX2_revokersOf_20 : decode cX2_revokersOf 20 = .ok (.iinc 2 1, 3) := by decide +kernel
theorem dX2_revokersOf_23 : decode cX2_revokersOf 23 = .ok (.iinc 3 2, 3) := by decide +kernel
theorem dX2_revokersOf_26 : decode cX2_revokersOf 26 = .ok (.goto (-22), 3) := by decide +kernel
theorem dX2_revokersOf_29 : decode cX2_revokersOf 29 = .ok (.iload_n 2, 1) := by decide +kernel
theorem dX2_revokersOf_30 : decode cX2_revokersOf 30 = .ok (.ireturn, 1) := by decide +kernel
theorem dX2_finishDeal_0 : decode cX2_finishDeal 0 = .ok (.iconst 0, 1) := by decide +kernel
theorem dX2_finishDeal_1 : decode cX2_finishDeal 1 = .ok (.istore_n 1, 1) := by decide +kernel
theorem dX2_finishDeal_2 : decode cX2_finishDeal 2 = .ok (.iload_n 1, 1) := by decide +kernel
theorem dX2_finishDeal_3 : decode cX2_finishDeal 3 = .ok (.iconst 4, 1) := by decide +kernel
theorem dX2_finishDeal_4 : decode cX2_finishDeal 4 = .ok (.if_icmp .ge 25, 3) := by decide +kernel
theorem dX2_finishDeal_7 : decode cX2_finishDeal 7 = .ok (.aload_n 0, 1) := by decide +kernel
theorem dX2_finishDeal_8 : decode cX2_finishDeal 8 = .ok (.getfield 12, 3) := by decide +kernel
theorem dX2_finishDeal_11 : decode cX2_finishDeal 11 = .ok (.iload_n 1, 1) := by decide +kernel
theorem dX2_finishDeal_12 : decode cX2_finishDeal 12 = .ok (.invokevirtual 302, 3) := by decide +kernel
theorem dX2_finishDeal_15 : decode cX2_finishDeal 15 = .ok (.ifCond .eq 8, 3) := by decide +kernel
theorem dX2_finishDeal_18 : decode cX2_finishDeal 18 = .ok (.aload_n 0, 1) := by decide +kernel
theorem dX2_finishDeal_19 : decode cX2_finishDeal 19 = .ok (.iload_n 1, 1) := by decide +kernel
theorem dX2_finishDeal_20 : decode cX2_finishDeal 20 = .ok (.invokevirtual 305, 3) := by decide +kernel
theorem dX2_finishDeal_23 : decode cX2_finishDeal 23 = .ok (.iinc 1 1, 3) := by decide +kernel
theorem dX2_finishDeal_26 : decode cX2_finishDeal 26 = .ok (.goto (-24), 3) := by decide +kernel
theorem dX2_finishDeal_29 : decode cX2_finishDeal 29 = .ok (.aload_n 0, 1) := by decide +kernel
theorem dX2_finishDeal_30 : decode cX2_finishDeal 30 = .ok (.getfield 22, 3) := by decide +kernel
theorem dX2_finishDeal_33 : decode cX2_finishDeal 33 = .ok (.invokevirtual 132, 3) := by decide +kernel
theorem dX2_finishDeal_36 : decode cX2_finishDeal 36 = .ok (.invokestatic 172, 3) := by decide +kernel
theorem dX2_finishDeal_39 : decode cX2_finishDeal 39 = .ok (.istore_n 1, 1) := by decide +kernel
theorem dX2_finishDeal_40 : decode cX2_finishDeal 40 = .ok (.aload_n 0, 1) := by decide +kernel
theorem dX2_finishDeal_41 : decode cX2_finishDeal 41 = .ok (.getfield 22, 3) := by decide +kernel
theorem dX2_finishDeal_44 : decode cX2_finishDeal 44 = .ok (.aload_n 0, 1) := by decide +kernel
theorem dX2_finishDeal_45 : decode cX2_finishDeal 45 = .ok (.getfield 26, 3) := by decide +kernel
theorem dX2_finishDeal_48 : decode cX2_finishDeal 48 = .ok (.iload_n 1, 1) := by decide +kernel
theorem dX2_finishDeal_49 : decode cX2_finishDeal 49 = .ok (.iaload, 1) := by decide +kernel
theorem dX2_finishDeal_50 : decode cX2_finishDeal 50 = .ok (.invokevirtual 243, 3) := by decide +kernel
theorem dX2_finishDeal_53 : decode cX2_finishDeal 53 = .ok (.istore_n 2, 1) := by decide +kernel
theorem dX2_finishDeal_54 : decode cX2_finishDeal 54 = .ok (.iload_n 2, 1) := by decide +kernel
theorem dX2_finishDeal_55 : decode cX2_finishDeal 55 = .ok (.ifCond .lt 16, 3) := by decide +kernel
theorem dX2_finishDeal_58 : decode cX2_finishDeal 58 = .ok (.aload_n 0, 1) := by decide +kernel
theorem dX2_finishDeal_59 : decode cX2_finishDeal 59 = .ok (.getfield 30, 3) := by decide +kernel
theorem dX2_finishDeal_62 : decode cX2_finishDeal 62 = .ok (.iload_n 1, 1) := by decide +kernel
theorem dX2_finishDeal_63 : decode cX2_finishDeal 63 = .ok (.dup2, 1) := by decide +kernel
theorem dX2_finishDeal_64 : decode cX2_finishDeal 64 = .ok (.iaload, 1) := by decide +kernel
theorem dX2_finishDeal_65 : decode cX2_finishDeal 65 = .ok (.iload_n 2, 1) := by decide +kernel
theorem dX2_finishDeal_66 : decode cX2_finishDeal 66 = .ok (.iadd, 1) := by decide +kernel
theorem dX2_finishDeal_67 : decode cX2_finishDeal 67 = .ok (.iastore, 1) := by decide +kernel
theorem dX2_finishDeal_68 : decode cX2_finishDeal 68 = .ok (.goto 15, 3) := by decide +kernel
theorem dX2_finishDeal_71 : decode cX2_finishDeal 71 = .ok (.aload_n 0, 1) := by decide +kernel
theorem dX2_finishDeal_72 : decode cX2_finishDeal 72 = .ok (.getfield 30, 3) := by decide +kernel
theorem dX2_finishDeal_75 : decode cX2_finishDeal 75 = .ok (.iconst 1, 1) := by decide +kernel
theorem dX2_finishDeal_76 : decode cX2_finishDeal 76 = .ok (.iload_n 1, 1) := by decide +kernel
theorem dX2_finishDeal_77 : decode cX2_finishDeal 77 = .ok (.isub, 1) := by decide +kernel
theorem dX2_finishDeal_78 : decode cX2_finishDeal 78 = .ok (.dup2, 1) := by decide +kernel
theorem dX2_finishDeal_79 : decode cX2_finishDeal 79 = .ok (.iaload, 1) := by decide +kernel
theorem dX2_finishDeal_80 : decode cX2_finishDeal 80 = .ok (.iload_n 2, 1) := by decide +kernel
theorem dX2_finishDeal_81 : decode cX2_finishDeal 81 = .ok (.isub, 1) := by decide +kernel
theorem dX2_finishDeal_82 : decode cX2_finishDeal 82 = .ok (.iastore, 1) := by decide +kernel
theorem dX2_finishDeal_83 : decode cX2_finishDeal 83 = .ok (.aload_n 0, 1) := by decide +kernel
theorem dX2_finishDeal_84 : decode cX2_finishDeal 84 = .ok (.dup, 1) := by decide +kernel
theorem dX2_finishDeal_85 : decode cX2_finishDeal 85 = .ok (.getfield 37, 3) := by decide +kernel
theorem dX2_finishDeal_88 : decode cX2_finishDeal 88 = .ok (.iconst 1, 1) := by decide +kernel
theorem dX2_finishDeal_89 : decode cX2_finishDeal 89 = .ok (.iadd, 1) := by decide +kernel
theorem dX2_finishDeal_90 : decode cX2_finishDeal 90 = .ok (.putfield 37, 3) := by decide +kernel
theorem dX2_finishDeal_93 : decode cX2_finishDeal 93 = .ok (.aload_n 0, 1) := by decide +kernel
theorem dX2_finishDeal_94 : decode cX2_finishDeal 94 = .ok (.iconst 3, 1) := by decide +kernel
theorem dX2_finishDeal_95 : decode cX2_finishDeal 95 = .ok (.putfield 33, 3) := by decide +kernel
theorem dX2_finishDeal_98 : decode cX2_finishDeal 98 = .ok (.return_, 1) := by decide +kernel
theorem dX2_payForRevoke_0 : decode cX2_payForRevoke 0 = .ok (.iload_n 1, 1) := by decide +kernel
theorem dX2_payForRevoke_1 : decode cX2_payForRevoke 1 = .ok (.invokestatic 172, 3) := by decide +kernel
theorem dX2_payForRevoke_4 : decode cX2_payForRevoke 4 = .ok (.istore_n 2, 1) := by decide +kernel
theorem dX2_payForRevoke_5 : decode cX2_payForRevoke 5 = .ok (.aload_n 0, 1) := by decide +kernel
theorem dX2_payForRevoke_6 : decode cX2_payForRevoke 6 = .ok (.getfield 26, 3) := by decide +kernel
theorem dX2_payForRevoke_9 : decode cX2_payForRevoke 9 = .ok (.iload_n 2, 1) := by decide +kernel
theorem dX2_payForRevoke_10 : decode cX2_payForRevoke 10 = .ok (.iaload, 1) := by decide +kernel
theorem dX2_payForRevoke_11 : decode cX2_payForRevoke 11 = .ok (.ifCond .le 25, 3) := by decide +kernel
theorem dX2_payForRevoke_14 : decode cX2_payForRevoke 14 = .ok (.aload_n 0, 1) := by decide +kernel
theorem dX2_payForRevoke_15 : decode cX2_payForRevoke 15 = .ok (.getfield 26, 3) := by decide +kernel
theorem dX2_payForRevoke_18 : decode cX2_payForRevoke 18 = .ok (.iload_n 2, 1) := by decide +kernel
theorem dX2_payForRevoke_19 : decode cX2_payForRevoke 19 = .ok (.dup2, 1) := by decide +kernel
theorem dX2_payForRevoke_20 : decode cX2_payForRevoke 20 = .ok (.iaload, 1) := by decide +kernel
theorem dX2_payForRevoke_21 : decode cX2_payForRevoke 21 = .ok (.iconst 1, 1) := by decide +kernel
theorem dX2_payForRevoke_22 : decode cX2_payForRevoke 22 = .ok (.isub, 1) := by decide +kernel
theorem dX2_payForRevoke_23 : decode cX2_payForRevoke 23 = .ok (.iastore, 1) := by decide +kernel
theorem dX2_payForRevoke_24 : decode cX2_payForRevoke 24 = .ok (.aload_n 0, 1) := by decide +kernel
theorem dX2_payForRevoke_25 : decode cX2_payForRevoke 25 = .ok (.getfield 26, 3) := by decide +kernel
theorem dX2_payForRevoke_28 : decode cX2_payForRevoke 28 = .ok (.iconst 1, 1) := by decide +kernel
theorem dX2_payForRevoke_29 : decode cX2_payForRevoke 29 = .ok (.iload_n 2, 1) := by decide +kernel
theorem dX2_payForRevoke_30 : decode cX2_payForRevoke 30 = .ok (.isub, 1) := by decide +kernel
theorem dX2_payForRevoke_31 : decode cX2_payForRevoke 31 = .ok (.dup2, 1) := by decide +kernel
theorem dX2_payForRevoke_32 : decode cX2_payForRevoke 32 = .ok (.iaload, 1) := by decide +kernel
theorem dX2_payForRevoke_33 : decode cX2_payForRevoke 33 = .ok (.iconst 1, 1) := by decide +kernel
theorem dX2_payForRevoke_34 : decode cX2_payForRevoke 34 = .ok (.iadd, 1) := by decide +kernel
theorem dX2_payForRevoke_35 : decode cX2_payForRevoke 35 = .ok (.iastore, 1) := by decide +kernel
theorem dX2_payForRevoke_36 : decode cX2_payForRevoke 36 = .ok (.return_, 1) := by decide +kernel
theorem dX2_hasBestPlay_0 : decode cX2_hasBestPlay 0 = .ok (.aload_n 0, 1) := by decide +kernel
theorem dX2_hasBestPlay_1 : decode cX2_hasBestPlay 1 = .ok (.getfield 33, 3) := by decide +kernel
theorem dX2_hasBestPlay_4 : decode cX2_hasBestPlay 4 = .ok (.iconst 2, 1) := by decide +kernel
theorem dX2_hasBestPlay_5 : decode cX2_hasBestPlay 5 = .ok (.if_icmp .ne 18, 3) := by decide +kernel
theorem dX2_hasBestPlay_8 : decode cX2_hasBestPlay 8 = .ok (.aload_n 0, 1) := by decide +kernel
theorem dX2_hasBestPlay_9 : decode cX2_hasBestPlay 9 = .ok (.getfield 12, 3) := by decide +kernel
theorem dX2_hasBestPlay_12 : decode cX2_hasBestPlay 12 = .ok (.iconst 3, 1) := by decide +kernel
theorem dX2_hasBestPlay_13 : decode cX2_hasBestPlay 13 = .ok (.invokevirtual 308, 3) := by decide +kernel
theorem dX2_hasBestPlay_16 : decode cX2_hasBestPlay 16 = .ok (.ifCond .eq 7, 3) := by decide +kernel
theorem dX2_hasBestPlay_19 : decode cX2_hasBestPlay 19 = .ok (.iconst 1, 1) := by decide +kernel
theorem dX2_hasBestPlay_20 : decode cX2_hasBestPlay 20 = .ok (.goto 4, 3) := by decide +kernel
theorem dX2_hasBestPlay_23 : decode cX2_hasBestPlay 23 = .ok (.iconst 0, 1) := by decide +kernel
theorem dX2_hasBestPlay_24 : decode cX2_hasBestPlay 24 = .ok (.ireturn, 1) := by decide +kernel
theorem dX2_bestBehind_0 : decode cX2_bestBehind 0 = .ok (.aload_n 0, 1) := by decide +kernel
theorem dX2_bestBehind_1 : decode cX2_bestBehind 1 = .ok (.getfield 16, 3) := by decide +kernel
theorem dX2_bestBehind_4 : decode cX2_bestBehind 4 = .ok (.aload_n 0, 1) := by decide +kernel
theorem dX2_bestBehind_5 : decode cX2_bestBehind 5 = .ok (.getfield 12, 3) := by decide +kernel
theorem dX2_bestBehind_8 : decode cX2_bestBehind 8 = .ok (.invokevirtual 215, 3) := by decide +kernel
theorem dX2_bestBehind_11 : decode cX2_bestBehind 11 = .ok (.aload_n 0, 1) := by decide +kernel
theorem dX2_bestBehind_12 : decode cX2_bestBehind 12 = .ok (.getfield 16, 3) := by decide +kernel
theorem dX2_bestBehind_15 : decode cX2_bestBehind 15 = .ok (.iload_n 1, 1) := by decide +kernel
theorem dX2_bestBehind_16 : decode cX2_bestBehind 16 = .ok (.invokevirtual 169, 3) := by decide +kernel
theorem dX2_bestBehind_19 : decode cX2_bestBehind 19 = .ok (.invokestatic 311, 3) := by decide +kernel
theorem dX2_bestBehind_22 : decode cX2_bestBehind 22 = .ok (.istore_n 2, 1) := by decide +kernel
theorem dX2_bestBehind_23 : decode cX2_bestBehind 23 = .ok (.iload_n 2, 1) := by decide +kernel
theorem dX2_bestBehind_24 : decode cX2_bestBehind 24 = .ok (.aload_n 0, 1) := by decide +kernel
theorem dX2_bestBehind_25 : decode cX2_bestBehind 25 = .ok (.getfield 16, 3) := by decide +kernel
theorem dX2_bestBehind_28 : decode cX2_bestBehind 28 = .ok (.invokestatic 235, 3) := by decide +kernel
theorem dX2_bestBehind_31 : decode cX2_bestBehind 31 = .ok (.iadd, 1) := by decide +kernel
theorem dX2_bestBehind_32 : decode cX2_bestBehind 32 = .ok (.ireturn, 1) := by decide +kernel
theorem dX2_mostOfSide0_0 : decode cX2_mostOfSide0 0 = .ok (.iconst 0, 1) := by decide +kernel
theorem dX2_mostOfSide0_1 : decode cX2_mostOfSide0 1 = .ok (.istore_n 1, 1) := by decide +kernel
theorem dX2_mostOfSide0_2 : decode cX2_mostOfSide0 2 = .ok (.iconst 1, 1) := by decide +kernel
theorem dX2_mostOfSide0_3 : decode cX2_mostOfSide0 3 = .ok (.istore_n 2, 1) := by decide +kernel
theorem dX2_mostOfSide0_4 : decode cX2_mostOfSide0 4 = .ok (.iload_n 2, 1) := by decide +kernel
theorem dX2_mostOfSide0_5 : decode cX2_mostOfSide0 5 = .ok (.iconst 3, 1) := by decide +kernel
theorem dX2_mostOfSide0_6 : decode cX2_mostOfSide0 6 = .ok (.if_icmp .gt 23, 3) := by decide +kernel
theorem dX2_mostOfSide0_9 : decode cX2_mostOfSide0 9 = .ok (.aload_n 0, 1) := by decide +kernel
theorem dX2_mostOfSide0_10 : decode cX2_mostOfSide0 10 = .ok (.iload_n 2, 1) := by decide +kernel
theorem dX2_mostOfSide0_11 : decode cX2_mostOfSide0 11 = .ok (.bipush 12, 2) := by decide +kernel
theorem dX2_mostOfSide0_13 : decode cX2_mostOfSide0 13 = .ok (.invokestatic 314, 3) := by decide +kernel
theorem dX2_mostOfSide0_16 : decode cX2_mostOfSide0 16 = .ok (.ifCond .ne 5, 3) := by decide +kernel
theorem dX2_mostOfSide0_19 : decode cX2_mostOfSide0 19 = .ok (.iload_n 1, 1) := by decide +kernel
theorem dX2_mostOfSide0_20 : decode cX2_mostOfSide0 20 = .ok (.ireturn, 1) := by decide +kernel
theorem dX2_mostOfSide0_21 : decode cX2_mostOfSide0 21 = .ok (.iload_n 2, 1) := by decide +kernel
theorem dX2_mostOfSide0_22 : decode cX2_mostOfSide0 22 = .ok (.istore_n 1, 1) := by decide +kernel
theorem dX2_mostOfSide0_23 : decode cX2_mostOfSide0 23 = .ok (.iinc 2 1, 3) := by decide +kernel
theorem dX2_mostOfSide0_26 : decode cX2_mostOfSide0 26 = .ok (.goto (-22), 3) := by decide +kernel
theorem dX2_mostOfSide0_29 : decode cX2_mostOfSide0 29 = .ok (.iload_n 1, 1) := by decide +kernel
theorem dX2_mostOfSide0_30 : decode cX2_mostOfSide0 30 = .ok (.ireturn, 1) := by decide +kernel
theorem dX2_doesSide0Get_0 : decode cX2_doesSide0Get 0 = .ok (.iload_n 1, 1) := by decide +kernel
theorem dX2_doesSide0Get_1 : decode cX2_doesSide0Get 1 = .ok (.ifCond .gt 5, 3) := by decide +kernel
theorem dX2_doesSide0Get_4 : decode cX2_doesSide0Get 4 = .ok (.iconst 1, 1) := by decide +kernel
theorem dX2_doesSide0Get_5 : decode cX2_doesSide0Get 5 = .ok (.ireturn, 1) := by decide +kernel
theorem dX2_doesSide0Get_6 : decode cX2_doesSide0Get 6 = .ok (.iload_n 1, 1) := by decide +kernel
theorem dX2_doesSide0Get_7 : decode cX2_doesSide0Get 7 = .ok (.aload_n 0, 1) := by decide +kernel
theorem dX2_doesSide0Get_8 : decode cX2_doesSide0Get 8 = .ok (.invokevirtual 175, 3) := by decide +kernel
theorem dX2_doesSide0Get_11 : decode cX2_doesSide0Get 11 = .ok (.if_icmp .gt 7, 3) := by decide +kernel
theorem dX2_doesSide0Get_14 : decode cX2_doesSide0Get 14 = .ok (.iload_n 2, 1) := by decide +kernel
theorem dX2_doesSide0Get_15 : decode cX2_doesSide0Get 15 = .ok (.ifCond .gt 5, 3) := by decide +kernel
theorem dX2_doesSide0Get_18 : decode cX2_doesSide0Get 18 = .ok (.iconst 0, 1) := by decide +kernel
theorem dX2_doesSide0Get_19 : decode cX2_doesSide0Get 19 = .ok (.ireturn, 1) := by decide +kernel
theorem dX2_doesSide0Get_20 : decode cX2_doesSide0Get 20 = .ok (.aload_n 0, 1) := by decide +kernel
theorem dX2_doesSide0Get_21 : decode cX2_doesSide0Get 21 = .ok (.getfield 292, 3) := by decide +kernel
theorem dX2_doesSide0Get_24 : decode cX2_doesSide0Get 24 = .ok (.invokestatic 172, 3) := by decide +kernel
theorem dX2_doesSide0Get_27 : decode cX2_doesSide0Get 27 = .ok (.ifCond .ne 7, 3) := by decide +kernel
theorem dX2_doesSide0Get_30 : decode cX2_doesSide0Get 30 = .ok (.iconst 1, 1) := by decide +kernel
theorem dX2_doesSide0Get_31 : decode cX2_doesSide0Get 31 = .ok (.goto 4, 3) := by decide +kernel
theorem dX2_doesSide0Get_34 : decode cX2_doesSide0Get 34 = .ok (.iconst 0, 1) := by decide +kernel
theorem dX2_doesSide0Get_35 : decode cX2_doesSide0Get 35 = .ok (.istore_n 3, 1) := by decide +kernel
theorem dX2_doesSide0Get_36 : decode cX2_doesSide0Get 36 = .ok (.aload_n 0, 1) := by decide +kernel
theorem dX2_doesSide0Get_37 : decode cX2_doesSide0Get 37 = .ok (.invokevirtual 189, 3) := by decide +kernel
theorem dX2_doesSide0Get_40 : decode cX2_doesSide0Get 40 = .ok (.istore 4, 2) := by decide +kernel
theorem dX2_doesSide0Get_42 : decode cX2_doesSide0Get 42 = .ok (.iconst 0, 1) := by decide +kernel
theorem dX2_doesSide0Get_43 : decode cX2_doesSide0Get 43 = .ok (.istore 5, 2) := by decide +kernel
theorem dX2_doesSide0Get_45 : decode cX2_doesSide0Get 45 = .ok (.iload 5, 2) := by decide +kernel
theorem dX2_doesSide0Get_47 : decode cX2_doesSide0Get 47 = .ok (.iconst 3, 1) := by decide +kernel
theorem dX2_doesSide0Get_48 : decode cX2_doesSide0Get 48 = .ok (.if_icmp .ge 67, 3) := by decide +kernel
theorem dX2_doesSide0Get_51 : decode cX2_doesSide0Get 51 = .ok (.iload 4, 2) := by decide +kernel
theorem dX2_doesSide0Get_53 : decode cX2_doesSide0Get 53 = .ok (.ifCond .eq 62, 3) := by decide +kernel
theorem dX2_doesSide0Get_56 : decode cX2_doesSide0Get 56 = .ok (.iload 4, 2) := by decide +kernel
theorem dX2_doesSide0Get_58 : decode cX2_doesSide0Get 58 = .ok (.invokestatic 77, 3) := by decide +kernel
theorem dX2_doesSide0Get_61 : decode cX2_doesSide0Get 61 = .ok (.istore 6, 2) := by decide +kernel
theorem dX2_doesSide0Get_63 : decode cX2_doesSide0Get 63 = .ok (.iload 4, 2) := by decide +kernel
theorem dX2_doesSide0Get_65 : decode cX2_doesSide0Get 65 = .ok (.iload 6, 2) := by decide +kernel
theorem dX2_doesSide0Get_67 : decode cX2_doesSide0Get 67 = .ok (.invokestatic 230, 3) := by decide +kernel
theorem dX2_doesSide0Get_70 : decode cX2_doesSide0Get 70 = .ok (.istore 4, 2) := by decide +kernel
theorem dX2_doesSide0Get_72 : decode cX2_doesSide0Get 72 = .ok (.aload_n 0, 1) := by decide +kernel
theorem dX2_doesSide0Get_73 : decode cX2_doesSide0Get 73 = .ok (.iload 6, 2) := by decide +kernel
theorem dX2_doesSide0Get_75 : decode cX2_doesSide0Get 75 = .ok (.invokevirtual 169, 3) := by decide +kernel
theorem dX2_doesSide0Get_78 : decode cX2_doesSide0Get 78 = .ok (.invokestatic 311, 3) := by decide +kernel
theorem dX2_doesSide0Get_81 : decode cX2_doesSide0Get 81 = .ok (.istore 7, 2) := by decide +kernel
theorem dX2_doesSide0Get_83 : decode cX2_doesSide0Get 83 = .ok (.aload_n 0, 1) := by decide +kernel
theorem dX2_doesSide0Get_84 : decode cX2_doesSide0Get 84 = .ok (.iload_n 1, 1) := by decide +kernel
theorem dX2_doesSide0Get_85 : decode cX2_doesSide0Get 85 = .ok (.iload 7, 2) := by decide +kernel
theorem dX2_doesSide0Get_87 : decode cX2_doesSide0Get 87 = .ok (.isub, 1) := by decide +kernel
theorem dX2_doesSide0Get_88 : decode cX2_doesSide0Get 88 = .ok (.iload_n 2, 1) := by decide +kernel
theorem dX2_doesSide0Get_89 : decode cX2_doesSide0Get 89 = .ok (.iconst 1, 1) := by decide +kernel
theorem dX2_doesSide0Get_90 : decode cX2_doesSide0Get 90 = .ok (.isub, 1) := by decide +kernel
theorem dX2_doesSide0Get_91 : decode cX2_doesSide0Get 91 = .ok (.invokestatic 314, 3) := by decide +kernel
theorem dX2_doesSide0Get_94 : decode cX2_doesSide0Get 94 = .ok (.istore 8, 2) := by decide +kernel
theorem dX2_doesSide0Get_96 : decode cX2_doesSide0Get 96 = .ok (.aload_n 0, 1) := by decide +kernel
theorem dX2_doesSide0Get_97 : decode cX2_doesSide0Get 97 = .ok (.invokevirtual 186, 3) := by decide +kernel
theorem dX2_doesSide0Get_100 : decode cX2_doesSide0Get 100 = .ok (.pop, 1) := by decide +kernel
theorem dX2_doesSide0Get_101 : decode cX2_doesSide0Get 101 = .ok (.iload 8, 2) := by decide +kernel
theorem dX2_doesSide0Get_103 : decode cX2_doesSide0Get 103 = .ok (.iload_n 3, 1) := by decide +kernel
theorem dX2_doesSide0Get_104 : decode cX2_doesSide0Get 104 = .ok (.if_icmp .ne 5, 3) := by decide +kernel
theorem dX2_doesSide0Get_107 : decode cX2_doesSide0Get 107 = .ok (.iload_n 3, 1) := by decide +kernel
theorem dX2_doesSide0Get_108 : decode cX2_doesSide0Get 108 = .ok (.ireturn, 1) := by decide +kernel
theorem dX2_doesSide0Get_109 : decode cX2_doesSide0Get 109 = .ok (.iinc 5 1, 3) := by decide +kernel
theorem dX2_doesSide0Get_112 : decode cX2_doesSide0Get 112 = .ok (.goto (-67), 3) := by decide +kernel
theorem dX2_doesSide0Get_115 : decode cX2_doesSide0Get 115 = .ok (.iload_n 3, 1) := by decide +kernel
theorem dX2_doesSide0Get_116 : decode cX2_doesSide0Get 116 = .ok (.ifCond .ne 7, 3) := by decide +kernel
theorem dX2_doesSide0Get_119 : decode cX2_doesSide0Get 119 = .ok (.iconst 1, 1) := by decide +kernel
theorem dX2_doesSide0Get_120 : decode cX2_doesSide0Get 120 = .ok (.goto 4, 3) := by decide +kernel
theorem dX2_doesSide0Get_123 : decode cX2_doesSide0Get 123 = .ok (.iconst 0, 1) := by decide +kernel
theorem dX2_doesSide0Get_124 : decode cX2_doesSide0Get 124 = .ok (.ireturn, 1) := by decide +kernel
theorem dX2_countForSide0_0 : decode cX2_countForSide0 0 = .ok (.iload_n 0, 1) := by decide +kernel
theorem dX2_countForSide0_1 : decode cX2_countForSide0 1 = .ok (.iconst (-1), 1) := by decide +kernel
theorem dX2_countForSide0_2 : decode cX2_countForSide0 2 = .ok (.if_icmp .eq 14, 3) := by decide +kernel
theorem dX2_countForSide0_5 : decode cX2_countForSide0 5 = .ok (.iload_n 0, 1) := by decide +kernel
theorem dX2_countForSide0_6 : decode cX2_countForSide0 6 = .ok (.invokestatic 172, 3) := by decide +kernel
theorem dX2_countForSide0_9 : decode cX2_countForSide0 9 = .ok (.ifCond .ne 7, 3) := by decide +kernel
theorem dX2_countForSide0_12 : decode cX2_countForSide0 12 = .ok (.iconst 1, 1) := by decide +kernel
theorem dX2_countForSide0_13 : decode cX2_countForSide0 13 = .ok (.goto 4, 3) := by decide +kernel
theorem dX2_countForSide0_16 : decode cX2_countForSide0 16 = .ok (.iconst 0, 1) := by decide +kernel
theorem dX2_countForSide0_17 : decode cX2_countForSide0 17 = .ok (.ireturn, 1) := by decide +kernel
theorem dX2_sideOf_0 : decode cX2_sideOf 0 = .ok (.iload_n 0, 1) := by decide +kernel
theorem dX2_sideOf_1 : decode cX2_sideOf 1 = .ok (.iconst 1, 1) := by decide +kernel
theorem dX2_sideOf_2 : decode cX2_sideOf 2 = .ok (.iand, 1) := by decide +kernel
theorem dX2_sideOf_3 : decode cX2_sideOf 3 = .ok (.ireturn, 1) := by decide +kernel
theorem dX2_nextOf_0 : decode cX2_nextOf 0 = .ok (.iload_n 0, 1) := by decide +kernel
theorem dX2_nextOf_1 : decode cX2_nextOf 1 = .ok (.iconst 1, 1) := by decide +kernel
theorem dX2_nextOf_2 : decode cX2_nextOf 2 = .ok (.iadd, 1) := by decide +kernel
theorem dX2_nextOf_3 : decode cX2_nextOf 3 = .ok (.iconst 3, 1) := by decide +kernel
theorem dX2_nextOf_4 : decode cX2_nextOf 4 = .ok (.iand, 1) := by decide +kernel
theorem dX2_nextOf_5 : decode cX2_nextOf 5 = .ok (.ireturn, 1) := by decide +kernel
theorem dX2_contains_0 : decode cX2_contains 0 = .ok (.iload_n 0, 1) := by decide +kernel
theorem dX2_contains_1 : decode cX2_contains 1 = .ok (.iload_n 1, 1) := by decide +kernel
theorem dX2_contains_2 : decode cX2_contains 2 = .ok (.iushr, 1) := by decide +kernel
theorem dX2_contains_3 : decode cX2_contains 3 = .ok (.iconst 1, 1) := by decide +kernel
theorem dX2_contains_4 : decode cX2_contains 4 = .ok (.iand, 1) := by decide +kernel
theorem dX2_contains_5 : decode cX2_contains 5 = .ok (.iconst 1, 1) := by decide +kernel
theorem dX2_contains_6 : decode cX2_contains 6 = .ok (.if_icmp .ne 7, 3) := by decide +kernel
theorem dX2_contains_9 : decode cX2_contains 9 = .ok (.iconst 1, 1) := by decide +kernel
theorem dX2_contains_10 : decode cX2_contains 10 = .ok (.goto 4, 3) := by decide +kernel
theorem dX2_contains_13 : decode cX2_contains 13 = .ok (.iconst 0, 1) := by decide +kernel
theorem dX2_contains_14 : decode cX2_contains 14 = .ok (.ireturn, 1) := by decide +kernel
theorem dX2_with_0 : decode cX2_with 0 = .ok (.iload_n 0, 1) := by decide +kernel
theorem dX2_with_1 : decode cX2_with 1 = .ok (.iconst 1, 1) := by decide +kernel
theorem dX2_with_2 : decode cX2_with 2 = .ok (.iload_n 1, 1) := by decide +kernel
theorem dX2_with_3 : decode cX2_with 3 = .ok (.ishl, 1) := by decide +kernel
theorem dX2_with_4 : decode cX2_with 4 = .ok (.ior, 1) := by decide +kernel
theorem dX2_with_5 : decode cX2_with 5 = .ok (.ireturn, 1) := by decide +kernel
theorem dX2_without_0 : decode cX2_without 0 = .ok (.iload_n 0, 1) := by decide +kernel
theorem dX2_without_1 : decode cX2_without 1 = .ok (.iconst 1, 1) := by decide +kernel
theorem dX2_without_2 : decode cX2_without 2 = .ok (.iload_n 1, 1) := by decide +kernel
theorem dX2_without_3 : decode cX2_without 3 = .ok (.ishl, 1) := by decide +kernel
theorem dX2_without_4 : decode cX2_without 4 = .ok (.iconst (-1), 1) := by decide +kernel
theorem dX2_without_5 : decode cX2_without 5 = .ok (.ixor, 1) := by decide +kernel
theorem dX2_without_6 : decode cX2_without 6 = .ok (.iand, 1) := by decide +kernel
theorem dX2_without_7 : decode cX2_without 7 = .ok (.ireturn, 1) := by decide +kernel
theorem dX2_wholeSuit_0 : decode cX2_wholeSuit 0 = .ok (.sipush 255, 3) := by decide +kernel
theorem dX2_wholeSuit_3 : decode cX2_wholeSuit 3 = .ok (.bipush 8, 2) := by decide +kernel
theorem dX2_wholeSuit_5 : decode cX2_wholeSuit 5 = .ok (.iload_n 0, 1) := by decide +kernel
theorem dX2_wholeSuit_6 : decode cX2_wholeSuit 6 = .ok (.imul, 1) := by decide +kernel
theorem dX2_wholeSuit_7 : decode cX2_wholeSuit 7 = .ok (.ishl, 1) := by decide +kernel
theorem dX2_wholeSuit_8 : decode cX2_wholeSuit 8 = .ok (.ireturn, 1) := by decide +kernel
theorem dX2_smallest_0 : decode cX2_smallest 0 = .ok (.iload_n 0, 1) := by decide +kernel
theorem dX2_smallest_1 : decode cX2_smallest 1 = .ok (.ifCond .ne 7, 3) := by decide +kernel
theorem dX2_smallest_4 : decode cX2_smallest 4 = .ok (.iconst (-1), 1) := by decide +kernel
theorem dX2_smallest_5 : decode cX2_smallest 5 = .ok (.goto 7, 3) := by decide +kernel
theorem dX2_smallest_8 : decode cX2_smallest 8 = .ok (.iload_n 0, 1) := by decide +kernel
theorem dX2_smallest_9 : decode cX2_smallest 9 = .ok (.invokestatic 318, 3) := by decide +kernel
theorem dX2_smallest_12 : decode cX2_smallest 12 = .ok (.ireturn, 1) := by decide +kernel
theorem dX2_greatest_0 : decode cX2_greatest 0 = .ok (.iload_n 0, 1) := by decide +kernel
theorem dX2_greatest_1 : decode cX2_greatest 1 = .ok (.ifCond .ne 7, 3) := by decide +kernel
theorem dX2_greatest_4 : decode cX2_greatest 4 = .ok (.iconst (-1), 1) := by decide +kernel
theorem dX2_greatest_5 : decode cX2_greatest 5 = .ok (.goto 10, 3) := by decide +kernel
theorem dX2_greatest_8 : decode cX2_greatest 8 = .ok (.bipush 31, 2) := by decide +kernel
theorem dX2_greatest_10 : decode cX2_greatest 10 = .ok (.iload_n 0, 1) := by decide +kernel
theorem dX2_greatest_11 : decode cX2_greatest 11 = .ok (.invokestatic 321, 3) := by decide +kernel
theorem dX2_greatest_14 : decode cX2_greatest 14 = .ok (.isub, 1) := by decide +kernel
theorem dX2_greatest_15 : decode cX2_greatest 15 = .ok (.ireturn, 1) := by decide +kernel
theorem dX3_init_0 : decode cX3_init 0 = .ok (.aload_n 0, 1) := by decide +kernel
theorem dX3_init_1 : decode cX3_init 1 = .ok (.invokespecial 1, 3) := by decide +kernel
theorem dX3_init_4 : decode cX3_init 4 = .ok (.aload_n 0, 1) := by decide +kernel
theorem dX3_init_5 : decode cX3_init 5 = .ok (.new 7, 3) := by decide +kernel
theorem dX3_init_8 : decode cX3_init 8 = .ok (.dup, 1) := by decide +kernel
theorem dX3_init_9 : decode cX3_init 9 = .ok (.invokespecial 9, 3) := by decide +kernel
theorem dX3_init_12 : decode cX3_init 12 = .ok (.putfield 10, 3) := by decide +kernel
theorem dX3_init_15 : decode cX3_init 15 = .ok (.aload_n 0, 1) := by decide +kernel
theorem dX3_init_16 : decode cX3_init 16 = .ok (.iconst 4, 1) := by decide +kernel
theorem dX3_init_17 : decode cX3_init 17 = .ok (.bipush 32, 2) := by decide +kernel
theorem dX3_init_19 : decode cX3_init 19 = .ok (.multianewarray 16 2, 4) := by decide +kernel
theorem dX3_init_23 : decode cX3_init 23 = .ok (.putfield 18, 3) := by decide +kernel
theorem dX3_init_26 : decode cX3_init 26 = .ok (.aload_n 0, 1) := by decide +kernel
theorem dX3_init_27 : decode cX3_init 27 = .ok (.iconst 0, 1) := by decide +kernel
theorem dX3_init_28 : decode cX3_init 28 = .ok (.newarray .int, 2) := by decide +kernel
theorem dX3_init_30 : decode cX3_init 30 = .ok (.putfield 21, 3) := by decide +kernel
theorem dX3_init_33 : decode cX3_init 33 = .ok (.aload_n 0, 1) := by decide +kernel
theorem dX3_init_34 : decode cX3_init 34 = .ok (.iconst 0, 1) := by decide +kernel
theorem dX3_init_35 : decode cX3_init 35 = .ok (.newarray .int, 2) := by decide +kernel
theorem dX3_init_37 : decode cX3_init 37 = .ok (.putfield 25, 3) := by decide +kernel
theorem dX3_init_40 : decode cX3_init 40 = .ok (.aload_n 0, 1) := by decide +kernel
theorem dX3_init_41 : decode cX3_init 41 = .ok (.iconst 0, 1) := by decide +kernel
theorem dX3_init_42 : decode cX3_init 42 = .ok (.anewarray 28, 3) := by decide +kernel
theorem dX3_init_45 : decode cX3_init 45 = .ok (.putfield 29, 3) := by decide +kernel
theorem dX3_init_48 : decode cX3_init 48 = .ok (.aload_n 0, 1) := by decide +kernel
theorem dX3_init_49 : decode cX3_init 49 = .ok (.iconst 0, 1) := by decide +kernel
theorem dX3_init_50 : decode cX3_init 50 = .ok (.newarray .int, 2) := by decide +kernel
theorem dX3_init_52 : decode cX3_init 52 = .ok (.putfield 33, 3) := by decide +kernel
theorem dX3_init_55 : decode cX3_init 55 = .ok (.aload_n 0, 1) := by decide +kernel
theorem dX3_init_56 : decode cX3_init 56 = .ok (.iconst 4, 1) := by decide +kernel
theorem dX3_init_57 : decode cX3_init 57 = .ok (.newarray .boolean, 2) := by decide +kernel
theorem dX3_init_59 : decode cX3_init 59 = .ok (.putfield 36, 3) := by decide +kernel
theorem dX3_init_62 : decode cX3_init 62 = .ok (.aload_n 0, 1) := by decide +kernel
theorem dX3_init_63 : decode cX3_init 63 = .ok (.iconst 4, 1) := by decide +kernel
theorem dX3_init_64 : decode cX3_init 64 = .ok (.newarray .boolean, 2) := by decide +kernel
theorem dX3_init_66 : decode cX3_init 66 = .ok (.putfield 40, 3) := by decide +kernel
theorem dX3_init_69 : decode cX3_init 69 = .ok (.aload_n 0, 1) := by decide +kernel
theorem dX3_init_70 : decode cX3_init 70 = .ok (.iconst 4, 1) := by decide +kernel
theorem dX3_init_71 : decode cX3_init 71 = .ok (.newarray .boolean, 2) := by decide +kernel
theorem dX3_init_73 : decode cX3_init 73 = .ok (.putfield 43, 3) := by decide +kernel
theorem dX3_init_76 : decode cX3_init 76 = .ok (.aload_n 0, 1) := by decide +kernel
theorem dX3_init_77 : decode cX3_init 77 = .ok (.iconst 2, 1) := by decide +kernel
theorem dX3_init_78 : decode cX3_init 78 = .ok (.newarray .int, 2) := by decide +kernel
theorem dX3_init_80 : decode cX3_init 80 = .ok (.putfield 46, 3) := by decide +kernel
theorem dX3_init_83 : decode cX3_init 83 = .ok (.aload_n 0, 1) := by decide +kernel
theorem dX3_init_84 : decode cX3_init 84 = .ok (.iconst 2, 1) := by decide +kernel
theorem dX3_init_85 : decode cX3_init 85 = .ok (.newarray .int, 2) := by decide +kernel
theorem dX3_init_87 : decode cX3_init 87 = .ok (.putfield 49, 3) := by decide +kernel
theorem dX3_init_90 : decode cX3_init 90 = .ok (.aload_n 0, 1) := by decide +kernel
theorem dX3_init_91 : decode cX3_init 91 = .ok (.aload_n 1, 1) := by decide +kernel
theorem dX3_init_92 : decode cX3_init 92 = .ok (.putfield 52, 3) := by decide +kernel
theorem dX3_init_95 : decode cX3_init 95 = .ok (.aload_n 0, 1) := by decide +kernel
theorem dX3_init_96 : decode cX3_init 96 = .ok (.iload_n 2, 1) := by decide +kernel
theorem dX3_init_97 : decode cX3_init 97 = .ok (.putfield 55, 3) := by decide +kernel
theorem dX3_init_100 : decode cX3_init 100 = .ok (.return_, 1) := by decide +kernel
theorem dX3_draw_0 : decode cX3_draw 0 = .ok (.aload_n 0, 1) := by decide +kernel
theorem dX3_draw_1 : decode cX3_draw 1 = .ok (.getfield 52, 3) := by decide +kernel
theorem dX3_draw_4 : decode cX3_draw 4 = .ok (.aload_n 0, 1) := by decide +kernel
theorem dX3_draw_5 : decode cX3_draw 5 = .ok (.getfield 55, 3) := by decide +kernel
theorem dX3_draw_8 : decode cX3_draw 8 = .ok (.bipush 24, 2) := by decide +kernel
theorem dX3_draw_10 : decode cX3_draw 10 = .ok (.irem, 1) := by decide +kernel
theorem dX3_draw_11 : decode cX3_draw 11 = .ok (.invokestatic 59, 3) := by decide +kernel
theorem dX3_draw_14 : decode cX3_draw 14 = .ok (.aload_n 0, 1) := by decide +kernel
theorem dX3_draw_15 : decode cX3_draw 15 = .ok (.getfield 55, 3) := by decide +kernel
theorem dX3_draw_18 : decode cX3_draw 18 = .ok (.bipush 24, 2) := by decide +kernel
theorem dX3_draw_20 : decode cX3_draw 20 = .ok (.idiv, 1) := by decide +kernel
theorem dX3_draw_21 : decode cX3_draw 21 = .ok (.bipush 8, 2) := by decide +kernel
theorem dX3_draw_23 : decode cX3_draw 23 = .ok (.irem, 1) := by decide +kernel
theorem dX3_draw_24 : decode cX3_draw 24 = .ok (.ishr, 1) := by decide +kernel
theorem dX3_draw_25 : decode cX3_draw 25 = .ok (.sipush 167, 3) := by decide +kernel
theorem dX3_draw_28 : decode cX3_draw 28 = .ok (.aload_n 0, 1) := by decide +kernel
theorem dX3_draw_29 : decode cX3_draw 29 = .ok (.getfield 55, 3) := by decide +kernel
theorem dX3_draw_32 : decode cX3_draw 32 = .ok (.imul, 1) := by decide +kernel
theorem dX3_draw_33 : decode cX3_draw 33 = .ok (.iadd, 1) := by decide +kernel
theorem dX3_draw_34 : decode cX3_draw 34 = .ok (.iload_n 1, 1) := by decide +kernel
theorem dX3_draw_35 : decode cX3_draw 35 = .ok (.invokestatic 65, 3) := by decide +kernel
theorem dX3_draw_38 : decode cX3_draw 38 = .ok (.istore_n 2, 1) := by decide +kernel
theorem dX3_draw_39 : decode cX3_draw 39 = .ok (.aload_n 0, 1) := by decide +kernel
theorem dX3_draw_40 : decode cX3_draw 40 = .ok (.dup, 1) := by decide +kernel
theorem dX3_draw_41 : decode cX3_draw 41 = .ok (.getfield 55, 3) := by decide +kernel
theorem dX3_draw_44 : decode cX3_draw 44 = .ok (.iconst 1, 1) := by decide +kernel
theorem dX3_draw_45 : decode cX3_draw 45 = .ok (.iadd, 1) := by decide +kernel
theorem dX3_draw_46 : decode cX3_draw 46 = .ok (.putfield 55, 3) := by decide +kernel
theorem dX3_draw_49 : decode cX3_draw 49 = .ok (.iload_n 2, 1) := by decide +kernel
theorem dX3_draw_50 : decode cX3_draw 50 = .ok (.ireturn, 1) := by decide +kernel
theorem dX3_plus_0 : decode cX3_plus 0 = .ok (.aload_n 0, 1) := by decide +kernel
theorem dX3_plus_1 : decode cX3_plus 1 = .ok (.arraylength, 1) := by decide +kernel
theorem dX3_plus_2 : decode cX3_plus 2 = .ok (.iconst 1, 1) := by decide +kernel
theorem dX3_plus_3 : decode cX3_plus 3 = .ok (.iadd, 1) := by decide +kernel
theorem dX3_plus_4 : decode cX3_plus 4 = .ok (.newarray .int, 2) := by decide +kernel
theorem dX3_plus_6 : decode cX3_plus 6 = .ok (.astore_n 2, 1) := by decide +kernel
theorem dX3_plus_7 : decode cX3_plus 7 = .ok (.aload_n 0, 1) := by decide +kernel
theorem dX3_plus_8 : decode cX3_plus 8 = .ok (.iconst 0, 1) := by decide +kernel
theorem dX3_plus_9 : decode cX3_plus 9 = .ok (.aload_n 2, 1) := by decide +kernel
theorem dX3_plus_10 : decode cX3_plus 10 = .ok (.iconst 0, 1) := by decide +kernel
theorem dX3_plus_11 : decode cX3_plus 11 = .ok (.aload_n 0, 1) := by decide +kernel
theorem dX3_plus_12 : decode cX3_plus 12 = .ok (.arraylength, 1) := by decide +kernel
theorem dX3_plus_13 : decode cX3_plus 13 = .ok (.invokestatic 69, 3) := by decide +kernel
theorem dX3_plus_16 : decode cX3_plus 16 = .ok (.aload_n 2, 1) := by decide +kernel
theorem dX3_plus_17 : decode cX3_plus 17 = .ok (.aload_n 0, 1) := by decide +kernel
theorem dX3_plus_18 : decode cX3_plus 18 = .ok (.arraylength, 1) := by decide +kernel
theorem dX3_plus_19 : decode cX3_plus 19 = .ok (.iload_n 1, 1) := by decide +kernel
theorem dX3_plus_20 : decode cX3_plus 20 = .ok (.iastore, 1) := by decide +kernel
theorem dX3_plus_21 : decode cX3_plus 21 = .ok (.aload_n 2, 1) := by decide +kernel
theorem dX3_plus_22 : decode cX3_plus 22 = .ok (.areturn, 1) := by decide +kernel
theorem dX3_count_0 : decode cX3_count 0 = .ok (.iconst 0, 1) := by decide +kernel
theorem dX3_count_1 : decode cX3_count 1 = .ok (.istore_n 2, 1) := by decide +kernel
theorem dX3_count_2 : decode cX3_count 2 = .ok (.aload_n 0, 1) := by decide +kernel
theorem dX3_count_3 : decode cX3_count 3 = .ok (.getfield 18, 3) := by decide +kernel
theorem dX3_count_6 : decode cX3_count 6 = .ok (.iload_n 1, 1) := by decide +kernel
theorem dX3_count_7 : decode cX3_count 7 = .ok (.aaload, 1) := by decide +kernel
theorem dX3_count_8 : decode cX3_count 8 = .ok (.astore_n 3, 1) := by decide +kernel
theorem dX3_count_9 : decode cX3_count 9 = .ok (.aload_n 3, 1) := by decide +kernel
theorem dX3_count_10 : decode cX3_count 10 = .ok (.arraylength, 1) := by decide +kernel
theorem dX3_count_11 : decode cX3_count 11 = .ok (.istore 4, 2) := by decide +kernel
theorem dX3_count_13 : decode cX3_count 13 = .ok (.iconst 0, 1) := by decide +kernel
theorem dX3_count_14 : decode cX3_count 14 = .ok (.istore 5, 2) := by decide +kernel
theorem dX3_count_16 : decode cX3_count 16 = .ok (.iload 5, 2) := by decide +kernel
theorem dX3_count_18 : decode cX3_count 18 = .ok (.iload 4, 2) := by decide +kernel
theorem dX3_count_20 : decode cX3_count 20 = .ok (.if_icmp .ge 28, 3) := by decide +kernel
theorem dX3_count_23 : decode cX3_count 23 = .ok (.aload_n 3, 1) := by decide +kernel
theorem dX3_count_24 : decode cX3_count 24 = .ok (.iload 5, 2) := by decide +kernel
theorem dX3_count_26 : decode cX3_count 26 = .ok (.baload, 1) := by decide +kernel
theorem dX3_count_27 : decode cX3_count 27 = .ok (.istore 6, 2) := by decide +kernel
theorem dX3_count_29 : decode cX3_count 29 = .ok (.iload_n 2, 1) := by decide +kernel
theorem dX3_count_30 : decode cX3_count 30 = .ok (.iload 6, 2) := by decide +kernel
theorem dX3_count_32 : decode cX3_count 32 = .ok (.ifCond .eq 7, 3) := by decide +kernel
theorem dX3_count_35 : decode cX3_count 35 = .ok (.iconst 1, 1) := by decide +kernel
theorem dX3_count_36 : decode cX3_count 36 = .ok (.goto 4, 3) := by decide +kernel
theorem dX3_count_39 : decode cX3_count 39 = .ok (.iconst 0, 1) := by decide +kernel
theorem dX3_count_40 : decode cX3_count 40 = .ok (.iadd, 1) := by decide +kernel
theorem dX3_count_41 : decode cX3_count 41 = .ok (.istore_n 2, 1) := by decide +kernel
theorem dX3_count_42 : decode cX3_count 42 = .ok (.iinc 5 1, 3) := by decide +kernel
theorem dX3_count_45 : decode cX3_count 45 = .ok (.goto (-29), 3) := by decide +kernel
theorem dX3_count_48 : decode cX3_count 48 = .ok (.iload_n 2, 1) := by decide +kernel
theorem dX3_count_49 : decode cX3_count 49 = .ok (.ireturn, 1) := by decide +kernel
theorem dX3_begin_0 : decode cX3_begin 0 = .ok (.aload_n 0, 1) := by decide +kernel
theorem dX3_begin_1 : decode cX3_begin 1 = .ok (.getfield 75, 3) := by decide +kernel
theorem dX3_begin_4 : decode cX3_begin 4 = .ok (.istore_n 1, 1) := by decide +kernel
theorem dX3_begin_5 : decode cX3_begin 5 = .ok (.aload_n 0, 1) := by decide +kernel
theorem dX3_begin_6 : decode cX3_begin 6 = .ok (.aload_n 0, 1) := by decide +kernel
theorem dX3_begin_7 : decode cX3_begin 7 = .ok (.iconst 4, 1) := by decide +kernel
theorem dX3_begin_8 : decode cX3_begin 8 = .ok (.invokevirtual 78, 3) := by decide +kernel
theorem dX3_begin_11 : decode cX3_begin 11 = .ok (.putfield 82, 3) := by decide +kernel
theorem dX3_begin_14 : decode cX3_begin 14 = .ok (.aload_n 0, 1) := by decide +kernel
theorem dX3_begin_15 : decode cX3_begin 15 = .ok (.iconst 0, 1) := by decide +kernel
theorem dX3_begin_16 : decode cX3_begin 16 = .ok (.putfield 75, 3) := by decide +kernel
theorem dX3_begin_19 : decode cX3_begin 19 = .ok (.iconst 0, 1) := by decide +kernel
theorem dX3_begin_20 : decode cX3_begin 20 = .ok (.istore_n 2, 1) := by decide +kernel
theorem dX3_begin_21 : decode cX3_begin 21 = .ok (.iload_n 2, 1) := by decide +kernel
theorem dX3_begin_22 : decode cX3_begin 22 = .ok (.iconst 4, 1) := by decide +kernel
theorem dX3_begin_23 : decode cX3_begin 23 = .ok (.if_icmp .ge 48, 3) := by decide +kernel
theorem dX3_begin_26 : decode cX3_begin 26 = .ok (.iconst 0, 1) := by decide +kernel
theorem dX3_begin_27 : decode cX3_begin 27 = .ok (.istore_n 3, 1) := by decide +kernel
theorem dX3_begin_28 : decode cX3_begin 28 = .ok (.iload_n 3, 1) := by decide +kernel
theorem dX3_begin_29 : decode cX3_begin 29 = .ok (.bipush 32, 2) := by decide +kernel
theorem dX3_begin_31 : decode cX3_begin 31 = .ok (.if_icmp .ge 18, 3) := by decide +kernel
theorem dX3_begin_34 : decode cX3_begin 34 = .ok (.aload_n 0, 1) := by decide +kernel
theorem dX3_begin_35 : decode cX3_begin 35 = .ok (.getfield 18, 3) := by decide +kernel
theorem dX3_begin_38 : decode cX3_begin 38 = .ok (.iload_n 2, 1) := by decide +kernel
theorem dX3_begin_39 : decode cX3_begin 39 = .ok (.aaload, 1) := by decide +kernel
theorem dX3_begin_40 : decode cX3_begin 40 = .ok (.iload_n 3, 1) := by decide +kernel
theorem dX3_begin_41 : decode cX3_begin 41 = .ok (.iconst 0, 1) := by decide +kernel
theorem dX3_begin_42 : decode cX3_begin 42 = .ok (.bastore, 1) := by decide +kernel
theorem dX3_begin_43 : decode cX3_begin 43 = .ok (.iinc 3 1, 3) := by decide +kernel
theorem dX3_begin_46 : decode cX3_begin 46 = .ok (.goto (-18), 3) := by decide +kernel
theorem dX3_begin_49 : decode cX3_begin 49 = .ok (.aload_n 0, 1) := by decide +kernel
theorem dX3_begin_50 : decode cX3_begin 50 = .ok (.getfield 36, 3) := by decide +kernel
theorem dX3_begin_53 : decode cX3_begin 53 = .ok (.iload_n 2, 1) := by decide +kernel
theorem dX3_begin_54 : decode cX3_begin 54 = .ok (.iconst 0, 1) := by decide +kernel
theorem dX3_begin_55 : decode cX3_begin 55 = .ok (.bastore, 1) := by decide +kernel
theorem dX3_begin_56 : decode cX3_begin 56 = .ok (.aload_n 0, 1) := by decide +kernel
theorem dX3_begin_57 : decode cX3_begin 57 = .ok (.getfield 46, 3) := by decide +kernel
theorem dX3_begin_60 : decode cX3_begin 60 = .ok (.iload_n 2, 1) := by decide +kernel
theorem dX3_begin_61 : decode cX3_begin 61 = .ok (.iconst 2, 1) := by decide +kernel
theorem dX3_begin_62 : decode cX3_begin 62 = .ok (.idiv, 1) := by decide +kernel
theorem dX3_begin_63 : decode cX3_begin 63 = .ok (.iconst 0, 1) := by decide +kernel
theorem dX3_begin_64 : decode cX3_begin 64 = .ok (.iastore, 1) := by decide +kernel
theorem dX3_begin_65 : decode cX3_begin 65 = .ok (.iinc 2 1, 3) := by decide +kernel
theorem dX3_begin_68 : decode cX3_begin 68 = .ok (.goto (-47), 3) := by decide +kernel
theorem dX3_begin_71 : decode cX3_begin 71 = .ok (.aload_n 0, 1) := by decide +kernel
theorem dX3_begin_72 : decode cX3_begin 72 = .ok (.iconst 0, 1) := by decide +kernel
theorem dX3_begin_73 : decode cX3_begin 73 = .ok (.newarray .int, 2) := by decide +kernel
theorem dX3_begin_75 : decode cX3_begin 75 = .ok (.putfield 21, 3) := by decide +kernel
theorem dX3_begin_78 : decode cX3_begin 78 = .ok (.aload_n 0, 1) := by decide +kernel
theorem dX3_begin_79 : decode cX3_begin 79 = .ok (.iconst 0, 1) := by decide +kernel
theorem dX3_begin_80 : decode cX3_begin 80 = .ok (.newarray .int, 2) := by decide +kernel
theorem dX3_begin_82 : decode cX3_begin 82 = .ok (.putfield 25, 3) := by decide +kernel
theorem dX3_begin_85 : decode cX3_begin 85 = .ok (.aload_n 0, 1) := by decide +kernel
theorem dX3_begin_86 : decode cX3_begin 86 = .ok (.iconst 0, 1) := by decide +kernel
theorem dX3_begin_87 : decode cX3_begin 87 = .ok (.anewarray 28, 3) := by decide +kernel
theorem dX3_begin_90 : decode cX3_begin 90 = .ok (.putfield 29, 3) := by decide +kernel
theorem dX3_begin_93 : decode cX3_begin 93 = .ok (.aload_n 0, 1) := by decide +kernel
theorem dX3_begin_94 : decode cX3_begin 94 = .ok (.iconst 0, 1) := by decide +kernel
theorem dX3_begin_95 : decode cX3_begin 95 = .ok (.newarray .int, 2) := by decide +kernel
theorem dX3_begin_97 : decode cX3_begin 97 = .ok (.putfield 33, 3) := by decide +kernel
theorem dX3_begin_100 : decode cX3_begin 100 = .ok (.aload_n 0, 1) := by decide +kernel
theorem dX3_begin_101 : decode cX3_begin 101 = .ok (.getfield 10, 3) := by decide +kernel
theorem dX3_begin_104 : decode cX3_begin 104 = .ok (.aload_n 0, 1) := by decide +kernel
theorem dX3_begin_105 : decode cX3_begin 105 = .ok (.getfield 82, 3) := by decide +kernel
theorem dX3_begin_108 : decode cX3_begin 108 = .ok (.invokevirtual 85, 3) := by decide +kernel
theorem dX3_begin_111 : decode cX3_begin 111 = .ok (.iload_n 1, 1) := by decide +kernel
theorem dX3_begin_112 : decode cX3_begin 112 = .ok (.if_icmp .ne 7, 3) := by decide +kernel
theorem dX3_begin_115 : decode cX3_begin 115 = .ok (.iconst 1, 1) := by decide +kernel
theorem dX3_begin_116 : decode cX3_begin 116 = .ok (.goto 4, 3) := by decide +kernel
theorem dX3_begin_119 : decode cX3_begin 119 = .ok (.iconst 0, 1) := by decide +kernel
theorem dX3_begin_120 : decode cX3_begin 120 = .ok (.ireturn, 1) := by decide +kernel
theorem dX3_deal_0 : decode cX3_deal 0 = .ok (.aload_n 0, 1) := by decide +kernel
theorem dX3_deal_1 : decode cX3_deal 1 = .ok (.bipush 32, 2) := by decide +kernel
theorem dX3_deal_3 : decode cX3_deal 3 = .ok (.invokevirtual 78, 3) := by decide +kernel
theorem dX3_deal_6 : decode cX3_deal 6 = .ok (.istore_n 2, 1) := by decide +kernel
theorem dX3_deal_7 : decode cX3_deal 7 = .ok (.iconst 1, 1) := by decide +kernel
theorem dX3_deal_8 : decode cX3_deal 8 = .ok (.iconst 2, 1) := by decide +kernel
theorem dX3_deal_9 : decode cX3_deal 9 = .ok (.aload_n 0, 1) := by decide +kernel
theorem dX3_deal_10 : decode cX3_deal 10 = .ok (.bipush 16, 2) := by decide +kernel
theorem dX3_deal_12 : decode cX3_deal 12 = .ok (.invokevirtual 78, 3) := by decide +kernel
theorem dX3_deal_15 : decode cX3_deal 15 = .ok (.imul, 1) := by decide +kernel
theorem dX3_deal_16 : decode cX3_deal 16 = .ok (.iadd, 1) := by decide +kernel
theorem dX3_deal_17 : decode cX3_deal 17 = .ok (.istore_n 3, 1) := by decide +kernel
theorem dX3_deal_18 : decode cX3_deal 18 = .ok (.iconst (-1), 1) := by decide +kernel
theorem dX3_deal_19 : decode cX3_deal 19 = .ok (.istore 4, 2) := by decide +kernel
theorem dX3_deal_21 : decode cX3_deal 21 = .ok (.iconst 0, 1) := by decide +kernel
theorem dX3_deal_22 : decode cX3_deal 22 = .ok (.istore 5, 2) := by decide +kernel
theorem dX3_deal_24 : decode cX3_deal 24 = .ok (.iload 5, 2) := by decide +kernel
theorem dX3_deal_26 : decode cX3_deal 26 = .ok (.iconst 4, 1) := by decide +kernel
theorem dX3_deal_27 : decode cX3_deal 27 = .ok (.iload_n 1, 1) := by decide +kernel
theorem dX3_deal_28 : decode cX3_deal 28 = .ok (.imul, 1) := by decide +kernel
theorem dX3_deal_29 : decode cX3_deal 29 = .ok (.if_icmp .ge 56, 3) := by decide +kernel
theorem dX3_deal_32 : decode cX3_deal 32 = .ok (.iload_n 2, 1) := by decide +kernel
theorem dX3_deal_33 : decode cX3_deal 33 = .ok (.iload 5, 2) := by decide +kernel
theorem dX3_deal_35 : decode cX3_deal 35 = .ok (.iload_n 3, 1) := by decide +kernel
theorem dX3_deal_36 : decode cX3_deal 36 = .ok (.imul, 1) := by decide +kernel
theorem dX3_deal_37 : decode cX3_deal 37 = .ok (.iadd, 1) := by decide +kernel
theorem dX3_deal_38 : decode cX3_deal 38 = .ok (.bipush 32, 2) := by decide +kernel
theorem dX3_deal_40 : decode cX3_deal 40 = .ok (.irem, 1) := by decide +kernel
theorem dX3_deal_41 : decode cX3_deal 41 = .ok (.istore 6, 2) := by decide +kernel
theorem dX3_deal_43 : decode cX3_deal 43 = .ok (.aload_n 0, 1) := by decide +kernel
theorem dX3_deal_44 : decode cX3_deal 44 = .ok (.getfield 18, 3) := by decide +kernel
theorem dX3_deal_47 : decode cX3_deal 47 = .ok (.iload 5, 2) := by decide +kernel
theorem dX3_deal_49 : decode cX3_deal 49 = .ok (.iconst 4, 1) := by decide +kernel
theorem dX3_deal_50 : decode cX3_deal 50 = .ok (.irem, 1) := by decide +kernel
theorem dX3_deal_51 : decode cX3_deal 51 = .ok (.aaload, 1) := by decide +kernel
theorem dX3_deal_52 : decode cX3_deal 52 = .ok (.iload 6, 2) := by decide +kernel
theorem dX3_deal_54 : decode cX3_deal 54 = .ok (.iconst 1, 1) := by decide +kernel
theorem dX3_deal_55 : decode cX3_deal 55 = .ok (.bastore, 1) := by decide +kernel
theorem dX3_deal_56 : decode cX3_deal 56 = .ok (.iload 5, 2) := by decide +kernel
theorem dX3_deal_58 : decode cX3_deal 58 = .ok (.iconst 4, 1) := by decide +kernel
theorem dX3_deal_59 : decode cX3_deal 59 = .ok (.irem, 1) := by decide +kernel
theorem dX3_deal_60 : decode cX3_deal 60 = .ok (.ifCond .ne 19, 3) := by decide +kernel
theorem dX3_deal_63 : decode cX3_deal 63 = .ok (.iload 4, 2) := by decide +kernel
theorem dX3_deal_65 : decode cX3_deal 65 = .ok (.ifCond .lt 10, 3) := by decide +kernel
theorem dX3_deal_68 : decode cX3_deal 68 = .ok (.iload 6, 2) := by decide +kernel
theorem dX3_deal_70 : decode cX3_deal 70 = .ok (.iload 4, 2) := by decide +kernel
theorem dX3_deal_72 : decode cX3_deal 72 = .ok (.if_icmp .ge 7, 3) := by decide +kernel
theorem dX3_deal_75 : decode cX3_deal 75 = .ok (.iload 6, 2) := by decide +kernel
theorem dX3_deal_77 : decode cX3_deal 77 = .ok (.istore 4, 2) := by decide +kernel
theorem dX3_deal_79 : decode cX3_deal 79 = .ok (.iinc 5 1, 3) := by decide +kernel
theorem dX3_deal_82 : decode cX3_deal 82 = .ok (.goto (-58), 3) := by decide +kernel
theorem dX3_deal_85 : decode cX3_deal 85 = .ok (.aload_n 0, 1) := by decide +kernel
theorem dX3_deal_86 : decode cX3_deal 86 = .ok (.getfield 10, 3) := by decide +kernel
theorem dX3_deal_89 : decode cX3_deal 89 = .ok (.iload_n 2, 1) := by decide +kernel
theorem dX3_deal_90 : decode cX3_deal 90 = .ok (.iload_n 3, 1) := by decide +kernel
theorem dX3_deal_91 : decode cX3_deal 91 = .ok (.iload_n 1, 1) := by decide +kernel
theorem dX3_deal_92 : decode cX3_deal 92 = .ok (.invokevirtual 88, 3) := by decide +kernel
theorem dX3_deal_95 : decode cX3_deal 95 = .ok (.iload 4, 2) := by decide +kernel
theorem dX3_deal_97 : decode cX3_deal 97 = .ok (.if_icmp .ne 7, 3) := by decide +kernel
theorem dX3_deal_100 : decode cX3_deal 100 = .ok (.iconst 1, 1) := by decide +kernel
theorem dX3_deal_101 : decode cX3_deal 101 = .ok (.goto 4, 3) := by decide +kernel
theorem dX3_deal_104 : decode cX3_deal 104 = .ok (.iconst 0, 1) := by decide +kernel
theorem dX3_deal_105 : decode cX3_deal 105 = .ok (.ireturn, 1) := by decide +kernel
theorem dX3_open_0 : decode cX3_open 0 = .ok (.aload_n 0, 1) := by decide +kernel
theorem dX3_open_1 : decode cX3_open 1 = .ok (.aload_n 0, 1) := by decide +kernel
theorem dX3_open_2 : decode cX3_open 2 = .ok (.iconst 0, 1) := by decide +kernel
theorem dX3_open_3 : decode cX3_open 3 = .ok (.invokevirtual 92, 3) := by decide +kernel
theorem dX3_open_6 : decode cX3_open 6 = .ok (.putfield 95, 3) := by decide +kernel
theorem dX3_open_9 : decode cX3_open 9 = .ok (.aload_n 0, 1) := by decide +kernel
theorem dX3_open_10 : decode cX3_open 10 = .ok (.iconst 1, 1) := by decide +kernel
theorem dX3_open_11 : decode cX3_open 11 = .ok (.putfield 75, 3) := by decide +kernel
theorem dX3_open_14 : decode cX3_open 14 = .ok (.aload_n 0, 1) := by decide +kernel
theorem dX3_open_15 : decode cX3_open 15 = .ok (.getfield 10, 3) := by decide +kernel
theorem dX3_open_18 : decode cX3_open 18 = .ok (.invokevirtual 98, 3) := by decide +kernel
theorem dX3_open_21 : decode cX3_open 21 = .ok (.iconst 4, 1) := by decide +kernel
theorem dX3_open_22 : decode cX3_open 22 = .ok (.aload_n 0, 1) := by decide +kernel
theorem dX3_open_23 : decode cX3_open 23 = .ok (.getfield 95, 3) := by decide +kernel
theorem dX3_open_26 : decode cX3_open 26 = .ok (.imul, 1) := by decide +kernel
theorem dX3_open_27 : decode cX3_open 27 = .ok (.if_icmp .ne 7, 3) := by decide +kernel
theorem dX3_open_30 : decode cX3_open 30 = .ok (.iconst 1, 1) := by decide +kernel
theorem dX3_open_31 : decode cX3_open 31 = .ok (.goto 4, 3) := by decide +kernel
theorem dX3_open_34 : decode cX3_open 34 = .ok (.iconst 0, 1) := by decide +kernel
theorem dX3_open_35 : decode cX3_open 35 = .ok (.ireturn, 1) := by decide +kernel
theorem dX3_canBid_0 : decode cX3_canBid 0 = .ok (.aload_n 0, 1) := by decide +kernel
theorem dX3_canBid_1 : decode cX3_canBid 1 = .ok (.getfield 75, 3) := by decide +kernel
theorem dX3_canBid_4 : decode cX3_canBid 4 = .ok (.iconst 1, 1) := by decide +kernel
theorem dX3_canBid_5 : decode cX3_canBid 5 = .ok (.if_icmp .eq 5, 3) := by decide +kernel
theorem dX3_canBid_8 : decode cX3_canBid 8 = .ok (.iconst 0, 1) := by decide +kernel
theorem dX3_canBid_9 : decode cX3_canBid 9 = .ok (.ireturn, 1) := by decide +kernel
theorem dX3_canBid_10 : decode cX3_canBid 10 = .ok (.aload_n 0, 1) := by decide +kernel
theorem dX3_canBid_11 : decode cX3_canBid 11 = .ok (.getfield 21, 3) := by decide +kernel
theorem dX3_canBid_14 : decode cX3_canBid 14 = .ok (.arraylength, 1) := by decide +kernel
theorem dX3_canBid_15 : decode cX3_canBid 15 = .ok (.iconst 2, 1) := by decide +kernel
theorem dX3_canBid_16 : decode cX3_canBid 16 = .ok (.irem, 1) := by decide +kernel
theorem dX3_canBid_17 : decode cX3_canBid 17 = .ok (.istore_n 2, 1) := by decide +kernel
theorem dX3_canBid_18 : decode cX3_canBid 18 = .ok (.iconst 0, 1) := by decide +kernel
theorem dX3_canBid_19 : decode cX3_canBid 19 = .ok (.istore_n 3, 1) := by decide +kernel
theorem dX3_canBid_20 : decode cX3_canBid 20 = .ok (.iconst (-1), 1) := by decide +kernel
theorem dX3_canBid_21 : decode cX3_canBid 21 = .ok (.istore 4, 2) := by decide +kernel
theorem dX3_canBid_23 : decode cX3_canBid 23 = .ok (.iconst 1, 1) := by decide +kernel
theorem dX3_canBid_24 : decode cX3_canBid 24 = .ok (.istore 5, 2) := by decide +kernel
theorem dX3_canBid_26 : decode cX3_canBid 26 = .ok (.iconst 0, 1) := by decide +kernel
theorem dX3_canBid_27 : decode cX3_canBid 27 = .ok (.istore 6, 2) := by decide +kernel
theorem dX3_canBid_29 : decode cX3_canBid 29 = .ok (.iload 6, 2) := by decide +kernel
theorem dX3_canBid_31 : decode cX3_canBid 31 = .ok (.aload_n 0, 1) := by decide +kernel
theorem dX3_canBid_32 : decode cX3_canBid 32 = .ok (.getfield 21, 3) := by decide +kernel
theorem dX3_canBid_35 : decode cX3_canBid 35 = .ok (.arraylength, 1) := by decide +kernel
theorem dX3_canBid_36 : decode cX3_canBid 36 = .ok (.if_icmp .ge 66, 3) := by decide +kernel
theorem dX3_canBid_39 : decode cX3_canBid 39 = .ok (.aload_n 0, 1) := by decide +kernel
theorem dX3_canBid_40 : decode cX3_canBid 40 = .ok (.getfield 21, 3) := by decide +kernel
theorem dX3_canBid_43 : decode cX3_canBid 43 = .ok (.iload 6, 2) := by decide +kernel
theorem dX3_canBid_45 : decode cX3_canBid 45 = .ok (.iaload, 1) := by decide +kernel
theorem dX3_canBid_46 : decode cX3_canBid 46 = .ok (.ifCond .ne 6, 3) := by decide +kernel
theorem dX3_canBid_49 : decode cX3_canBid 49 = .ok (.goto 47, 3) := by decide +kernel
theorem dX3_canBid_52 : decode cX3_canBid 52 = .ok (.aload_n 0, 1) := by decide +kernel
theorem dX3_canBid_53 : decode cX3_canBid 53 = .ok (.getfield 21, 3) := by decide +kernel
theorem dX3_canBid_56 : decode cX3_canBid 56 = .ok (.iload 6, 2) := by decide +kernel
theorem dX3_canBid_58 : decode cX3_canBid 58 = .ok (.iaload, 1) := by decide +kernel
theorem dX3_canBid_59 : decode cX3_canBid 59 = .ok (.bipush 40, 2) := by decide +kernel
theorem dX3_canBid_61 : decode cX3_canBid 61 = .ok (.if_icmp .le 18, 3) := by decide +kernel
theorem dX3_canBid_64 : decode cX3_canBid 64 = .ok (.aload_n 0, 1) := by decide +kernel
theorem dX3_canBid_65 : decode cX3_canBid 65 = .ok (.getfield 21, 3) := by decide +kernel
theorem dX3_canBid_68 : decode cX3_canBid 68 = .ok (.iload 6, 2) := by decide +kernel
theorem dX3_canBid_70 : decode cX3_canBid 70 = .ok (.iaload, 1) := by decide +kernel
theorem dX3_canBid_71 : decode cX3_canBid 71 = .ok (.bipush 39, 2) := by decide +kernel
theorem dX3_canBid_73 : decode cX3_canBid 73 = .ok (.isub, 1) := by decide +kernel
theorem dX3_canBid_74 : decode cX3_canBid 74 = .ok (.istore 5, 2) := by decide +kernel
theorem dX3_canBid_76 : decode cX3_canBid 76 = .ok (.goto 20, 3) := by decide +kernel
theorem dX3_canBid_79 : decode cX3_canBid 79 = .ok (.aload_n 0, 1) := by decide +kernel
theorem dX3_canBid_80 : decode cX3_canBid 80 = .ok (.getfield 21, 3) := by decide +kernel
theorem dX3_canBid_83 : decode cX3_canBid 83 = .ok (.iload 6, 2) := by decide +kernel
theorem dX3_canBid_85 : decode cX3_canBid 85 = .ok (.iaload, 1) := by decide +kernel
theorem dX3_canBid_86 : decode cX3_canBid 86 = .ok (.istore_n 3, 1) := by decide +kernel
theorem dX3_canBid_87 : decode cX3_canBid 87 = .ok (.iload 6, 2) := by decide +kernel
theorem dX3_canBid_89 : decode cX3_canBid 89 = .ok (.iconst 2, 1) := by decide +kernel
theorem dX3_canBid_90 : decode cX3_canBid 90 = .ok (.irem, 1) := by decide +kernel
theorem dX3_canBid_91 : decode cX3_canBid 91 = .ok (.istore 4, 2) := by decide +kernel
theorem dX3_canBid_93 : decode cX3_canBid 93 = .ok (.iconst 1, 1) := by decide +kernel
theorem dX3_canBid_94 : decode cX3_canBid 94 = .ok (.istore 5, 2) := by decide +kernel
theorem dX3_canBid_96 : decode cX3_canBid 96 = .ok (.iinc 6 1, 3) := by decide +kernel
theorem dX3_canBid_99 : decode cX3_canBid 99 = .ok (.goto (-70), 3) := by decide +kernel
theorem dX3_canBid_102 : decode cX3_canBid 102 = .ok (.iload_n 1, 1) := by decide +kernel
theorem dX3_canBid_103 : decode cX3_canBid 103 = .ok (.bipush 41, 2) := by decide +kernel
theorem dX3_canBid_105 : decode cX3_canBid 105 = .ok (.if_icmp .ne 25, 3) := by decide +kernel
theorem dX3_canBid_108 : decode cX3_canBid 108 = .ok (.iload_n 3, 1) := by decide +kernel
theorem dX3_canBid_109 : decode cX3_canBid 109 = .ok (.ifCond .le 19, 3) := by decide +kernel
theorem dX3_canBid_112 : decode cX3_canBid 112 = .ok (.iload 4, 2) := by decide +kernel
theorem dX3_canBid_114 : decode cX3_canBid 114 = .ok (.iload_n 2, 1) := by decide +kernel
theorem dX3_canBid_115 : decode cX3_canBid 115 = .ok (.if_icmp .eq 13, 3) := by decide +kernel
theorem dX3_canBid_118 : decode cX3_canBid 118 = .ok (.iload 5, 2) := by decide +kernel
theorem dX3_canBid_120 : decode cX3_canBid 120 = .ok (.iconst 1, 1) := by decide +kernel
theorem dX3_canBid_121 : decode cX3_canBid 121 = .ok (.if_icmp .ne 7, 3) := by decide +kernel
theorem dX3_canBid_124 : decode cX3_canBid 124 = .ok (.iconst 1, 1) := by decide +kernel
theorem dX3_canBid_125 : decode cX3_canBid 125 = .ok (.goto 4, 3) := by decide +kernel
theorem dX3_canBid_128 : decode cX3_canBid 128 = .ok (.iconst 0, 1) := by decide +kernel
theorem dX3_canBid_129 : decode cX3_canBid 129 = .ok (.ireturn, 1) := by decide +kernel
theorem dX3_canBid_130 : decode cX3_canBid 130 = .ok (.iload_n 1, 1) := by decide +kernel
theorem dX3_canBid_131 : decode cX3_canBid 131 = .ok (.bipush 42, 2) := by decide +kernel
theorem dX3_canBid_133 : decode cX3_canBid 133 = .ok (.if_icmp .ne 25, 3) := by decide +kernel
theorem dX3_canBid_136 : decode cX3_canBid 136 = .ok (.iload_n 3, 1) := by decide +kernel
theorem dX3_canBid_137 : decode cX3_canBid 137 = .ok (.ifCond .le 19, 3) := by decide +kernel
theorem dX3_canBid_140 : decode cX3_canBid 140 = .ok (.iload 4, 2) := by decide +kernel
theorem dX3_canBid_142 : decode cX3_canBid 142 = .ok (.iload_n 2, 1) := by decide +kernel
theorem dX3_canBid_143 : decode cX3_canBid 143 = .ok (.if_icmp .ne 13, 3) := by decide +kernel
theorem dX3_canBid_146 : decode cX3_canBid 146 = .ok (.iload 5, 2) := by decide +kernel
theorem dX3_canBid_148 : decode cX3_canBid 148 = .ok (.iconst 2, 1) := by decide +kernel
theorem dX3_canBid_149 : decode cX3_canBid 149 = .ok (.if_icmp .ne 7, 3) := by decide +kernel
theorem dX3_canBid_152 : decode cX3_canBid 152 = .ok (.iconst 1, 1) := by decide +kernel
theorem dX3_canBid_153 : decode cX3_canBid 153 = .ok (.goto 4, 3) := by decide +kernel
theorem dX3_canBid_156 : decode cX3_canBid 156 = .ok (.iconst 0, 1) := by decide +kernel
theorem dX3_canBid_157 : decode cX3_canBid 157 = .ok (.ireturn, 1) := by decide +kernel
theorem dX3_canBid_158 : decode cX3_canBid 158 = .ok (.iload_n 1, 1) := by decide +kernel
theorem dX3_canBid_159 : decode cX3_canBid 159 = .ok (.ifCond .eq 8, 3) := by decide +kernel
theorem dX3_canBid_162 : decode cX3_canBid 162 = .ok (.iload_n 1, 1) := by decide +kernel
theorem dX3_canBid_163 : decode cX3_canBid 163 = .ok (.iload_n 3, 1) := by decide +kernel
theorem dX3_canBid_164 : decode cX3_canBid 164 = .ok (.if_icmp .le 7, 3) := by decide +kernel
theorem dX3_canBid_167 : decode cX3_canBid 167 = .ok (.iconst 1, 1) := by decide +kernel
theorem dX3_canBid_168 : decode cX3_canBid 168 = .ok (.goto 4, 3) := by decide +kernel
theorem dX3_canBid_171 : decode cX3_canBid 171 = .ok (.iconst 0, 1) := by decide +kernel
theorem dX3_canBid_172 : decode cX3_canBid 172 = .ok (.ireturn, 1) := by decide +kernel
theorem dX3_turn_0 : decode cX3_turn 0 = .ok (.aload_n 0, 1) := by decide +kernel
theorem dX3_turn_1 : decode cX3_turn 1 = .ok (.getfield 75, 3) := by decide +kernel
theorem dX3_turn_4 : decode cX3_turn 4 = .ok (.iconst 1, 1) := by decide +kernel
theorem dX3_turn_5 : decode cX3_turn 5 = .ok (.if_icmp .ne 18, 3) := by decide +kernel
theorem dX3_turn_8 : decode cX3_turn 8 = .ok (.aload_n 0, 1) := by decide +kernel
theorem dX3_turn_9 : decode cX3_turn 9 = .ok (.getfield 82, 3) := by decide +kernel
theorem dX3_turn_12 : decode cX3_turn 12 = .ok (.aload_n 0, 1) := by decide +kernel
theorem dX3_turn_13 : decode cX3_turn 13 = .ok (.getfield 21, 3) := by decide +kernel
theorem dX3_turn_16 : decode cX3_turn 16 = .ok (.arraylength, 1) := by decide +kernel
theorem dX3_turn_17 : decode cX3_turn 17 = .ok (.iadd, 1) := by decide +kernel
theorem dX3_turn_18 : decode cX3_turn 18 = .ok (.iconst 4, 1) := by decide +kernel
theorem dX3_turn_19 : decode cX3_turn 19 = .ok (.irem, 1) := by decide +kernel
theorem dX3_turn_20 : decode cX3_turn 20 = .ok (.goto 27, 3) := by decide +kernel
theorem dX3_turn_23 : decode cX3_turn 23 = .ok (.aload_n 0, 1) := by decide +kernel
theorem dX3_turn_24 : decode cX3_turn 24 = .ok (.getfield 75, 3) := by decide +kernel
theorem dX3_turn_27 : decode cX3_turn 27 = .ok (.iconst 2, 1) := by decide +kernel
theorem dX3_turn_28 : decode cX3_turn 28 = .ok (.if_icmp .ne 18, 3) := by decide +kernel
theorem dX3_turn_31 : decode cX3_turn 31 = .ok (.aload_n 0, 1) := by decide +kernel
theorem dX3_turn_32 : decode cX3_turn 32 = .ok (.getfield 102, 3) := by decide +kernel
theorem dX3_turn_35 : decode cX3_turn 35 = .ok (.aload_n 0, 1) := by decide +kernel
theorem dX3_turn_36 : decode cX3_turn 36 = .ok (.getfield 33, 3) := by decide +kernel
theorem dX3_turn_39 : decode cX3_turn 39 = .ok (.arraylength, 1) := by decide +kernel
theorem dX3_turn_40 : decode cX3_turn 40 = .ok (.iadd, 1) := by decide +kernel
theorem dX3_turn_41 : decode cX3_turn 41 = .ok (.iconst 4, 1) := by decide +kernel
theorem dX3_turn_42 : decode cX3_turn 42 = .ok (.irem, 1) := by decide +kernel
theorem dX3_turn_43 : decode cX3_turn 43 = .ok (.goto 4, 3) := by decide +kernel
theorem dX3_turn_46 : decode cX3_turn 46 = .ok (.iconst (-1), 1) := by decide +kernel
theorem dX3_turn_47 : decode cX3_turn 47 = .ok (.ireturn, 1) := by decide +kernel
theorem dX3_bid_0 : decode cX3_bid 0 = .ok (.aload_n 0, 1) := by decide +kernel
theorem dX3_bid_1 : decode cX3_bid 1 = .ok (.iload_n 1, 1) := by decide +kernel
theorem dX3_bid_2 : decode cX3_bid 2 = .ok (.invokevirtual 105, 3) := by decide +kernel
theorem dX3_bid_5 : decode cX3_bid 5 = .ok (.istore_n 2, 1) := by decide +kernel
theorem dX3_bid_6 : decode cX3_bid 6 = .ok (.aload_n 0, 1) := by decide +kernel
theorem dX3_bid_7 : decode cX3_bid 7 = .ok (.getfield 10, 3) := by decide +kernel
theorem dX3_bid_10 : decode cX3_bid 10 = .ok (.iload_n 1, 1) := by decide +kernel
theorem dX3_bid_11 : decode cX3_bid 11 = .ok (.invokevirtual 109, 3) := by decide +kernel
theorem dX3_bid_14 : decode cX3_bid 14 = .ok (.istore_n 3, 1) := by decide +kernel
theorem dX3_bid_15 : decode cX3_bid 15 = .ok (.iload_n 2, 1) := by decide +kernel
theorem dX3_bid_16 : decode cX3_bid 16 = .ok (.ifCond .ne 5, 3) := by decide +kernel
theorem dX3_bid_19 : decode cX3_bid 19 = .ok (.iconst 0, 1) := by decide +kernel
theorem dX3_bid_20 : decode cX3_bid 20 = .ok (.ireturn, 1) := by decide +kernel
theorem dX3_bid_21 : decode cX3_bid 21 = .ok (.aload_n 0, 1) := by decide +kernel
theorem dX3_bid_22 : decode cX3_bid 22 = .ok (.aload_n 0, 1) := by decide +kernel
theorem dX3_bid_23 : decode cX3_bid 23 = .ok (.getfield 21, 3) := by decide +kernel
theorem dX3_bid_26 : decode cX3_bid 26 = .ok (.iload_n 1, 1) := by decide +kernel
theorem dX3_bid_27 : decode cX3_bid 27 = .ok (.invokestatic 112, 3) := by decide +kernel
theorem dX3_bid_30 : decode cX3_bid 30 = .ok (.putfield 21, 3) := by decide +kernel
theorem dX3_bid_33 : decode cX3_bid 33 = .ok (.aload_n 0, 1) := by decide +kernel
theorem dX3_bid_34 : decode cX3_bid 34 = .ok (.invokevirtual 116, 3) := by decide +kernel
theorem dX3_bid_37 : decode cX3_bid 37 = .ok (.iload_n 3, 1) := by decide +kernel
theorem dX3_bid_38 : decode cX3_bid 38 = .ok (.aload_n 0, 1) := by decide +kernel
theorem dX3_bid_39 : decode cX3_bid 39 = .ok (.invokevirtual 119, 3) := by decide +kernel
theorem dX3_bid_42 : decode cX3_bid 42 = .ok (.if_icmp .ne 7, 3) := by decide +kernel
theorem dX3_bid_45 : decode cX3_bid 45 = .ok (.iconst 1, 1) := by decide +kernel
theorem dX3_bid_46 : decode cX3_bid 46 = .ok (.goto 4, 3) := by decide +kernel
theorem dX3_bid_49 : decode cX3_bid 49 = .ok (.iconst 0, 1) := by decide +kernel
theorem dX3_bid_50 : decode cX3_bid 50 = .ok (.ireturn, 1) := by decide +kernel
theorem dX3_bid_51 : decode cX3_bid 51 = .ok (.astore_n 3, 1) := by decide +kernel
theorem dX3_bid_52 : decode cX3_bid 52 = .ok (.iload_n 2, 1) := by decide +kernel
theorem dX3_bid_53 : decode cX3_bid 53 = .ok (.ifCond .ne 7, 3) := by decide +kernel
theorem dX3_bid_56 : decode cX3_bid 56 = .ok (.iconst 1, 1) := by decide +kernel
theorem dX3_bid_57 : decode cX3_bid 57 = .ok (.goto 4, 3) := by decide +kernel
theorem dX3_bid_60 : decode cX3_bid 60 = .ok (.iconst 0, 1) := by decide +kernel
theorem dX3_bid_61 : decode cX3_bid 61 = .ok (.ireturn, 1) := by decide +kernel
theorem dX3_conclude_0 : decode cX3_conclude 0 = .ok (.iconst 0, 1) := by decide +kernel
theorem dX3_conclude_1 : decode cX3_conclude 1 = .ok (.istore_n 1, 1) := by decide +kernel
theorem dX3_conclude_2 : decode cX3_conclude 2 = .ok (.iconst (-1), 1) := by decide +kernel
theorem dX3_conclude_3 : decode cX3_conclude 3 = .ok (.istore_n 2, 1) := by decide +kernel
theorem dX3_conclude_4 : decode cX3_conclude 4 = .ok (.iconst 1, 1) := by decide +kernel
theorem dX3_conclude_5 : decode cX3_conclude 5 = .ok (.istore_n 3, 1) := by decide +kernel
theorem dX3_conclude_6 : decode cX3_conclude 6 = .ok (.iconst 0, 1) := by decide +kernel
theorem dX3_conclude_7 : decode cX3_conclude 7 = .ok (.istore 4, 2) := by decide +kernel
theorem dX3_conclude_9 : decode cX3_conclude 9 = .ok (.iload 4, 2) := by decide +kernel
theorem dX3_conclude_11 : decode cX3_conclude 11 = .ok (.aload_n 0, 1) := by decide +kernel
theorem dX3_conclude_12 : decode cX3_conclude 12 = .ok (.getfield 21, 3) := by decide +kernel
theorem dX3_conclude_15 : decode cX3_conclude 15 = .ok (.arraylength, 1) := by decide +kernel
theorem dX3_conclude_16 : decode cX3_conclude 16 = .ok (.if_icmp .ge 74, 3) := by decide +kernel
theorem dX3_conclude_19 : decode cX3_conclude 19 = .ok (.aload_n 0, 1) := by decide +kernel
theorem dX3_conclude_20 : decode cX3_conclude 20 = .ok (.getfield 21, 3) := by decide +kernel
theorem dX3_conclude_23 : decode cX3_conclude 23 = .ok (.iload 4, 2) := by decide +kernel
theorem dX3_conclude_25 : decode cX3_conclude 25 = .ok (.iaload, 1) := by decide +kernel
theorem dX3_conclude_26 : decode cX3_conclude 26 = .ok (.ifCond .ne 9, 3) := by decide +kernel
theorem dX3_conclude_29 : decode cX3_conclude 29 = .ok (.iload_n 1, 1) := by decide +kernel
theorem dX3_conclude_30 : decode cX3_conclude 30 = .ok (.iconst 1, 1) := by decide +kernel
theorem dX3_conclude_31 : decode cX3_conclude 31 = .ok (.iadd, 1) := by decide +kernel
theorem dX3_conclude_32 : decode cX3_conclude 32 = .ok (.goto 4, 3) := by decide +kernel
theorem dX3_conclude_35 : decode cX3_conclude 35 = .ok (.iconst 0, 1) := by decide +kernel
theorem dX3_conclude_36 : decode cX3_conclude 36 = .ok (.istore_n 1, 1) := by decide +kernel
theorem dX3_conclude_37 : decode cX3_conclude 37 = .ok (.aload_n 0, 1) := by decide +kernel
theorem dX3_conclude_38 : decode cX3_conclude 38 = .ok (.getfield 21, 3) := by decide +kernel
theorem dX3_conclude_41 : decode cX3_conclude 41 = .ok (.iload 4, 2) := by decide +kernel
theorem dX3_conclude_43 : decode cX3_conclude 43 = .ok (.iaload, 1) := by decide +kernel
theorem dX3_conclude_44 : decode cX3_conclude 44 = .ok (.bipush 40, 2) := by decide +kernel
theorem dX3_conclude_46 : decode cX3_conclude 46 = .ok (.if_icmp .le 7, 3) := by decide +kernel
theorem dX3_conclude_49 : decode cX3_conclude 49 = .ok (.iload_n 3, 1) := by decide +kernel
theorem dX3_conclude_50 : decode cX3_conclude 50 = .ok (.iconst 2, 1) := by decide +kernel
theorem dX3_conclude_51 : decode cX3_conclude 51 = .ok (.imul, 1) := by decide +kernel
theorem dX3_conclude_52 : decode cX3_conclude 52 = .ok (.istore_n 3, 1) := by decide +kernel
theorem dX3_conclude_53 : decode cX3_conclude 53 = .ok (.aload_n 0, 1) := by decide +kernel
theorem dX3_conclude_54 : decode cX3_conclude 54 = .ok (.getfield 21, 3) := by decide +kernel
theorem dX3_conclude_57 : decode cX3_conclude 57 = .ok (.iload 4, 2) := by decide +kernel
theorem dX3_conclude_59 : decode cX3_conclude 59 = .ok (.iaload, 1) := by decide +kernel
theorem dX3_conclude_60 : decode cX3_conclude 60 = .ok (.iconst 1, 1) := by decide +kernel
theorem dX3_conclude_61 : decode cX3_conclude 61 = .ok (.if_icmp .lt 23, 3) := by decide +kernel
theorem dX3_conclude_64 : decode cX3_conclude 64 = .ok (.aload_n 0, 1) := by decide +kernel
theorem dX3_conclude_65 : decode cX3_conclude 65 = .ok (.getfield 21, 3) := by decide +kernel
theorem dX3_conclude_68 : decode cX3_conclude 68 = .ok (.iload 4, 2) := by decide +kernel
theorem dX3_conclude_70 : decode cX3_conclude 70 = .ok (.iaload, 1) := by decide +kernel
theorem dX3_conclude_71 : decode cX3_conclude 71 = .ok (.bipush 40, 2) := by decide +kernel
theorem dX3_conclude_73 : decode cX3_conclude 73 = .ok (.if_icmp .le 6, 3) := by decide +kernel
theorem dX3_conclude_76 : decode cX3_conclude 76 = .ok (.goto 8, 3) := by decide +kernel
theorem dX3_conclude_79 : decode cX3_conclude 79 = .ok (.iload 4, 2) := by decide +kernel
theorem dX3_conclude_81 : decode cX3_conclude 81 = .ok (.istore_n 2, 1) := by decide +kernel
theorem dX3_conclude_82 : decode cX3_conclude 82 = .ok (.iconst 1, 1) := by decide +kernel
theorem dX3_conclude_83 : decode cX3_conclude 83 = .ok (.istore_n 3, 1) := by decide +kernel
theorem dX3_conclude_84 : decode cX3_conclude 84 = .ok (.iinc 4 1, 3) := by decide +kernel
theorem dX3_conclude_87 : decode cX3_conclude 87 = .ok (.goto (-78), 3) := by decide +kernel
theorem dX3_conclude_90 : decode cX3_conclude 90 = .ok (.iload_n 2, 1) := by decide +kernel
theorem dX3_conclude_91 : decode cX3_conclude 91 = .ok (.ifCond .ge 13, 3) := by decide +kernel
theorem dX3_conclude_94 : decode cX3_conclude 94 = .ok (.iload_n 1, 1) := by decide +kernel
theorem dX3_conclude_95 : decode cX3_conclude 95 = .ok (.iconst 4, 1) := by decide +kernel
theorem dX3_conclude_96 : decode cX3_conclude 96 = .ok (.if_icmp .ne 8, 3) := by decide +kernel
theorem dX3_conclude_99 : decode cX3_conclude 99 = .ok (.aload_n 0, 1) := by decide +kernel
theorem dX3_conclude_100 : decode cX3_conclude 100 = .ok (.iconst 3, 1) := by decide +kernel
theorem dX3_conclude_101 : decode cX3_conclude 101 = .ok (.putfield 75, 3) := by decide +kernel
theorem dX3_conclude_104 : decode cX3_conclude 104 = .ok (.iload_n 2, 1) := by decide +kernel
theorem dX3_conclude_105 : decode cX3_conclude 105 = .ok (.ifCond .lt 8, 3) := by decide +kernel
theorem dX3_conclude_108 : decode cX3_conclude 108 = .ok (.iload_n 1, 1) := by decide +kernel
theorem dX3_conclude_109 : decode cX3_conclude 109 = .ok (.iconst 3, 1) := by decide +kernel
theorem dX3_conclude_110 : decode cX3_conclude 110 = .ok (.if_icmp .ge 4, 3) := by decide +kernel
theorem dX3_conclude_113 : decode cX3_conclude 113 = .ok (.return_, 1) := by decide +kernel
theorem dX3_conclude_114 : decode cX3_conclude 114 = .ok (.aload_n 0, 1) := by decide +kernel
theorem dX3_conclude_115 : decode cX3_conclude 115 = .ok (.getfield 21, 3) := by decide +kernel
theorem dX3_conclude_118 : decode cX3_conclude 118 = .ok (.iload_n 2, 1) := by decide +kernel
theorem dX3_conclude_119 : decode cX3_conclude 119 = .ok (.iaload, 1) := by decide +kernel
theorem dX3_conclude_120 : decode cX3_conclude 120 = .ok (.iconst 4, 1) := by decide +kernel
theorem dX3_conclude_121 : decode cX3_conclude 121 = .ok (.iadd, 1) := by decide +kernel
theorem dX3_conclude_122 : decode cX3_conclude 122 = .ok (.iconst 5, 1) := by decide +kernel
theorem dX3_conclude_123 : decode cX3_conclude 123 = .ok (.irem, 1) := by decide +kernel
theorem dX3_conclude_124 : decode cX3_conclude 124 = .ok (.istore 4, 2) := by decide +kernel
theorem dX3_conclude_126 : decode cX3_conclude 126 = .ok (.iload_n 2, 1) := by decide +kernel
theorem dX3_conclude_127 : decode cX3_conclude 127 = .ok (.istore 5, 2) := by decide +kernel
theorem dX3_conclude_129 : decode cX3_conclude 129 = .ok (.iload_n 2, 1) := by decide +kernel
theorem dX3_conclude_130 : decode cX3_conclude 130 = .ok (.istore 6, 2) := by decide +kernel
theorem dX3_conclude_132 : decode cX3_conclude 132 = .ok (.iload 6, 2) := by decide +kernel
theorem dX3_conclude_134 : decode cX3_conclude 134 = .ok (.ifCond .lt 51, 3) := by decide +kernel
theorem dX3_conclude_137 : decode cX3_conclude 137 = .ok (.aload_n 0, 1) := by decide +kernel
theorem dX3_conclude_138 : decode cX3_conclude 138 = .ok (.getfield 21, 3) := by decide +kernel
theorem dX3_conclude_141 : decode cX3_conclude 141 = .ok (.iload 6, 2) := by decide +kernel
theorem dX3_conclude_143 : decode cX3_conclude 143 = .ok (.iaload, 1) := by decide +kernel
theorem dX3_conclude_144 : decode cX3_conclude 144 = .ok (.ifCond .le 35, 3) := by decide +kernel
theorem dX3_conclude_147 : decode cX3_conclude 147 = .ok (.aload_n 0, 1) := by decide +kernel
theorem dX3_conclude_148 : decode cX3_conclude 148 = .ok (.getfield 21, 3) := by decide +kernel
theorem dX3_conclude_151 : decode cX3_conclude 151 = .ok (.iload 6, 2) := by decide +kernel
theorem dX3_conclude_153 : decode cX3_conclude 153 = .ok (.iaload, 1) := by decide +kernel
theorem dX3_conclude_154 : decode cX3_conclude 154 = .ok (.bipush 41, 2) := by decide +kernel
theorem dX3_conclude_156 : decode cX3_conclude 156 = .ok (.if_icmp .ge 23, 3) := by decide +kernel
theorem dX3_conclude_159 : decode cX3_conclude 159 = .ok (.aload_n 0, 1) := by decide +kernel
theorem dX3_conclude_160 : decode cX3_conclude 160 = .ok (.getfield 21, 3) := by decide +kernel
theorem dX3_conclude_163 : decode cX3_conclude 163 = .ok (.iload 6, 2) := by decide +kernel
theorem dX3_conclude_165 : decode cX3_conclude 165 = .ok (.iaload, 1) := by decide +kernel
theorem dX3_conclude_166 : decode cX3_conclude 166 = .ok (.iconst 4, 1) := by decide +kernel
theorem dX3_conclude_167 : decode cX3_conclude 167 = .ok (.iadd, 1) := by decide +kernel
theorem dX3_conclude_168 : decode cX3_conclude 168 = .ok (.iconst 5, 1) := by decide +kernel
theorem dX3_conclude_169 : decode cX3_conclude 169 = .ok (.irem, 1) := by decide +kernel
theorem dX3_conclude_170 : decode cX3_conclude 170 = .ok (.iload 4, 2) := by decide +kernel
theorem dX3_conclude_172 : decode cX3_conclude 172 = .ok (.if_icmp .ne 7, 3) := by decide +kernel
theorem dX3_conclude_175 : decode cX3_conclude 175 = .ok (.iload 6, 2) := by decide +kernel
theorem dX3_conclude_177 : decode cX3_conclude 177 = .ok (.istore 5, 2) := by decide +kernel
theorem dX3_conclude_179 : decode cX3_conclude 179 = .ok (.iinc 6 (-2), 3) := by decide +kernel
theorem dX3_conclude_182 : decode cX3_conclude 182 = .ok (.goto (-50), 3) := by decide +kernel
theorem dX3_conclude_185 : decode cX3_conclude 185 = .ok (.iconst 4, 1) := by decide +kernel
theorem dX3_conclude_186 : decode cX3_conclude 186 = .ok (.newarray .int, 2) := by decide +kernel
theorem dX3_conclude_188 : decode cX3_conclude 188 = .ok (.dup, 1) := by decide +kernel
theorem dX3_conclude_189 : decode cX3_conclude 189 = .ok (.iconst 0, 1) := by decide +kernel
theorem dX3_conclude_190 : decode cX3_conclude 190 = .ok (.aload_n 0, 1) := by decide +kernel
theorem dX3_conclude_191 : decode cX3_conclude 191 = .ok (.getfield 21, 3) := by decide +kernel
theorem dX3_conclude_194 : decode cX3_conclude 194 = .ok (.iload_n 2, 1) := by decide +kernel
theorem dX3_conclude_195 : decode cX3_conclude 195 = .ok (.iaload, 1) := by decide +kernel
theorem dX3_conclude_196 : decode cX3_conclude 196 = .ok (.iconst 4, 1) := by decide +kernel
theorem dX3_conclude_197 : decode cX3_conclude 197 = .ok (.iadd, 1) := by decide +kernel
theorem dX3_conclude_198 : decode cX3_conclude 198 = .ok (.iconst 5, 1) := by decide +kernel
theorem dX3_conclude_199 : decode cX3_conclude 199 = .ok (.idiv, 1) := by decide +kernel
theorem dX3_conclude_200 : decode cX3_conclude 200 = .ok (.iastore, 1) := by decide +kernel
theorem dX3_conclude_201 : decode cX3_conclude 201 = .ok (.dup, 1) := by decide +kernel
theorem dX3_conclude_202 : decode cX3_conclude 202 = .ok (.iconst 1, 1) := by decide +kernel
theorem dX3_conclude_203 : decode cX3_conclude 203 = .ok (.iload 4, 2) := by decide +kernel
theorem dX3_conclude_205 : decode cX3_conclude 205 = .ok (.iastore, 1) := by decide +kernel
theorem dX3_conclude_206 : decode cX3_conclude 206 = .ok (.dup, 1) := by decide +kernel
theorem dX3_conclude_207 : decode cX3_conclude 207 = .ok (.iconst 2, 1) := by decide +kernel
theorem dX3_conclude_208 : decode cX3_conclude 208 = .ok (.aload_n 0, 1) := by decide +kernel
theorem dX3_conclude_209 : decode cX3_conclude 209 = .ok (.getfield 82, 3) := by decide +kernel
theorem dX3_conclude_212 : decode cX3_conclude 212 = .ok (.iload 5, 2) := by decide +kernel
theorem dX3_conclude_214 : decode cX3_conclude 214 = .ok (.iadd, 1) := by decide +kernel
theorem dX3_conclude_215 : decode cX3_conclude 215 = .ok (.iconst 4, 1) := by decide +kernel
theorem dX3_conclude_216 : decode cX3_conclude 216 = .ok (.irem, 1) := by decide +kernel
theorem dX3_conclude_217 : decode cX3_conclude 217 = .ok (.iastore, 1) := by decide +kernel
theorem dX3_conclude_218 : decode cX3_conclude 218 = .ok (.dup, 1) := by decide +kernel
theorem dX3_conclude_219 : decode cX3_conclude 219 = .ok (.iconst 3, 1) := by decide +kernel
theorem dX3_conclude_220 : decode cX3_conclude 220 = .ok (.iload_n 3, 1) := by decide +kernel
theorem dX3_conclude_221 : decode cX3_conclude 221 = .ok (.iastore, 1) := by decide +kernel
theorem dX3_conclude_222 : decode cX3_conclude 222 = .ok (.astore 6, 2) := by decide +kernel
theorem dX3_conclude_224 : decode cX3_conclude 224 = .ok (.aload_n 0, 1) := by decide +kernel
theorem dX3_conclude_225 : decode cX3_conclude 225 = .ok (.aload 6, 2) := by decide +kernel
theorem dX3_conclude_227 : decode cX3_conclude 227 = .ok (.putfield 25, 3) := by decide +kernel
theorem dX3_conclude_230 : decode cX3_conclude 230 = .ok (.aload_n 0, 1) := by decide +kernel
theorem dX3_conclude_231 : decode cX3_conclude 231 = .ok (.aload 6, 2) := by decide +kernel
theorem dX3_conclude_233 : decode cX3_conclude 233 = .ok (.iconst 2, 1) := by decide +kernel
theorem dX3_conclude_234 : decode cX3_conclude 234 = .ok (.iaload, 1) := by decide +kernel
theorem dX3_conclude_235 : decode cX3_conclude 235 = .ok (.iconst 1, 1) := by decide +kernel
theorem dX3_conclude_236 : decode cX3_conclude 236 = .ok (.iadd, 1) := by decide +kernel
theorem dX3_conclude_237 : decode cX3_conclude 237 = .ok (.iconst 4, 1) := by decide +kernel
theorem dX3_conclude_238 : decode cX3_conclude 238 = .ok (.irem, 1) := by decide +kernel
theorem dX3_conclude_239 : decode cX3_conclude 239 = .ok (.putfield 102, 3) := by decide +kernel
theorem dX3_conclude_242 : decode cX3_conclude 242 = .ok (.aload_n 0, 1) := by decide +kernel
theorem dX3_conclude_243 : decode cX3_conclude 243 = .ok (.iconst 2, 1) := by decide +kernel
theorem dX3_conclude_244 : decode cX3_conclude 244 = .ok (.putfield 75, 3) := by decide +kernel
theorem dX3_conclude_247 : decode cX3_conclude 247 = .ok (.return_, 1) := by decide +kernel
theorem dX3_mustFollow_0 : decode cX3_mustFollow 0 = .ok (.aload_n 0, 1) := by decide +kernel
theorem dX3_mustFollow_1 : decode cX3_mustFollow 1 = .ok (.getfield 33, 3) := by decide +kernel
theorem dX3_mustFollow_4 : decode cX3_mustFollow 4 = .ok (.arraylength, 1) := by decide +kernel
theorem dX3_mustFollow_5 : decode cX3_mustFollow 5 = .ok (.ifCond .ne 5, 3) := by decide +kernel
theorem dX3_mustFollow_8 : decode cX3_mustFollow 8 = .ok (.iconst 0, 1) := by decide +kernel
theorem dX3_mustFollow_9 : decode cX3_mustFollow 9 = .ok (.ireturn, 1) := by decide +kernel
theorem dX3_mustFollow_10 : decode cX3_mustFollow 10 = .ok (.iconst 0, 1) := by decide +kernel
theorem dX3_mustFollow_11 : decode cX3_mustFollow 11 = .ok (.istore_n 2, 1) := by decide +kernel
theorem dX3_mustFollow_12 : decode cX3_mustFollow 12 = .ok (.iload_n 2, 1) := by decide +kernel
theorem dX3_mustFollow_13 : decode cX3_mustFollow 13 = .ok (.bipush 32, 2) := by decide +kernel
theorem dX3_mustFollow_15 : decode cX3_mustFollow 15 = .ok (.if_icmp .ge 38, 3) := by decide +kernel
theorem dX3_mustFollow_18 : decode cX3_mustFollow 18 = .ok (.aload_n 0, 1) := by decide +kernel
theorem dX3_mustFollow_19 : decode cX3_mustFollow 19 = .ok (.getfield 18, 3) := by decide +kernel
theorem dX3_mustFollow_22 : decode cX3_mustFollow 22 = .ok (.iload_n 1, 1) := by decide +kernel
theorem dX3_mustFollow_23 : decode cX3_mustFollow 23 = .ok (.aaload, 1) := by decide +kernel
theorem dX3_mustFollow_24 : decode cX3_mustFollow 24 = .ok (.iload_n 2, 1) := by decide +kernel
theorem dX3_mustFollow_25 : decode cX3_mustFollow 25 = .ok (.baload, 1) := by decide +kernel
theorem dX3_mustFollow_26 : decode cX3_mustFollow 26 = .ok (.ifCond .eq 21, 3) := by decide +kernel
theorem dX3_mustFollow_29 : decode cX3_mustFollow 29 = .ok (.iload_n 2, 1) := by decide +kernel
theorem dX3_mustFollow_30 : decode cX3_mustFollow 30 = .ok (.bipush 8, 2) := by decide +kernel
theorem dX3_mustFollow_32 : decode cX3_mustFollow 32 = .ok (.idiv, 1) := by decide +kernel
theorem dX3_mustFollow_33 : decode cX3_mustFollow 33 = .ok (.aload_n 0, 1) := by decide +kernel
theorem dX3_mustFollow_34 : decode cX3_mustFollow 34 = .ok (.getfield 33, 3) := by decide +kernel
theorem dX3_mustFollow_37 : decode cX3_mustFollow 37 = .ok (.iconst 0, 1) := by decide +kernel
theorem dX3_mustFollow_38 : decode cX3_mustFollow 38 = .ok (.iaload, 1) := by decide +kernel
theorem dX3_mustFollow_39 : decode cX3_mustFollow 39 = .ok (.bipush 8, 2) := by decide +kernel
theorem dX3_mustFollow_41 : decode cX3_mustFollow 41 = .ok (.idiv, 1) := by decide +kernel
theorem dX3_mustFollow_42 : decode cX3_mustFollow 42 = .ok (.if_icmp .ne 5, 3) := by decide +kernel
theorem dX3_mustFollow_45 : decode cX3_mustFollow 45 = .ok (.iconst 1, 1) := by decide +kernel
theorem dX3_mustFollow_46 : decode cX3_mustFollow 46 = .ok (.ireturn, 1) := by decide +kernel
theorem dX3_mustFollow_47 : decode cX3_mustFollow 47 = .ok (.iinc 2 1, 3) := by decide +kernel
theorem dX3_mustFollow_50 : decode cX3_mustFollow 50 = .ok (.goto (-38), 3) := by decide +kernel
theorem dX3_mustFollow_53 : decode cX3_mustFollow 53 = .ok (.iconst 0, 1) := by decide +kernel
theorem dX3_mustFollow_54 : decode cX3_mustFollow 54 = .ok (.ireturn, 1) := by decide +kernel
theorem dX3_isRight_0 : decode cX3_isRight 0 = .ok (.aload_n 0, 1) := by decide +kernel
theorem dX3_isRight_1 : decode cX3_isRight 1 = .ok (.getfield 18, 3) := by decide +kernel
theorem dX3_isRight_4 : decode cX3_isRight 4 = .ok (.iload_n 1, 1) := by decide +kernel
theorem dX3_isRight_5 : decode cX3_isRight 5 = .ok (.aaload, 1) := by decide +kernel
theorem dX3_isRight_6 : decode cX3_isRight 6 = .ok (.iload_n 2, 1) := by decide +kernel
theorem dX3_isRight_7 : decode cX3_isRight 7 = .ok (.baload, 1) := by decide +kernel
theorem dX3_isRight_8 : decode cX3_isRight 8 = .ok (.ifCond .eq 31, 3) := by decide +kernel
theorem dX3_isRight_11 : decode cX3_isRight 11 = .ok (.aload_n 0, 1) := by decide +kernel
theorem dX3_isRight_12 : decode cX3_isRight 12 = .ok (.iload_n 1, 1) := by decide +kernel
theorem dX3_isRight_13 : decode cX3_isRight 13 = .ok (.invokevirtual 126, 3) := by decide +kernel
theorem dX3_isRight_16 : decode cX3_isRight 16 = .ok (.ifCond .eq 19, 3) := by decide +kernel
theorem dX3_isRight_19 : decode cX3_isRight 19 = .ok (.iload_n 2, 1) := by decide +kernel
theorem dX3_isRight_20 : decode cX3_isRight 20 = .ok (.bipush 8, 2) := by decide +kernel
theorem dX3_isRight_22 : decode cX3_isRight 22 = .ok (.idiv, 1) := by decide +kernel
theorem dX3_isRight_23 : decode cX3_isRight 23 = .ok (.aload_n 0, 1) := by decide +kernel
theorem dX3_isRight_24 : decode cX3_isRight 24 = .ok (.getfield 33, 3) := by decide +kernel
theorem dX3_isRight_27 : decode cX3_isRight 27 = .ok (.iconst 0, 1) := by decide +kernel
theorem dX3_isRight_28 : decode cX3_isRight 28 = .ok (.iaload, 1) := by decide +kernel
theorem dX3_isRight_29 : decode cX3_isRight 29 = .ok (.bipush 8, 2) := by decide +kernel
theorem dX3_isRight_31 : decode cX3_isRight 31 = .ok (.idiv, 1) := by decide +kernel
theorem dX3_isRight_32 : decode cX3_isRight 32 = .ok (.if_icmp .ne 7, 3) := by decide +kernel
theorem dX3_isRight_35 : decode cX3_isRight 35 = .ok (.iconst 1, 1) := by decide +kernel
theorem dX3_isRight_36 : decode cX3_isRight 36 = .ok (.goto 4, 3) := by decide +kernel
theorem dX3_isRight_39 : decode cX3_isRight 39 = .ok (.iconst 0, 1) := by decide +kernel
theorem dX3_isRight_40 : decode cX3_isRight 40 = .ok (.ireturn, 1) := by decide +kernel
theorem dX3_taker_0 : decode cX3_taker 0 = .ok (.iconst (-1), 1) := by decide +kernel
theorem dX3_taker_1 : decode cX3_taker 1 = .ok (.istore_n 3, 1) := by decide +kernel
theorem dX3_taker_2 : decode cX3_taker 2 = .ok (.iconst (-1), 1) := by decide +kernel
theorem dX3_taker_3 : decode cX3_taker 3 = .ok (.istore 4, 2) := by decide +kernel
theorem dX3_taker_5 : decode cX3_taker 5 = .ok (.iconst 0, 1) := by decide +kernel
theorem dX3_taker_6 : decode cX3_taker 6 = .ok (.istore 5, 2) := by decide +kernel
theorem dX3_taker_8 : decode cX3_taker 8 = .ok (.iload 5, 2) := by decide +kernel
theorem dX3_taker_10 : decode cX3_taker 10 = .ok (.aload_n 1, 1) := by decide +kernel
theorem dX3_taker_11 : decode cX3_taker 11 = .ok (.arraylength, 1) := by decide +kernel
theorem dX3_taker_12 : decode cX3_taker 12 = .ok (.if_icmp .ge 75, 3) := by decide +kernel
theorem dX3_taker_15 : decode cX3_taker 15 = .ok (.aload_n 1, 1) := by decide +kernel
theorem dX3_taker_16 : decode cX3_taker 16 = .ok (.iload 5, 2) := by decide +kernel
theorem dX3_taker_18 : decode cX3_taker 18 = .ok (.iaload, 1) := by decide +kernel
theorem dX3_taker_19 : decode cX3_taker 19 = .ok (.bipush 8, 2) := by decide +kernel
theorem dX3_taker_21 : decode cX3_taker 21 = .ok (.idiv, 1) := by decide +kernel
theorem dX3_taker_22 : decode cX3_taker 22 = .ok (.iload_n 2, 1) := by decide +kernel
theorem dX3_taker_23 : decode cX3_taker 23 = .ok (.if_icmp .ne 13, 3) := by decide +kernel
theorem dX3_taker_26 : decode cX3_taker 26 = .ok (.bipush 100, 2) := by decide +kernel
theorem dX3_taker_28 : decode cX3_taker 28 = .ok (.aload_n 1, 1) := by decide +kernel
theorem dX3_taker_29 : decode cX3_taker 29 = .ok (.iload 5, 2) := by decide +kernel
theorem dX3_taker_31 : decode cX3_taker 31 = .ok (.iaload, 1) := by decide +kernel
theorem dX3_taker_32 : decode cX3_taker 32 = .ok (.iadd, 1) := by decide +kernel
theorem dX3_taker_33 : decode cX3_taker 33 = .ok (.goto 27, 3) := by decide +kernel
theorem dX3_taker_36 : decode cX3_taker 36 = .ok (.aload_n 1, 1) := by decide +kernel
theorem dX3_taker_37 : decode cX3_taker 37 = .ok (.iload 5, 2) := by decide +kernel
theorem dX3_taker_39 : decode cX3_taker 39 = .ok (.iaload, 1) := by decide +kernel
theorem dX3_taker_40 : decode cX3_taker 40 = .ok (.bipush 8, 2) := by decide +kernel
theorem dX3_taker_42 : decode cX3_taker 42 = .ok (.idiv, 1) := by decide +kernel
theorem dX3_taker_43 : decode cX3_taker 43 = .ok (.aload_n 1, 1) := by decide +kernel
theorem dX3_taker_44 : decode cX3_taker 44 = .ok (.iconst 0, 1) := by decide +kernel
theorem dX3_taker_45 : decode cX3_taker 45 = .ok (.iaload, 1) := by decide +kernel
theorem dX3_taker_46 : decode cX3_taker 46 = .ok (.bipush 8, 2) := by decide +kernel
theorem dX3_taker_48 : decode cX3_taker 48 = .ok (.idiv, 1) := by decide +kernel
theorem dX3_taker_49 : decode cX3_taker 49 = .ok (.if_icmp .ne 10, 3) := by decide +kernel
theorem dX3_taker_52 : decode cX3_taker 52 = .ok (.aload_n 1, 1) := by decide +kernel
theorem dX3_taker_53 : decode cX3_taker 53 = .ok (.iload 5, 2) := by decide +kernel
theorem dX3_taker_55 : decode cX3_taker 55 = .ok (.iaload, 1) := by decide +kernel
theorem dX3_taker_56 : decode cX3_taker 56 = .ok (.goto 4, 3) := by decide +kernel
theorem dX3_taker_59 : decode cX3_taker 59 = .ok (.iconst (-1), 1) := by decide +kernel
theorem dX3_taker_60 : decode cX3_taker 60 = .ok (.istore 6, 2) := by decide +kernel
theorem dX3_taker_62 : decode cX3_taker 62 = .ok (.iload 6, 2) := by decide +kernel
theorem dX3_taker_64 : decode cX3_taker 64 = .ok (.iload 4, 2) := by decide +kernel
theorem dX3_taker_66 : decode cX3_taker 66 = .ok (.if_icmp .le 6, 3) := by decide +kernel
theorem dX3_taker_69 : decode cX3_taker 69 = .ok (.iload 5, 2) := by decide +kernel
theorem dX3_taker_71 : decode cX3_taker 71 = .ok (.istore_n 3, 1) := by decide +kernel
theorem dX3_taker_72 : decode cX3_taker 72 = .ok (.iload 4, 2) := by decide +kernel
theorem dX3_taker_74 : decode cX3_taker 74 = .ok (.iload 6, 2) := by decide +kernel
theorem dX3_taker_76 : decode cX3_taker 76 = .ok (.invokestatic 129, 3) := by decide +kernel
theorem dX3_taker_79 : decode cX3_taker 79 = .ok (.istore 4, 2) := by decide +kernel
theorem dX3_taker_81 : decode cX3_taker 81 = .ok (.iinc 5 1, 3) := by decide +kernel
theorem dX3_taker_84 : decode cX3_taker 84 = .ok (.goto (-76), 3) := by decide +kernel
theorem dX3_taker_87 : decode cX3_taker 87 = .ok (.iload_n 3, 1) := by decide +kernel
theorem dX3_taker_88 : decode cX3_taker 88 = .ok (.ifCond .ge 7, 3) := by decide +kernel
theorem dX3_taker_91 : decode cX3_taker 91 = .ok (.iconst (-1), 1) := by decide +kernel
theorem dX3_taker_92 : decode cX3_taker 92 = .ok (.goto 11, 3) := by decide +kernel
theorem dX3_taker_95 : decode cX3_taker 95 = .ok (.aload_n 0, 1) := by decide +kernel
theorem dX3_taker_96 : decode cX3_taker 96 = .ok (.getfield 102, 3) := by decide +kernel
theorem dX3_taker_99 : decode cX3_taker 99 = .ok (.iload_n 3, 1) := by decide +kernel
theorem dX3_taker_100 : decode cX3_taker 100 = .ok (.iadd, 1) := by decide +kernel
theorem dX3_taker_101 : decode cX3_taker 101 = .ok (.iconst 4, 1) := by decide +kernel
theorem dX3_taker_102 : decode cX3_taker 102 = .ok (.irem, 1) := by decide +kernel
theorem dX3_taker_103 : decode cX3_taker 103 = .ok (.ireturn, 1) := by decide +kernel
theorem dX3_any_0 : decode cX3_any 0 = .ok (.aload_n 0, 1) := by decide +kernel
theorem dX3_any_1 : decode cX3_any 1 = .ok (.invokevirtual 119, 3) := by decide +kernel
theorem dX3_any_4 : decode cX3_any 4 = .ok (.istore_n 2, 1) := by decide +kernel
theorem dX3_any_5 : decode cX3_any 5 = .ok (.iconst 0, 1) := by decide +kernel
theorem dX3_any_6 : decode cX3_any 6 = .ok (.istore_n 3, 1) := by decide +kernel
theorem dX3_any_7 : decode cX3_any 7 = .ok (.iconst 0, 1) := by decide +kernel
theorem dX3_any_8 : decode cX3_any 8 = .ok (.istore 4, 2) := by decide +kernel
theorem dX3_any_10 : decode cX3_any 10 = .ok (.iload 4, 2) := by decide +kernel
theorem dX3_any_12 : decode cX3_any 12 = .ok (.bipush 32, 2) := by decide +kernel
theorem dX3_any_14 : decode cX3_any 14 = .ok (.if_icmp .ge 51, 3) := by decide +kernel
theorem dX3_any_17 : decode cX3_any 17 = .ok (.iload_n 3, 1) := by decide +kernel
theorem dX3_any_18 : decode cX3_any 18 = .ok (.iload_n 1, 1) := by decide +kernel
theorem dX3_any_19 : decode cX3_any 19 = .ok (.ifCond .eq 21, 3) := by decide +kernel
theorem dX3_any_22 : decode cX3_any 22 = .ok (.aload_n 0, 1) := by decide +kernel
theorem dX3_any_23 : decode cX3_any 23 = .ok (.iload_n 2, 1) := by decide +kernel
theorem dX3_any_24 : decode cX3_any 24 = .ok (.iload 4, 2) := by decide +kernel
theorem dX3_any_26 : decode cX3_any 26 = .ok (.invokevirtual 134, 3) := by decide +kernel
theorem dX3_any_29 : decode cX3_any 29 = .ok (.ifCond .eq 7, 3) := by decide +kernel
theorem dX3_any_32 : decode cX3_any 32 = .ok (.iconst 1, 1) := by decide +kernel
theorem dX3_any_33 : decode cX3_any 33 = .ok (.goto 24, 3) := by decide +kernel
theorem dX3_any_36 : decode cX3_any 36 = .ok (.iconst 0, 1) := by decide +kernel
theorem dX3_any_37 : decode cX3_any 37 = .ok (.goto 20, 3) := by decide +kernel
theorem dX3_any_40 : decode cX3_any 40 = .ok (.aload_n 0, 1) := by decide +kernel
theorem dX3_any_41 : decode cX3_any 41 = .ok (.getfield 18, 3) := by decide +kernel
theorem dX3_any_44 : decode cX3_any 44 = .ok (.iload_n 2, 1) := by decide +kernel
theorem dX3_any_45 : decode cX3_any 45 = .ok (.aaload, 1) := by decide +kernel
theorem dX3_any_46 : decode cX3_any 46 = .ok (.iload 4, 2) := by decide +kernel
theorem dX3_any_48 : decode cX3_any 48 = .ok (.baload, 1) := by decide +kernel
theorem dX3_any_49 : decode cX3_any 49 = .ok (.ifCond .eq 7, 3) := by decide +kernel
theorem dX3_any_52 : decode cX3_any 52 = .ok (.iconst 1, 1) := by decide +kernel
theorem dX3_any_53 : decode cX3_any 53 = .ok (.goto 4, 3) := by decide +kernel
theorem dX3_any_56 : decode cX3_any 56 = .ok (.iconst 0, 1) := by decide +kernel
theorem dX3_any_57 : decode cX3_any 57 = .ok (.iadd, 1) := by decide +kernel
theorem dX3_any_58 : decode cX3_any 58 = .ok (.istore_n 3, 1) := by decide +kernel
theorem dX3_any_59 : decode cX3_any 59 = .ok (.iinc 4 1, 3) := by decide +kernel
theorem dX3_any_62 : decode cX3_any 62 = .ok (.goto (-52), 3) := by decide +kernel
theorem dX3_any_65 : decode cX3_any 65 = .ok (.aload_n 0, 1) := by decide +kernel
theorem dX3_any_66 : decode cX3_any 66 = .ok (.iload_n 3, 1) := by decide +kernel
theorem dX3_any_67 : decode cX3_any 67 = .ok (.invokevirtual 78, 3) := by decide +kernel
theorem dX3_any_70 : decode cX3_any 70 = .ok (.istore 4, 2) := by decide +kernel
theorem dX3_any_72 : decode cX3_any 72 = .ok (.iconst 0, 1) := by decide +kernel
theorem dX3_any_73 : decode cX3_any 73 = .ok (.istore 5, 2) := by decide +kernel
theorem dX3_any_75 : decode cX3_any 75 = .ok (.iload 5, 2) := by decide +kernel
theorem dX3_any_77 : decode cX3_any 77 = .ok (.bipush 32, 2) := by decide +kernel
theorem dX3_any_79 : decode cX3_any 79 = .ok (.if_icmp .ge 49, 3) := by decide +kernel
theorem dX3_any_82 : decode cX3_any 82 = .ok (.iload_n 1, 1) := by decide +kernel
theorem dX3_any_83 : decode cX3_any 83 = .ok (.ifCond .eq 16, 3) := by decide +kernel
theorem dX3_any_86 : decode cX3_any 86 = .ok (.aload_n 0, 1) := by decide +kernel
theorem dX3_any_87 : decode cX3_any 87 = .ok (.iload_n 2, 1) := by decide +kernel
theorem dX3_any_88 : decode cX3_any 88 = .ok (.iload 5, 2) := by decide +kernel
theorem dX3_any_90 : decode cX3_any 90 = .ok (.invokevirtual 134, 3) := by decide +kernel
theorem dX3_any_93 : decode cX3_any 93 = .ok (.ifCond .eq 29, 3) := by decide +kernel
theorem dX3_any_96 : decode cX3_any 96 = .ok (.goto 15, 3) := by decide +kernel
theorem dX3_any_99 : decode cX3_any 99 = .ok (.aload_n 0, 1) := by decide +kernel
theorem dX3_any_100 : decode cX3_any 100 = .ok (.getfield 18, 3) := by decide +kernel
theorem dX3_any_103 : decode cX3_any 103 = .ok (.iload_n 2, 1) := by decide +kernel
theorem dX3_any_104 : decode cX3_any 104 = .ok (.aaload, 1) := by decide +kernel
theorem dX3_any_105 : decode cX3_any 105 = .ok (.iload 5, 2) := by decide +kernel
theorem dX3_any_107 : decode cX3_any 107 = .ok (.baload, 1) := by decide +kernel
theorem dX3_any_108 : decode cX3_any 108 = .ok (.ifCond .eq 14, 3) := by decide +kernel
theorem dX3_any_111 : decode cX3_any 111 = .ok (.iload 4, 2) := by decide +kernel
theorem dX3_any_113 : decode cX3_any 113 = .ok (.iinc 4 (-1), 3) := by decide +kernel
theorem dX3_any_116 : decode cX3_any 116 = .ok (.ifCond .ne 6, 3) := by decide +kernel
theorem dX3_any_119 : decode cX3_any 119 = .ok (.iload 5, 2) := by decide +kernel
theorem dX3_any_121 : decode cX3_any 121 = .ok (.ireturn, 1) := by decide +kernel
theorem dX3_any_122 : decode cX3_any 122 = .ok (.iinc 5 1, 3) := by decide +kernel
theorem dX3_any_125 : decode cX3_any 125 = .ok (.goto (-50), 3) := by decide +kernel
theorem dX3_any_128 : decode cX3_any 128 = .ok (.iconst (-1), 1) := by decide +kernel
theorem dX3_any_129 : decode cX3_any 129 = .ok (.ireturn, 1) := by decide +kernel
theorem dX3_play_0 : decode cX3_play 0 = .ok (.aload_n 0, 1) := by decide +kernel
theorem dX3_play_1 : decode cX3_play 1 = .ok (.invokevirtual 119, 3) := by decide +kernel
theorem dX3_play_4 : decode cX3_play 4 = .ok (.istore_n 2, 1) := by decide +kernel
theorem dX3_play_5 : decode cX3_play 5 = .ok (.aload_n 0, 1) := by decide +kernel
theorem dX3_play_6 : decode cX3_play 6 = .ok (.getfield 40, 3) := by decide +kernel
theorem dX3_play_9 : decode cX3_play 9 = .ok (.aload_n 0, 1) := by decide +kernel
theorem dX3_play_10 : decode cX3_play 10 = .ok (.getfield 33, 3) := by decide +kernel
theorem dX3_play_13 : decode cX3_play 13 = .ok (.arraylength, 1) := by decide +kernel
theorem dX3_play_14 : decode cX3_play 14 = .ok (.aload_n 0, 1) := by decide +kernel
theorem dX3_play_15 : decode cX3_play 15 = .ok (.iload_n 2, 1) := by decide +kernel
theorem dX3_play_16 : decode cX3_play 16 = .ok (.iload_n 1, 1) := by decide +kernel
theorem dX3_play_17 : decode cX3_play 17 = .ok (.invokevirtual 134, 3) := by decide +kernel
theorem dX3_play_20 : decode cX3_play 20 = .ok (.ifCond .ne 7, 3) := by decide +kernel
theorem dX3_play_23 : decode cX3_play 23 = .ok (.iconst 1, 1) := by decide +kernel
theorem dX3_play_24 : decode cX3_play 24 = .ok (.goto 4, 3) := by decide +kernel
theorem dX3_play_27 : decode cX3_play 27 = .ok (.iconst 0, 1) := by decide +kernel
theorem dX3_play_28 : decode cX3_play 28 = .ok (.bastore, 1) := by decide +kernel
theorem dX3_play_29 : decode cX3_play 29 = .ok (.aload_n 0, 1) := by decide +kernel
theorem dX3_play_30 : decode cX3_play 30 = .ok (.getfield 43, 3) := by decide +kernel
theorem dX3_play_33 : decode cX3_play 33 = .ok (.aload_n 0, 1) := by decide +kernel
theorem dX3_play_34 : decode cX3_play 34 = .ok (.getfield 33, 3) := by decide +kernel
theorem dX3_play_37 : decode cX3_play 37 = .ok (.arraylength, 1) := by decide +kernel
theorem dX3_play_38 : decode cX3_play 38 = .ok (.aload_n 0, 1) := by decide +kernel
theorem dX3_play_39 : decode cX3_play 39 = .ok (.getfield 36, 3) := by decide +kernel
theorem dX3_play_42 : decode cX3_play 42 = .ok (.iload_n 2, 1) := by decide +kernel
theorem dX3_play_43 : decode cX3_play 43 = .ok (.baload, 1) := by decide +kernel
theorem dX3_play_44 : decode cX3_play 44 = .ok (.bastore, 1) := by decide +kernel
theorem dX3_play_45 : decode cX3_play 45 = .ok (.aload_n 0, 1) := by decide +kernel
theorem dX3_play_46 : decode cX3_play 46 = .ok (.getfield 36, 3) := by decide +kernel
theorem dX3_play_49 : decode cX3_play 49 = .ok (.iload_n 2, 1) := by decide +kernel
theorem dX3_play_50 : decode cX3_play 50 = .ok (.dup2, 1) := by decide +kernel
theorem dX3_play_51 : decode cX3_play 51 = .ok (.baload, 1) := by decide +kernel
theorem dX3_play_52 : decode cX3_play 52 = .ok (.aload_n 0, 1) := by decide +kernel
theorem dX3_play_53 : decode cX3_play 53 = .ok (.getfield 40, 3) := by decide +kernel
theorem dX3_play_56 : decode cX3_play 56 = .ok (.aload_n 0, 1) := by decide +kernel
theorem dX3_play_57 : decode cX3_play 57 = .ok (.getfield 33, 3) := by decide +kernel
theorem dX3_play_60 : decode cX3_play 60 = .ok (.arraylength, 1) := by decide +kernel
theorem dX3_play_61 : decode cX3_play 61 = .ok (.baload, 1) := by decide +kernel
theorem dX3_play_62 : decode cX3_play 62 = .ok (.ior, 1) := by decide +kernel
theorem dX3_play_63 : decode cX3_play 63 = .ok (.bastore, 1) := by decide +kernel
theorem dX3_play_64 : decode cX3_play 64 = .ok (.aload_n 0, 1) := by decide +kernel
theorem dX3_play_65 : decode cX3_play 65 = .ok (.getfield 18, 3) := by decide +kernel
theorem dX3_play_68 : decode cX3_play 68 = .ok (.iload_n 2, 1) := by decide +kernel
theorem dX3_play_69 : decode cX3_play 69 = .ok (.aaload, 1) := by decide +kernel
theorem dX3_play_70 : decode cX3_play 70 = .ok (.iload_n 1, 1) := by decide +kernel
theorem dX3_play_71 : decode cX3_play 71 = .ok (.iconst 0, 1) := by decide +kernel
theorem dX3_play_72 : decode cX3_play 72 = .ok (.bastore, 1) := by decide +kernel
theorem dX3_play_73 : decode cX3_play 73 = .ok (.aload_n 0, 1) := by decide +kernel
theorem dX3_play_74 : decode cX3_play 74 = .ok (.aload_n 0, 1) := by decide +kernel
theorem dX3_play_75 : decode cX3_play 75 = .ok (.getfield 33, 3) := by decide +kernel
theorem dX3_play_78 : decode cX3_play 78 = .ok (.iload_n 1, 1) := by decide +kernel
theorem dX3_play_79 : decode cX3_play 79 = .ok (.invokestatic 112, 3) := by decide +kernel
theorem dX3_play_82 : decode cX3_play 82 = .ok (.putfield 33, 3) := by decide +kernel
theorem dX3_play_85 : decode cX3_play 85 = .ok (.aload_n 0, 1) := by decide +kernel
theorem dX3_play_86 : decode cX3_play 86 = .ok (.getfield 33, 3) := by decide +kernel
theorem dX3_play_89 : decode cX3_play 89 = .ok (.arraylength, 1) := by decide +kernel
theorem dX3_play_90 : decode cX3_play 90 = .ok (.iconst 4, 1) := by decide +kernel
theorem dX3_play_91 : decode cX3_play 91 = .ok (.if_icmp .ne 7, 3) := by decide +kernel
theorem dX3_play_94 : decode cX3_play 94 = .ok (.aload_n 0, 1) := by decide +kernel
theorem dX3_play_95 : decode cX3_play 95 = .ok (.invokevirtual 138, 3) := by decide +kernel
theorem dX3_play_98 : decode cX3_play 98 = .ok (.aload_n 0, 1) := by decide +kernel
theorem dX3_play_99 : decode cX3_play 99 = .ok (.getfield 10, 3) := by decide +kernel
theorem dX3_play_102 : decode cX3_play 102 = .ok (.iload_n 1, 1) := by decide +kernel
theorem dX3_play_103 : decode cX3_play 103 = .ok (.invokevirtual 141, 3) := by decide +kernel
theorem dX3_play_106 : decode cX3_play 106 = .ok (.aload_n 0, 1) := by decide +kernel
theorem dX3_play_107 : decode cX3_play 107 = .ok (.invokevirtual 119, 3) := by decide +kernel
theorem dX3_play_110 : decode cX3_play 110 = .ok (.if_icmp .ne 7, 3) := by decide +kernel
theorem dX3_play_113 : decode cX3_play 113 = .ok (.iconst 1, 1) := by decide +kernel
theorem dX3_play_114 : decode cX3_play 114 = .ok (.goto 4, 3) := by decide +kernel
theorem dX3_play_117 : decode cX3_play 117 = .ok (.iconst 0, 1) := by decide +kernel
theorem dX3_play_118 : decode cX3_play 118 = .ok (.ireturn, 1) := by decide +kernel
theorem dX3_end_0 : decode cX3_end 0 = .ok (.aload_n 0, 1) := by decide +kernel
theorem dX3_end_1 : decode cX3_end 1 = .ok (.aload_n 0, 1) := by decide +kernel
theorem dX3_end_2 : decode cX3_end 2 = .ok (.getfield 33, 3) := by decide +kernel
theorem dX3_end_5 : decode cX3_end 5 = .ok (.aload_n 0, 1) := by decide +kernel
theorem dX3_end_6 : decode cX3_end 6 = .ok (.getfield 25, 3) := by decide +kernel
theorem dX3_end_9 : decode cX3_end 9 = .ok (.iconst 1, 1) := by decide +kernel
theorem dX3_end_10 : decode cX3_end 10 = .ok (.iaload, 1) := by decide +kernel
theorem dX3_end_11 : decode cX3_end 11 = .ok (.invokevirtual 144, 3) := by decide +kernel
theorem dX3_end_14 : decode cX3_end 14 = .ok (.istore_n 1, 1) := by decide +kernel
theorem dX3_end_15 : decode cX3_end 15 = .ok (.bipush 6, 2) := by decide +kernel
theorem dX3_end_17 : decode cX3_end 17 = .ok (.newarray .int, 2) := by decide +kernel
theorem dX3_end_19 : decode cX3_end 19 = .ok (.dup, 1) := by decide +kernel
theorem dX3_end_20 : decode cX3_end 20 = .ok (.iconst 0, 1) := by decide +kernel
theorem dX3_end_21 : decode cX3_end 21 = .ok (.aload_n 0, 1) := by decide +kernel
theorem dX3_end_22 : decode cX3_end 22 = .ok (.getfield 102, 3) := by decide +kernel
theorem dX3_end_25 : decode cX3_end 25 = .ok (.iastore, 1) := by decide +kernel
theorem dX3_end_26 : decode cX3_end 26 = .ok (.dup, 1) := by decide +kernel
theorem dX3_end_27 : decode cX3_end 27 = .ok (.iconst 1, 1) := by decide +kernel
theorem dX3_end_28 : decode cX3_end 28 = .ok (.iload_n 1, 1) := by decide +kernel
theorem dX3_end_29 : decode cX3_end 29 = .ok (.iastore, 1) := by decide +kernel
theorem dX3_end_30 : decode cX3_end 30 = .ok (.dup, 1) := by decide +kernel
theorem dX3_end_31 : decode cX3_end 31 = .ok (.iconst 2, 1) := by decide +kernel
theorem dX3_end_32 : decode cX3_end 32 = .ok (.iconst 0, 1) := by decide +kernel
theorem dX3_end_33 : decode cX3_end 33 = .ok (.iastore, 1) := by decide +kernel
theorem dX3_end_34 : decode cX3_end 34 = .ok (.dup, 1) := by decide +kernel
theorem dX3_end_35 : decode cX3_end 35 = .ok (.iconst 3, 1) := by decide +kernel
theorem dX3_end_36 : decode cX3_end 36 = .ok (.iconst 0, 1) := by decide +kernel
theorem dX3_end_37 : decode cX3_end 37 = .ok (.iastore, 1) := by decide +kernel
theorem dX3_end_38 : decode cX3_end 38 = .ok (.dup, 1) := by decide +kernel
theorem dX3_end_39 : decode cX3_end 39 = .ok (.iconst 4, 1) := by decide +kernel
theorem dX3_end_40 : decode cX3_end 40 = .ok (.iconst 0, 1) := by decide +kernel
theorem dX3_end_41 : decode cX3_end 41 = .ok (.iastore, 1) := by decide +kernel
theorem dX3_end_42 : decode cX3_end 42 = .ok (.dup, 1) := by decide +kernel
theorem dX3_end_43 : decode cX3_end 43 = .ok (.iconst 5, 1) := by decide +kernel
theorem dX3_end_44 : decode cX3_end 44 = .ok (.iconst 0, 1) := by decide +kernel
theorem dX3_end_45 : decode cX3_end 45 = .ok (.iastore, 1) := by decide +kernel
theorem dX3_end_46 : decode cX3_end 46 = .ok (.astore_n 2, 1) := by decide +kernel
theorem dX3_end_47 : decode cX3_end 47 = .ok (.iconst 0, 1) := by decide +kernel
theorem dX3_end_48 : decode cX3_end 48 = .ok (.istore_n 3, 1) := by decide +kernel
theorem dX3_end_49 : decode cX3_end 49 = .ok (.iload_n 3, 1) := by decide +kernel
theorem dX3_end_50 : decode cX3_end 50 = .ok (.iconst 4, 1) := by decide +kernel
theorem dX3_end_51 : decode cX3_end 51 = .ok (.if_icmp .ge 27, 3) := by decide +kernel
theorem dX3_end_54 : decode cX3_end 54 = .ok (.aload_n 2, 1) := by decide +kernel
theorem dX3_end_55 : decode cX3_end 55 = .ok (.iconst 2, 1) := by decide +kernel
theorem dX3_end_56 : decode cX3_end 56 = .ok (.aload_n 0, 1) := by decide +kernel
theorem dX3_end_57 : decode cX3_end 57 = .ok (.getfield 102, 3) := by decide +kernel
theorem dX3_end_60 : decode cX3_end 60 = .ok (.iload_n 3, 1) := by decide +kernel
theorem dX3_end_61 : decode cX3_end 61 = .ok (.iadd, 1) := by decide +kernel
theorem dX3_end_62 : decode cX3_end 62 = .ok (.iconst 4, 1) := by decide +kernel
theorem dX3_end_63 : decode cX3_end 63 = .ok (.irem, 1) := by decide +kernel
theorem dX3_end_64 : decode cX3_end 64 = .ok (.iadd, 1) := by decide +kernel
theorem dX3_end_65 : decode cX3_end 65 = .ok (.aload_n 0, 1) := by decide +kernel
theorem dX3_end_66 : decode cX3_end 66 = .ok (.getfield 33, 3) := by decide +kernel
theorem dX3_end_69 : decode cX3_end 69 = .ok (.iload_n 3, 1) := by decide +kernel
theorem dX3_end_70 : decode cX3_end 70 = .ok (.iaload, 1) := by decide +kernel
theorem dX3_end_71 : decode cX3_end 71 = .ok (.iastore, 1) := by decide +kernel
theorem dX3_end_72 : decode cX3_end 72 = .ok (.iinc 3 1, 3) := by decide +kernel
theorem dX3_end_75 : decode cX3_end 75 = .ok (.goto (-26), 3) := by decide +kernel
theorem dX3_end_78 : decode cX3_end 78 = .ok (.aload_n 0, 1) := by decide +kernel
theorem dX3_end_79 : decode cX3_end 79 = .ok (.getfield 29, 3) := by decide +kernel
theorem dX3_end_82 : decode cX3_end 82 = .ok (.arraylength, 1) := by decide +kernel
theorem dX3_end_83 : decode cX3_end 83 = .ok (.iconst 1, 1) := by decide +kernel
theorem dX3_end_84 : decode cX3_end 84 = .ok (.iadd, 1) := by decide +kernel
theorem dX3_end_85 : decode cX3_end 85 = .ok (.anewarray 28, 3) := by decide +kernel
theorem dX3_end_88 : decode cX3_end 88 = .ok (.astore_n 3, 1) := by decide +kernel
theorem dX3_end_89 : decode cX3_end 89 = .ok (.aload_n 0, 1) := by decide +kernel
theorem dX3_end_90 : decode cX3_end 90 = .ok (.getfield 29, 3) := by decide +kernel
theorem dX3_end_93 : decode cX3_end 93 = .ok (.iconst 0, 1) := by decide +kernel
theorem dX3_end_94 : decode cX3_end 94 = .ok (.aload_n 3, 1) := by decide +kernel
theorem dX3_end_95 : decode cX3_end 95 = .ok (.iconst 0, 1) := by decide +kernel
theorem dX3_end_96 : decode cX3_end 96 = .ok (.aload_n 0, 1) := by decide +kernel
theorem dX3_end_97 : decode cX3_end 97 = .ok (.getfield 29, 3) := by decide +kernel
theorem dX3_end_100 : decode cX3_end 100 = .ok (.arraylength, 1) := by decide +kernel
theorem dX3_end_101 : decode cX3_end 101 = .ok (.invokestatic 69, 3) := by decide +kernel
theorem dX3_end_104 : decode cX3_end 104 = .ok (.aload_n 3, 1) := by decide +kernel
theorem dX3_end_105 : decode cX3_end 105 = .ok (.aload_n 0, 1) := by decide +kernel
theorem dX3_end_106 : decode cX3_end 106 = .ok (.getfield 29, 3) := by decide +kernel
theorem dX3_end_109 : decode cX3_end 109 = .ok (.arraylength, 1) := by decide +kernel
theorem dX3_end_110 : decode cX3_end 110 = .ok (.aload_n 2, 1) := by decide +kernel
theorem dX3_end_111 : decode cX3_end 111 = .ok (.aastore, 1) := by decide +kernel
theorem dX3_end_112 : decode cX3_end 112 = .ok (.aload_n 0, 1) := by decide +kernel
theorem dX3_end_113 : decode cX3_end 113 = .ok (.aload_n 3, 1) := by decide +kernel
theorem dX3_end_114 : decode cX3_end 114 = .ok (.putfield 29, 3) := by decide +kernel
theorem dX3_end_117 : decode cX3_end 117 = .ok (.aload_n 0, 1) := by decide +kernel
theorem dX3_end_118 : decode cX3_end 118 = .ok (.getfield 46, 3) := by decide +kernel
theorem dX3_end_121 : decode cX3_end 121 = .ok (.iload_n 1, 1) := by decide +kernel
theorem dX3_end_122 : decode cX3_end 122 = .ok (.iconst 2, 1) := by decide +kernel
theorem dX3_end_123 : decode cX3_end 123 = .ok (.irem, 1) := by decide +kernel
theorem dX3_end_124 : decode cX3_end 124 = .ok (.dup2, 1) := by decide +kernel
theorem dX3_end_125 : decode cX3_end 125 = .ok (.iaload, 1) := by decide +kernel
theorem dX3_end_126 : decode cX3_end 126 = .ok (.iconst 1, 1) := by decide +kernel
theorem dX3_end_127 : decode cX3_end 127 = .ok (.iadd, 1) := by decide +kernel
theorem dX3_end_128 : decode cX3_end 128 = .ok (.iastore, 1) := by decide +kernel
theorem dX3_end_129 : decode cX3_end 129 = .ok (.aload_n 0, 1) := by decide +kernel
theorem dX3_end_130 : decode cX3_end 130 = .ok (.iload_n 1, 1) := by decide +kernel
theorem dX3_end_131 : decode cX3_end 131 = .ok (.putfield 102, 3) := by decide +kernel
theorem dX3_end_134 : decode cX3_end 134 = .ok (.aload_n 0, 1) := by decide +kernel
theorem dX3_end_135 : decode cX3_end 135 = .ok (.iconst 0, 1) := by decide +kernel
theorem dX3_end_136 : decode cX3_end 136 = .ok (.newarray .int, 2) := by decide +kernel
theorem dX3_end_138 : decode cX3_end 138 = .ok (.putfield 33, 3) := by decide +kernel
theorem dX3_end_141 : decode cX3_end 141 = .ok (.aload_n 0, 1) := by decide +kernel
theorem dX3_end_142 : decode cX3_end 142 = .ok (.getfield 29, 3) := by decide +kernel
theorem dX3_end_145 : decode cX3_end 145 = .ok (.arraylength, 1) := by decide +kernel
theorem dX3_end_146 : decode cX3_end 146 = .ok (.aload_n 0, 1) := by decide +kernel
theorem dX3_end_147 : decode cX3_end 147 = .ok (.getfield 95, 3) := by decide +kernel
theorem dX3_end_150 : decode cX3_end 150 = .ok (.if_icmp .ge 4, 3) := by decide +kernel
theorem dX3_end_153 : decode cX3_end 153 = .ok (.return_, 1) := by decide +kernel
theorem dX3_end_154 : decode cX3_end 154 = .ok (.aload_n 0, 1) := by decide +kernel
theorem dX3_end_155 : decode cX3_end 155 = .ok (.iconst 3, 1) := by decide +kernel
theorem dX3_end_156 : decode cX3_end 156 = .ok (.putfield 75, 3) := by decide +kernel
theorem dX3_end_159 : decode cX3_end 159 = .ok (.aload_n 0, 1) := by decide +kernel
theorem dX3_end_160 : decode cX3_end 160 = .ok (.dup, 1) := by decide +kernel
theorem dX3_end_161 : decode cX3_end 161 = .ok (.getfield 147, 3) := by decide +kernel
theorem dX3_end_164 : decode cX3_end 164 = .ok (.iconst 1, 1) := by decide +kernel
theorem dX3_end_165 : decode cX3_end 165 = .ok (.iadd, 1) := by decide +kernel
theorem dX3_end_166 : decode cX3_end 166 = .ok (.putfield 147, 3) := by decide +kernel
theorem dX3_end_169 : decode cX3_end 169 = .ok (.iconst 0, 1) := by decide +kernel
theorem dX3_end_170 : decode cX3_end 170 = .ok (.istore 4, 2) := by decide +kernel
theorem dX3_end_172 : decode cX3_end 172 = .ok (.iload 4, 2) := by decide +kernel
theorem dX3_end_174 : decode cX3_end 174 = .ok (.iconst 4, 1) := by decide +kernel
theorem dX3_end_175 : decode cX3_end 175 = .ok (.if_icmp .ge 63, 3) := by decide +kernel
theorem dX3_end_178 : decode cX3_end 178 = .ok (.aload_n 0, 1) := by decide +kernel
theorem dX3_end_179 : decode cX3_end 179 = .ok (.getfield 36, 3) := by decide +kernel
theorem dX3_end_182 : decode cX3_end 182 = .ok (.iload 4, 2) := by decide +kernel
theorem dX3_end_184 : decode cX3_end 184 = .ok (.baload, 1) := by decide +kernel
theorem dX3_end_185 : decode cX3_end 185 = .ok (.ifCond .eq 47, 3) := by decide +kernel
theorem dX3_end_188 : decode cX3_end 188 = .ok (.aload_n 0, 1) := by decide +kernel
theorem dX3_end_189 : decode cX3_end 189 = .ok (.getfield 46, 3) := by decide +kernel
theorem dX3_end_192 : decode cX3_end 192 = .ok (.iload 4, 2) := by decide +kernel
theorem dX3_end_194 : decode cX3_end 194 = .ok (.iconst 2, 1) := by decide +kernel
theorem dX3_end_195 : decode cX3_end 195 = .ok (.irem, 1) := by decide +kernel
theorem dX3_end_196 : decode cX3_end 196 = .ok (.iaload, 1) := by decide +kernel
theorem dX3_end_197 : decode cX3_end 197 = .ok (.iconst 1, 1) := by decide +kernel
theorem dX3_end_198 : decode cX3_end 198 = .ok (.if_icmp .ge 6, 3) := by decide +kernel
theorem dX3_end_201 : decode cX3_end 201 = .ok (.goto 31, 3) := by decide +kernel
theorem dX3_end_204 : decode cX3_end 204 = .ok (.aload_n 0, 1) := by decide +kernel
theorem dX3_end_205 : decode cX3_end 205 = .ok (.getfield 46, 3) := by decide +kernel
theorem dX3_end_208 : decode cX3_end 208 = .ok (.iload 4, 2) := by decide +kernel
theorem dX3_end_210 : decode cX3_end 210 = .ok (.iconst 2, 1) := by decide +kernel
theorem dX3_end_211 : decode cX3_end 211 = .ok (.irem, 1) := by decide +kernel
theorem dX3_end_212 : decode cX3_end 212 = .ok (.dup2, 1) := by decide +kernel
theorem dX3_end_213 : decode cX3_end 213 = .ok (.iaload, 1) := by decide +kernel
theorem dX3_end_214 : decode cX3_end 214 = .ok (.iconst 1, 1) := by decide +kernel
theorem dX3_end_215 : decode cX3_end 215 = .ok (.isub, 1) := by decide +kernel
theorem dX3_end_216 : decode cX3_end 216 = .ok (.iastore, 1) := by decide +kernel
theorem dX3_end_217 : decode cX3_end 217 = .ok (.aload_n 0, 1) := by decide +kernel
theorem dX3_end_218 : decode cX3_end 218 = .ok (.getfield 46, 3) := by decide +kernel
theorem dX3_end_221 : decode cX3_end 221 = .ok (.iconst 1, 1) := by decide +kernel
theorem dX3_end_222 : decode cX3_end 222 = .ok (.iload 4, 2) := by decide +kernel
theorem dX3_end_224 : decode cX3_end 224 = .ok (.iconst 2, 1) := by decide +kernel
theorem dX3_end_225 : decode cX3_end 225 = .ok (.irem, 1) := by decide +kernel
theorem dX3_end_226 : decode cX3_end 226 = .ok (.isub, 1) := by decide +kernel
theorem dX3_end_227 : decode cX3_end 227 = .ok (.dup2, 1) := by decide +kernel
theorem dX3_end_228 : decode cX3_end 228 = .ok (.iaload, 1) := by decide +kernel
theorem dX3_end_229 : decode cX3_end 229 = .ok (.iconst 1, 1) := by decide +kernel
theorem dX3_end_230 : decode cX3_end 230 = .ok (.iadd, 1) := by decide +kernel
theorem dX3_end_231 : decode cX3_end 231 = .ok (.iastore, 1) := by decide +kernel
theorem dX3_end_232 : decode cX3_end 232 = .ok (.iinc 4 1, 3) := by decide +kernel
theorem dX3_end_235 : decode cX3_end 235 = .ok (.goto (-63), 3) := by decide +kernel
theorem dX3_end_238 : decode cX3_end 238 = .ok (.aload_n 0, 1) := by decide +kernel
theorem dX3_end_239 : decode cX3_end 239 = .ok (.aload_n 0, 1) := by decide +kernel
theorem dX3_end_240 : decode cX3_end 240 = .ok (.getfield 46, 3) := by decide +kernel
theorem dX3_end_243 : decode cX3_end 243 = .ok (.aload_n 0, 1) := by decide +kernel
theorem dX3_end_244 : decode cX3_end 244 = .ok (.getfield 25, 3) := by decide +kernel
theorem dX3_end_247 : decode cX3_end 247 = .ok (.iconst 2, 1) := by decide +kernel
theorem dX3_end_248 : decode cX3_end 248 = .ok (.iaload, 1) := by decide +kernel
theorem dX3_end_249 : decode cX3_end 249 = .ok (.iconst 2, 1) := by decide +kernel
theorem dX3_end_250 : decode cX3_end 250 = .ok (.irem, 1) := by decide +kernel
theorem dX3_end_251 : decode cX3_end 251 = .ok (.iaload, 1) := by decide +kernel
theorem dX3_end_252 : decode cX3_end 252 = .ok (.invokevirtual 150, 3) := by decide +kernel
theorem dX3_end_255 : decode cX3_end 255 = .ok (.istore 4, 2) := by decide +kernel
theorem dX3_end_257 : decode cX3_end 257 = .ok (.aload_n 0, 1) := by decide +kernel
theorem dX3_end_258 : decode cX3_end 258 = .ok (.getfield 49, 3) := by decide +kernel
theorem dX3_end_261 : decode cX3_end 261 = .ok (.iload 4, 2) := by decide +kernel
theorem dX3_end_263 : decode cX3_end 263 = .ok (.ifCond .le 14, 3) := by decide +kernel
theorem dX3_end_266 : decode cX3_end 266 = .ok (.aload_n 0, 1) := by decide +kernel
theorem dX3_end_267 : decode cX3_end 267 = .ok (.getfield 25, 3) := by decide +kernel
theorem dX3_end_270 : decode cX3_end 270 = .ok (.iconst 2, 1) := by decide +kernel
theorem dX3_end_271 : decode cX3_end 271 = .ok (.iaload, 1) := by decide +kernel
theorem dX3_end_272 : decode cX3_end 272 = .ok (.iconst 2, 1) := by decide +kernel
theorem dX3_end_273 : decode cX3_end 273 = .ok (.irem, 1) := by decide +kernel
theorem dX3_end_274 : decode cX3_end 274 = .ok (.goto 13, 3) := by decide +kernel
theorem dX3_end_277 : decode cX3_end 277 = .ok (.iconst 1, 1) := by decide +kernel
theorem dX3_end_278 : decode cX3_end 278 = .ok (.aload_n 0, 1) := by decide +kernel
theorem dX3_end_279 : decode cX3_end 279 = .ok (.getfield 25, 3) := by decide +kernel
theorem dX3_end_282 : decode cX3_end 282 = .ok (.iconst 2, 1) := by decide +kernel
theorem dX3_end_283 : decode cX3_end 283 = .ok (.iaload, 1) := by decide +kernel
theorem dX3_end_284 : decode cX3_end 284 = .ok (.iconst 2, 1) := by decide +kernel
theorem dX3_end_285 : decode cX3_end 285 = .ok (.irem, 1) := by decide +kernel
theorem dX3_end_286 : decode cX3_end 286 = .ok (.isub, 1) := by decide +kernel
theorem dX3_end_287 : decode cX3_end 287 = .ok (.dup2, 1) := by decide +kernel
theorem dX3_end_288 : decode cX3_end 288 = .ok (.iaload, 1) := by decide +kernel
theorem dX3_end_289 : decode cX3_end 289 = .ok (.iload 4, 2) := by decide +kernel
theorem dX3_end_291 : decode cX3_end 291 = .ok (.invokestatic 153, 3) := by decide +kernel
theorem dX3_end_294 : decode cX3_end 294 = .ok (.iadd, 1) := by decide +kernel
theorem dX3_end_295 : decode cX3_end 295 = .ok (.iastore, 1) := by decide +kernel
theorem dX3_end_296 : decode cX3_end 296 = .ok (.return_, 1) := by decide +kernel
theorem dX3_worth_0 : decode cX3_worth 0 = .ok (.aload_n 0, 1) := by decide +kernel
theorem dX3_worth_1 : decode cX3_worth 1 = .ok (.getfield 25, 3) := by decide +kernel
theorem dX3_worth_4 : decode cX3_worth 4 = .ok (.iconst 1, 1) := by decide +kernel
theorem dX3_worth_5 : decode cX3_worth 5 = .ok (.iaload, 1) := by decide +kernel
theorem dX3_worth_6 : decode cX3_worth 6 = .ok (.iconst 2, 1) := by decide +kernel
theorem dX3_worth_7 : decode cX3_worth 7 = .ok (.if_icmp .ge 8, 3) := by decide +kernel
theorem dX3_worth_10 : decode cX3_worth 10 = .ok (.bipush 20, 2) := by decide +kernel
theorem dX3_worth_12 : decode cX3_worth 12 = .ok (.goto 20, 3) := by decide +kernel
theorem dX3_worth_15 : decode cX3_worth 15 = .ok (.aload_n 0, 1) := by decide +kernel
theorem dX3_worth_16 : decode cX3_worth 16 = .ok (.getfield 25, 3) := by decide +kernel
theorem dX3_worth_19 : decode cX3_worth 19 = .ok (.iconst 1, 1) := by decide +kernel
theorem dX3_worth_20 : decode cX3_worth 20 = .ok (.iaload, 1) := by decide +kernel
theorem dX3_worth_21 : decode cX3_worth 21 = .ok (.iconst 4, 1) := by decide +kernel
theorem dX3_worth_22 : decode cX3_worth 22 = .ok (.if_icmp .ge 8, 3) := by decide +kernel
theorem dX3_worth_25 : decode cX3_worth 25 = .ok (.bipush 30, 2) := by decide +kernel
theorem dX3_worth_27 : decode cX3_worth 27 = .ok (.goto 5, 3) := by decide +kernel
theorem dX3_worth_30 : decode cX3_worth 30 = .ok (.bipush 40, 2) := by decide +kernel
theorem dX3_worth_32 : decode cX3_worth 32 = .ok (.istore_n 2, 1) := by decide +kernel
theorem dX3_worth_33 : decode cX3_worth 33 = .ok (.iload_n 1, 1) := by decide +kernel
theorem dX3_worth_34 : decode cX3_worth 34 = .ok (.aload_n 0, 1) := by decide +kernel
theorem dX3_worth_35 : decode cX3_worth 35 = .ok (.getfield 25, 3) := by decide +kernel
theorem dX3_worth_38 : decode cX3_worth 38 = .ok (.iconst 0, 1) := by decide +kernel
theorem dX3_worth_39 : decode cX3_worth 39 = .ok (.iaload, 1) := by decide +kernel
theorem dX3_worth_40 : decode cX3_worth 40 = .ok (.isub, 1) := by decide +kernel
theorem dX3_worth_41 : decode cX3_worth 41 = .ok (.istore_n 3, 1) := by decide +kernel
theorem dX3_worth_42 : decode cX3_worth 42 = .ok (.iload_n 3, 1) := by decide +kernel
theorem dX3_worth_43 : decode cX3_worth 43 = .ok (.ifCond .ge 17, 3) := by decide +kernel
theorem dX3_worth_46 : decode cX3_worth 46 = .ok (.bipush 50, 2) := by decide +kernel
theorem dX3_worth_48 : decode cX3_worth 48 = .ok (.aload_n 0, 1) := by decide +kernel
theorem dX3_worth_49 : decode cX3_worth 49 = .ok (.getfield 25, 3) := by decide +kernel
theorem dX3_worth_52 : decode cX3_worth 52 = .ok (.iconst 3, 1) := by decide +kernel
theorem dX3_worth_53 : decode cX3_worth 53 = .ok (.iaload, 1) := by decide +kernel
theorem dX3_worth_54 : decode cX3_worth 54 = .ok (.imul, 1) := by decide +kernel
theorem dX3_worth_55 : decode cX3_worth 55 = .ok (.iload_n 3, 1) := by decide +kernel
theorem dX3_worth_56 : decode cX3_worth 56 = .ok (.imul, 1) := by decide +kernel
theorem dX3_worth_57 : decode cX3_worth 57 = .ok (.goto 41, 3) := by decide +kernel
theorem dX3_worth_60 : decode cX3_worth 60 = .ok (.aload_n 0, 1) := by decide +kernel
theorem dX3_worth_61 : decode cX3_worth 61 = .ok (.getfield 25, 3) := by decide +kernel
theorem dX3_worth_64 : decode cX3_worth 64 = .ok (.iconst 3, 1) := by decide +kernel
theorem dX3_worth_65 : decode cX3_worth 65 = .ok (.iaload, 1) := by decide +kernel
theorem dX3_worth_66 : decode cX3_worth 66 = .ok (.aload_n 0, 1) := by decide +kernel
theorem dX3_worth_67 : decode cX3_worth 67 = .ok (.getfield 25, 3) := by decide +kernel
theorem dX3_worth_70 : decode cX3_worth 70 = .ok (.iconst 0, 1) := by decide +kernel
theorem dX3_worth_71 : decode cX3_worth 71 = .ok (.iaload, 1) := by decide +kernel
theorem dX3_worth_72 : decode cX3_worth 72 = .ok (.iload_n 2, 1) := by decide +kernel
theorem dX3_worth_73 : decode cX3_worth 73 = .ok (.imul, 1) := by decide +kernel
theorem dX3_worth_74 : decode cX3_worth 74 = .ok (.bipush 20, 2) := by decide +kernel
theorem dX3_worth_76 : decode cX3_worth 76 = .ok (.iload_n 3, 1) := by decide +kernel
theorem dX3_worth_77 : decode cX3_worth 77 = .ok (.imul, 1) := by decide +kernel
theorem dX3_worth_78 : decode cX3_worth 78 = .ok (.iadd, 1) := by decide +kernel
theorem dX3_worth_79 : decode cX3_worth 79 = .ok (.imul, 1) := by decide +kernel
theorem dX3_worth_80 : decode cX3_worth 80 = .ok (.aload_n 0, 1) := by decide +kernel
theorem dX3_worth_81 : decode cX3_worth 81 = .ok (.getfield 25, 3) := by decide +kernel
theorem dX3_worth_84 : decode cX3_worth 84 = .ok (.iconst 0, 1) := by decide +kernel
theorem dX3_worth_85 : decode cX3_worth 85 = .ok (.iaload, 1) := by decide +kernel
theorem dX3_worth_86 : decode cX3_worth 86 = .ok (.bipush 6, 2) := by decide +kernel
theorem dX3_worth_88 : decode cX3_worth 88 = .ok (.if_icmp .lt 8, 3) := by decide +kernel
theorem dX3_worth_91 : decode cX3_worth 91 = .ok (.bipush 50, 2) := by decide +kernel
theorem dX3_worth_93 : decode cX3_worth 93 = .ok (.goto 4, 3) := by decide +kernel
theorem dX3_worth_96 : decode cX3_worth 96 = .ok (.iconst 0, 1) := by decide +kernel
theorem dX3_worth_97 : decode cX3_worth 97 = .ok (.iadd, 1) := by decide +kernel
theorem dX3_worth_98 : decode cX3_worth 98 = .ok (.ireturn, 1) := by decide +kernel
theorem dX3_back_0 : decode cX3_back 0 = .ok (.aload_n 0, 1) := by decide +kernel
theorem dX3_back_1 : decode cX3_back 1 = .ok (.getfield 33, 3) := by decide +kernel
theorem dX3_back_4 : decode cX3_back 4 = .ok (.arraylength, 1) := by decide +kernel
theorem dX3_back_5 : decode cX3_back 5 = .ok (.ifCond .ne 5, 3) := by decide +kernel
theorem dX3_back_8 : decode cX3_back 8 = .ok (.iconst 1, 1) := by decide +kernel
theorem dX3_back_9 : decode cX3_back 9 = .ok (.ireturn, 1) := by decide +kernel
theorem dX3_back_10 : decode cX3_back 10 = .ok (.aload_n 0, 1) := by decide +kernel
theorem dX3_back_11 : decode cX3_back 11 = .ok (.getfield 33, 3) := by decide +kernel
theorem dX3_back_14 : decode cX3_back 14 = .ok (.aload_n 0, 1) := by decide +kernel
theorem dX3_back_15 : decode cX3_back 15 = .ok (.getfield 33, 3) := by decide +kernel
theorem dX3_back_18 : decode cX3_back 18 = .ok (.arraylength, 1) := by decide +kernel
theorem dX3_back_19 : decode cX3_back 19 = .ok (.iconst 1, 1) := by decide +kernel
theorem dX3_back_20 : decode cX3_back 20 = .ok (.isub, 1) := by decide +kernel
theorem dX3_back_21 : decode cX3_back 21 = .ok (.iaload, 1) := by decide +kernel
theorem dX3_back_22 : decode cX3_back 22 = .ok (.istore_n 1, 1) := by decide +kernel
theorem dX3_back_23 : decode cX3_back 23 = .ok (.aload_n 0, 1) := by decide +kernel
theorem dX3_back_24 : decode cX3_back 24 = .ok (.getfield 33, 3) := by decide +kernel
theorem dX3_back_27 : decode cX3_back 27 = .ok (.arraylength, 1) := by decide +kernel
theorem dX3_back_28 : decode cX3_back 28 = .ok (.iconst 1, 1) := by decide +kernel
theorem dX3_back_29 : decode cX3_back 29 = .ok (.isub, 1) := by decide +kernel
theorem dX3_back_30 : decode cX3_back 30 = .ok (.newarray .int, 2) := by decide +kernel
theorem dX3_back_32 : decode cX3_back 32 = .ok (.astore_n 2, 1) := by decide +kernel
theorem dX3_back_33 : decode cX3_back 33 = .ok (.aload_n 0, 1) := by decide +kernel
theorem dX3_back_34 : decode cX3_back 34 = .ok (.getfield 33, 3) := by decide +kernel
theorem dX3_back_37 : decode cX3_back 37 = .ok (.iconst 0, 1) := by decide +kernel
theorem dX3_back_38 : decode cX3_back 38 = .ok (.aload_n 2, 1) := by decide +kernel
theorem dX3_back_39 : decode cX3_back 39 = .ok (.iconst 0, 1) := by decide +kernel
theorem dX3_back_40 : decode cX3_back 40 = .ok (.aload_n 2, 1) := by decide +kernel
theorem dX3_back_41 : decode cX3_back 41 = .ok (.arraylength, 1) := by decide +kernel
theorem dX3_back_42 : decode cX3_back 42 = .ok (.invokestatic 69, 3) := by decide +kernel
theorem dX3_back_45 : decode cX3_back 45 = .ok (.aload_n 0, 1) := by decide +kernel
theorem dX3_back_46 : decode cX3_back 46 = .ok (.aload_n 2, 1) := by decide +kernel
theorem dX3_back_47 : decode cX3_back 47 = .ok (.putfield 33, 3) := by decide +kernel
theorem dX3_back_50 : decode cX3_back 50 = .ok (.aload_n 0, 1) := by decide +kernel
theorem dX3_back_51 : decode cX3_back 51 = .ok (.invokevirtual 119, 3) := by decide +kernel
theorem dX3_back_54 : decode cX3_back 54 = .ok (.istore_n 3, 1) := by decide +kernel
theorem dX3_back_55 : decode cX3_back 55 = .ok (.aload_n 0, 1) := by decide +kernel
theorem dX3_back_56 : decode cX3_back 56 = .ok (.getfield 18, 3) := by decide +kernel
theorem dX3_back_59 : decode cX3_back 59 = .ok (.iload_n 3, 1) := by decide +kernel
theorem dX3_back_60 : decode cX3_back 60 = .ok (.aaload, 1) := by decide +kernel
theorem dX3_back_61 : decode cX3_back 61 = .ok (.iload_n 1, 1) := by decide +kernel
theorem dX3_back_62 : decode cX3_back 62 = .ok (.iconst 1, 1) := by decide +kernel
theorem dX3_back_63 : decode cX3_back 63 = .ok (.bastore, 1) := by decide +kernel
theorem dX3_back_64 : decode cX3_back 64 = .ok (.aload_n 0, 1) := by decide +kernel
theorem dX3_back_65 : decode cX3_back 65 = .ok (.getfield 36, 3) := by decide +kernel
theorem dX3_back_68 : decode cX3_back 68 = .ok (.iload_n 3, 1) := by decide +kernel
theorem dX3_back_69 : decode cX3_back 69 = .ok (.aload_n 0, 1) := by decide +kernel
theorem dX3_back_70 : decode cX3_back 70 = .ok (.getfield 43, 3) := by decide +kernel
theorem dX3_back_73 : decode cX3_back 73 = .ok (.aload_n 0, 1) := by decide +kernel
theorem dX3_back_74 : decode cX3_back 74 = .ok (.getfield 33, 3) := by decide +kernel
theorem dX3_back_77 : decode cX3_back 77 = .ok (.arraylength, 1) := by decide +kernel
theorem dX3_back_78 : decode cX3_back 78 = .ok (.baload, 1) := by decide +kernel
theorem dX3_back_79 : decode cX3_back 79 = .ok (.bastore, 1) := by decide +kernel
theorem dX3_back_80 : decode cX3_back 80 = .ok (.aload_n 0, 1) := by decide +kernel
theorem dX3_back_81 : decode cX3_back 81 = .ok (.getfield 10, 3) := by decide +kernel
theorem dX3_back_84 : decode cX3_back 84 = .ok (.invokevirtual 156, 3) := by decide +kernel
theorem dX3_back_87 : decode cX3_back 87 = .ok (.iload_n 1, 1) := by decide +kernel
theorem dX3_back_88 : decode cX3_back 88 = .ok (.if_icmp .ne 7, 3) := by decide +kernel
theorem dX3_back_91 : decode cX3_back 91 = .ok (.iconst 1, 1) := by decide +kernel
theorem dX3_back_92 : decode cX3_back 92 = .ok (.goto 4, 3) := by decide +kernel
theorem dX3_back_95 : decode cX3_back 95 = .ok (.iconst 0, 1) := by decide +kernel
theorem dX3_back_96 : decode cX3_back 96 = .ok (.ireturn, 1) := by decide +kernel
theorem dX3_step_0 : decode cX3_step 0 = .ok (.aload_n 0, 1) := by decide +kernel
theorem dX3_step_1 : decode cX3_step 1 = .ok (.bipush 7, 2) := by decide +kernel
theorem dX3_step_3 : decode cX3_step 3 = .ok (.invokevirtual 78, 3) := by decide +kernel
theorem dX3_step_6 : decode cX3_step 6 = .ok (.ifCond .ne 12, 3) := by decide +kernel
theorem dX3_step_9 : decode cX3_step 9 = .ok (.aload_n 0, 1) := by decide +kernel
theorem dX3_step_10 : decode cX3_step 10 = .ok (.invokevirtual 159, 3) := by decide +kernel
theorem dX3_step_13 : decode cX3_step 13 = .ok (.ifCond .ne 5, 3) := by decide +kernel
theorem dX3_step_16 : decode cX3_step 16 = .ok (.iconst 0, 1) := by decide +kernel
theorem dX3_step_17 : decode cX3_step 17 = .ok (.ireturn, 1) := by decide +kernel
theorem dX3_step_18 : decode cX3_step 18 = .ok (.aload_n 0, 1) := by decide +kernel
theorem dX3_step_19 : decode cX3_step 19 = .ok (.aload_n 0, 1) := by decide +kernel
theorem dX3_step_20 : decode cX3_step 20 = .ok (.aload_n 0, 1) := by decide +kernel
theorem dX3_step_21 : decode cX3_step 21 = .ok (.iconst 5, 1) := by decide +kernel
theorem dX3_step_22 : decode cX3_step 22 = .ok (.invokevirtual 78, 3) := by decide +kernel
theorem dX3_step_25 : decode cX3_step 25 = .ok (.ifCond .le 7, 3) := by decide +kernel
theorem dX3_step_28 : decode cX3_step 28 = .ok (.iconst 1, 1) := by decide +kernel
theorem dX3_step_29 : decode cX3_step 29 = .ok (.goto 4, 3) := by decide +kernel
theorem dX3_step_32 : decode cX3_step 32 = .ok (.iconst 0, 1) := by decide +kernel
theorem dX3_step_33 : decode cX3_step 33 = .ok (.invokevirtual 162, 3) := by decide +kernel
theorem dX3_step_36 : decode cX3_step 36 = .ok (.invokevirtual 166, 3) := by decide +kernel
theorem dX3_step_39 : decode cX3_step 39 = .ok (.ireturn, 1) := by decide +kernel
theorem dJ6_numberOfLeadingZeros_0f7a4_0 : decode cJ6_numberOfLeadingZeros_0f7a4 0 = .ok (.iload_n 0, 1) := by decide +kernel
theorem dJ6_numberOfLeadingZeros_0f7a4_1 : decode cJ6_numberOfLeadingZeros_0f7a4 1 = .ok (.ifCond .gt 14, 3) := by decide +kernel
theorem dJ6_numberOfLeadingZeros_0f7a4_4 : decode cJ6_numberOfLeadingZeros_0f7a4 4 = .ok (.iload_n 0, 1) := by decide +kernel
theorem dJ6_numberOfLeadingZeros_0f7a4_5 : decode cJ6_numberOfLeadingZeros_0f7a4 5 = .ok (.ifCond .ne 8, 3) := by decide +kernel
theorem dJ6_numberOfLeadingZeros_0f7a4_8 : decode cJ6_numberOfLeadingZeros_0f7a4 8 = .ok (.bipush 32, 2) := by decide +kernel
theorem dJ6_numberOfLeadingZeros_0f7a4_10 : decode cJ6_numberOfLeadingZeros_0f7a4 10 = .ok (.goto 4, 3) := by decide +kernel
theorem dJ6_numberOfLeadingZeros_0f7a4_13 : decode cJ6_numberOfLeadingZeros_0f7a4 13 = .ok (.iconst 0, 1) := by decide +kernel
theorem dJ6_numberOfLeadingZeros_0f7a4_14 : decode cJ6_numberOfLeadingZeros_0f7a4 14 = .ok (.ireturn, 1) := by decide +kernel
theorem dJ6_numberOfLeadingZeros_0f7a4_15 : decode cJ6_numberOfLeadingZeros_0f7a4 15 = .ok (.bipush 31, 2) := by decide +kernel
theorem dJ6_numberOfLeadingZeros_0f7a4_17 : decode cJ6_numberOfLeadingZeros_0f7a4 17 = .ok (.istore_n 1, 1) := by decide +kernel
theorem dJ6_numberOfLeadingZeros_0f7a4_18 : decode cJ6_numberOfLeadingZeros_0f7a4 18 = .ok (.iload_n 0, 1) := by decide +kernel
theorem dJ6_numberOfLeadingZeros_0f7a4_19 : decode cJ6_numberOfLeadingZeros_0f7a4 19 = .ok (.ldc_w 264, 3) := by decide +kernel
theorem dJ6_numberOfLeadingZeros_0f7a4_22 : decode cJ6_numberOfLeadingZeros_0f7a4 22 = .ok (.if_icmp .lt 11, 3) := by decide +kernel
theorem dJ6_numberOfLeadingZeros_0f7a4_25 : decode cJ6_numberOfLeadingZeros_0f7a4 25 = .ok (.iinc 1 (-16), 3) := by decide +kernel
theorem dJ6_numberOfLeadingZeros_0f7a4_28 : decode cJ6_numberOfLeadingZeros_0f7a4 28 = .ok (.iload_n 0, 1) := by decide +kernel
theorem dJ6_numberOfLeadingZeros_0f7a4_29 : decode cJ6_numberOfLeadingZeros_0f7a4 29 = .ok (.bipush 16, 2) := by decide +kernel
theorem dJ6_numberOfLeadingZeros_0f7a4_31 : decode cJ6_numberOfLeadingZeros_0f7a4 31 = .ok (.iushr, 1) := by decide +kernel
theorem dJ6_numberOfLeadingZeros_0f7a4_32 : decode cJ6_numberOfLeadingZeros_0f7a4 32 = .ok (.istore_n 0, 1) := by decide +kernel
theorem dJ6_numberOfLeadingZeros_0f7a4_33 : decode cJ6_numberOfLeadingZeros_0f7a4 33 = .ok (.iload_n 0, 1) := by decide +kernel
theorem dJ6_numberOfLeadingZeros_0f7a4_34 : decode cJ6_numberOfLeadingZeros_0f7a4 34 = .ok (.sipush 256, 3) := by decide +kernel
theorem dJ6_numberOfLeadingZeros_0f7a4_37 : decode cJ6_numberOfLeadingZeros_0f7a4 37 = .ok (.if_icmp .lt 11, 3) := by decide +kernel
theorem dJ6_numberOfLeadingZeros_0f7a4_40 : decode cJ6_numberOfLeadingZeros_0f7a4 40 = .ok (.iinc 1 (-8), 3) := by decide +kernel
theorem dJ6_numberOfLeadingZeros_0f7a4_43 : decode cJ6_numberOfLeadingZeros_0f7a4 43 = .ok (.iload_n 0, 1) := by decide +kernel
theorem dJ6_numberOfLeadingZeros_0f7a4_44 : decode cJ6_numberOfLeadingZeros_0f7a4 44 = .ok (.bipush 8, 2) := by decide +kernel
theorem dJ6_numberOfLeadingZeros_0f7a4_46 : decode cJ6_numberOfLeadingZeros_0f7a4 46 = .ok (.iushr, 1) := by decide +kernel
theorem dJ6_numberOfLeadingZeros_0f7a4_47 : decode cJ6_numberOfLeadingZeros_0f7a4 47 = .ok (.istore_n 0, 1) := by decide +kernel
theorem dJ6_numberOfLeadingZeros_0f7a4_48 : decode cJ6_numberOfLeadingZeros_0f7a4 48 = .ok (.iload_n 0, 1) := by decide +kernel
theorem dJ6_numberOfLeadingZeros_0f7a4_49 : decode cJ6_numberOfLeadingZeros_0f7a4 49 = .ok (.bipush 16, 2) := by decide +kernel
theorem dJ6_numberOfLeadingZeros_0f7a4_51 : decode cJ6_numberOfLeadingZeros_0f7a4 51 = .ok (.if_icmp .lt 10, 3) := by decide +kernel
theorem dJ6_numberOfLeadingZeros_0f7a4_54 : decode cJ6_numberOfLeadingZeros_0f7a4 54 = .ok (.iinc 1 (-4), 3) := by decide +kernel
theorem dJ6_numberOfLeadingZeros_0f7a4_57 : decode cJ6_numberOfLeadingZeros_0f7a4 57 = .ok (.iload_n 0, 1) := by decide +kernel
theorem dJ6_numberOfLeadingZeros_0f7a4_58 : decode cJ6_numberOfLeadingZeros_0f7a4 58 = .ok (.iconst 4, 1) := by decide +kernel
theorem dJ6_numberOfLeadingZeros_0f7a4_59 : decode cJ6_numberOfLeadingZeros_0f7a4 59 = .ok (.iushr, 1) := by decide +kernel
theorem dJ6_numberOfLeadingZeros_0f7a4_60 : decode cJ6_numberOfLeadingZeros_0f7a4 60 = .ok (.istore_n 0, 1) := by decide +kernel
theorem dJ6_numberOfLeadingZeros_0f7a4_61 : decode cJ6_numberOfLeadingZeros_0f7a4 61 = .ok (.iload_n 0, 1) := by decide +kernel
theorem dJ6_numberOfLeadingZeros_0f7a4_62 : decode cJ6_numberOfLeadingZeros_0f7a4 62 = .ok (.iconst 4, 1) := by decide +kernel
theorem dJ6_numberOfLeadingZeros_0f7a4_63 : decode cJ6_numberOfLeadingZeros_0f7a4 63 = .ok (.if_icmp .lt 10, 3) := by decide +kernel
theorem dJ6_numberOfLeadingZeros_0f7a4_66 : decode cJ6_numberOfLeadingZeros_0f7a4 66 = .ok (.iinc 1 (-2), 3) := by decide +kernel
theorem dJ6_numberOfLeadingZeros_0f7a4_69 : decode cJ6_numberOfLeadingZeros_0f7a4 69 = .ok (.iload_n 0, 1) := by decide +kernel
theorem dJ6_numberOfLeadingZeros_0f7a4_70 : decode cJ6_numberOfLeadingZeros_0f7a4 70 = .ok (.iconst 2, 1) := by decide +kernel
theorem dJ6_numberOfLeadingZeros_0f7a4_71 : decode cJ6_numberOfLeadingZeros_0f7a4 71 = .ok (.iushr, 1) := by decide +kernel
theorem dJ6_numberOfLeadingZeros_0f7a4_72 : decode cJ6_numberOfLeadingZeros_0f7a4 72 = .ok (.istore_n 0, 1) := by decide +kernel
theorem dJ6_numberOfLeadingZeros_0f7a4_73 : decode cJ6_numberOfLeadingZeros_0f7a4 73 = .ok (.iload_n 1, 1) := by decide +kernel
theorem dJ6_numberOfLeadingZeros_0f7a4_74 : decode cJ6_numberOfLeadingZeros_0f7a4 74 = .ok (.iload_n 0, 1) := by decide +kernel
theorem dJ6_numberOfLeadingZeros_0f7a4_75 : decode cJ6_numberOfLeadingZeros_0f7a4 75 = .ok (.iconst 1, 1) := by decide +kernel
theorem dJ6_numberOfLeadingZeros_0f7a4_76 : decode cJ6_numberOfLeadingZeros_0f7a4 76 = .ok (.iushr, 1) := by decide +kernel
theorem dJ6_numberOfLeadingZeros_0f7a4_77 : decode cJ6_numberOfLeadingZeros_0f7a4 77 = .ok (.isub, 1) := by decide +kernel
theorem dJ6_numberOfLeadingZeros_0f7a4_78 : decode cJ6_numberOfLeadingZeros_0f7a4 78 = .ok (.ireturn, 1) := by decide +kernel
theorem dJ6_numberOfTrailingZeros_0f7a4_0 : decode cJ6_numberOfTrailingZeros_0f7a4 0 = .ok (.iload_n 0, 1) := by decide +kernel
theorem dJ6_numberOfTrailingZeros_0f7a4_1 : decode cJ6_numberOfTrailingZeros_0f7a4 1 = .ok (.iconst (-1), 1) := by decide +kernel
theorem dJ6_numberOfTrailingZeros_0f7a4_2 : decode cJ6_numberOfTrailingZeros_0f7a4 2 = .ok (.ixor, 1) := by decide +kernel
theorem dJ6_numberOfTrailingZeros_0f7a4_3 : decode cJ6_numberOfTrailingZeros_0f7a4 3 = .ok (.iload_n 0, 1) := by decide +kernel
theorem dJ6_numberOfTrailingZeros_0f7a4_4 : decode cJ6_numberOfTrailingZeros_0f7a4 4 = .ok (.iconst 1, 1) := by decide +kernel
theorem dJ6_numberOfTrailingZeros_0f7a4_5 : decode cJ6_numberOfTrailingZeros_0f7a4 5 = .ok (.isub, 1) := by decide +kernel
theorem dJ6_numberOfTrailingZeros_0f7a4_6 : decode cJ6_numberOfTrailingZeros_0f7a4 6 = .ok (.iand, 1) := by decide +kernel
theorem dJ6_numberOfTrailingZeros_0f7a4_7 : decode cJ6_numberOfTrailingZeros_0f7a4 7 = .ok (.istore_n 0, 1) := by decide +kernel
theorem dJ6_numberOfTrailingZeros_0f7a4_8 : decode cJ6_numberOfTrailingZeros_0f7a4 8 = .ok (.iload_n 0, 1) := by decide +kernel
theorem dJ6_numberOfTrailingZeros_0f7a4_9 : decode cJ6_numberOfTrailingZeros_0f7a4 9 = .ok (.ifCond .gt 8, 3) := by decide +kernel
theorem dJ6_numberOfTrailingZeros_0f7a4_12 : decode cJ6_numberOfTrailingZeros_0f7a4 12 = .ok (.iload_n 0, 1) := by decide +kernel
theorem dJ6_numberOfTrailingZeros_0f7a4_13 : decode cJ6_numberOfTrailingZeros_0f7a4 13 = .ok (.bipush 32, 2) := by decide +kernel
theorem dJ6_numberOfTrailingZeros_0f7a4_15 : decode cJ6_numberOfTrailingZeros_0f7a4 15 = .ok (.iand, 1) := by decide +kernel
theorem dJ6_numberOfTrailingZeros_0f7a4_16 : decode cJ6_numberOfTrailingZeros_0f7a4 16 = .ok (.ireturn, 1) := by decide +kernel
theorem dJ6_numberOfTrailingZeros_0f7a4_17 : decode cJ6_numberOfTrailingZeros_0f7a4 17 = .ok (.iconst 1, 1) := by decide +kernel
theorem dJ6_numberOfTrailingZeros_0f7a4_18 : decode cJ6_numberOfTrailingZeros_0f7a4 18 = .ok (.istore_n 1, 1) := by decide +kernel
theorem dJ6_numberOfTrailingZeros_0f7a4_19 : decode cJ6_numberOfTrailingZeros_0f7a4 19 = .ok (.iload_n 0, 1) := by decide +kernel
theorem dJ6_numberOfTrailingZeros_0f7a4_20 : decode cJ6_numberOfTrailingZeros_0f7a4 20 = .ok (.ldc_w 264, 3) := by decide +kernel
theorem dJ6_numberOfTrailingZeros_0f7a4_23 : decode cJ6_numberOfTrailingZeros_0f7a4 23 = .ok (.if_icmp .le 11, 3) := by decide +kernel
theorem dJ6_numberOfTrailingZeros_0f7a4_26 : decode cJ6_numberOfTrailingZeros_0f7a4 26 = .ok (.iinc 1 16, 3) := by decide +kernel
theorem dJ6_numberOfTrailingZeros_0f7a4_29 : decode cJ6_numberOfTrailingZeros_0f7a4 29 = .ok (.iload_n 0, 1) := by decide +kernel
theorem dJ6_numberOfTrailingZeros_0f7a4_30 : decode cJ6_numberOfTrailingZeros_0f7a4 30 = .ok (.bipush 16, 2) := by decide +kernel
theorem dJ6_numberOfTrailingZeros_0f7a4_32 : decode cJ6_numberOfTrailingZeros_0f7a4 32 = .ok (.iushr, 1) := by decide +kernel
theorem dJ6_numberOfTrailingZeros_0f7a4_33 : decode cJ6_numberOfTrailingZeros_0f7a4 33 = .ok (.istore_n 0, 1) := by decide +kernel
theorem dJ6_numberOfTrailingZeros_0f7a4_34 : decode cJ6_numberOfTrailingZeros_0f7a4 34 = .ok (.iload_n 0, 1) := by decide +kernel
theorem dJ6_numberOfTrailingZeros_0f7a4_35 : decode cJ6_numberOfTrailingZeros_0f7a4 35 = .ok (.sipush 256, 3) := by decide +kernel
theorem dJ6_numberOfTrailingZeros_0f7a4_38 : decode cJ6_numberOfTrailingZeros_0f7a4 38 = .ok (.if_icmp .le 11, 3) := by decide +kernel
theorem dJ6_numberOfTrailingZeros_0f7a4_41 : decode cJ6_numberOfTrailingZeros_0f7a4 41 = .ok (.iinc 1 8, 3) := by decide +kernel
theorem dJ6_numberOfTrailingZeros_0f7a4_44 : decode cJ6_numberOfTrailingZeros_0f7a4 44 = .ok (.iload_n 0, 1) := by decide +kernel
theorem dJ6_numberOfTrailingZeros_0f7a4_45 : decode cJ6_numberOfTrailingZeros_0f7a4 45 = .ok (.bipush 8, 2) := by decide +kernel
theorem dJ6_numberOfTrailingZeros_0f7a4_47 : decode cJ6_numberOfTrailingZeros_0f7a4 47 = .ok (.iushr, 1) := by decide +kernel
theorem dJ6_numberOfTrailingZeros_0f7a4_48 : decode cJ6_numberOfTrailingZeros_0f7a4 48 = .ok (.istore_n 0, 1) := by decide +kernel
theorem dJ6_numberOfTrailingZeros_0f7a4_49 : decode cJ6_numberOfTrailingZeros_0f7a4 49 = .ok (.iload_n 0, 1) := by decide +kernel
theorem dJ6_numberOfTrailingZeros_0f7a4_50 : decode cJ6_numberOfTrailingZeros_0f7a4 50 = .ok (.bipush 16, 2) := by decide +kernel
theorem dJ6_numberOfTrailingZeros_0f7a4_52 : decode cJ6_numberOfTrailingZeros_0f7a4 52 = .ok (.if_icmp .le 10, 3) := by decide +kernel
theorem dJ6_numberOfTrailingZeros_0f7a4_55 : decode cJ6_numberOfTrailingZeros_0f7a4 55 = .ok (.iinc 1 4, 3) := by decide +kernel
theorem dJ6_numberOfTrailingZeros_0f7a4_58 : decode cJ6_numberOfTrailingZeros_0f7a4 58 = .ok (.iload_n 0, 1) := by decide +kernel
theorem dJ6_numberOfTrailingZeros_0f7a4_59 : decode cJ6_numberOfTrailingZeros_0f7a4 59 = .ok (.iconst 4, 1) := by decide +kernel
theorem dJ6_numberOfTrailingZeros_0f7a4_60 : decode cJ6_numberOfTrailingZeros_0f7a4 60 = .ok (.iushr, 1) := by decide +kernel
theorem dJ6_numberOfTrailingZeros_0f7a4_61 : decode cJ6_numberOfTrailingZeros_0f7a4 61 = .ok (.istore_n 0, 1) := by decide +kernel
theorem dJ6_numberOfTrailingZeros_0f7a4_62 : decode cJ6_numberOfTrailingZeros_0f7a4 62 = .ok (.iload_n 0, 1) := by decide +kernel
theorem dJ6_numberOfTrailingZeros_0f7a4_63 : decode cJ6_numberOfTrailingZeros_0f7a4 63 = .ok (.iconst 4, 1) := by decide +kernel
theorem dJ6_numberOfTrailingZeros_0f7a4_64 : decode cJ6_numberOfTrailingZeros_0f7a4 64 = .ok (.if_icmp .le 10, 3) := by decide +kernel
theorem dJ6_numberOfTrailingZeros_0f7a4_67 : decode cJ6_numberOfTrailingZeros_0f7a4 67 = .ok (.iinc 1 2, 3) := by decide +kernel
theorem dJ6_numberOfTrailingZeros_0f7a4_70 : decode cJ6_numberOfTrailingZeros_0f7a4 70 = .ok (.iload_n 0, 1) := by decide +kernel
theorem dJ6_numberOfTrailingZeros_0f7a4_71 : decode cJ6_numberOfTrailingZeros_0f7a4 71 = .ok (.iconst 2, 1) := by decide +kernel
theorem dJ6_numberOfTrailingZeros_0f7a4_72 : decode cJ6_numberOfTrailingZeros_0f7a4 72 = .ok (.iushr, 1) := by decide +kernel
theorem dJ6_numberOfTrailingZeros_0f7a4_73 : decode cJ6_numberOfTrailingZeros_0f7a4 73 = .ok (.istore_n 0, 1) := by decide +kernel
theorem dJ6_numberOfTrailingZeros_0f7a4_74 : decode cJ6_numberOfTrailingZeros_0f7a4 74 = .ok (.iload_n 1, 1) := by decide +kernel
theorem dJ6_numberOfTrailingZeros_0f7a4_75 : decode cJ6_numberOfTrailingZeros_0f7a4 75 = .ok (.iload_n 0, 1) := by decide +kernel
theorem dJ6_numberOfTrailingZeros_0f7a4_76 : decode cJ6_numberOfTrailingZeros_0f7a4 76 = .ok (.iconst 1, 1) := by decide +kernel
theorem dJ6_numberOfTrailingZeros_0f7a4_77 : decode cJ6_numberOfTrailingZeros_0f7a4 77 = .ok (.iushr, 1) := by decide +kernel
theorem dJ6_numberOfTrailingZeros_0f7a4_78 : decode cJ6_numberOfTrailingZeros_0f7a4 78 = .ok (.iadd, 1) := by decide +kernel
theorem dJ6_numberOfTrailingZeros_0f7a4_79 : decode cJ6_numberOfTrailingZeros_0f7a4 79 = .ok (.ireturn, 1) := by decide +kernel
theorem dJ6_bitCount_0f7a4_0 : decode cJ6_bitCount_0f7a4 0 = .ok (.iload_n 0, 1) := by decide +kernel
theorem dJ6_bitCount_0f7a4_1 : decode cJ6_bitCount_0f7a4 1 = .ok (.iload_n 0, 1) := by decide +kernel
theorem dJ6_bitCount_0f7a4_2 : decode cJ6_bitCount_0f7a4 2 = .ok (.iconst 1, 1) := by decide +kernel
theorem dJ6_bitCount_0f7a4_3 : decode cJ6_bitCount_0f7a4 3 = .ok (.iushr, 1) := by decide +kernel
theorem dJ6_bitCount_0f7a4_4 : decode cJ6_bitCount_0f7a4 4 = .ok (.ldc_w 265, 3) := by decide +kernel
theorem dJ6_bitCount_0f7a4_7 : decode cJ6_bitCount_0f7a4 7 = .ok (.iand, 1) := by decide +kernel
theorem dJ6_bitCount_0f7a4_8 : decode cJ6_bitCount_0f7a4 8 = .ok (.isub, 1) := by decide +kernel
theorem dJ6_bitCount_0f7a4_9 : decode cJ6_bitCount_0f7a4 9 = .ok (.istore_n 0, 1) := by decide +kernel
theorem dJ6_bitCount_0f7a4_10 : decode cJ6_bitCount_0f7a4 10 = .ok (.iload_n 0, 1) := by decide +kernel
theorem dJ6_bitCount_0f7a4_11 : decode cJ6_bitCount_0f7a4 11 = .ok (.ldc_w 266, 3) := by decide +kernel
theorem dJ6_bitCount_0f7a4_14 : decode cJ6_bitCount_0f7a4 14 = .ok (.iand, 1) := by decide +kernel
theorem dJ6_bitCount_0f7a4_15 : decode cJ6_bitCount_0f7a4 15 = .ok (.iload_n 0, 1) := by decide +kernel
theorem dJ6_bitCount_0f7a4_16 : decode cJ6_bitCount_0f7a4 16 = .ok (.iconst 2, 1) := by decide +kernel
theorem dJ6_bitCount_0f7a4_17 : decode cJ6_bitCount_0f7a4 17 = .ok (.iushr, 1) := by decide +kernel
theorem dJ6_bitCount_0f7a4_18 : decode cJ6_bitCount_0f7a4 18 = .ok (.ldc_w 266, 3) := by decide +kernel
theorem dJ6_bitCount_0f7a4_21 : decode cJ6_bitCount_0f7a4 21 = .ok (.iand, 1) := by decide +kernel
theorem dJ6_bitCount_0f7a4_22 : decode cJ6_bitCount_0f7a4 22 = .ok (.iadd, 1) := by decide +kernel
theorem dJ6_bitCount_0f7a4_23 : decode cJ6_bitCount_0f7a4 23 = .ok (.istore_n 0, 1) := by decide +kernel
theorem dJ6_bitCount_0f7a4_24 : decode cJ6_bitCount_0f7a4 24 = .ok (.iload_n 0, 1) := by decide +kernel
theorem dJ6_bitCount_0f7a4_25 : decode cJ6_bitCount_0f7a4 25 = .ok (.iload_n 0, 1) := by decide +kernel
theorem dJ6_bitCount_0f7a4_26 : decode cJ6_bitCount_0f7a4 26 = .ok (.iconst 4, 1) := by decide +kernel
theorem dJ6_bitCount_0f7a4_27 : decode cJ6_bitCount_0f7a4 27 = .ok (.iushr, 1) := by decide +kernel
theorem dJ6_bitCount_0f7a4_28 : decode cJ6_bitCount_0f7a4 28 = .ok (.iadd, 1) := by decide +kernel
theorem dJ6_bitCount_0f7a4_29 : decode cJ6_bitCount_0f7a4 29 = .ok (.ldc_w 267, 3) := by decide +kernel
theorem dJ6_bitCount_0f7a4_32 : decode cJ6_bitCount_0f7a4 32 = .ok (.iand, 1) := by decide +kernel
theorem dJ6_bitCount_0f7a4_33 : decode cJ6_bitCount_0f7a4 33 = .ok (.istore_n 0, 1) := by decide +kernel
theorem dJ6_bitCount_0f7a4_34 : decode cJ6_bitCount_0f7a4 34 = .ok (.iload_n 0, 1) := by decide +kernel
theorem dJ6_bitCount_0f7a4_35 : decode cJ6_bitCount_0f7a4 35 = .ok (.iload_n 0, 1) := by decide +kernel
theorem dJ6_bitCount_0f7a4_36 : decode cJ6_bitCount_0f7a4 36 = .ok (.bipush 8, 2) := by decide +kernel
theorem dJ6_bitCount_0f7a4_38 : decode cJ6_bitCount_0f7a4 38 = .ok (.iushr, 1) := by decide +kernel
theorem dJ6_bitCount_0f7a4_39 : decode cJ6_bitCount_0f7a4 39 = .ok (.iadd, 1) := by decide +kernel
theorem dJ6_bitCount_0f7a4_40 : decode cJ6_bitCount_0f7a4 40 = .ok (.istore_n 0, 1) := by decide +kernel
theorem dJ6_bitCount_0f7a4_41 : decode cJ6_bitCount_0f7a4 41 = .ok (.iload_n 0, 1) := by decide +kernel
theorem dJ6_bitCount_0f7a4_42 : decode cJ6_bitCount_0f7a4 42 = .ok (.iload_n 0, 1) := by decide +kernel
theorem dJ6_bitCount_0f7a4_43 : decode cJ6_bitCount_0f7a4 43 = .ok (.bipush 16, 2) := by decide +kernel
theorem dJ6_bitCount_0f7a4_45 : decode cJ6_bitCount_0f7a4 45 = .ok (.iushr, 1) := by decide +kernel
theorem dJ6_bitCount_0f7a4_46 : decode cJ6_bitCount_0f7a4 46 = .ok (.iadd, 1) := by decide +kernel
theorem dJ6_bitCount_0f7a4_47 : decode cJ6_bitCount_0f7a4 47 = .ok (.istore_n 0, 1) := by decide +kernel
theorem dJ6_bitCount_0f7a4_48 : decode cJ6_bitCount_0f7a4 48 = .ok (.iload_n 0, 1) := by decide +kernel
theorem dJ6_bitCount_0f7a4_49 : decode cJ6_bitCount_0f7a4 49 = .ok (.bipush 63, 2) := by decide +kernel
theorem dJ6_bitCount_0f7a4_51 : decode cJ6_bitCount_0f7a4 51 = .ok (.iand, 1) := by decide +kernel
theorem dJ6_bitCount_0f7a4_52 : decode cJ6_bitCount_0f7a4 52 = .ok (.ireturn, 1) := by decide +kernel
theorem dJ9_abs_0f7a4_0 : decode cJ9_abs_0f7a4 0 = .ok (.iload_n 0, 1) := by decide +kernel
theorem dJ9_abs_0f7a4_1 : decode cJ9_abs_0f7a4 1 = .ok (.ifCond .ge 8, 3) := by decide +kernel
theorem dJ9_abs_0f7a4_4 : decode cJ9_abs_0f7a4 4 = .ok (.iload_n 0, 1) := by decide +kernel
theorem dJ9_abs_0f7a4_5 : decode cJ9_abs_0f7a4 5 = .ok (.ineg, 1) := by decide +kernel
theorem dJ9_abs_0f7a4_6 : decode cJ9_abs_0f7a4 6 = .ok (.goto 4, 3) := by decide +kernel
theorem dJ9_abs_0f7a4_9 : decode cJ9_abs_0f7a4 9 = .ok (.iload_n 0, 1) := by decide +kernel
theorem dJ9_abs_0f7a4_10 : decode cJ9_abs_0f7a4 10 = .ok (.ireturn, 1) := by decide +kernel
theorem dJ9_max_7cf53_0 : decode cJ9_max_7cf53 0 = .ok (.iload_n 0, 1) := by decide +kernel
theorem dJ9_max_7cf53_1 : decode cJ9_max_7cf53 1 = .ok (.iload_n 1, 1) := by decide +kernel
theorem dJ9_max_7cf53_2 : decode cJ9_max_7cf53 2 = .ok (.if_icmp .lt 7, 3) := by decide +kernel
theorem dJ9_max_7cf53_5 : decode cJ9_max_7cf53 5 = .ok (.iload_n 0, 1) := by decide +kernel
theorem dJ9_max_7cf53_6 : decode cJ9_max_7cf53 6 = .ok (.goto 4, 3) := by decide +kernel
theorem dJ9_max_7cf53_9 : decode cJ9_max_7cf53 9 = .ok (.iload_n 1, 1) := by decide +kernel
theorem dJ9_max_7cf53_10 : decode cJ9_max_7cf53 10 = .ok (.ireturn, 1) := by decide +kernel
theorem dJ9_min_7cf53_0 : decode cJ9_min_7cf53 0 = .ok (.iload_n 0, 1) := by decide +kernel
theorem dJ9_min_7cf53_1 : decode cJ9_min_7cf53 1 = .ok (.iload_n 1, 1) := by decide +kernel
theorem dJ9_min_7cf53_2 : decode cJ9_min_7cf53 2 = .ok (.if_icmp .gt 7, 3) := by decide +kernel
theorem dJ9_min_7cf53_5 : decode cJ9_min_7cf53 5 = .ok (.iload_n 0, 1) := by decide +kernel
theorem dJ9_min_7cf53_6 : decode cJ9_min_7cf53 6 = .ok (.goto 4, 3) := by decide +kernel
theorem dJ9_min_7cf53_9 : decode cJ9_min_7cf53 9 = .ok (.iload_n 1, 1) := by decide +kernel
theorem dJ9_min_7cf53_10 : decode cJ9_min_7cf53 10 = .ok (.ireturn, 1) := by decide +kernel
theorem dL_below_0 : decode cL_below 0 = .ok (.iload_n 0, 1) := by decide +kernel
theorem dL_below_1 : decode cL_below 1 = .ok (.ldc 7, 2) := by decide +kernel
theorem dL_below_3 : decode cL_below 3 = .ok (.iand, 1) := by decide +kernel
theorem dL_below_4 : decode cL_below 4 = .ok (.iload_n 1, 1) := by decide +kernel
theorem dL_below_5 : decode cL_below 5 = .ok (.irem, 1) := by decide +kernel
theorem dL_below_6 : decode cL_below 6 = .ok (.ireturn, 1) := by decide +kernel
theorem dL_cell_0 : decode cL_cell 0 = .ok (.iload_n 1, 1) := by decide +kernel
theorem dL_cell_1 : decode cL_cell 1 = .ok (.aload_n 0, 1) := by decide +kernel
theorem dL_cell_2 : decode cL_cell 2 = .ok (.arraylength, 1) := by decide +kernel
theorem dL_cell_3 : decode cL_cell 3 = .ok (.if_icmp .ge 9, 3) := by decide +kernel
theorem dL_cell_6 : decode cL_cell 6 = .ok (.aload_n 0, 1) := by decide +kernel
theorem dL_cell_7 : decode cL_cell 7 = .ok (.iload_n 1, 1) := by decide +kernel
theorem dL_cell_8 : decode cL_cell 8 = .ok (.iaload, 1) := by decide +kernel
theorem dL_cell_9 : decode cL_cell 9 = .ok (.goto 9, 3) := by decide +kernel
theorem dL_cell_12 : decode cL_cell 12 = .ok (.ldc 8, 2) := by decide +kernel
theorem dL_cell_14 : decode cL_cell 14 = .ok (.iload_n 1, 1) := by decide +kernel
theorem dL_cell_15 : decode cL_cell 15 = .ok (.iconst 3, 1) := by decide +kernel
theorem dL_cell_16 : decode cL_cell 16 = .ok (.iadd, 1) := by decide +kernel
theorem dL_cell_17 : decode cL_cell 17 = .ok (.imul, 1) := by decide +kernel
theorem dL_cell_18 : decode cL_cell 18 = .ok (.ireturn, 1) := by decide +kernel
theorem dL_law_0 : decode cL_law 0 = .ok (.iconst 0, 1) := by decide +kernel
theorem dL_law_1 : decode cL_law 1 = .ok (.istore_n 1, 1) := by decide +kernel
theorem dL_law_2 : decode cL_law 2 = .ok (.iload_n 1, 1) := by decide +kernel
theorem dL_law_3 : decode cL_law 3 = .ok (.iconst 3, 1) := by decide +kernel
theorem dL_law_4 : decode cL_law 4 = .ok (.if_icmp .ge 923, 3) := by decide +kernel
theorem dL_law_7 : decode cL_law 7 = .ok (.new 9, 3) := by decide +kernel
theorem dL_law_10 : decode cL_law 10 = .ok (.dup, 1) := by decide +kernel
theorem dL_law_11 : decode cL_law 11 = .ok (.aload_n 0, 1) := by decide +kernel
theorem dL_law_12 : decode cL_law 12 = .ok (.bipush 31, 2) := by decide +kernel
theorem dL_law_14 : decode cL_law 14 = .ok (.iload_n 1, 1) := by decide +kernel
theorem dL_law_15 : decode cL_law 15 = .ok (.imul, 1) := by decide +kernel
theorem dL_law_16 : decode cL_law 16 = .ok (.bipush 7, 2) := by decide +kernel
theorem dL_law_18 : decode cL_law 18 = .ok (.iadd, 1) := by decide +kernel
theorem dL_law_19 : decode cL_law 19 = .ok (.invokespecial 11, 3) := by decide +kernel
theorem dL_law_22 : decode cL_law 22 = .ok (.astore_n 2, 1) := by decide +kernel
theorem dL_law_23 : decode cL_law 23 = .ok (.aload_n 2, 1) := by decide +kernel
theorem dL_law_24 : decode cL_law 24 = .ok (.getfield 14, 3) := by decide +kernel
theorem dL_law_27 : decode cL_law 27 = .ok (.astore_n 3, 1) := by decide +kernel
theorem dL_law_28 : decode cL_law 28 = .ok (.iconst 0, 1) := by decide +kernel
theorem dL_law_29 : decode cL_law 29 = .ok (.istore 4, 2) := by decide +kernel
theorem dL_law_31 : decode cL_law 31 = .ok (.iconst 0, 1) := by decide +kernel
theorem dL_law_32 : decode cL_law 32 = .ok (.istore 5, 2) := by decide +kernel
theorem dL_law_34 : decode cL_law 34 = .ok (.iload 5, 2) := by decide +kernel
theorem dL_law_36 : decode cL_law 36 = .ok (.iconst 3, 1) := by decide +kernel
theorem dL_law_37 : decode cL_law 37 = .ok (.if_icmp .ge 884, 3) := by decide +kernel
theorem dL_law_40 : decode cL_law 40 = .ok (.aload_n 2, 1) := by decide +kernel
theorem dL_law_41 : decode cL_law 41 = .ok (.invokevirtual 18, 3) := by decide +kernel
theorem dL_law_44 : decode cL_law 44 = .ok (.ifCond .eq 24, 3) := by decide +kernel
theorem dL_law_47 : decode cL_law 47 = .ok (.aload_n 2, 1) := by decide +kernel
theorem dL_law_48 : decode cL_law 48 = .ok (.iconst 1, 1) := by decide +kernel
theorem dL_law_49 : decode cL_law 49 = .ok (.aload_n 2, 1) := by decide +kernel
theorem dL_law_50 : decode cL_law 50 = .ok (.iconst 5, 1) := by decide +kernel
theorem dL_law_51 : decode cL_law 51 = .ok (.invokevirtual 22, 3) := by decide +kernel
theorem dL_law_54 : decode cL_law 54 = .ok (.iadd, 1) := by decide +kernel
theorem dL_law_55 : decode cL_law 55 = .ok (.invokevirtual 26, 3) := by decide +kernel
theorem dL_law_58 : decode cL_law 58 = .ok (.ifCond .eq 10, 3) := by decide +kernel
theorem dL_law_61 : decode cL_law 61 = .ok (.aload_n 2, 1) := by decide +kernel
theorem dL_law_62 : decode cL_law 62 = .ok (.invokevirtual 30, 3) := by decide +kernel
theorem dL_law_65 : decode cL_law 65 = .ok (.ifCond .ne 5, 3) := by decide +kernel
theorem dL_law_68 : decode cL_law 68 = .ok (.iconst 0, 1) := by decide +kernel
theorem dL_law_69 : decode cL_law 69 = .ok (.ireturn, 1) := by decide +kernel
theorem dL_law_70 : decode cL_law 70 = .ok (.iconst 0, 1) := by decide +kernel
theorem dL_law_71 : decode cL_law 71 = .ok (.istore 6, 2) := by decide +kernel
theorem dL_law_73 : decode cL_law 73 = .ok (.iload 6, 2) := by decide +kernel
theorem dL_law_75 : decode cL_law 75 = .ok (.bipush 34, 2) := by decide +kernel
theorem dL_law_77 : decode cL_law 77 = .ok (.if_icmp .ge 732, 3) := by decide +kernel
theorem dL_law_80 : decode cL_law 80 = .ok (.aload_n 2, 1) := by decide +kernel
theorem dL_law_81 : decode cL_law 81 = .ok (.getfield 33, 3) := by decide +kernel
theorem dL_law_84 : decode cL_law 84 = .ok (.iconst 3, 1) := by decide +kernel
theorem dL_law_85 : decode cL_law 85 = .ok (.if_icmp .ge 724, 3) := by decide +kernel
theorem dL_law_88 : decode cL_law 88 = .ok (.aload_n 2, 1) := by decide +kernel
theorem dL_law_89 : decode cL_law 89 = .ok (.getfield 33, 3) := by decide +kernel
theorem dL_law_92 : decode cL_law 92 = .ok (.iconst 1, 1) := by decide +kernel
theorem dL_law_93 : decode cL_law 93 = .ok (.if_icmp .ne 33, 3) := by decide +kernel
theorem dL_law_96 : decode cL_law 96 = .ok (.aload_n 2, 1) := by decide +kernel
theorem dL_law_97 : decode cL_law 97 = .ok (.aload_n 2, 1) := by decide +kernel
theorem dL_law_98 : decode cL_law 98 = .ok (.iconst 3, 1) := by decide +kernel
theorem dL_law_99 : decode cL_law 99 = .ok (.invokevirtual 22, 3) := by decide +kernel
theorem dL_law_102 : decode cL_law 102 = .ok (.ifCond .le 7, 3) := by decide +kernel
theorem dL_law_105 : decode cL_law 105 = .ok (.iconst 0, 1) := by decide +kernel
theorem dL_law_106 : decode cL_law 106 = .ok (.goto 11, 3) := by decide +kernel
theorem dL_law_109 : decode cL_law 109 = .ok (.iconst 1, 1) := by decide +kernel
theorem dL_law_110 : decode cL_law 110 = .ok (.aload_n 2, 1) := by decide +kernel
theorem dL_law_111 : decode cL_law 111 = .ok (.bipush 42, 2) := by decide +kernel
theorem dL_law_113 : decode cL_law 113 = .ok (.invokevirtual 22, 3) := by decide +kernel
theorem dL_law_116 : decode cL_law 116 = .ok (.iadd, 1) := by decide +kernel
theorem dL_law_117 : decode cL_law 117 = .ok (.invokevirtual 37, 3) := by decide +kernel
theorem dL_law_120 : decode cL_law 120 = .ok (.ifCond .eq 13, 3) := by decide +kernel
theorem dL_law_123 : decode cL_law 123 = .ok (.goto 12, 3) := by decide +kernel
theorem dL_law_126 : decode cL_law 126 = .ok (.aload_n 2, 1) := by decide +kernel
theorem dL_law_127 : decode cL_law 127 = .ok (.invokevirtual 40, 3) := by decide +kernel
theorem dL_law_130 : decode cL_law 130 = .ok (.ifCond .ne 5, 3) := by decide +kernel
theorem dL_law_133 : decode cL_law 133 = .ok (.iconst 0, 1) := by decide +kernel
theorem dL_law_134 : decode cL_law 134 = .ok (.ireturn, 1) := by decide +kernel
theorem dL_law_135 : decode cL_law 135 = .ok (.iload 6, 2) := by decide +kernel
theorem dL_law_137 : decode cL_law 137 = .ok (.iconst 4, 1) := by decide +kernel
theorem dL_law_138 : decode cL_law 138 = .ok (.irem, 1) := by decide +kernel
theorem dL_law_139 : decode cL_law 139 = .ok (.iconst 3, 1) := by decide +kernel
theorem dL_law_140 : decode cL_law 140 = .ok (.if_icmp .ne 663, 3) := by decide +kernel
theorem dL_law_143 : decode cL_law 143 = .ok (.aload_n 2, 1) := by decide +kernel
theorem dL_law_144 : decode cL_law 144 = .ok (.getfield 33, 3) := by decide +kernel
theorem dL_law_147 : decode cL_law 147 = .ok (.iconst 2, 1) := by decide +kernel
theorem dL_law_148 : decode cL_law 148 = .ok (.if_icmp .ne 18, 3) := by decide +kernel
theorem dL_law_151 : decode cL_law 151 = .ok (.aload_n 2, 1) := by decide +kernel
theorem dL_law_152 : decode cL_law 152 = .ok (.aload_n 2, 1) := by decide +kernel
theorem dL_law_153 : decode cL_law 153 = .ok (.invokevirtual 43, 3) := by decide +kernel
theorem dL_law_156 : decode cL_law 156 = .ok (.invokevirtual 47, 3) := by decide +kernel
theorem dL_law_159 : decode cL_law 159 = .ok (.iconst 3, 1) := by decide +kernel
theorem dL_law_160 : decode cL_law 160 = .ok (.if_icmp .ne 6, 3) := by decide +kernel
theorem dL_law_163 : decode cL_law 163 = .ok (.goto 640, 3) := by decide +kernel
theorem dL_law_166 : decode cL_law 166 = .ok (.aload_n 3, 1) := by decide +kernel
theorem dL_law_167 : decode cL_law 167 = .ok (.invokevirtual 50, 3) := by decide +kernel
theorem dL_law_170 : decode cL_law 170 = .ok (.lstore 7, 2) := by decide +kernel
theorem dL_law_172 : decode cL_law 172 = .ok (.iconst 0, 1) := by decide +kernel
theorem dL_law_173 : decode cL_law 173 = .ok (.istore 9, 2) := by decide +kernel
theorem dL_law_175 : decode cL_law 175 = .ok (.iconst 0, 1) := by decide +kernel
theorem dL_law_176 : decode cL_law 176 = .ok (.istore 10, 2) := by decide +kernel
theorem dL_law_178 : decode cL_law 178 = .ok (.iload 10, 2) := by decide +kernel
theorem dL_law_180 : decode cL_law 180 = .ok (.iconst 4, 1) := by decide +kernel
theorem dL_law_181 : decode cL_law 181 = .ok (.if_icmp .ge 109, 3) := by decide +kernel
theorem dL_law_184 : decode cL_law 184 = .ok (.aload_n 3, 1) := by decide +kernel
theorem dL_law_185 : decode cL_law 185 = .ok (.iload 10, 2) := by decide +kernel
theorem dL_law_187 : decode cL_law 187 = .ok (.iconst 4, 1) := by decide +kernel
theorem dL_law_188 : decode cL_law 188 = .ok (.iconst 0, 1) := by decide +kernel
theorem dL_law_189 : decode cL_law 189 = .ok (.invokevirtual 56, 3) := by decide +kernel
theorem dL_law_192 : decode cL_law 192 = .ok (.istore 11, 2) := by decide +kernel
theorem dL_law_194 : decode cL_law 194 = .ok (.iload 9, 2) := by decide +kernel
theorem dL_law_196 : decode cL_law 196 = .ok (.iload 11, 2) := by decide +kernel
theorem dL_law_198 : decode cL_law 198 = .ok (.iadd, 1) := by decide +kernel
theorem dL_law_199 : decode cL_law 199 = .ok (.istore 9, 2) := by decide +kernel
theorem dL_law_201 : decode cL_law 201 = .ok (.aload_n 3, 1) := by decide +kernel
theorem dL_law_202 : decode cL_law 202 = .ok (.iload 10, 2) := by decide +kernel
theorem dL_law_204 : decode cL_law 204 = .ok (.iconst 0, 1) := by decide +kernel
theorem dL_law_205 : decode cL_law 205 = .ok (.iconst 0, 1) := by decide +kernel
theorem dL_law_206 : decode cL_law 206 = .ok (.invokevirtual 56, 3) := by decide +kernel
theorem dL_law_209 : decode cL_law 209 = .ok (.aload_n 3, 1) := by decide +kernel
theorem dL_law_210 : decode cL_law 210 = .ok (.iload 10, 2) := by decide +kernel
theorem dL_law_212 : decode cL_law 212 = .ok (.iconst 1, 1) := by decide +kernel
theorem dL_law_213 : decode cL_law 213 = .ok (.iconst 0, 1) := by decide +kernel
theorem dL_law_214 : decode cL_law 214 = .ok (.invokevirtual 56, 3) := by decide +kernel
theorem dL_law_217 : decode cL_law 217 = .ok (.iadd, 1) := by decide +kernel
theorem dL_law_218 : decode cL_law 218 = .ok (.aload_n 3, 1) := by decide +kernel
theorem dL_law_219 : decode cL_law 219 = .ok (.iload 10, 2) := by decide +kernel
theorem dL_law_221 : decode cL_law 221 = .ok (.iconst 2, 1) := by decide +kernel
theorem dL_law_222 : decode cL_law 222 = .ok (.iconst 0, 1) := by decide +kernel
theorem dL_law_223 : decode cL_law 223 = .ok (.invokevirtual 56, 3) := by decide +kernel
theorem dL_law_226 : decode cL_law 226 = .ok (.iadd, 1) := by decide +kernel
theorem dL_law_227 : decode cL_law 227 = .ok (.aload_n 3, 1) := by decide +kernel
theorem dL_law_228 : decode cL_law 228 = .ok (.iload 10, 2) := by decide +kernel
theorem dL_law_230 : decode cL_law 230 = .ok (.iconst 3, 1) := by decide +kernel
theorem dL_law_231 : decode cL_law 231 = .ok (.iconst 0, 1) := by decide +kernel
theorem dL_law_232 : decode cL_law 232 = .ok (.invokevirtual 56, 3) := by decide +kernel
theorem dL_law_235 : decode cL_law 235 = .ok (.iadd, 1) := by decide +kernel
theorem dL_law_236 : decode cL_law 236 = .ok (.iload 11, 2) := by decide +kernel
theorem dL_law_238 : decode cL_law 238 = .ok (.if_icmp .ne 44, 3) := by decide +kernel
theorem dL_law_241 : decode cL_law 241 = .ok (.iload 11, 2) := by decide +kernel
theorem dL_law_243 : decode cL_law 243 = .ok (.ifCond .le 41, 3) := by decide +kernel
theorem dL_law_246 : decode cL_law 246 = .ok (.aload_n 3, 1) := by decide +kernel
theorem dL_law_247 : decode cL_law 247 = .ok (.iload 10, 2) := by decide +kernel
theorem dL_law_249 : decode cL_law 249 = .ok (.aload_n 3, 1) := by decide +kernel
theorem dL_law_250 : decode cL_law 250 = .ok (.iload 10, 2) := by decide +kernel
theorem dL_law_252 : decode cL_law 252 = .ok (.iconst 4, 1) := by decide +kernel
theorem dL_law_253 : decode cL_law 253 = .ok (.iconst 1, 1) := by decide +kernel
theorem dL_law_254 : decode cL_law 254 = .ok (.invokevirtual 56, 3) := by decide +kernel
theorem dL_law_257 : decode cL_law 257 = .ok (.invokevirtual 60, 3) := by decide +kernel
theorem dL_law_260 : decode cL_law 260 = .ok (.ifCond .eq 22, 3) := by decide +kernel
theorem dL_law_263 : decode cL_law 263 = .ok (.aload_n 3, 1) := by decide +kernel
theorem dL_law_264 : decode cL_law 264 = .ok (.iload 10, 2) := by decide +kernel
theorem dL_law_266 : decode cL_law 266 = .ok (.iconst 4, 1) := by decide +kernel
theorem dL_law_267 : decode cL_law 267 = .ok (.iconst 2, 1) := by decide +kernel
theorem dL_law_268 : decode cL_law 268 = .ok (.invokevirtual 56, 3) := by decide +kernel
theorem dL_law_271 : decode cL_law 271 = .ok (.aload_n 3, 1) := by decide +kernel
theorem dL_law_272 : decode cL_law 272 = .ok (.iload 10, 2) := by decide +kernel
theorem dL_law_274 : decode cL_law 274 = .ok (.iconst 4, 1) := by decide +kernel
theorem dL_law_275 : decode cL_law 275 = .ok (.iconst 1, 1) := by decide +kernel
theorem dL_law_276 : decode cL_law 276 = .ok (.invokevirtual 56, 3) := by decide +kernel
theorem dL_law_279 : decode cL_law 279 = .ok (.if_icmp .le 5, 3) := by decide +kernel
theorem dL_law_282 : decode cL_law 282 = .ok (.iconst 0, 1) := by decide +kernel
theorem dL_law_283 : decode cL_law 283 = .ok (.ireturn, 1) := by decide +kernel
theorem dL_law_284 : decode cL_law 284 = .ok (.iinc 10 1, 3) := by decide +kernel
theorem dL_law_287 : decode cL_law 287 = .ok (.goto (-109), 3) := by decide +kernel
theorem dL_law_290 : decode cL_law 290 = .ok (.iload 9, 2) := by decide +kernel
theorem dL_law_292 : decode cL_law 292 = .ok (.aload_n 3, 1) := by decide +kernel
theorem dL_law_293 : decode cL_law 293 = .ok (.iconst 5, 1) := by decide +kernel
theorem dL_law_294 : decode cL_law 294 = .ok (.invokevirtual 64, 3) := by decide +kernel
theorem dL_law_297 : decode cL_law 297 = .ok (.iadd, 1) := by decide +kernel
theorem dL_law_298 : decode cL_law 298 = .ok (.iconst 4, 1) := by decide +kernel
theorem dL_law_299 : decode cL_law 299 = .ok (.aload_n 3, 1) := by decide +kernel
theorem dL_law_300 : decode cL_law 300 = .ok (.iconst 4, 1) := by decide +kernel
theorem dL_law_301 : decode cL_law 301 = .ok (.invokevirtual 64, 3) := by decide +kernel
theorem dL_law_304 : decode cL_law 304 = .ok (.imul, 1) := by decide +kernel
theorem dL_law_305 : decode cL_law 305 = .ok (.iadd, 1) := by decide +kernel
theorem dL_law_306 : decode cL_law 306 = .ok (.iconst 4, 1) := by decide +kernel
theorem dL_law_307 : decode cL_law 307 = .ok (.aload_n 2, 1) := by decide +kernel
theorem dL_law_308 : decode cL_law 308 = .ok (.getfield 67, 3) := by decide +kernel
theorem dL_law_311 : decode cL_law 311 = .ok (.imul, 1) := by decide +kernel
theorem dL_law_312 : decode cL_law 312 = .ok (.if_icmp .ne 19, 3) := by decide +kernel
theorem dL_law_315 : decode cL_law 315 = .ok (.aload_n 3, 1) := by decide +kernel
theorem dL_law_316 : decode cL_law 316 = .ok (.iconst 4, 1) := by decide +kernel
theorem dL_law_317 : decode cL_law 317 = .ok (.invokevirtual 64, 3) := by decide +kernel
theorem dL_law_320 : decode cL_law 320 = .ok (.iconst 4, 1) := by decide +kernel
theorem dL_law_321 : decode cL_law 321 = .ok (.imul, 1) := by decide +kernel
theorem dL_law_322 : decode cL_law 322 = .ok (.iconst 4, 1) := by decide +kernel
theorem dL_law_323 : decode cL_law 323 = .ok (.aload_n 2, 1) := by decide +kernel
theorem dL_law_324 : decode cL_law 324 = .ok (.getfield 67, 3) := by decide +kernel
theorem dL_law_327 : decode cL_law 327 = .ok (.imul, 1) := by decide +kernel
theorem dL_law_328 : decode cL_law 328 = .ok (.if_icmp .le 5, 3) := by decide +kernel
theorem dL_law_331 : decode cL_law 331 = .ok (.iconst 0, 1) := by decide +kernel
theorem dL_law_332 : decode cL_law 332 = .ok (.ireturn, 1) := by decide +kernel
theorem dL_law_333 : decode cL_law 333 = .ok (.aload_n 3, 1) := by decide +kernel
theorem dL_law_334 : decode cL_law 334 = .ok (.iconst 0, 1) := by decide +kernel
theorem dL_law_335 : decode cL_law 335 = .ok (.invokevirtual 64, 3) := by decide +kernel
theorem dL_law_338 : decode cL_law 338 = .ok (.iconst 1, 1) := by decide +kernel
theorem dL_law_339 : decode cL_law 339 = .ok (.if_icmp .ne 112, 3) := by decide +kernel
theorem dL_law_342 : decode cL_law 342 = .ok (.iconst 1, 1) := by decide +kernel
theorem dL_law_343 : decode cL_law 343 = .ok (.istore 10, 2) := by decide +kernel
theorem dL_law_345 : decode cL_law 345 = .ok (.iload 10, 2) := by decide +kernel
theorem dL_law_347 : decode cL_law 347 = .ok (.bipush 40, 2) := by decide +kernel
theorem dL_law_349 : decode cL_law 349 = .ok (.if_icmp .gt 18, 3) := by decide +kernel
theorem dL_law_352 : decode cL_law 352 = .ok (.aload_n 3, 1) := by decide +kernel
theorem dL_law_353 : decode cL_law 353 = .ok (.iload 10, 2) := by decide +kernel
theorem dL_law_355 : decode cL_law 355 = .ok (.invokevirtual 70, 3) := by decide +kernel
theorem dL_law_358 : decode cL_law 358 = .ok (.ifCond .ne 9, 3) := by decide +kernel
theorem dL_law_361 : decode cL_law 361 = .ok (.iinc 10 1, 3) := by decide +kernel
theorem dL_law_364 : decode cL_law 364 = .ok (.goto (-19), 3) := by decide +kernel
theorem dL_law_367 : decode cL_law 367 = .ok (.iconst 1, 1) := by decide +kernel
theorem dL_law_368 : decode cL_law 368 = .ok (.istore 11, 2) := by decide +kernel
theorem dL_law_370 : decode cL_law 370 = .ok (.iload 11, 2) := by decide +kernel
theorem dL_law_372 : decode cL_law 372 = .ok (.bipush 40, 2) := by decide +kernel
theorem dL_law_374 : decode cL_law 374 = .ok (.if_icmp .gt 32, 3) := by decide +kernel
theorem dL_law_377 : decode cL_law 377 = .ok (.aload_n 3, 1) := by decide +kernel
theorem dL_law_378 : decode cL_law 378 = .ok (.iload 11, 2) := by decide +kernel
theorem dL_law_380 : decode cL_law 380 = .ok (.invokevirtual 70, 3) := by decide +kernel
theorem dL_law_383 : decode cL_law 383 = .ok (.iload 11, 2) := by decide +kernel
theorem dL_law_385 : decode cL_law 385 = .ok (.iload 10, 2) := by decide +kernel
theorem dL_law_387 : decode cL_law 387 = .ok (.if_icmp .lt 7, 3) := by decide +kernel
theorem dL_law_390 : decode cL_law 390 = .ok (.iconst 1, 1) := by decide +kernel
theorem dL_law_391 : decode cL_law 391 = .ok (.goto 4, 3) := by decide +kernel
theorem dL_law_394 : decode cL_law 394 = .ok (.iconst 0, 1) := by decide +kernel
theorem dL_law_395 : decode cL_law 395 = .ok (.if_icmp .eq 5, 3) := by decide +kernel
theorem dL_law_398 : decode cL_law 398 = .ok (.iconst 0, 1) := by decide +kernel
theorem dL_law_399 : decode cL_law 399 = .ok (.ireturn, 1) := by decide +kernel
theorem dL_law_400 : decode cL_law 400 = .ok (.iinc 11 1, 3) := by decide +kernel
theorem dL_law_403 : decode cL_law 403 = .ok (.goto (-33), 3) := by decide +kernel
theorem dL_law_406 : decode cL_law 406 = .ok (.aload_n 3, 1) := by decide +kernel
theorem dL_law_407 : decode cL_law 407 = .ok (.iconst 0, 1) := by decide +kernel
theorem dL_law_408 : decode cL_law 408 = .ok (.invokevirtual 70, 3) := by decide +kernel
theorem dL_law_411 : decode cL_law 411 = .ok (.ifCond .eq 38, 3) := by decide +kernel
theorem dL_law_414 : decode cL_law 414 = .ok (.aload_n 3, 1) := by decide +kernel
theorem dL_law_415 : decode cL_law 415 = .ok (.bipush 41, 2) := by decide +kernel
theorem dL_law_417 : decode cL_law 417 = .ok (.invokevirtual 70, 3) := by decide +kernel
theorem dL_law_420 : decode cL_law 420 = .ok (.ifCond .eq 12, 3) := by decide +kernel
theorem dL_law_423 : decode cL_law 423 = .ok (.aload_n 3, 1) := by decide +kernel
theorem dL_law_424 : decode cL_law 424 = .ok (.bipush 42, 2) := by decide +kernel
theorem dL_law_426 : decode cL_law 426 = .ok (.invokevirtual 70, 3) := by decide +kernel
theorem dL_law_429 : decode cL_law 429 = .ok (.ifCond .ne 20, 3) := by decide +kernel
theorem dL_law_432 : decode cL_law 432 = .ok (.aload_n 3, 1) := by decide +kernel
theorem dL_law_433 : decode cL_law 433 = .ok (.iconst 1, 1) := by decide +kernel
theorem dL_law_434 : decode cL_law 434 = .ok (.invokevirtual 73, 3) := by decide +kernel
theorem dL_law_437 : decode cL_law 437 = .ok (.iconst (-1), 1) := by decide +kernel
theorem dL_law_438 : decode cL_law 438 = .ok (.if_icmp .ne 11, 3) := by decide +kernel
theorem dL_law_441 : decode cL_law 441 = .ok (.aload_n 3, 1) := by decide +kernel
theorem dL_law_442 : decode cL_law 442 = .ok (.invokevirtual 76, 3) := by decide +kernel
theorem dL_law_445 : decode cL_law 445 = .ok (.iconst (-1), 1) := by decide +kernel
theorem dL_law_446 : decode cL_law 446 = .ok (.if_icmp .eq 5, 3) := by decide +kernel
theorem dL_law_449 : decode cL_law 449 = .ok (.iconst 0, 1) := by decide +kernel
theorem dL_law_450 : decode cL_law 450 = .ok (.ireturn, 1) := by decide +kernel
theorem dL_law_451 : decode cL_law 451 = .ok (.aload_n 3, 1) := by decide +kernel
theorem dL_law_452 : decode cL_law 452 = .ok (.iconst 0, 1) := by decide +kernel
theorem dL_law_453 : decode cL_law 453 = .ok (.invokevirtual 64, 3) := by decide +kernel
theorem dL_law_456 : decode cL_law 456 = .ok (.iconst 2, 1) := by decide +kernel
theorem dL_law_457 : decode cL_law 457 = .ok (.if_icmp .ne 256, 3) := by decide +kernel
theorem dL_law_460 : decode cL_law 460 = .ok (.aload_n 3, 1) := by decide +kernel
theorem dL_law_461 : decode cL_law 461 = .ok (.iconst 2, 1) := by decide +kernel
theorem dL_law_462 : decode cL_law 462 = .ok (.invokevirtual 64, 3) := by decide +kernel
theorem dL_law_465 : decode cL_law 465 = .ok (.istore 10, 2) := by decide +kernel
theorem dL_law_467 : decode cL_law 467 = .ok (.iconst 0, 1) := by decide +kernel
theorem dL_law_468 : decode cL_law 468 = .ok (.istore 11, 2) := by decide +kernel
theorem dL_law_470 : decode cL_law 470 = .ok (.bipush 9, 2) := by decide +kernel
theorem dL_law_472 : decode cL_law 472 = .ok (.istore 12, 2) := by decide +kernel
theorem dL_law_474 : decode cL_law 474 = .ok (.iconst (-1), 1) := by decide +kernel
theorem dL_law_475 : decode cL_law 475 = .ok (.istore 13, 2) := by decide +kernel
theorem dL_law_477 : decode cL_law 477 = .ok (.iconst 0, 1) := by decide +kernel
theorem dL_law_478 : decode cL_law 478 = .ok (.istore 14, 2) := by decide +kernel
theorem dL_law_480 : decode cL_law 480 = .ok (.iload 14, 2) := by decide +kernel
theorem dL_law_482 : decode cL_law 482 = .ok (.bipush 32, 2) := by decide +kernel
theorem dL_law_484 : decode cL_law 484 = .ok (.if_icmp .ge 82, 3) := by decide +kernel
theorem dL_law_487 : decode cL_law 487 = .ok (.aload_n 3, 1) := by decide +kernel
theorem dL_law_488 : decode cL_law 488 = .ok (.iload 14, 2) := by decide +kernel
theorem dL_law_490 : decode cL_law 490 = .ok (.invokevirtual 79, 3) := by decide +kernel
theorem dL_law_493 : decode cL_law 493 = .ok (.ifCond .ne 6, 3) := by decide +kernel
theorem dL_law_496 : decode cL_law 496 = .ok (.goto 64, 3) := by decide +kernel
theorem dL_law_499 : decode cL_law 499 = .ok (.iinc 11 1, 3) := by decide +kernel
theorem dL_law_502 : decode cL_law 502 = .ok (.aload_n 3, 1) := by decide +kernel
theorem dL_law_503 : decode cL_law 503 = .ok (.iload 10, 2) := by decide +kernel
theorem dL_law_505 : decode cL_law 505 = .ok (.iload 14, 2) := by decide +kernel
theorem dL_law_507 : decode cL_law 507 = .ok (.invokevirtual 60, 3) := by decide +kernel
theorem dL_law_510 : decode cL_law 510 = .ok (.ifCond .eq 22, 3) := by decide +kernel
theorem dL_law_513 : decode cL_law 513 = .ok (.aload_n 3, 1) := by decide +kernel
theorem dL_law_514 : decode cL_law 514 = .ok (.iload 14, 2) := by decide +kernel
theorem dL_law_516 : decode cL_law 516 = .ok (.invokevirtual 82, 3) := by decide +kernel
theorem dL_law_519 : decode cL_law 519 = .ok (.iload 10, 2) := by decide +kernel
theorem dL_law_521 : decode cL_law 521 = .ok (.if_icmp .eq 13, 3) := by decide +kernel
theorem dL_law_524 : decode cL_law 524 = .ok (.aload_n 3, 1) := by decide +kernel
theorem dL_law_525 : decode cL_law 525 = .ok (.iconst 5, 1) := by decide +kernel
theorem dL_law_526 : decode cL_law 526 = .ok (.invokevirtual 64, 3) := by decide +kernel
theorem dL_law_529 : decode cL_law 529 = .ok (.ifCond .ne 5, 3) := by decide +kernel
theorem dL_law_532 : decode cL_law 532 = .ok (.iconst 0, 1) := by decide +kernel
theorem dL_law_533 : decode cL_law 533 = .ok (.ireturn, 1) := by decide +kernel
theorem dL_law_534 : decode cL_law 534 = .ok (.aload_n 3, 1) := by decide +kernel
theorem dL_law_535 : decode cL_law 535 = .ok (.iload 14, 2) := by decide +kernel
theorem dL_law_537 : decode cL_law 537 = .ok (.invokevirtual 85, 3) := by decide +kernel
theorem dL_law_540 : decode cL_law 540 = .ok (.istore 15, 2) := by decide +kernel
theorem dL_law_542 : decode cL_law 542 = .ok (.iload 12, 2) := by decide +kernel
theorem dL_law_544 : decode cL_law 544 = .ok (.iload 15, 2) := by decide +kernel
theorem dL_law_546 : decode cL_law 546 = .ok (.invokestatic 88, 3) := by decide +kernel
theorem dL_law_549 : decode cL_law 549 = .ok (.istore 12, 2) := by decide +kernel
theorem dL_law_551 : decode cL_law 551 = .ok (.iload 13, 2) := by decide +kernel
theorem dL_law_553 : decode cL_law 553 = .ok (.iload 15, 2) := by decide +kernel
theorem dL_law_555 : decode cL_law 555 = .ok (.invokestatic 94, 3) := by decide +kernel
theorem dL_law_558 : decode cL_law 558 = .ok (.istore 13, 2) := by decide +kernel
theorem dL_law_560 : decode cL_law 560 = .ok (.iinc 14 1, 3) := by decide +kernel
theorem dL_law_563 : decode cL_law 563 = .ok (.goto (-83), 3) := by decide +kernel
theorem dL_law_566 : decode cL_law 566 = .ok (.aload_n 3, 1) := by decide +kernel
theorem dL_law_567 : decode cL_law 567 = .ok (.invokevirtual 76, 3) := by decide +kernel
theorem dL_law_570 : decode cL_law 570 = .ok (.istore 14, 2) := by decide +kernel
theorem dL_law_572 : decode cL_law 572 = .ok (.iload 11, 2) := by decide +kernel
theorem dL_law_574 : decode cL_law 574 = .ok (.ifCond .eq 137, 3) := by decide +kernel
theorem dL_law_577 : decode cL_law 577 = .ok (.iload 11, 2) := by decide +kernel
theorem dL_law_579 : decode cL_law 579 = .ok (.aload_n 3, 1) := by decide +kernel
theorem dL_law_580 : decode cL_law 580 = .ok (.iload 10, 2) := by decide +kernel
theorem dL_law_582 : decode cL_law 582 = .ok (.iconst 4, 1) := by decide +kernel
theorem dL_law_583 : decode cL_law 583 = .ok (.iconst 0, 1) := by decide +kernel
theorem dL_law_584 : decode cL_law 584 = .ok (.invokevirtual 56, 3) := by decide +kernel
theorem dL_law_587 : decode cL_law 587 = .ok (.if_icmp .gt 124, 3) := by decide +kernel
theorem dL_law_590 : decode cL_law 590 = .ok (.iload 14, 2) := by decide +kernel
theorem dL_law_592 : decode cL_law 592 = .ok (.iload 10, 2) := by decide +kernel
theorem dL_law_594 : decode cL_law 594 = .ok (.iconst 2, 1) := by decide +kernel
theorem dL_law_595 : decode cL_law 595 = .ok (.irem, 1) := by decide +kernel
theorem dL_law_596 : decode cL_law 596 = .ok (.ifCond .ne 8, 3) := by decide +kernel
theorem dL_law_599 : decode cL_law 599 = .ok (.iload 13, 2) := by decide +kernel
theorem dL_law_601 : decode cL_law 601 = .ok (.goto 5, 3) := by decide +kernel
theorem dL_law_604 : decode cL_law 604 = .ok (.iload 12, 2) := by decide +kernel
theorem dL_law_606 : decode cL_law 606 = .ok (.if_icmp .ne 105, 3) := by decide +kernel
theorem dL_law_609 : decode cL_law 609 = .ok (.iload 14, 2) := by decide +kernel
theorem dL_law_611 : decode cL_law 611 = .ok (.ifCond .lt 27, 3) := by decide +kernel
theorem dL_law_614 : decode cL_law 614 = .ok (.aload_n 3, 1) := by decide +kernel
theorem dL_law_615 : decode cL_law 615 = .ok (.aload_n 3, 1) := by decide +kernel
theorem dL_law_616 : decode cL_law 616 = .ok (.invokevirtual 97, 3) := by decide +kernel
theorem dL_law_619 : decode cL_law 619 = .ok (.invokevirtual 79, 3) := by decide +kernel
theorem dL_law_622 : decode cL_law 622 = .ok (.ifCond .eq 89, 3) := by decide +kernel
theorem dL_law_625 : decode cL_law 625 = .ok (.aload_n 3, 1) := by decide +kernel
theorem dL_law_626 : decode cL_law 626 = .ok (.aload_n 3, 1) := by decide +kernel
theorem dL_law_627 : decode cL_law 627 = .ok (.invokevirtual 97, 3) := by decide +kernel
theorem dL_law_630 : decode cL_law 630 = .ok (.invokevirtual 85, 3) := by decide +kernel
theorem dL_law_633 : decode cL_law 633 = .ok (.iload 14, 2) := by decide +kernel
theorem dL_law_635 : decode cL_law 635 = .ok (.if_icmp .ne 76, 3) := by decide +kernel
theorem dL_law_638 : decode cL_law 638 = .ok (.iload 14, 2) := by decide +kernel
theorem dL_law_640 : decode cL_law 640 = .ok (.ifCond .ge 11, 3) := by decide +kernel
theorem dL_law_643 : decode cL_law 643 = .ok (.aload_n 3, 1) := by decide +kernel
theorem dL_law_644 : decode cL_law 644 = .ok (.invokevirtual 97, 3) := by decide +kernel
theorem dL_law_647 : decode cL_law 647 = .ok (.iconst (-1), 1) := by decide +kernel
theorem dL_law_648 : decode cL_law 648 = .ok (.if_icmp .ne 63, 3) := by decide +kernel
theorem dL_law_651 : decode cL_law 651 = .ok (.aload_n 3, 1) := by decide +kernel
theorem dL_law_652 : decode cL_law 652 = .ok (.bipush 6, 2) := by decide +kernel
theorem dL_law_654 : decode cL_law 654 = .ok (.invokevirtual 64, 3) := by decide +kernel
theorem dL_law_657 : decode cL_law 657 = .ok (.ifCond .ge 7, 3) := by decide +kernel
theorem dL_law_660 : decode cL_law 660 = .ok (.iconst 1, 1) := by decide +kernel
theorem dL_law_661 : decode cL_law 661 = .ok (.goto 4, 3) := by decide +kernel
theorem dL_law_664 : decode cL_law 664 = .ok (.iconst 0, 1) := by decide +kernel
theorem dL_law_665 : decode cL_law 665 = .ok (.aload_n 3, 1) := by decide +kernel
theorem dL_law_666 : decode cL_law 666 = .ok (.iconst 5, 1) := by decide +kernel
theorem dL_law_667 : decode cL_law 667 = .ok (.invokevirtual 64, 3) := by decide +kernel
theorem dL_law_670 : decode cL_law 670 = .ok (.ifCond .ne 7, 3) := by decide +kernel
theorem dL_law_673 : decode cL_law 673 = .ok (.iconst 1, 1) := by decide +kernel
theorem dL_law_674 : decode cL_law 674 = .ok (.goto 4, 3) := by decide +kernel
theorem dL_law_677 : decode cL_law 677 = .ok (.iconst 0, 1) := by decide +kernel
theorem dL_law_678 : decode cL_law 678 = .ok (.if_icmp .ne 33, 3) := by decide +kernel
theorem dL_law_681 : decode cL_law 681 = .ok (.aload_n 3, 1) := by decide +kernel
theorem dL_law_682 : decode cL_law 682 = .ok (.iconst 0, 1) := by decide +kernel
theorem dL_law_683 : decode cL_law 683 = .ok (.iconst 0, 1) := by decide +kernel
theorem dL_law_684 : decode cL_law 684 = .ok (.invokevirtual 100, 3) := by decide +kernel
theorem dL_law_687 : decode cL_law 687 = .ok (.aload_n 3, 1) := by decide +kernel
theorem dL_law_688 : decode cL_law 688 = .ok (.iconst 1, 1) := by decide +kernel
theorem dL_law_689 : decode cL_law 689 = .ok (.iconst 0, 1) := by decide +kernel
theorem dL_law_690 : decode cL_law 690 = .ok (.invokevirtual 100, 3) := by decide +kernel
theorem dL_law_693 : decode cL_law 693 = .ok (.iadd, 1) := by decide +kernel
theorem dL_law_694 : decode cL_law 694 = .ok (.aload_n 3, 1) := by decide +kernel
theorem dL_law_695 : decode cL_law 695 = .ok (.iconst 4, 1) := by decide +kernel
theorem dL_law_696 : decode cL_law 696 = .ok (.invokevirtual 64, 3) := by decide +kernel
theorem dL_law_699 : decode cL_law 699 = .ok (.if_icmp .ne 12, 3) := by decide +kernel
theorem dL_law_702 : decode cL_law 702 = .ok (.aload_n 3, 1) := by decide +kernel
theorem dL_law_703 : decode cL_law 703 = .ok (.iconst 0, 1) := by decide +kernel
theorem dL_law_704 : decode cL_law 704 = .ok (.invokevirtual 73, 3) := by decide +kernel
theorem dL_law_707 : decode cL_law 707 = .ok (.iconst 1, 1) := by decide +kernel
theorem dL_law_708 : decode cL_law 708 = .ok (.if_icmp .ge 5, 3) := by decide +kernel
theorem dL_law_711 : decode cL_law 711 = .ok (.iconst 0, 1) := by decide +kernel
theorem dL_law_712 : decode cL_law 712 = .ok (.ireturn, 1) := by decide +kernel
theorem dL_law_713 : decode cL_law 713 = .ok (.iconst 1, 1) := by decide +kernel
theorem dL_law_714 : decode cL_law 714 = .ok (.istore 10, 2) := by decide +kernel
theorem dL_law_716 : decode cL_law 716 = .ok (.iload 10, 2) := by decide +kernel
theorem dL_law_718 : decode cL_law 718 = .ok (.aload_n 3, 1) := by decide +kernel
theorem dL_law_719 : decode cL_law 719 = .ok (.iconst 4, 1) := by decide +kernel
theorem dL_law_720 : decode cL_law 720 = .ok (.invokevirtual 64, 3) := by decide +kernel
theorem dL_law_723 : decode cL_law 723 = .ok (.if_icmp .ge 30, 3) := by decide +kernel
theorem dL_law_726 : decode cL_law 726 = .ok (.aload_n 3, 1) := by decide +kernel
theorem dL_law_727 : decode cL_law 727 = .ok (.iload 10, 2) := by decide +kernel
theorem dL_law_729 : decode cL_law 729 = .ok (.iconst 0, 1) := by decide +kernel
theorem dL_law_730 : decode cL_law 730 = .ok (.invokevirtual 103, 3) := by decide +kernel
theorem dL_law_733 : decode cL_law 733 = .ok (.aload_n 3, 1) := by decide +kernel
theorem dL_law_734 : decode cL_law 734 = .ok (.iload 10, 2) := by decide +kernel
theorem dL_law_736 : decode cL_law 736 = .ok (.iconst 1, 1) := by decide +kernel
theorem dL_law_737 : decode cL_law 737 = .ok (.isub, 1) := by decide +kernel
theorem dL_law_738 : decode cL_law 738 = .ok (.iconst 1, 1) := by decide +kernel
theorem dL_law_739 : decode cL_law 739 = .ok (.invokevirtual 103, 3) := by decide +kernel
theorem dL_law_742 : decode cL_law 742 = .ok (.if_icmp .eq 5, 3) := by decide +kernel
theorem dL_law_745 : decode cL_law 745 = .ok (.iconst 0, 1) := by decide +kernel
theorem dL_law_746 : decode cL_law 746 = .ok (.ireturn, 1) := by decide +kernel
theorem dL_law_747 : decode cL_law 747 = .ok (.iinc 10 1, 3) := by decide +kernel
theorem dL_law_750 : decode cL_law 750 = .ok (.goto (-34), 3) := by decide +kernel
theorem dL_law_753 : decode cL_law 753 = .ok (.aload_n 3, 1) := by decide +kernel
theorem dL_law_754 : decode cL_law 754 = .ok (.iconst 0, 1) := by decide +kernel
theorem dL_law_755 : decode cL_law 755 = .ok (.iconst 1, 1) := by decide +kernel
theorem dL_law_756 : decode cL_law 756 = .ok (.invokevirtual 100, 3) := by decide +kernel
theorem dL_law_759 : decode cL_law 759 = .ok (.aload_n 3, 1) := by decide +kernel
theorem dL_law_760 : decode cL_law 760 = .ok (.iconst 1, 1) := by decide +kernel
theorem dL_law_761 : decode cL_law 761 = .ok (.iconst 1, 1) := by decide +kernel
theorem dL_law_762 : decode cL_law 762 = .ok (.invokevirtual 100, 3) := by decide +kernel
theorem dL_law_765 : decode cL_law 765 = .ok (.iadd, 1) := by decide +kernel
theorem dL_law_766 : decode cL_law 766 = .ok (.iload 4, 2) := by decide +kernel
theorem dL_law_768 : decode cL_law 768 = .ok (.if_icmp .lt 33, 3) := by decide +kernel
theorem dL_law_771 : decode cL_law 771 = .ok (.aload_n 3, 1) := by decide +kernel
theorem dL_law_772 : decode cL_law 772 = .ok (.iconst 0, 1) := by decide +kernel
theorem dL_law_773 : decode cL_law 773 = .ok (.iconst 2, 1) := by decide +kernel
theorem dL_law_774 : decode cL_law 774 = .ok (.invokevirtual 100, 3) := by decide +kernel
theorem dL_law_777 : decode cL_law 777 = .ok (.iconst 2, 1) := by decide +kernel
theorem dL_law_778 : decode cL_law 778 = .ok (.if_icmp .gt 23, 3) := by decide +kernel
theorem dL_law_781 : decode cL_law 781 = .ok (.aload_n 3, 1) := by decide +kernel
theorem dL_law_782 : decode cL_law 782 = .ok (.iconst 1, 1) := by decide +kernel
theorem dL_law_783 : decode cL_law 783 = .ok (.iconst 2, 1) := by decide +kernel
theorem dL_law_784 : decode cL_law 784 = .ok (.invokevirtual 100, 3) := by decide +kernel
theorem dL_law_787 : decode cL_law 787 = .ok (.iconst 2, 1) := by decide +kernel
theorem dL_law_788 : decode cL_law 788 = .ok (.if_icmp .gt 13, 3) := by decide +kernel
theorem dL_law_791 : decode cL_law 791 = .ok (.aload_n 3, 1) := by decide +kernel
theorem dL_law_792 : decode cL_law 792 = .ok (.invokevirtual 50, 3) := by decide +kernel
theorem dL_law_795 : decode cL_law 795 = .ok (.lload 7, 2) := by decide +kernel
theorem dL_law_797 : decode cL_law 797 = .ok (.lcmp, 1) := by decide +kernel
theorem dL_law_798 : decode cL_law 798 = .ok (.ifCond .eq 5, 3) := by decide +kernel
theorem dL_law_801 : decode cL_law 801 = .ok (.iconst 0, 1) := by decide +kernel
theorem dL_law_802 : decode cL_law 802 = .ok (.ireturn, 1) := by decide +kernel
theorem dL_law_803 : decode cL_law 803 = .ok (.iinc 6 1, 3) := by decide +kernel
theorem dL_law_806 : decode cL_law 806 = .ok (.goto (-733), 3) := by decide +kernel
theorem dL_law_809 : decode cL_law 809 = .ok (.aload_n 3, 1) := by decide +kernel
theorem dL_law_810 : decode cL_law 810 = .ok (.iconst 0, 1) := by decide +kernel
theorem dL_law_811 : decode cL_law 811 = .ok (.iconst 1, 1) := by decide +kernel
theorem dL_law_812 : decode cL_law 812 = .ok (.invokevirtual 100, 3) := by decide +kernel
theorem dL_law_815 : decode cL_law 815 = .ok (.aload_n 3, 1) := by decide +kernel
theorem dL_law_816 : decode cL_law 816 = .ok (.iconst 1, 1) := by decide +kernel
theorem dL_law_817 : decode cL_law 817 = .ok (.iconst 1, 1) := by decide +kernel
theorem dL_law_818 : decode cL_law 818 = .ok (.invokevirtual 100, 3) := by decide +kernel
theorem dL_law_821 : decode cL_law 821 = .ok (.iadd, 1) := by decide +kernel
theorem dL_law_822 : decode cL_law 822 = .ok (.istore 6, 2) := by decide +kernel
theorem dL_law_824 : decode cL_law 824 = .ok (.iload 6, 2) := by decide +kernel
theorem dL_law_826 : decode cL_law 826 = .ok (.iload 4, 2) := by decide +kernel
theorem dL_law_828 : decode cL_law 828 = .ok (.if_icmp .lt 81, 3) := by decide +kernel
theorem dL_law_831 : decode cL_law 831 = .ok (.aload_n 3, 1) := by decide +kernel
theorem dL_law_832 : decode cL_law 832 = .ok (.bipush 7, 2) := by decide +kernel
theorem dL_law_834 : decode cL_law 834 = .ok (.invokevirtual 64, 3) := by decide +kernel
theorem dL_law_837 : decode cL_law 837 = .ok (.iload 5, 2) := by decide +kernel
theorem dL_law_839 : decode cL_law 839 = .ok (.iconst 1, 1) := by decide +kernel
theorem dL_law_840 : decode cL_law 840 = .ok (.iadd, 1) := by decide +kernel
theorem dL_law_841 : decode cL_law 841 = .ok (.if_icmp .gt 68, 3) := by decide +kernel
theorem dL_law_844 : decode cL_law 844 = .ok (.aload_n 3, 1) := by decide +kernel
theorem dL_law_845 : decode cL_law 845 = .ok (.bipush 7, 2) := by decide +kernel
theorem dL_law_847 : decode cL_law 847 = .ok (.invokevirtual 64, 3) := by decide +kernel
theorem dL_law_850 : decode cL_law 850 = .ok (.ifCond .le 22, 3) := by decide +kernel
theorem dL_law_853 : decode cL_law 853 = .ok (.aload_n 3, 1) := by decide +kernel
theorem dL_law_854 : decode cL_law 854 = .ok (.invokevirtual 106, 3) := by decide +kernel
theorem dL_law_857 : decode cL_law 857 = .ok (.iload 6, 2) := by decide +kernel
theorem dL_law_859 : decode cL_law 859 = .ok (.i2d, 1) := by decide +kernel
theorem dL_law_860 : decode cL_law 860 = .ok (.aload_n 3, 1) := by decide +kernel
theorem dL_law_861 : decode cL_law 861 = .ok (.bipush 7, 2) := by decide +kernel
theorem dL_law_863 : decode cL_law 863 = .ok (.invokevirtual 64, 3) := by decide +kernel
theorem dL_law_866 : decode cL_law 866 = .ok (.i2d, 1) := by decide +kernel
theorem dL_law_867 : decode cL_law 867 = .ok (.ddiv, 1) := by decide +kernel
theorem dL_law_868 : decode cL_law 868 = .ok (.dcmp .l, 1) := by decide +kernel
theorem dL_law_869 : decode cL_law 869 = .ok (.ifCond .ne 40, 3) := by decide +kernel
theorem dL_law_872 : decode cL_law 872 = .ok (.aload_n 3, 1) := by decide +kernel
theorem dL_law_873 : decode cL_law 873 = .ok (.iconst 0, 1) := by decide +kernel
theorem dL_law_874 : decode cL_law 874 = .ok (.invokevirtual 64, 3) := by decide +kernel
theorem dL_law_877 : decode cL_law 877 = .ok (.iconst 3, 1) := by decide +kernel
theorem dL_law_878 : decode cL_law 878 = .ok (.if_icmp .ne 33, 3) := by decide +kernel
theorem dL_law_881 : decode cL_law 881 = .ok (.aload_n 3, 1) := by decide +kernel
theorem dL_law_882 : decode cL_law 882 = .ok (.iconst 0, 1) := by decide +kernel
theorem dL_law_883 : decode cL_law 883 = .ok (.invokevirtual 73, 3) := by decide +kernel
theorem dL_law_886 : decode cL_law 886 = .ok (.ifCond .le 25, 3) := by decide +kernel
theorem dL_law_889 : decode cL_law 889 = .ok (.aload_n 3, 1) := by decide +kernel
theorem dL_law_890 : decode cL_law 890 = .ok (.iconst 0, 1) := by decide +kernel
theorem dL_law_891 : decode cL_law 891 = .ok (.iconst 0, 1) := by decide +kernel
theorem dL_law_892 : decode cL_law 892 = .ok (.invokevirtual 100, 3) := by decide +kernel
theorem dL_law_895 : decode cL_law 895 = .ok (.aload_n 3, 1) := by decide +kernel
theorem dL_law_896 : decode cL_law 896 = .ok (.iconst 1, 1) := by decide +kernel
theorem dL_law_897 : decode cL_law 897 = .ok (.iconst 0, 1) := by decide +kernel
theorem dL_law_898 : decode cL_law 898 = .ok (.invokevirtual 100, 3) := by decide +kernel
theorem dL_law_901 : decode cL_law 901 = .ok (.iadd, 1) := by decide +kernel
theorem dL_law_902 : decode cL_law 902 = .ok (.aload_n 2, 1) := by decide +kernel
theorem dL_law_903 : decode cL_law 903 = .ok (.getfield 67, 3) := by decide +kernel
theorem dL_law_906 : decode cL_law 906 = .ok (.if_icmp .eq 5, 3) := by decide +kernel
theorem dL_law_909 : decode cL_law 909 = .ok (.iconst 0, 1) := by decide +kernel
theorem dL_law_910 : decode cL_law 910 = .ok (.ireturn, 1) := by decide +kernel
theorem dL_law_911 : decode cL_law 911 = .ok (.iload 6, 2) := by decide +kernel
theorem dL_law_913 : decode cL_law 913 = .ok (.istore 4, 2) := by decide +kernel
theorem dL_law_915 : decode cL_law 915 = .ok (.iinc 5 1, 3) := by decide +kernel
theorem dL_law_918 : decode cL_law 918 = .ok (.goto (-884), 3) := by decide +kernel
theorem dL_law_921 : decode cL_law 921 = .ok (.iinc 1 1, 3) := by decide +kernel
theorem dL_law_924 : decode cL_law 924 = .ok (.goto (-922), 3) := by decide +kernel
theorem dL_law_927 : decode cL_law 927 = .ok (.iconst 1, 1) := by decide +kernel
theorem dL_law_928 : decode cL_law 928 = .ok (.ireturn, 1) := by decide +kernel
abbrev vwCl : List vw_C := [(RX0, TX0, 7), (RX1, TX1, 8), (RX2, TX2, 7), (RX3, TX3, 18)]
