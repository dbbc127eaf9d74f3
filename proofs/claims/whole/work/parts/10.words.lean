/-! printed by a program of mine out of the claim: the words that are used, then the methods as tables of AM, and their soundness -/
theorem inX0 : ∀ w ∈ u_ws RX0 TX0 7, w ∈ am_tab := fun w h => am_tm ((by decide +kernel : ∀ w ∈ u_ws RX0 TX0 7, w ∈ lw_tbl) w h) ((by decide +kernel : ∀ w ∈ u_ws RX0 TX0 7, goodWord w = true) w h)
theorem inX1 : ∀ w ∈ u_ws RX1 TX1 8, w ∈ am_tab := fun w h => am_tm ((by decide +kernel : ∀ w ∈ u_ws RX1 TX1 8, w ∈ lw_tbl) w h) ((by decide +kernel : ∀ w ∈ u_ws RX1 TX1 8, goodWord w = true) w h)
theorem inX2 : ∀ w ∈ u_ws RX2 TX2 7, w ∈ am_tab := fun w h => am_tm ((by decide +kernel : ∀ w ∈ u_ws RX2 TX2 7, w ∈ lw_tbl) w h) ((by decide +kernel : ∀ w ∈ u_ws RX2 TX2 7, goodWord w = true) w h)
theorem inX3 : ∀ w ∈ u_ws RX3 TX3 22, w ∈ am_tab := fun w h => am_tm ((by decide +kernel : ∀ w ∈ u_ws RX3 TX3 22, w ∈ lw_tbl) w h) ((by decide +kernel : ∀ w ∈ u_ws RX3 TX3 22, goodWord w = true) w h)
theorem dfX0 : ∀ j, j < 7 → defaultValue (tyX0 j) = vp_V [.null, .int 0, .int 0, .int 0, .int 0, .int 0, .int 0] j := by decide +kernel
theorem dwX0 : ∀ n : Nat, ∀ v ∈ ([.null, .int 0, .int 0, .int 0, .int 0, .int 0, .int 0] : List Value), am_wv n v := by
  intro n v hv
  simp only [List.mem_cons, List.not_mem_nil, or_false] at hv
  rcases hv with rfl | rfl | rfl | rfl | rfl | rfl | rfl <;> trivial
theorem dfX1 : ∀ j, j < 8 → defaultValue (tyX1 j) = vp_V [.null, .null, .null, .int 0, .int 0, .int 0, .int 0, .int 0] j := by decide +kernel
theorem dwX1 : ∀ n : Nat, ∀ v ∈ ([.null, .null, .null, .int 0, .int 0, .int 0, .int 0, .int 0] : List Value), am_wv n v := by
  intro n v hv
  simp only [List.mem_cons, List.not_mem_nil, or_false] at hv
  rcases hv with rfl | rfl | rfl | rfl | rfl | rfl | rfl | rfl <;> trivial
theorem dfX2 : ∀ j, j < 7 → defaultValue (tyX2 j) = vp_V [.null, .null, .null, .null, .null, .int 0, .int 0] j := by decide +kernel
theorem dwX2 : ∀ n : Nat, ∀ v ∈ ([.null, .null, .null, .null, .null, .int 0, .int 0] : List Value), am_wv n v := by
  intro n v hv
  simp only [List.mem_cons, List.not_mem_nil, or_false] at hv
  rcases hv with rfl | rfl | rfl | rfl | rfl | rfl | rfl <;> trivial
theorem dfX3 : ∀ j, j < 22 → defaultValue (tyX3 j) = vp_V [.int 0, .int 0, .int 0, .int 0, .null, .int 0, .null, .int 0, .int 0, .int 0, .int 0, .int 0, .null, .int 0, .int 0, .null, .null, .null, .null, .null, .int 0, .null] j := by decide +kernel
theorem dwX3 : ∀ n : Nat, ∀ v ∈ ([.int 0, .int 0, .int 0, .int 0, .null, .int 0, .null, .int 0, .int 0, .int 0, .int 0, .int 0, .null, .int 0, .int 0, .null, .null, .null, .null, .null, .int 0, .null] : List Value), am_wv n v := by
  intro n v hv
  simp only [List.mem_cons, List.not_mem_nil, or_false] at hv
  rcases hv with rfl | rfl | rfl | rfl | rfl | rfl | rfl | rfl | rfl | rfl | rfl | rfl | rfl | rfl | rfl | rfl | rfl | rfl | rfl | rfl | rfl | rfl <;> trivial
theorem wq_1 : (Jvm.Cond.initialized "PepperboxTable") ∈ am_tab := am_tm (am_t1 (i := 1) (by decide +kernel)) rfl
theorem wq_2 : (Jvm.Cond.initialized "PepperboxTable$Cards") ∈ am_tab := am_tm (am_t1 (i := 2) (by decide +kernel)) rfl
theorem wq_3 : (Jvm.Cond.initialized "PepperboxTable$Auction") ∈ am_tab := am_tm (am_t1 (i := 3) (by decide +kernel)) rfl
theorem wq_4 : (Jvm.Cond.initialized "PepperboxTableModel") ∈ am_tab := am_tm (am_t1 (i := 4) (by decide +kernel)) rfl
theorem wq_8 : (Jvm.Cond.initialized "java/lang/IndexOutOfBoundsException") ∈ am_tab := am_tm (am_t1 (i := 8) (by decide +kernel)) rfl
theorem wq_9 : (Jvm.Cond.initialized "java/lang/IllegalArgumentException") ∈ am_tab := am_tm (am_t1 (i := 9) (by decide +kernel)) rfl
theorem wq_10 : (Jvm.Cond.initialized "java/lang/Integer") ∈ am_tab := am_tm (am_t1 (i := 10) (by decide +kernel)) rfl
theorem wq_11 : (Jvm.Cond.initialized "java/lang/IllegalStateException") ∈ am_tab := am_tm (am_t1 (i := 11) (by decide +kernel)) rfl
theorem wq_12 : (Jvm.Cond.initialized "java/lang/System") ∈ am_tab := am_tm (am_t1 (i := 12) (by decide +kernel)) rfl
theorem wq_13 : (Jvm.Cond.initialized "java/lang/Math") ∈ am_tab := am_tm (am_t1 (i := 13) (by decide +kernel)) rfl
theorem wq_18 : (Jvm.Cond.code ({ cls := "PepperboxTable", name := "<init>", desc := "()V" } : Jvm.MethodName) prog_1_method_1_code (1 : Nat) (Option.none : Option Jvm.ClassFile.FieldType)) ∈ am_tab := am_tm (am_t1 (i := 18) (by decide +kernel)) rfl
theorem wq_19 : (Jvm.Cond.methodLink "PepperboxTable" (3 : Nat) ({ cls := "java/lang/Object", name := "<init>", desc := "()V" } : Jvm.MethodName)) ∈ am_tab := am_tm (am_t1 (i := 19) (by decide +kernel)) rfl
theorem wq_20 : (Jvm.Cond.instanceMethod ({ cls := "java/lang/Object", name := "<init>", desc := "()V" } : Jvm.MethodName)) ∈ am_tab := am_tm (am_t1 (i := 20) (by decide +kernel)) rfl
theorem wq_21 : (Jvm.Cond.code ({ cls := "java/lang/Object", name := "<init>", desc := "()V" } : Jvm.MethodName) object_method_1_code (1 : Nat) (Option.none : Option Jvm.ClassFile.FieldType)) ∈ am_tab := am_tm (am_t1 (i := 21) (by decide +kernel)) rfl
theorem wq_22 : (Jvm.Cond.classLink "PepperboxTable" (9 : Nat) "PepperboxTable$Cards") ∈ am_tab := am_tm (am_t1 (i := 22) (by decide +kernel)) rfl
theorem wq_23 : (Jvm.Cond.instantiable "PepperboxTable$Cards" (8 : Nat)) ∈ am_tab := am_tm (am_t1 (i := 23) (by decide +kernel)) rfl
theorem wq_25 : (Jvm.Cond.instanceMethod ({ cls := "PepperboxTable$Cards", name := "<init>", desc := "()V" } : Jvm.MethodName)) ∈ am_tab := am_tm (am_t1 (i := 25) (by decide +kernel)) rfl
theorem wq_26 : (Jvm.Cond.code ({ cls := "PepperboxTable$Cards", name := "<init>", desc := "()V" } : Jvm.MethodName) prog_3_method_1_code (1 : Nat) (Option.none : Option Jvm.ClassFile.FieldType)) ∈ am_tab := am_tm (am_t1 (i := 26) (by decide +kernel)) rfl
theorem wq_27 : (Jvm.Cond.methodLink "PepperboxTable$Cards" (3 : Nat) ({ cls := "java/lang/Object", name := "<init>", desc := "()V" } : Jvm.MethodName)) ∈ am_tab := am_tm (am_t1 (i := 27) (by decide +kernel)) rfl
theorem wq_28 : (Jvm.Cond.fieldLink "PepperboxTable$Cards" (9 : Nat) "PepperboxTable$Cards" "hands" "[I") ∈ am_tab := am_tm (am_t1 (i := 28) (by decide +kernel)) rfl
theorem wq_29 : (Jvm.Cond.fieldLink "PepperboxTable$Cards" (15 : Nat) "PepperboxTable$Cards" "playedCards" "[I") ∈ am_tab := am_tm (am_t1 (i := 29) (by decide +kernel)) rfl
theorem wq_30 : (Jvm.Cond.fieldLink "PepperboxTable$Cards" (18 : Nat) "PepperboxTable$Cards" "leaders" "[I") ∈ am_tab := am_tm (am_t1 (i := 30) (by decide +kernel)) rfl
theorem wq_31 : (Jvm.Cond.fieldLink "PepperboxTable$Cards" (21 : Nat) "PepperboxTable$Cards" "size" "I") ∈ am_tab := am_tm (am_t1 (i := 31) (by decide +kernel)) rfl
theorem wq_33 : (Jvm.Cond.fieldLink "PepperboxTable$Cards" (25 : Nat) "PepperboxTable$Cards" "played" "I") ∈ am_tab := am_tm (am_t1 (i := 33) (by decide +kernel)) rfl
theorem wq_34 : (Jvm.Cond.fieldLink "PepperboxTable$Cards" (28 : Nat) "PepperboxTable$Cards" "revokes" "I") ∈ am_tab := am_tm (am_t1 (i := 34) (by decide +kernel)) rfl
theorem wq_35 : (Jvm.Cond.fieldLink "PepperboxTable$Cards" (31 : Nat) "PepperboxTable$Cards" "trump" "I") ∈ am_tab := am_tm (am_t1 (i := 35) (by decide +kernel)) rfl
theorem wq_37 : (Jvm.Cond.fieldLink "PepperboxTable$Cards" (34 : Nat) "PepperboxTable$Cards" "turn" "I") ∈ am_tab := am_tm (am_t1 (i := 37) (by decide +kernel)) rfl
theorem wq_56 : (Jvm.Cond.arrayClass Jvm.ClassFile.FieldType.int) ∈ am_tab := am_tm (am_t1 (i := 56) (by decide +kernel)) rfl
theorem wq_57 : (Jvm.Cond.classLink "PepperboxTable" (19 : Nat) "PepperboxTable$Auction") ∈ am_tab := am_tm (am_t1 (i := 57) (by decide +kernel)) rfl
theorem wq_58 : (Jvm.Cond.instantiable "PepperboxTable$Auction" (7 : Nat)) ∈ am_tab := am_tm (am_t1 (i := 58) (by decide +kernel)) rfl
theorem wq_60 : (Jvm.Cond.instanceMethod ({ cls := "PepperboxTable$Auction", name := "<init>", desc := "()V" } : Jvm.MethodName)) ∈ am_tab := am_tm (am_t1 (i := 60) (by decide +kernel)) rfl
theorem wq_61 : (Jvm.Cond.code ({ cls := "PepperboxTable$Auction", name := "<init>", desc := "()V" } : Jvm.MethodName) prog_2_method_1_code (1 : Nat) (Option.none : Option Jvm.ClassFile.FieldType)) ∈ am_tab := am_tm (am_t1 (i := 61) (by decide +kernel)) rfl
theorem wq_62 : (Jvm.Cond.methodLink "PepperboxTable$Auction" (3 : Nat) ({ cls := "java/lang/Object", name := "<init>", desc := "()V" } : Jvm.MethodName)) ∈ am_tab := am_tm (am_t1 (i := 62) (by decide +kernel)) rfl
theorem wq_63 : (Jvm.Cond.fieldLink "PepperboxTable$Auction" (9 : Nat) "PepperboxTable$Auction" "bids" "[I") ∈ am_tab := am_tm (am_t1 (i := 63) (by decide +kernel)) rfl
theorem wq_64 : (Jvm.Cond.fieldLink "PepperboxTable$Auction" (15 : Nat) "PepperboxTable$Auction" "count" "I") ∈ am_tab := am_tm (am_t1 (i := 64) (by decide +kernel)) rfl
theorem wq_66 : (Jvm.Cond.fieldLink "PepperboxTable$Auction" (19 : Nat) "PepperboxTable$Auction" "dealer" "I") ∈ am_tab := am_tm (am_t1 (i := 66) (by decide +kernel)) rfl
theorem wq_68 : (Jvm.Cond.fieldLink "PepperboxTable$Auction" (22 : Nat) "PepperboxTable$Auction" "lastLevel" "I") ∈ am_tab := am_tm (am_t1 (i := 68) (by decide +kernel)) rfl
theorem wq_69 : (Jvm.Cond.fieldLink "PepperboxTable$Auction" (25 : Nat) "PepperboxTable$Auction" "lastBidder" "I") ∈ am_tab := am_tm (am_t1 (i := 69) (by decide +kernel)) rfl
theorem wq_70 : (Jvm.Cond.fieldLink "PepperboxTable$Auction" (28 : Nat) "PepperboxTable$Auction" "times" "I") ∈ am_tab := am_tm (am_t1 (i := 70) (by decide +kernel)) rfl
theorem wq_72 : (Jvm.Cond.fieldLink "PepperboxTable$Auction" (31 : Nat) "PepperboxTable$Auction" "passes" "I") ∈ am_tab := am_tm (am_t1 (i := 72) (by decide +kernel)) rfl
theorem wq_88 : (Jvm.Cond.fieldLink "PepperboxTable" (12 : Nat) "PepperboxTable" "cards" "LPepperboxTable$Cards;") ∈ am_tab := am_tm (am_t1 (i := 88) (by decide +kernel)) rfl
theorem wq_89 : (Jvm.Cond.fieldLink "PepperboxTable" (16 : Nat) "PepperboxTable" "trial" "LPepperboxTable$Cards;") ∈ am_tab := am_tm (am_t1 (i := 89) (by decide +kernel)) rfl
theorem wq_90 : (Jvm.Cond.fieldLink "PepperboxTable" (22 : Nat) "PepperboxTable" "auction" "LPepperboxTable$Auction;") ∈ am_tab := am_tm (am_t1 (i := 90) (by decide +kernel)) rfl
theorem wq_91 : (Jvm.Cond.fieldLink "PepperboxTable" (26 : Nat) "PepperboxTable" "taken" "[I") ∈ am_tab := am_tm (am_t1 (i := 91) (by decide +kernel)) rfl
theorem wq_92 : (Jvm.Cond.fieldLink "PepperboxTable" (30 : Nat) "PepperboxTable" "scores" "[I") ∈ am_tab := am_tm (am_t1 (i := 92) (by decide +kernel)) rfl
theorem wq_93 : (Jvm.Cond.fieldLink "PepperboxTable" (33 : Nat) "PepperboxTable" "state" "I") ∈ am_tab := am_tm (am_t1 (i := 93) (by decide +kernel)) rfl
theorem wq_94 : (Jvm.Cond.fieldLink "PepperboxTable" (37 : Nat) "PepperboxTable" "dealsOver" "I") ∈ am_tab := am_tm (am_t1 (i := 94) (by decide +kernel)) rfl
theorem wq_113 : (Jvm.Cond.code ({ cls := "PepperboxTable", name := "meanScore", desc := "()D" } : Jvm.MethodName) prog_1_method_18_code (1 : Nat) (Option.some Jvm.ClassFile.FieldType.double)) ∈ am_tab := am_tm (am_t1 (i := 113) (by decide +kernel)) rfl
theorem wq_115 : (Jvm.Cond.instanceMethod ({ cls := "PepperboxTable", name := "best", desc := "()I" } : Jvm.MethodName)) ∈ am_tab := am_tm (am_t1 (i := 115) (by decide +kernel)) rfl
theorem wq_116 : (Jvm.Cond.selects "PepperboxTable" ({ cls := "PepperboxTable", name := "best", desc := "()I" } : Jvm.MethodName) ({ cls := "PepperboxTable", name := "best", desc := "()I" } : Jvm.MethodName)) ∈ am_tab := am_tm (am_t1 (i := 116) (by decide +kernel)) rfl
theorem wq_117 : (Jvm.Cond.code ({ cls := "PepperboxTable", name := "best", desc := "()I" } : Jvm.MethodName) prog_1_method_20_code (1 : Nat) (Option.some Jvm.ClassFile.FieldType.int)) ∈ am_tab := am_tm (am_t1 (i := 117) (by decide +kernel)) rfl
theorem wq_118 : (Jvm.Cond.methodLink "PepperboxTable" (221 : Nat) ({ cls := "PepperboxTable", name := "bestIn", desc := "(I)I" } : Jvm.MethodName)) ∈ am_tab := am_tm (am_t1 (i := 118) (by decide +kernel)) rfl
theorem wq_119 : (Jvm.Cond.instanceMethod ({ cls := "PepperboxTable", name := "bestIn", desc := "(I)I" } : Jvm.MethodName)) ∈ am_tab := am_tm (am_t1 (i := 119) (by decide +kernel)) rfl
theorem wq_120 : (Jvm.Cond.selects "PepperboxTable" ({ cls := "PepperboxTable", name := "bestIn", desc := "(I)I" } : Jvm.MethodName) ({ cls := "PepperboxTable", name := "bestIn", desc := "(I)I" } : Jvm.MethodName)) ∈ am_tab := am_tm (am_t1 (i := 120) (by decide +kernel)) rfl
theorem wq_121 : (Jvm.Cond.code ({ cls := "PepperboxTable", name := "bestIn", desc := "(I)I" } : Jvm.MethodName) prog_1_method_23_code (2 : Nat) (Option.some Jvm.ClassFile.FieldType.int)) ∈ am_tab := am_tm (am_t1 (i := 121) (by decide +kernel)) rfl
theorem wq_122 : (Jvm.Cond.classLink "PepperboxTable" (53 : Nat) "java/lang/IllegalArgumentException") ∈ am_tab := am_tm (am_t1 (i := 122) (by decide +kernel)) rfl
theorem wq_190 : (Jvm.Cond.methodLink "PepperboxTable" (224 : Nat) ({ cls := "PepperboxTable", name := "hasBestPlay", desc := "()Z" } : Jvm.MethodName)) ∈ am_tab := am_tm (am_t1 (i := 190) (by decide +kernel)) rfl
theorem wq_192 : (Jvm.Cond.instanceMethod ({ cls := "PepperboxTable", name := "hasBestPlay", desc := "()Z" } : Jvm.MethodName)) ∈ am_tab := am_tm (am_t1 (i := 192) (by decide +kernel)) rfl
theorem wq_193 : (Jvm.Cond.code ({ cls := "PepperboxTable", name := "hasBestPlay", desc := "()Z" } : Jvm.MethodName) prog_1_method_40_code (1 : Nat) (Option.some Jvm.ClassFile.FieldType.boolean)) ∈ am_tab := am_tm (am_t1 (i := 193) (by decide +kernel)) rfl
theorem wq_194 : (Jvm.Cond.methodLink "PepperboxTable" (308 : Nat) ({ cls := "PepperboxTable$Cards", name := "areAtMost", desc := "(I)Z" } : Jvm.MethodName)) ∈ am_tab := am_tm (am_t1 (i := 194) (by decide +kernel)) rfl
theorem wq_195 : (Jvm.Cond.instanceMethod ({ cls := "PepperboxTable$Cards", name := "areAtMost", desc := "(I)Z" } : Jvm.MethodName)) ∈ am_tab := am_tm (am_t1 (i := 195) (by decide +kernel)) rfl
theorem wq_196 : (Jvm.Cond.selects "PepperboxTable$Cards" ({ cls := "PepperboxTable$Cards", name := "areAtMost", desc := "(I)Z" } : Jvm.MethodName) ({ cls := "PepperboxTable$Cards", name := "areAtMost", desc := "(I)Z" } : Jvm.MethodName)) ∈ am_tab := am_tm (am_t1 (i := 196) (by decide +kernel)) rfl
theorem wq_197 : (Jvm.Cond.code ({ cls := "PepperboxTable$Cards", name := "areAtMost", desc := "(I)Z" } : Jvm.MethodName) prog_3_method_10_code (3 : Nat) (Option.some Jvm.ClassFile.FieldType.boolean)) ∈ am_tab := am_tm (am_t1 (i := 197) (by decide +kernel)) rfl
theorem wq_198 : (Jvm.Cond.methodLink "PepperboxTable$Cards" (64 : Nat) ({ cls := "PepperboxTable$Cards", name := "count", desc := "(I)I" } : Jvm.MethodName)) ∈ am_tab := am_tm (am_t1 (i := 198) (by decide +kernel)) rfl
theorem wq_199 : (Jvm.Cond.instanceMethod ({ cls := "PepperboxTable$Cards", name := "count", desc := "(I)I" } : Jvm.MethodName)) ∈ am_tab := am_tm (am_t1 (i := 199) (by decide +kernel)) rfl
theorem wq_200 : (Jvm.Cond.selects "PepperboxTable$Cards" ({ cls := "PepperboxTable$Cards", name := "count", desc := "(I)I" } : Jvm.MethodName) ({ cls := "PepperboxTable$Cards", name := "count", desc := "(I)I" } : Jvm.MethodName)) ∈ am_tab := am_tm (am_t1 (i := 200) (by decide +kernel)) rfl
theorem wq_201 : (Jvm.Cond.code ({ cls := "PepperboxTable$Cards", name := "count", desc := "(I)I" } : Jvm.MethodName) prog_3_method_6_code (2 : Nat) (Option.some Jvm.ClassFile.FieldType.int)) ∈ am_tab := am_tm (am_t1 (i := 201) (by decide +kernel)) rfl
theorem wq_202 : (Jvm.Cond.methodLink "PepperboxTable$Cards" (43 : Nat) ({ cls := "PepperboxTable$Cards", name := "heldBy", desc := "(I)I" } : Jvm.MethodName)) ∈ am_tab := am_tm (am_t1 (i := 202) (by decide +kernel)) rfl
theorem wq_203 : (Jvm.Cond.instanceMethod ({ cls := "PepperboxTable$Cards", name := "heldBy", desc := "(I)I" } : Jvm.MethodName)) ∈ am_tab := am_tm (am_t1 (i := 203) (by decide +kernel)) rfl
theorem wq_204 : (Jvm.Cond.selects "PepperboxTable$Cards" ({ cls := "PepperboxTable$Cards", name := "heldBy", desc := "(I)I" } : Jvm.MethodName) ({ cls := "PepperboxTable$Cards", name := "heldBy", desc := "(I)I" } : Jvm.MethodName)) ∈ am_tab := am_tm (am_t1 (i := 204) (by decide +kernel)) rfl
theorem wq_205 : (Jvm.Cond.code ({ cls := "PepperboxTable$Cards", name := "heldBy", desc := "(I)I" } : Jvm.MethodName) prog_3_method_5_code (2 : Nat) (Option.some Jvm.ClassFile.FieldType.int)) ∈ am_tab := am_tm (am_t1 (i := 205) (by decide +kernel)) rfl
theorem wq_206 : (Jvm.Cond.methodLink "PepperboxTable$Cards" (47 : Nat) ({ cls := "java/lang/Integer", name := "bitCount", desc := "(I)I" } : Jvm.MethodName)) ∈ am_tab := am_tm (am_t1 (i := 206) (by decide +kernel)) rfl
theorem wq_207 : (Jvm.Cond.static ({ cls := "java/lang/Integer", name := "bitCount", desc := "(I)I" } : Jvm.MethodName)) ∈ am_tab := am_tm (am_t1 (i := 207) (by decide +kernel)) rfl
theorem wq_208 : (Jvm.Cond.code ({ cls := "java/lang/Integer", name := "bitCount", desc := "(I)I" } : Jvm.MethodName) prog_10_method_49_code (1 : Nat) (Option.some Jvm.ClassFile.FieldType.int)) ∈ am_tab := am_tm (am_t1 (i := 208) (by decide +kernel)) rfl
theorem wq_209 : (Jvm.Cond.constant "java/lang/Integer" (265 : Nat) (1431655765 : Int32)) ∈ am_tab := am_tm (am_t1 (i := 209) (by decide +kernel)) rfl
theorem wq_210 : (Jvm.Cond.constant "java/lang/Integer" (266 : Nat) (858993459 : Int32)) ∈ am_tab := am_tm (am_t1 (i := 210) (by decide +kernel)) rfl
theorem wq_211 : (Jvm.Cond.constant "java/lang/Integer" (267 : Nat) (252645135 : Int32)) ∈ am_tab := am_tm (am_t1 (i := 211) (by decide +kernel)) rfl
theorem wq_212 : (Jvm.Cond.methodLink "PepperboxTable" (215 : Nat) ({ cls := "PepperboxTable$Cards", name := "copyFrom", desc := "(LPepperboxTable$Cards;)V" } : Jvm.MethodName)) ∈ am_tab := am_tm (am_t1 (i := 212) (by decide +kernel)) rfl
theorem wq_213 : (Jvm.Cond.instanceMethod ({ cls := "PepperboxTable$Cards", name := "copyFrom", desc := "(LPepperboxTable$Cards;)V" } : Jvm.MethodName)) ∈ am_tab := am_tm (am_t1 (i := 213) (by decide +kernel)) rfl
theorem wq_214 : (Jvm.Cond.selects "PepperboxTable$Cards" ({ cls := "PepperboxTable$Cards", name := "copyFrom", desc := "(LPepperboxTable$Cards;)V" } : Jvm.MethodName) ({ cls := "PepperboxTable$Cards", name := "copyFrom", desc := "(LPepperboxTable$Cards;)V" } : Jvm.MethodName)) ∈ am_tab := am_tm (am_t1 (i := 214) (by decide +kernel)) rfl
theorem wq_215 : (Jvm.Cond.code ({ cls := "PepperboxTable$Cards", name := "copyFrom", desc := "(LPepperboxTable$Cards;)V" } : Jvm.MethodName) prog_3_method_3_code (2 : Nat) (Option.none : Option Jvm.ClassFile.FieldType)) ∈ am_tab := am_tm (am_t1 (i := 215) (by decide +kernel)) rfl
theorem wq_216 : (Jvm.Cond.methodLink "PepperboxTable$Cards" (37 : Nat) ({ cls := "java/lang/System", name := "arraycopy", desc := "(Ljava/lang/Object;ILjava/lang/Object;II)V" } : Jvm.MethodName)) ∈ am_tab := am_tm (am_t1 (i := 216) (by decide +kernel)) rfl
theorem wq_217 : (Jvm.Cond.static ({ cls := "java/lang/System", name := "arraycopy", desc := "(Ljava/lang/Object;ILjava/lang/Object;II)V" } : Jvm.MethodName)) ∈ am_tab := am_tm (am_t1 (i := 217) (by decide +kernel)) rfl
theorem wq_218 : (Jvm.Cond.native ({ cls := "java/lang/System", name := "arraycopy", desc := "(Ljava/lang/Object;ILjava/lang/Object;II)V" } : Jvm.MethodName)) ∈ am_tab := am_tm (am_t1 (i := 218) (by decide +kernel)) rfl
theorem wq_219 : (Jvm.Cond.methodLink "PepperboxTable" (235 : Nat) ({ cls := "PepperboxTable", name := "mostOfSide0", desc := "(LPepperboxTable$Cards;)I" } : Jvm.MethodName)) ∈ am_tab := am_tm (am_t1 (i := 219) (by decide +kernel)) rfl
theorem wq_220 : (Jvm.Cond.static ({ cls := "PepperboxTable", name := "mostOfSide0", desc := "(LPepperboxTable$Cards;)I" } : Jvm.MethodName)) ∈ am_tab := am_tm (am_t1 (i := 220) (by decide +kernel)) rfl
theorem wq_221 : (Jvm.Cond.code ({ cls := "PepperboxTable", name := "mostOfSide0", desc := "(LPepperboxTable$Cards;)I" } : Jvm.MethodName) prog_1_method_42_code (3 : Nat) (Option.some Jvm.ClassFile.FieldType.int)) ∈ am_tab := am_tm (am_t1 (i := 221) (by decide +kernel)) rfl
theorem wq_222 : (Jvm.Cond.methodLink "PepperboxTable" (314 : Nat) ({ cls := "PepperboxTable", name := "doesSide0Get", desc := "(LPepperboxTable$Cards;II)Z" } : Jvm.MethodName)) ∈ am_tab := am_tm (am_t1 (i := 222) (by decide +kernel)) rfl
theorem wq_223 : (Jvm.Cond.static ({ cls := "PepperboxTable", name := "doesSide0Get", desc := "(LPepperboxTable$Cards;II)Z" } : Jvm.MethodName)) ∈ am_tab := am_tm (am_t1 (i := 223) (by decide +kernel)) rfl
theorem wq_224 : (Jvm.Cond.code ({ cls := "PepperboxTable", name := "doesSide0Get", desc := "(LPepperboxTable$Cards;II)Z" } : Jvm.MethodName) prog_1_method_43_code (9 : Nat) (Option.some Jvm.ClassFile.FieldType.boolean)) ∈ am_tab := am_tm (am_t1 (i := 224) (by decide +kernel)) rfl
theorem wq_225 : (Jvm.Cond.methodLink "PepperboxTable" (175 : Nat) ({ cls := "PepperboxTable$Cards", name := "tricksLeft", desc := "()I" } : Jvm.MethodName)) ∈ am_tab := am_tm (am_t1 (i := 225) (by decide +kernel)) rfl
theorem wq_226 : (Jvm.Cond.instanceMethod ({ cls := "PepperboxTable$Cards", name := "tricksLeft", desc := "()I" } : Jvm.MethodName)) ∈ am_tab := am_tm (am_t1 (i := 226) (by decide +kernel)) rfl
theorem wq_227 : (Jvm.Cond.selects "PepperboxTable$Cards" ({ cls := "PepperboxTable$Cards", name := "tricksLeft", desc := "()I" } : Jvm.MethodName) ({ cls := "PepperboxTable$Cards", name := "tricksLeft", desc := "()I" } : Jvm.MethodName)) ∈ am_tab := am_tm (am_t1 (i := 227) (by decide +kernel)) rfl
theorem wq_228 : (Jvm.Cond.code ({ cls := "PepperboxTable$Cards", name := "tricksLeft", desc := "()I" } : Jvm.MethodName) prog_3_method_14_code (1 : Nat) (Option.some Jvm.ClassFile.FieldType.int)) ∈ am_tab := am_tm (am_t1 (i := 228) (by decide +kernel)) rfl
theorem wq_229 : (Jvm.Cond.methodLink "PepperboxTable$Cards" (67 : Nat) ({ cls := "PepperboxTable$Cards", name := "ended", desc := "()I" } : Jvm.MethodName)) ∈ am_tab := am_tm (am_t1 (i := 229) (by decide +kernel)) rfl
theorem wq_230 : (Jvm.Cond.instanceMethod ({ cls := "PepperboxTable$Cards", name := "ended", desc := "()I" } : Jvm.MethodName)) ∈ am_tab := am_tm (am_t1 (i := 230) (by decide +kernel)) rfl
theorem wq_231 : (Jvm.Cond.selects "PepperboxTable$Cards" ({ cls := "PepperboxTable$Cards", name := "ended", desc := "()I" } : Jvm.MethodName) ({ cls := "PepperboxTable$Cards", name := "ended", desc := "()I" } : Jvm.MethodName)) ∈ am_tab := am_tm (am_t1 (i := 231) (by decide +kernel)) rfl
theorem wq_232 : (Jvm.Cond.code ({ cls := "PepperboxTable$Cards", name := "ended", desc := "()I" } : Jvm.MethodName) prog_3_method_12_code (1 : Nat) (Option.some Jvm.ClassFile.FieldType.int)) ∈ am_tab := am_tm (am_t1 (i := 232) (by decide +kernel)) rfl
theorem wq_233 : (Jvm.Cond.methodLink "PepperboxTable" (172 : Nat) ({ cls := "PepperboxTable", name := "sideOf", desc := "(I)I" } : Jvm.MethodName)) ∈ am_tab := am_tm (am_t1 (i := 233) (by decide +kernel)) rfl
theorem wq_234 : (Jvm.Cond.static ({ cls := "PepperboxTable", name := "sideOf", desc := "(I)I" } : Jvm.MethodName)) ∈ am_tab := am_tm (am_t1 (i := 234) (by decide +kernel)) rfl
theorem wq_235 : (Jvm.Cond.code ({ cls := "PepperboxTable", name := "sideOf", desc := "(I)I" } : Jvm.MethodName) prog_1_method_45_code (1 : Nat) (Option.some Jvm.ClassFile.FieldType.int)) ∈ am_tab := am_tm (am_t1 (i := 235) (by decide +kernel)) rfl
theorem wq_236 : (Jvm.Cond.methodLink "PepperboxTable" (189 : Nat) ({ cls := "PepperboxTable$Cards", name := "rightCards", desc := "()I" } : Jvm.MethodName)) ∈ am_tab := am_tm (am_t1 (i := 236) (by decide +kernel)) rfl
theorem wq_237 : (Jvm.Cond.instanceMethod ({ cls := "PepperboxTable$Cards", name := "rightCards", desc := "()I" } : Jvm.MethodName)) ∈ am_tab := am_tm (am_t1 (i := 237) (by decide +kernel)) rfl
theorem wq_238 : (Jvm.Cond.selects "PepperboxTable$Cards" ({ cls := "PepperboxTable$Cards", name := "rightCards", desc := "()I" } : Jvm.MethodName) ({ cls := "PepperboxTable$Cards", name := "rightCards", desc := "()I" } : Jvm.MethodName)) ∈ am_tab := am_tm (am_t1 (i := 238) (by decide +kernel)) rfl
theorem wq_239 : (Jvm.Cond.code ({ cls := "PepperboxTable$Cards", name := "rightCards", desc := "()I" } : Jvm.MethodName) prog_3_method_21_code (4 : Nat) (Option.some Jvm.ClassFile.FieldType.int)) ∈ am_tab := am_tm (am_t1 (i := 239) (by decide +kernel)) rfl
theorem wq_240 : (Jvm.Cond.methodLink "PepperboxTable$Cards" (80 : Nat) ({ cls := "PepperboxTable$Cards", name := "lying", desc := "()I" } : Jvm.MethodName)) ∈ am_tab := am_tm (am_t1 (i := 240) (by decide +kernel)) rfl
theorem wq_241 : (Jvm.Cond.instanceMethod ({ cls := "PepperboxTable$Cards", name := "lying", desc := "()I" } : Jvm.MethodName)) ∈ am_tab := am_tm (am_t1 (i := 241) (by decide +kernel)) rfl
theorem wq_242 : (Jvm.Cond.selects "PepperboxTable$Cards" ({ cls := "PepperboxTable$Cards", name := "lying", desc := "()I" } : Jvm.MethodName) ({ cls := "PepperboxTable$Cards", name := "lying", desc := "()I" } : Jvm.MethodName)) ∈ am_tab := am_tm (am_t1 (i := 242) (by decide +kernel)) rfl
theorem wq_243 : (Jvm.Cond.code ({ cls := "PepperboxTable$Cards", name := "lying", desc := "()I" } : Jvm.MethodName) prog_3_method_13_code (1 : Nat) (Option.some Jvm.ClassFile.FieldType.int)) ∈ am_tab := am_tm (am_t1 (i := 243) (by decide +kernel)) rfl
theorem wq_244 : (Jvm.Cond.methodLink "PepperboxTable$Cards" (74 : Nat) ({ cls := "PepperboxTable$Cards", name := "playedAt", desc := "(I)I" } : Jvm.MethodName)) ∈ am_tab := am_tm (am_t1 (i := 244) (by decide +kernel)) rfl
theorem wq_246 : (Jvm.Cond.instanceMethod ({ cls := "PepperboxTable$Cards", name := "playedAt", desc := "(I)I" } : Jvm.MethodName)) ∈ am_tab := am_tm (am_t1 (i := 246) (by decide +kernel)) rfl
theorem wq_247 : (Jvm.Cond.code ({ cls := "PepperboxTable$Cards", name := "playedAt", desc := "(I)I" } : Jvm.MethodName) prog_3_method_16_code (2 : Nat) (Option.some Jvm.ClassFile.FieldType.int)) ∈ am_tab := am_tm (am_t1 (i := 247) (by decide +kernel)) rfl
theorem wq_249 : (Jvm.Cond.static ({ cls := "PepperboxTable", name := "wholeSuit", desc := "(I)I" } : Jvm.MethodName)) ∈ am_tab := am_tm (am_t1 (i := 249) (by decide +kernel)) rfl
theorem wq_250 : (Jvm.Cond.code ({ cls := "PepperboxTable", name := "wholeSuit", desc := "(I)I" } : Jvm.MethodName) prog_1_method_50_code (1 : Nat) (Option.some Jvm.ClassFile.FieldType.int)) ∈ am_tab := am_tm (am_t1 (i := 250) (by decide +kernel)) rfl
theorem wq_251 : (Jvm.Cond.methodLink "PepperboxTable" (77 : Nat) ({ cls := "PepperboxTable", name := "smallest", desc := "(I)I" } : Jvm.MethodName)) ∈ am_tab := am_tm (am_t1 (i := 251) (by decide +kernel)) rfl
theorem wq_252 : (Jvm.Cond.static ({ cls := "PepperboxTable", name := "smallest", desc := "(I)I" } : Jvm.MethodName)) ∈ am_tab := am_tm (am_t1 (i := 252) (by decide +kernel)) rfl
theorem wq_253 : (Jvm.Cond.code ({ cls := "PepperboxTable", name := "smallest", desc := "(I)I" } : Jvm.MethodName) prog_1_method_51_code (1 : Nat) (Option.some Jvm.ClassFile.FieldType.int)) ∈ am_tab := am_tm (am_t1 (i := 253) (by decide +kernel)) rfl
theorem wq_254 : (Jvm.Cond.methodLink "PepperboxTable" (318 : Nat) ({ cls := "java/lang/Integer", name := "numberOfTrailingZeros", desc := "(I)I" } : Jvm.MethodName)) ∈ am_tab := am_tm (am_t1 (i := 254) (by decide +kernel)) rfl
theorem wq_255 : (Jvm.Cond.static ({ cls := "java/lang/Integer", name := "numberOfTrailingZeros", desc := "(I)I" } : Jvm.MethodName)) ∈ am_tab := am_tm (am_t1 (i := 255) (by decide +kernel)) rfl
theorem wq_256 : (Jvm.Cond.code ({ cls := "java/lang/Integer", name := "numberOfTrailingZeros", desc := "(I)I" } : Jvm.MethodName) prog_10_method_48_code (2 : Nat) (Option.some Jvm.ClassFile.FieldType.int)) ∈ am_tab := am_tm (am_t1 (i := 256) (by decide +kernel)) rfl
theorem wq_257 : (Jvm.Cond.constant "java/lang/Integer" (264 : Nat) (65536 : Int32)) ∈ am_tab := am_tm (am_t1 (i := 257) (by decide +kernel)) rfl
theorem wq_258 : (Jvm.Cond.methodLink "PepperboxTable" (230 : Nat) ({ cls := "PepperboxTable", name := "without", desc := "(II)I" } : Jvm.MethodName)) ∈ am_tab := am_tm (am_t1 (i := 258) (by decide +kernel)) rfl
theorem wq_259 : (Jvm.Cond.static ({ cls := "PepperboxTable", name := "without", desc := "(II)I" } : Jvm.MethodName)) ∈ am_tab := am_tm (am_t1 (i := 259) (by decide +kernel)) rfl
theorem wq_260 : (Jvm.Cond.code ({ cls := "PepperboxTable", name := "without", desc := "(II)I" } : Jvm.MethodName) prog_1_method_49_code (2 : Nat) (Option.some Jvm.ClassFile.FieldType.int)) ∈ am_tab := am_tm (am_t1 (i := 260) (by decide +kernel)) rfl
theorem wq_261 : (Jvm.Cond.methodLink "PepperboxTable" (169 : Nat) ({ cls := "PepperboxTable$Cards", name := "put", desc := "(I)I" } : Jvm.MethodName)) ∈ am_tab := am_tm (am_t1 (i := 261) (by decide +kernel)) rfl
theorem wq_262 : (Jvm.Cond.instanceMethod ({ cls := "PepperboxTable$Cards", name := "put", desc := "(I)I" } : Jvm.MethodName)) ∈ am_tab := am_tm (am_t1 (i := 262) (by decide +kernel)) rfl
theorem wq_263 : (Jvm.Cond.selects "PepperboxTable$Cards" ({ cls := "PepperboxTable$Cards", name := "put", desc := "(I)I" } : Jvm.MethodName) ({ cls := "PepperboxTable$Cards", name := "put", desc := "(I)I" } : Jvm.MethodName)) ∈ am_tab := am_tm (am_t1 (i := 263) (by decide +kernel)) rfl
theorem wq_264 : (Jvm.Cond.code ({ cls := "PepperboxTable$Cards", name := "put", desc := "(I)I" } : Jvm.MethodName) prog_3_method_22_code (3 : Nat) (Option.some Jvm.ClassFile.FieldType.int)) ∈ am_tab := am_tm (am_t1 (i := 264) (by decide +kernel)) rfl
theorem wq_265 : (Jvm.Cond.methodLink "PepperboxTable$Cards" (86 : Nat) ({ cls := "PepperboxTable$Cards", name := "rightCards", desc := "()I" } : Jvm.MethodName)) ∈ am_tab := am_tm (am_t1 (i := 265) (by decide +kernel)) rfl
theorem wq_267 : (Jvm.Cond.static ({ cls := "PepperboxTable", name := "contains", desc := "(II)Z" } : Jvm.MethodName)) ∈ am_tab := am_tm (am_t1 (i := 267) (by decide +kernel)) rfl
theorem wq_268 : (Jvm.Cond.code ({ cls := "PepperboxTable", name := "contains", desc := "(II)Z" } : Jvm.MethodName) prog_1_method_47_code (2 : Nat) (Option.some Jvm.ClassFile.FieldType.boolean)) ∈ am_tab := am_tm (am_t1 (i := 268) (by decide +kernel)) rfl
theorem wq_270 : (Jvm.Cond.static ({ cls := "PepperboxTable", name := "with", desc := "(II)I" } : Jvm.MethodName)) ∈ am_tab := am_tm (am_t1 (i := 270) (by decide +kernel)) rfl
theorem wq_271 : (Jvm.Cond.code ({ cls := "PepperboxTable", name := "with", desc := "(II)I" } : Jvm.MethodName) prog_1_method_48_code (2 : Nat) (Option.some Jvm.ClassFile.FieldType.int)) ∈ am_tab := am_tm (am_t1 (i := 271) (by decide +kernel)) rfl
theorem wq_274 : (Jvm.Cond.static ({ cls := "PepperboxTable", name := "nextOf", desc := "(I)I" } : Jvm.MethodName)) ∈ am_tab := am_tm (am_t1 (i := 274) (by decide +kernel)) rfl
theorem wq_275 : (Jvm.Cond.code ({ cls := "PepperboxTable", name := "nextOf", desc := "(I)I" } : Jvm.MethodName) prog_1_method_46_code (1 : Nat) (Option.some Jvm.ClassFile.FieldType.int)) ∈ am_tab := am_tm (am_t1 (i := 275) (by decide +kernel)) rfl
theorem wq_276 : (Jvm.Cond.methodLink "PepperboxTable$Cards" (95 : Nat) ({ cls := "PepperboxTable$Cards", name := "takerOf", desc := "(II)I" } : Jvm.MethodName)) ∈ am_tab := am_tm (am_t1 (i := 276) (by decide +kernel)) rfl
theorem wq_277 : (Jvm.Cond.instanceMethod ({ cls := "PepperboxTable$Cards", name := "takerOf", desc := "(II)I" } : Jvm.MethodName)) ∈ am_tab := am_tm (am_t1 (i := 277) (by decide +kernel)) rfl
theorem wq_278 : (Jvm.Cond.selects "PepperboxTable$Cards" ({ cls := "PepperboxTable$Cards", name := "takerOf", desc := "(II)I" } : Jvm.MethodName) ({ cls := "PepperboxTable$Cards", name := "takerOf", desc := "(II)I" } : Jvm.MethodName)) ∈ am_tab := am_tm (am_t1 (i := 278) (by decide +kernel)) rfl
theorem wq_279 : (Jvm.Cond.code ({ cls := "PepperboxTable$Cards", name := "takerOf", desc := "(II)I" } : Jvm.MethodName) prog_3_method_19_code (7 : Nat) (Option.some Jvm.ClassFile.FieldType.int)) ∈ am_tab := am_tm (am_t1 (i := 279) (by decide +kernel)) rfl
theorem wq_280 : (Jvm.Cond.methodLink "PepperboxTable$Cards" (77 : Nat) ({ cls := "PepperboxTable$Cards", name := "beats", desc := "(II)Z" } : Jvm.MethodName)) ∈ am_tab := am_tm (am_t1 (i := 280) (by decide +kernel)) rfl
theorem wq_282 : (Jvm.Cond.instanceMethod ({ cls := "PepperboxTable$Cards", name := "beats", desc := "(II)Z" } : Jvm.MethodName)) ∈ am_tab := am_tm (am_t1 (i := 282) (by decide +kernel)) rfl
theorem wq_283 : (Jvm.Cond.code ({ cls := "PepperboxTable$Cards", name := "beats", desc := "(II)Z" } : Jvm.MethodName) prog_3_method_20_code (4 : Nat) (Option.some Jvm.ClassFile.FieldType.boolean)) ∈ am_tab := am_tm (am_t1 (i := 283) (by decide +kernel)) rfl
theorem wq_284 : (Jvm.Cond.methodLink "PepperboxTable$Cards" (71 : Nat) ({ cls := "PepperboxTable$Cards", name := "leaderOf", desc := "(I)I" } : Jvm.MethodName)) ∈ am_tab := am_tm (am_t1 (i := 284) (by decide +kernel)) rfl
theorem wq_285 : (Jvm.Cond.instanceMethod ({ cls := "PepperboxTable$Cards", name := "leaderOf", desc := "(I)I" } : Jvm.MethodName)) ∈ am_tab := am_tm (am_t1 (i := 285) (by decide +kernel)) rfl
theorem wq_286 : (Jvm.Cond.selects "PepperboxTable$Cards" ({ cls := "PepperboxTable$Cards", name := "leaderOf", desc := "(I)I" } : Jvm.MethodName) ({ cls := "PepperboxTable$Cards", name := "leaderOf", desc := "(I)I" } : Jvm.MethodName)) ∈ am_tab := am_tm (am_t1 (i := 286) (by decide +kernel)) rfl
theorem wq_287 : (Jvm.Cond.code ({ cls := "PepperboxTable$Cards", name := "leaderOf", desc := "(I)I" } : Jvm.MethodName) prog_3_method_15_code (2 : Nat) (Option.some Jvm.ClassFile.FieldType.int)) ∈ am_tab := am_tm (am_t1 (i := 287) (by decide +kernel)) rfl
theorem wq_288 : (Jvm.Cond.methodLink "PepperboxTable" (311 : Nat) ({ cls := "PepperboxTable", name := "countForSide0", desc := "(I)I" } : Jvm.MethodName)) ∈ am_tab := am_tm (am_t1 (i := 288) (by decide +kernel)) rfl
theorem wq_289 : (Jvm.Cond.static ({ cls := "PepperboxTable", name := "countForSide0", desc := "(I)I" } : Jvm.MethodName)) ∈ am_tab := am_tm (am_t1 (i := 289) (by decide +kernel)) rfl
theorem wq_290 : (Jvm.Cond.code ({ cls := "PepperboxTable", name := "countForSide0", desc := "(I)I" } : Jvm.MethodName) prog_1_method_44_code (1 : Nat) (Option.some Jvm.ClassFile.FieldType.int)) ∈ am_tab := am_tm (am_t1 (i := 290) (by decide +kernel)) rfl
theorem wq_291 : (Jvm.Cond.methodLink "PepperboxTable" (186 : Nat) ({ cls := "PepperboxTable$Cards", name := "takeBack", desc := "()I" } : Jvm.MethodName)) ∈ am_tab := am_tm (am_t1 (i := 291) (by decide +kernel)) rfl
theorem wq_292 : (Jvm.Cond.instanceMethod ({ cls := "PepperboxTable$Cards", name := "takeBack", desc := "()I" } : Jvm.MethodName)) ∈ am_tab := am_tm (am_t1 (i := 292) (by decide +kernel)) rfl
theorem wq_293 : (Jvm.Cond.selects "PepperboxTable$Cards" ({ cls := "PepperboxTable$Cards", name := "takeBack", desc := "()I" } : Jvm.MethodName) ({ cls := "PepperboxTable$Cards", name := "takeBack", desc := "()I" } : Jvm.MethodName)) ∈ am_tab := am_tm (am_t1 (i := 293) (by decide +kernel)) rfl
theorem wq_294 : (Jvm.Cond.code ({ cls := "PepperboxTable$Cards", name := "takeBack", desc := "()I" } : Jvm.MethodName) prog_3_method_23_code (2 : Nat) (Option.some Jvm.ClassFile.FieldType.int)) ∈ am_tab := am_tm (am_t1 (i := 294) (by decide +kernel)) rfl
theorem wq_295 : (Jvm.Cond.methodLink "PepperboxTable$Cards" (98 : Nat) ({ cls := "PepperboxTable$Cards", name := "playerAt", desc := "(I)I" } : Jvm.MethodName)) ∈ am_tab := am_tm (am_t1 (i := 295) (by decide +kernel)) rfl
theorem wq_297 : (Jvm.Cond.instanceMethod ({ cls := "PepperboxTable$Cards", name := "playerAt", desc := "(I)I" } : Jvm.MethodName)) ∈ am_tab := am_tm (am_t1 (i := 297) (by decide +kernel)) rfl
theorem wq_298 : (Jvm.Cond.code ({ cls := "PepperboxTable$Cards", name := "playerAt", desc := "(I)I" } : Jvm.MethodName) prog_3_method_17_code (2 : Nat) (Option.some Jvm.ClassFile.FieldType.int)) ∈ am_tab := am_tm (am_t1 (i := 298) (by decide +kernel)) rfl
theorem wq_299 : (Jvm.Cond.methodLink "PepperboxTable$Cards" (101 : Nat) ({ cls := "PepperboxTable$Cards", name := "add", desc := "(II)V" } : Jvm.MethodName)) ∈ am_tab := am_tm (am_t1 (i := 299) (by decide +kernel)) rfl
theorem wq_300 : (Jvm.Cond.instanceMethod ({ cls := "PepperboxTable$Cards", name := "add", desc := "(II)V" } : Jvm.MethodName)) ∈ am_tab := am_tm (am_t1 (i := 300) (by decide +kernel)) rfl
theorem wq_301 : (Jvm.Cond.selects "PepperboxTable$Cards" ({ cls := "PepperboxTable$Cards", name := "add", desc := "(II)V" } : Jvm.MethodName) ({ cls := "PepperboxTable$Cards", name := "add", desc := "(II)V" } : Jvm.MethodName)) ∈ am_tab := am_tm (am_t1 (i := 301) (by decide +kernel)) rfl
theorem wq_302 : (Jvm.Cond.code ({ cls := "PepperboxTable$Cards", name := "add", desc := "(II)V" } : Jvm.MethodName) prog_3_method_7_code (3 : Nat) (Option.none : Option Jvm.ClassFile.FieldType)) ∈ am_tab := am_tm (am_t1 (i := 302) (by decide +kernel)) rfl
theorem wq_304 : (Jvm.Cond.instanceMethod ({ cls := "PepperboxTable", name := "bestCard", desc := "()I" } : Jvm.MethodName)) ∈ am_tab := am_tm (am_t1 (i := 304) (by decide +kernel)) rfl
theorem wq_305 : (Jvm.Cond.selects "PepperboxTable" ({ cls := "PepperboxTable", name := "bestCard", desc := "()I" } : Jvm.MethodName) ({ cls := "PepperboxTable", name := "bestCard", desc := "()I" } : Jvm.MethodName)) ∈ am_tab := am_tm (am_t1 (i := 305) (by decide +kernel)) rfl
theorem wq_306 : (Jvm.Cond.code ({ cls := "PepperboxTable", name := "bestCard", desc := "()I" } : Jvm.MethodName) prog_1_method_22_code (5 : Nat) (Option.some Jvm.ClassFile.FieldType.int)) ∈ am_tab := am_tm (am_t1 (i := 306) (by decide +kernel)) rfl
theorem wq_307 : (Jvm.Cond.methodLink "PepperboxTable" (227 : Nat) ({ cls := "PepperboxTable", name := "bestBehind", desc := "(I)I" } : Jvm.MethodName)) ∈ am_tab := am_tm (am_t1 (i := 307) (by decide +kernel)) rfl
theorem wq_309 : (Jvm.Cond.instanceMethod ({ cls := "PepperboxTable", name := "bestBehind", desc := "(I)I" } : Jvm.MethodName)) ∈ am_tab := am_tm (am_t1 (i := 309) (by decide +kernel)) rfl
theorem wq_310 : (Jvm.Cond.code ({ cls := "PepperboxTable", name := "bestBehind", desc := "(I)I" } : Jvm.MethodName) prog_1_method_41_code (3 : Nat) (Option.some Jvm.ClassFile.FieldType.int)) ∈ am_tab := am_tm (am_t1 (i := 310) (by decide +kernel)) rfl
theorem wq_314 : (Jvm.Cond.code ({ cls := "PepperboxTable", name := "digest", desc := "()J" } : Jvm.MethodName) prog_1_method_25_code (4 : Nat) (Option.some Jvm.ClassFile.FieldType.long)) ∈ am_tab := am_tm (am_t1 (i := 314) (by decide +kernel)) rfl
theorem wq_315 : (Jvm.Cond.constantLong "PepperboxTable" (246 : Nat) (968 : Int64)) ∈ am_tab := am_tm (am_t1 (i := 315) (by decide +kernel)) rfl
theorem wq_316 : (Jvm.Cond.methodLink "PepperboxTable" (248 : Nat) ({ cls := "PepperboxTable", name := "now", desc := "(I)I" } : Jvm.MethodName)) ∈ am_tab := am_tm (am_t1 (i := 316) (by decide +kernel)) rfl
theorem wq_317 : (Jvm.Cond.instanceMethod ({ cls := "PepperboxTable", name := "now", desc := "(I)I" } : Jvm.MethodName)) ∈ am_tab := am_tm (am_t1 (i := 317) (by decide +kernel)) rfl
theorem wq_318 : (Jvm.Cond.selects "PepperboxTable" ({ cls := "PepperboxTable", name := "now", desc := "(I)I" } : Jvm.MethodName) ({ cls := "PepperboxTable", name := "now", desc := "(I)I" } : Jvm.MethodName)) ∈ am_tab := am_tm (am_t1 (i := 318) (by decide +kernel)) rfl
theorem wq_319 : (Jvm.Cond.code ({ cls := "PepperboxTable", name := "now", desc := "(I)I" } : Jvm.MethodName) prog_1_method_16_code (2 : Nat) (Option.some Jvm.ClassFile.FieldType.int)) ∈ am_tab := am_tm (am_t1 (i := 319) (by decide +kernel)) rfl
theorem wq_321 : (Jvm.Cond.methodLink "PepperboxTable" (145 : Nat) ({ cls := "PepperboxTable", name := "turnNow", desc := "()I" } : Jvm.MethodName)) ∈ am_tab := am_tm (am_t1 (i := 321) (by decide +kernel)) rfl
theorem wq_323 : (Jvm.Cond.instanceMethod ({ cls := "PepperboxTable", name := "turnNow", desc := "()I" } : Jvm.MethodName)) ∈ am_tab := am_tm (am_t1 (i := 323) (by decide +kernel)) rfl
theorem wq_324 : (Jvm.Cond.code ({ cls := "PepperboxTable", name := "turnNow", desc := "()I" } : Jvm.MethodName) prog_1_method_36_code (1 : Nat) (Option.some Jvm.ClassFile.FieldType.int)) ∈ am_tab := am_tm (am_t1 (i := 324) (by decide +kernel)) rfl
theorem wq_325 : (Jvm.Cond.methodLink "PepperboxTable" (300 : Nat) ({ cls := "PepperboxTable$Auction", name := "turn", desc := "()I" } : Jvm.MethodName)) ∈ am_tab := am_tm (am_t1 (i := 325) (by decide +kernel)) rfl
theorem wq_326 : (Jvm.Cond.instanceMethod ({ cls := "PepperboxTable$Auction", name := "turn", desc := "()I" } : Jvm.MethodName)) ∈ am_tab := am_tm (am_t1 (i := 326) (by decide +kernel)) rfl
theorem wq_327 : (Jvm.Cond.selects "PepperboxTable$Auction" ({ cls := "PepperboxTable$Auction", name := "turn", desc := "()I" } : Jvm.MethodName) ({ cls := "PepperboxTable$Auction", name := "turn", desc := "()I" } : Jvm.MethodName)) ∈ am_tab := am_tm (am_t1 (i := 327) (by decide +kernel)) rfl
theorem wq_328 : (Jvm.Cond.code ({ cls := "PepperboxTable$Auction", name := "turn", desc := "()I" } : Jvm.MethodName) prog_2_method_4_code (1 : Nat) (Option.some Jvm.ClassFile.FieldType.int)) ∈ am_tab := am_tm (am_t1 (i := 328) (by decide +kernel)) rfl
theorem wq_329 : (Jvm.Cond.methodLink "PepperboxTable$Auction" (34 : Nat) ({ cls := "PepperboxTable$Auction", name := "bidderAt", desc := "(I)I" } : Jvm.MethodName)) ∈ am_tab := am_tm (am_t1 (i := 329) (by decide +kernel)) rfl
theorem wq_330 : (Jvm.Cond.instanceMethod ({ cls := "PepperboxTable$Auction", name := "bidderAt", desc := "(I)I" } : Jvm.MethodName)) ∈ am_tab := am_tm (am_t1 (i := 330) (by decide +kernel)) rfl
theorem wq_331 : (Jvm.Cond.selects "PepperboxTable$Auction" ({ cls := "PepperboxTable$Auction", name := "bidderAt", desc := "(I)I" } : Jvm.MethodName) ({ cls := "PepperboxTable$Auction", name := "bidderAt", desc := "(I)I" } : Jvm.MethodName)) ∈ am_tab := am_tm (am_t1 (i := 331) (by decide +kernel)) rfl
theorem wq_332 : (Jvm.Cond.code ({ cls := "PepperboxTable$Auction", name := "bidderAt", desc := "(I)I" } : Jvm.MethodName) prog_2_method_3_code (2 : Nat) (Option.some Jvm.ClassFile.FieldType.int)) ∈ am_tab := am_tm (am_t1 (i := 332) (by decide +kernel)) rfl
theorem wq_333 : (Jvm.Cond.methodLink "PepperboxTable" (192 : Nat) ({ cls := "PepperboxTable$Cards", name := "ended", desc := "()I" } : Jvm.MethodName)) ∈ am_tab := am_tm (am_t1 (i := 333) (by decide +kernel)) rfl
theorem wq_334 : (Jvm.Cond.methodLink "PepperboxTable" (181 : Nat) ({ cls := "PepperboxTable$Cards", name := "lying", desc := "()I" } : Jvm.MethodName)) ∈ am_tab := am_tm (am_t1 (i := 334) (by decide +kernel)) rfl
theorem wq_335 : (Jvm.Cond.methodLink "PepperboxTable" (207 : Nat) ({ cls := "PepperboxTable$Cards", name := "takerOf", desc := "(II)I" } : Jvm.MethodName)) ∈ am_tab := am_tm (am_t1 (i := 335) (by decide +kernel)) rfl
theorem wq_336 : (Jvm.Cond.methodLink "PepperboxTable" (251 : Nat) ({ cls := "PepperboxTable", name := "mix", desc := "(JI)J" } : Jvm.MethodName)) ∈ am_tab := am_tm (am_t1 (i := 336) (by decide +kernel)) rfl
theorem wq_337 : (Jvm.Cond.static ({ cls := "PepperboxTable", name := "mix", desc := "(JI)J" } : Jvm.MethodName)) ∈ am_tab := am_tm (am_t1 (i := 337) (by decide +kernel)) rfl
theorem wq_338 : (Jvm.Cond.code ({ cls := "PepperboxTable", name := "mix", desc := "(JI)J" } : Jvm.MethodName) prog_1_method_26_code (3 : Nat) (Option.some Jvm.ClassFile.FieldType.long)) ∈ am_tab := am_tm (am_t1 (i := 338) (by decide +kernel)) rfl
theorem wq_339 : (Jvm.Cond.constantLong "PepperboxTable" (274 : Nat) (31 : Int64)) ∈ am_tab := am_tm (am_t1 (i := 339) (by decide +kernel)) rfl
theorem wq_340 : (Jvm.Cond.methodLink "PepperboxTable" (255 : Nat) ({ cls := "PepperboxTable", name := "contract", desc := "(I)I" } : Jvm.MethodName)) ∈ am_tab := am_tm (am_t1 (i := 340) (by decide +kernel)) rfl
theorem wq_341 : (Jvm.Cond.instanceMethod ({ cls := "PepperboxTable", name := "contract", desc := "(I)I" } : Jvm.MethodName)) ∈ am_tab := am_tm (am_t1 (i := 341) (by decide +kernel)) rfl
theorem wq_342 : (Jvm.Cond.selects "PepperboxTable" ({ cls := "PepperboxTable", name := "contract", desc := "(I)I" } : Jvm.MethodName) ({ cls := "PepperboxTable", name := "contract", desc := "(I)I" } : Jvm.MethodName)) ∈ am_tab := am_tm (am_t1 (i := 342) (by decide +kernel)) rfl
theorem wq_343 : (Jvm.Cond.code ({ cls := "PepperboxTable", name := "contract", desc := "(I)I" } : Jvm.MethodName) prog_1_method_11_code (2 : Nat) (Option.some Jvm.ClassFile.FieldType.int)) ∈ am_tab := am_tm (am_t1 (i := 343) (by decide +kernel)) rfl
theorem wq_344 : (Jvm.Cond.methodLink "PepperboxTable" (129 : Nat) ({ cls := "PepperboxTable$Auction", name := "isSettled", desc := "()Z" } : Jvm.MethodName)) ∈ am_tab := am_tm (am_t1 (i := 344) (by decide +kernel)) rfl
theorem wq_345 : (Jvm.Cond.instanceMethod ({ cls := "PepperboxTable$Auction", name := "isSettled", desc := "()Z" } : Jvm.MethodName)) ∈ am_tab := am_tm (am_t1 (i := 345) (by decide +kernel)) rfl
theorem wq_346 : (Jvm.Cond.selects "PepperboxTable$Auction" ({ cls := "PepperboxTable$Auction", name := "isSettled", desc := "()Z" } : Jvm.MethodName) ({ cls := "PepperboxTable$Auction", name := "isSettled", desc := "()Z" } : Jvm.MethodName)) ∈ am_tab := am_tm (am_t1 (i := 346) (by decide +kernel)) rfl
theorem wq_347 : (Jvm.Cond.code ({ cls := "PepperboxTable$Auction", name := "isSettled", desc := "()Z" } : Jvm.MethodName) prog_2_method_10_code (1 : Nat) (Option.some Jvm.ClassFile.FieldType.boolean)) ∈ am_tab := am_tm (am_t1 (i := 347) (by decide +kernel)) rfl
theorem wq_348 : (Jvm.Cond.methodLink "PepperboxTable" (160 : Nat) ({ cls := "PepperboxTable$Auction", name := "level", desc := "()I" } : Jvm.MethodName)) ∈ am_tab := am_tm (am_t1 (i := 348) (by decide +kernel)) rfl
theorem wq_349 : (Jvm.Cond.instanceMethod ({ cls := "PepperboxTable$Auction", name := "level", desc := "()I" } : Jvm.MethodName)) ∈ am_tab := am_tm (am_t1 (i := 349) (by decide +kernel)) rfl
theorem wq_350 : (Jvm.Cond.selects "PepperboxTable$Auction" ({ cls := "PepperboxTable$Auction", name := "level", desc := "()I" } : Jvm.MethodName) ({ cls := "PepperboxTable$Auction", name := "level", desc := "()I" } : Jvm.MethodName)) ∈ am_tab := am_tm (am_t1 (i := 350) (by decide +kernel)) rfl
theorem wq_351 : (Jvm.Cond.code ({ cls := "PepperboxTable$Auction", name := "level", desc := "()I" } : Jvm.MethodName) prog_2_method_11_code (1 : Nat) (Option.some Jvm.ClassFile.FieldType.int)) ∈ am_tab := am_tm (am_t1 (i := 351) (by decide +kernel)) rfl
theorem wq_352 : (Jvm.Cond.methodLink "PepperboxTable" (139 : Nat) ({ cls := "PepperboxTable$Auction", name := "trump", desc := "()I" } : Jvm.MethodName)) ∈ am_tab := am_tm (am_t1 (i := 352) (by decide +kernel)) rfl
theorem wq_353 : (Jvm.Cond.instanceMethod ({ cls := "PepperboxTable$Auction", name := "trump", desc := "()I" } : Jvm.MethodName)) ∈ am_tab := am_tm (am_t1 (i := 353) (by decide +kernel)) rfl
theorem wq_354 : (Jvm.Cond.selects "PepperboxTable$Auction" ({ cls := "PepperboxTable$Auction", name := "trump", desc := "()I" } : Jvm.MethodName) ({ cls := "PepperboxTable$Auction", name := "trump", desc := "()I" } : Jvm.MethodName)) ∈ am_tab := am_tm (am_t1 (i := 354) (by decide +kernel)) rfl
theorem wq_355 : (Jvm.Cond.code ({ cls := "PepperboxTable$Auction", name := "trump", desc := "()I" } : Jvm.MethodName) prog_2_method_12_code (1 : Nat) (Option.some Jvm.ClassFile.FieldType.int)) ∈ am_tab := am_tm (am_t1 (i := 355) (by decide +kernel)) rfl
theorem wq_356 : (Jvm.Cond.methodLink "PepperboxTable$Auction" (49 : Nat) ({ cls := "PepperboxTable$Auction", name := "trumpOf", desc := "(I)I" } : Jvm.MethodName)) ∈ am_tab := am_tm (am_t1 (i := 356) (by decide +kernel)) rfl
theorem wq_357 : (Jvm.Cond.static ({ cls := "PepperboxTable$Auction", name := "trumpOf", desc := "(I)I" } : Jvm.MethodName)) ∈ am_tab := am_tm (am_t1 (i := 357) (by decide +kernel)) rfl
theorem wq_358 : (Jvm.Cond.code ({ cls := "PepperboxTable$Auction", name := "trumpOf", desc := "(I)I" } : Jvm.MethodName) prog_2_method_13_code (1 : Nat) (Option.some Jvm.ClassFile.FieldType.int)) ∈ am_tab := am_tm (am_t1 (i := 358) (by decide +kernel)) rfl
theorem wq_359 : (Jvm.Cond.methodLink "PepperboxTable" (132 : Nat) ({ cls := "PepperboxTable$Auction", name := "declarer", desc := "()I" } : Jvm.MethodName)) ∈ am_tab := am_tm (am_t1 (i := 359) (by decide +kernel)) rfl
theorem wq_360 : (Jvm.Cond.instanceMethod ({ cls := "PepperboxTable$Auction", name := "declarer", desc := "()I" } : Jvm.MethodName)) ∈ am_tab := am_tm (am_t1 (i := 360) (by decide +kernel)) rfl
theorem wq_361 : (Jvm.Cond.selects "PepperboxTable$Auction" ({ cls := "PepperboxTable$Auction", name := "declarer", desc := "()I" } : Jvm.MethodName) ({ cls := "PepperboxTable$Auction", name := "declarer", desc := "()I" } : Jvm.MethodName)) ∈ am_tab := am_tm (am_t1 (i := 361) (by decide +kernel)) rfl
theorem wq_362 : (Jvm.Cond.code ({ cls := "PepperboxTable$Auction", name := "declarer", desc := "()I" } : Jvm.MethodName) prog_2_method_14_code (5 : Nat) (Option.some Jvm.ClassFile.FieldType.int)) ∈ am_tab := am_tm (am_t1 (i := 362) (by decide +kernel)) rfl
theorem wq_363 : (Jvm.Cond.methodLink "PepperboxTable$Auction" (52 : Nat) ({ cls := "PepperboxTable$Auction", name := "at", desc := "(I)I" } : Jvm.MethodName)) ∈ am_tab := am_tm (am_t1 (i := 363) (by decide +kernel)) rfl
theorem wq_364 : (Jvm.Cond.instanceMethod ({ cls := "PepperboxTable$Auction", name := "at", desc := "(I)I" } : Jvm.MethodName)) ∈ am_tab := am_tm (am_t1 (i := 364) (by decide +kernel)) rfl
theorem wq_365 : (Jvm.Cond.selects "PepperboxTable$Auction" ({ cls := "PepperboxTable$Auction", name := "at", desc := "(I)I" } : Jvm.MethodName) ({ cls := "PepperboxTable$Auction", name := "at", desc := "(I)I" } : Jvm.MethodName)) ∈ am_tab := am_tm (am_t1 (i := 365) (by decide +kernel)) rfl
theorem wq_366 : (Jvm.Cond.code ({ cls := "PepperboxTable$Auction", name := "at", desc := "(I)I" } : Jvm.MethodName) prog_2_method_5_code (2 : Nat) (Option.some Jvm.ClassFile.FieldType.int)) ∈ am_tab := am_tm (am_t1 (i := 366) (by decide +kernel)) rfl
theorem wq_368 : (Jvm.Cond.methodLink "PepperboxTable$Auction" (55 : Nat) ({ cls := "PepperboxTable$Auction", name := "trump", desc := "()I" } : Jvm.MethodName)) ∈ am_tab := am_tm (am_t1 (i := 368) (by decide +kernel)) rfl
theorem wq_369 : (Jvm.Cond.methodLink "PepperboxTable" (155 : Nat) ({ cls := "PepperboxTable$Auction", name := "at", desc := "(I)I" } : Jvm.MethodName)) ∈ am_tab := am_tm (am_t1 (i := 369) (by decide +kernel)) rfl
theorem wq_370 : (Jvm.Cond.methodLink "PepperboxTable" (258 : Nat) ({ cls := "PepperboxTable", name := "mixTricks", desc := "(J)J" } : Jvm.MethodName)) ∈ am_tab := am_tm (am_t1 (i := 370) (by decide +kernel)) rfl
theorem wq_372 : (Jvm.Cond.instanceMethod ({ cls := "PepperboxTable", name := "mixTricks", desc := "(J)J" } : Jvm.MethodName)) ∈ am_tab := am_tm (am_t1 (i := 372) (by decide +kernel)) rfl
theorem wq_373 : (Jvm.Cond.code ({ cls := "PepperboxTable", name := "mixTricks", desc := "(J)J" } : Jvm.MethodName) prog_1_method_27_code (7 : Nat) (Option.some Jvm.ClassFile.FieldType.long)) ∈ am_tab := am_tm (am_t1 (i := 373) (by decide +kernel)) rfl
theorem wq_374 : (Jvm.Cond.methodLink "PepperboxTable" (276 : Nat) ({ cls := "PepperboxTable", name := "trick", desc := "(II)I" } : Jvm.MethodName)) ∈ am_tab := am_tm (am_t1 (i := 374) (by decide +kernel)) rfl
theorem wq_375 : (Jvm.Cond.instanceMethod ({ cls := "PepperboxTable", name := "trick", desc := "(II)I" } : Jvm.MethodName)) ∈ am_tab := am_tm (am_t1 (i := 375) (by decide +kernel)) rfl
theorem wq_376 : (Jvm.Cond.selects "PepperboxTable" ({ cls := "PepperboxTable", name := "trick", desc := "(II)I" } : Jvm.MethodName) ({ cls := "PepperboxTable", name := "trick", desc := "(II)I" } : Jvm.MethodName)) ∈ am_tab := am_tm (am_t1 (i := 376) (by decide +kernel)) rfl
theorem wq_377 : (Jvm.Cond.code ({ cls := "PepperboxTable", name := "trick", desc := "(II)I" } : Jvm.MethodName) prog_1_method_15_code (3 : Nat) (Option.some Jvm.ClassFile.FieldType.int)) ∈ am_tab := am_tm (am_t1 (i := 377) (by decide +kernel)) rfl
theorem wq_378 : (Jvm.Cond.classLink "PepperboxTable" (150 : Nat) "java/lang/IndexOutOfBoundsException") ∈ am_tab := am_tm (am_t1 (i := 378) (by decide +kernel)) rfl
theorem wq_394 : (Jvm.Cond.methodLink "PepperboxTable" (197 : Nat) ({ cls := "PepperboxTable$Cards", name := "leaderOf", desc := "(I)I" } : Jvm.MethodName)) ∈ am_tab := am_tm (am_t1 (i := 394) (by decide +kernel)) rfl
theorem wq_395 : (Jvm.Cond.methodLink "PepperboxTable" (200 : Nat) ({ cls := "PepperboxTable$Cards", name := "cardIn", desc := "(II)I" } : Jvm.MethodName)) ∈ am_tab := am_tm (am_t1 (i := 395) (by decide +kernel)) rfl
theorem wq_396 : (Jvm.Cond.instanceMethod ({ cls := "PepperboxTable$Cards", name := "cardIn", desc := "(II)I" } : Jvm.MethodName)) ∈ am_tab := am_tm (am_t1 (i := 396) (by decide +kernel)) rfl
theorem wq_397 : (Jvm.Cond.selects "PepperboxTable$Cards" ({ cls := "PepperboxTable$Cards", name := "cardIn", desc := "(II)I" } : Jvm.MethodName) ({ cls := "PepperboxTable$Cards", name := "cardIn", desc := "(II)I" } : Jvm.MethodName)) ∈ am_tab := am_tm (am_t1 (i := 397) (by decide +kernel)) rfl
theorem wq_398 : (Jvm.Cond.code ({ cls := "PepperboxTable$Cards", name := "cardIn", desc := "(II)I" } : Jvm.MethodName) prog_3_method_18_code (4 : Nat) (Option.some Jvm.ClassFile.FieldType.int)) ∈ am_tab := am_tm (am_t1 (i := 398) (by decide +kernel)) rfl
theorem wq_399 : (Jvm.Cond.methodLink "PepperboxTable" (262 : Nat) ({ cls := "PepperboxTable", name := "mixSides", desc := "(J)J" } : Jvm.MethodName)) ∈ am_tab := am_tm (am_t1 (i := 399) (by decide +kernel)) rfl
theorem wq_401 : (Jvm.Cond.instanceMethod ({ cls := "PepperboxTable", name := "mixSides", desc := "(J)J" } : Jvm.MethodName)) ∈ am_tab := am_tm (am_t1 (i := 401) (by decide +kernel)) rfl
theorem wq_402 : (Jvm.Cond.code ({ cls := "PepperboxTable", name := "mixSides", desc := "(J)J" } : Jvm.MethodName) prog_1_method_28_code (7 : Nat) (Option.some Jvm.ClassFile.FieldType.long)) ∈ am_tab := am_tm (am_t1 (i := 402) (by decide +kernel)) rfl
theorem wq_403 : (Jvm.Cond.methodLink "PepperboxTable" (279 : Nat) ({ cls := "PepperboxTable", name := "side", desc := "(II)I" } : Jvm.MethodName)) ∈ am_tab := am_tm (am_t1 (i := 403) (by decide +kernel)) rfl
theorem wq_404 : (Jvm.Cond.instanceMethod ({ cls := "PepperboxTable", name := "side", desc := "(II)I" } : Jvm.MethodName)) ∈ am_tab := am_tm (am_t1 (i := 404) (by decide +kernel)) rfl
theorem wq_405 : (Jvm.Cond.selects "PepperboxTable" ({ cls := "PepperboxTable", name := "side", desc := "(II)I" } : Jvm.MethodName) ({ cls := "PepperboxTable", name := "side", desc := "(II)I" } : Jvm.MethodName)) ∈ am_tab := am_tm (am_t1 (i := 405) (by decide +kernel)) rfl
theorem wq_406 : (Jvm.Cond.code ({ cls := "PepperboxTable", name := "side", desc := "(II)I" } : Jvm.MethodName) prog_1_method_17_code (3 : Nat) (Option.some Jvm.ClassFile.FieldType.int)) ∈ am_tab := am_tm (am_t1 (i := 406) (by decide +kernel)) rfl
theorem wq_408 : (Jvm.Cond.methodLink "PepperboxTable" (212 : Nat) ({ cls := "PepperboxTable", name := "revokersOf", desc := "(I)I" } : Jvm.MethodName)) ∈ am_tab := am_tm (am_t1 (i := 408) (by decide +kernel)) rfl
theorem wq_410 : (Jvm.Cond.instanceMethod ({ cls := "PepperboxTable", name := "revokersOf", desc := "(I)I" } : Jvm.MethodName)) ∈ am_tab := am_tm (am_t1 (i := 410) (by decide +kernel)) rfl
theorem wq_411 : (Jvm.Cond.code ({ cls := "PepperboxTable", name := "revokersOf", desc := "(I)I" } : Jvm.MethodName) prog_1_method_37_code (4 : Nat) (Option.some Jvm.ClassFile.FieldType.int)) ∈ am_tab := am_tm (am_t1 (i := 411) (by decide +kernel)) rfl
theorem wq_412 : (Jvm.Cond.methodLink "PepperboxTable" (302 : Nat) ({ cls := "PepperboxTable$Cards", name := "hasRevoked", desc := "(I)Z" } : Jvm.MethodName)) ∈ am_tab := am_tm (am_t1 (i := 412) (by decide +kernel)) rfl
theorem wq_413 : (Jvm.Cond.instanceMethod ({ cls := "PepperboxTable$Cards", name := "hasRevoked", desc := "(I)Z" } : Jvm.MethodName)) ∈ am_tab := am_tm (am_t1 (i := 413) (by decide +kernel)) rfl
theorem wq_414 : (Jvm.Cond.selects "PepperboxTable$Cards" ({ cls := "PepperboxTable$Cards", name := "hasRevoked", desc := "(I)Z" } : Jvm.MethodName) ({ cls := "PepperboxTable$Cards", name := "hasRevoked", desc := "(I)Z" } : Jvm.MethodName)) ∈ am_tab := am_tm (am_t1 (i := 414) (by decide +kernel)) rfl
theorem wq_415 : (Jvm.Cond.code ({ cls := "PepperboxTable$Cards", name := "hasRevoked", desc := "(I)Z" } : Jvm.MethodName) prog_3_method_24_code (3 : Nat) (Option.some Jvm.ClassFile.FieldType.boolean)) ∈ am_tab := am_tm (am_t1 (i := 415) (by decide +kernel)) rfl
theorem wq_416 : (Jvm.Cond.methodLink "PepperboxTable" (265 : Nat) ({ cls := "PepperboxTable", name := "mixHands", desc := "(J)J" } : Jvm.MethodName)) ∈ am_tab := am_tm (am_t1 (i := 416) (by decide +kernel)) rfl
theorem wq_418 : (Jvm.Cond.instanceMethod ({ cls := "PepperboxTable", name := "mixHands", desc := "(J)J" } : Jvm.MethodName)) ∈ am_tab := am_tm (am_t1 (i := 418) (by decide +kernel)) rfl
theorem wq_419 : (Jvm.Cond.code ({ cls := "PepperboxTable", name := "mixHands", desc := "(J)J" } : Jvm.MethodName) prog_1_method_29_code (8 : Nat) (Option.some Jvm.ClassFile.FieldType.long)) ∈ am_tab := am_tm (am_t1 (i := 419) (by decide +kernel)) rfl
theorem wq_420 : (Jvm.Cond.methodLink "PepperboxTable" (282 : Nat) ({ cls := "PepperboxTable", name := "hand", desc := "(III)I" } : Jvm.MethodName)) ∈ am_tab := am_tm (am_t1 (i := 420) (by decide +kernel)) rfl
theorem wq_421 : (Jvm.Cond.instanceMethod ({ cls := "PepperboxTable", name := "hand", desc := "(III)I" } : Jvm.MethodName)) ∈ am_tab := am_tm (am_t1 (i := 421) (by decide +kernel)) rfl
theorem wq_422 : (Jvm.Cond.selects "PepperboxTable" ({ cls := "PepperboxTable", name := "hand", desc := "(III)I" } : Jvm.MethodName) ({ cls := "PepperboxTable", name := "hand", desc := "(III)I" } : Jvm.MethodName)) ∈ am_tab := am_tm (am_t1 (i := 422) (by decide +kernel)) rfl
theorem wq_423 : (Jvm.Cond.code ({ cls := "PepperboxTable", name := "hand", desc := "(III)I" } : Jvm.MethodName) prog_1_method_7_code (6 : Nat) (Option.some Jvm.ClassFile.FieldType.int)) ∈ am_tab := am_tm (am_t1 (i := 423) (by decide +kernel)) rfl
theorem wq_424 : (Jvm.Cond.methodLink "PepperboxTable" (40 : Nat) ({ cls := "PepperboxTable", name := "checkPlayer", desc := "(I)V" } : Jvm.MethodName)) ∈ am_tab := am_tm (am_t1 (i := 424) (by decide +kernel)) rfl
theorem wq_425 : (Jvm.Cond.static ({ cls := "PepperboxTable", name := "checkPlayer", desc := "(I)V" } : Jvm.MethodName)) ∈ am_tab := am_tm (am_t1 (i := 425) (by decide +kernel)) rfl
theorem wq_426 : (Jvm.Cond.code ({ cls := "PepperboxTable", name := "checkPlayer", desc := "(I)V" } : Jvm.MethodName) prog_1_method_31_code (1 : Nat) (Option.none : Option Jvm.ClassFile.FieldType)) ∈ am_tab := am_tm (am_t1 (i := 426) (by decide +kernel)) rfl
theorem wq_429 : (Jvm.Cond.methodLink "PepperboxTable" (73 : Nat) ({ cls := "PepperboxTable$Cards", name := "heldBy", desc := "(I)I" } : Jvm.MethodName)) ∈ am_tab := am_tm (am_t1 (i := 429) (by decide +kernel)) rfl
theorem wq_430 : (Jvm.Cond.methodLink "PepperboxTable" (105 : Nat) ({ cls := "PepperboxTable", name := "wholeSuit", desc := "(I)I" } : Jvm.MethodName)) ∈ am_tab := am_tm (am_t1 (i := 430) (by decide +kernel)) rfl
theorem wq_431 : (Jvm.Cond.methodLink "PepperboxTable" (108 : Nat) ({ cls := "java/lang/Integer", name := "bitCount", desc := "(I)I" } : Jvm.MethodName)) ∈ am_tab := am_tm (am_t1 (i := 431) (by decide +kernel)) rfl
theorem wq_432 : (Jvm.Cond.methodLink "PepperboxTable" (113 : Nat) ({ cls := "PepperboxTable", name := "greatest", desc := "(I)I" } : Jvm.MethodName)) ∈ am_tab := am_tm (am_t1 (i := 432) (by decide +kernel)) rfl
theorem wq_433 : (Jvm.Cond.static ({ cls := "PepperboxTable", name := "greatest", desc := "(I)I" } : Jvm.MethodName)) ∈ am_tab := am_tm (am_t1 (i := 433) (by decide +kernel)) rfl
theorem wq_434 : (Jvm.Cond.code ({ cls := "PepperboxTable", name := "greatest", desc := "(I)I" } : Jvm.MethodName) prog_1_method_52_code (1 : Nat) (Option.some Jvm.ClassFile.FieldType.int)) ∈ am_tab := am_tm (am_t1 (i := 434) (by decide +kernel)) rfl
theorem wq_435 : (Jvm.Cond.methodLink "PepperboxTable" (321 : Nat) ({ cls := "java/lang/Integer", name := "numberOfLeadingZeros", desc := "(I)I" } : Jvm.MethodName)) ∈ am_tab := am_tm (am_t1 (i := 435) (by decide +kernel)) rfl
theorem wq_436 : (Jvm.Cond.static ({ cls := "java/lang/Integer", name := "numberOfLeadingZeros", desc := "(I)I" } : Jvm.MethodName)) ∈ am_tab := am_tm (am_t1 (i := 436) (by decide +kernel)) rfl
theorem wq_437 : (Jvm.Cond.code ({ cls := "java/lang/Integer", name := "numberOfLeadingZeros", desc := "(I)I" } : Jvm.MethodName) prog_10_method_47_code (2 : Nat) (Option.some Jvm.ClassFile.FieldType.int)) ∈ am_tab := am_tm (am_t1 (i := 437) (by decide +kernel)) rfl
theorem wq_438 : (Jvm.Cond.methodLink "PepperboxTable" (268 : Nat) ({ cls := "PepperboxTable", name := "best", desc := "()I" } : Jvm.MethodName)) ∈ am_tab := am_tm (am_t1 (i := 438) (by decide +kernel)) rfl
theorem wq_439 : (Jvm.Cond.methodLink "PepperboxTable" (271 : Nat) ({ cls := "PepperboxTable", name := "bestCard", desc := "()I" } : Jvm.MethodName)) ∈ am_tab := am_tm (am_t1 (i := 439) (by decide +kernel)) rfl
theorem wq_442 : (Jvm.Cond.codeWith ({ cls := "PepperboxTableLaw", name := "begin", desc := "(LPepperboxTable;I[J)I" } : Jvm.MethodName) method_3_code (4 : Nat) (Option.some Jvm.ClassFile.FieldType.int) [((0 : Nat), (9 : Nat), (12 : Nat), (13 : Nat))]) ∈ am_tab := am_tm (am_t1 (i := 442) (by decide +kernel)) rfl
theorem wq_443 : (Jvm.Cond.classLink "PepperboxTableLaw" (13 : Nat) "java/lang/IndexOutOfBoundsException") ∈ am_tab := am_tm (am_t1 (i := 443) (by decide +kernel)) rfl
theorem wq_444 : (Jvm.Cond.methodLink "PepperboxTableLaw" (7 : Nat) ({ cls := "PepperboxTable", name := "begin", desc := "(I)I" } : Jvm.MethodName)) ∈ am_tab := am_tm (am_t1 (i := 444) (by decide +kernel)) rfl
theorem wq_445 : (Jvm.Cond.instanceMethod ({ cls := "PepperboxTable", name := "begin", desc := "(I)I" } : Jvm.MethodName)) ∈ am_tab := am_tm (am_t1 (i := 445) (by decide +kernel)) rfl
theorem wq_446 : (Jvm.Cond.selects "PepperboxTable" ({ cls := "PepperboxTable", name := "begin", desc := "(I)I" } : Jvm.MethodName) ({ cls := "PepperboxTable", name := "begin", desc := "(I)I" } : Jvm.MethodName)) ∈ am_tab := am_tm (am_t1 (i := 446) (by decide +kernel)) rfl
theorem wq_447 : (Jvm.Cond.code ({ cls := "PepperboxTable", name := "begin", desc := "(I)I" } : Jvm.MethodName) prog_1_method_2_code (3 : Nat) (Option.some Jvm.ClassFile.FieldType.int)) ∈ am_tab := am_tm (am_t1 (i := 447) (by decide +kernel)) rfl
theorem wq_448 : (Jvm.Cond.methodLink "PepperboxTable" (44 : Nat) ({ cls := "PepperboxTable$Cards", name := "clear", desc := "()V" } : Jvm.MethodName)) ∈ am_tab := am_tm (am_t1 (i := 448) (by decide +kernel)) rfl
theorem wq_449 : (Jvm.Cond.instanceMethod ({ cls := "PepperboxTable$Cards", name := "clear", desc := "()V" } : Jvm.MethodName)) ∈ am_tab := am_tm (am_t1 (i := 449) (by decide +kernel)) rfl
theorem wq_450 : (Jvm.Cond.selects "PepperboxTable$Cards" ({ cls := "PepperboxTable$Cards", name := "clear", desc := "()V" } : Jvm.MethodName) ({ cls := "PepperboxTable$Cards", name := "clear", desc := "()V" } : Jvm.MethodName)) ∈ am_tab := am_tm (am_t1 (i := 450) (by decide +kernel)) rfl
theorem wq_451 : (Jvm.Cond.code ({ cls := "PepperboxTable$Cards", name := "clear", desc := "()V" } : Jvm.MethodName) prog_3_method_2_code (2 : Nat) (Option.none : Option Jvm.ClassFile.FieldType)) ∈ am_tab := am_tm (am_t1 (i := 451) (by decide +kernel)) rfl
theorem wq_452 : (Jvm.Cond.methodLink "PepperboxTable" (47 : Nat) ({ cls := "PepperboxTable$Auction", name := "clear", desc := "(I)V" } : Jvm.MethodName)) ∈ am_tab := am_tm (am_t1 (i := 452) (by decide +kernel)) rfl
theorem wq_453 : (Jvm.Cond.instanceMethod ({ cls := "PepperboxTable$Auction", name := "clear", desc := "(I)V" } : Jvm.MethodName)) ∈ am_tab := am_tm (am_t1 (i := 453) (by decide +kernel)) rfl
theorem wq_454 : (Jvm.Cond.selects "PepperboxTable$Auction" ({ cls := "PepperboxTable$Auction", name := "clear", desc := "(I)V" } : Jvm.MethodName) ({ cls := "PepperboxTable$Auction", name := "clear", desc := "(I)V" } : Jvm.MethodName)) ∈ am_tab := am_tm (am_t1 (i := 454) (by decide +kernel)) rfl
theorem wq_455 : (Jvm.Cond.code ({ cls := "PepperboxTable$Auction", name := "clear", desc := "(I)V" } : Jvm.MethodName) prog_2_method_2_code (2 : Nat) (Option.none : Option Jvm.ClassFile.FieldType)) ∈ am_tab := am_tm (am_t1 (i := 455) (by decide +kernel)) rfl
theorem wq_458 : (Jvm.Cond.codeWith ({ cls := "PepperboxTableLaw", name := "deal", desc := "(LPepperboxTable;III[J)I" } : Jvm.MethodName) method_4_code (6 : Nat) (Option.some Jvm.ClassFile.FieldType.int) [((0 : Nat), (12 : Nat), (15 : Nat), (19 : Nat)), ((0 : Nat), (12 : Nat), (19 : Nat), (21 : Nat))]) ∈ am_tab := am_tm (am_t1 (i := 458) (by decide +kernel)) rfl
theorem wq_459 : (Jvm.Cond.classLink "PepperboxTableLaw" (19 : Nat) "java/lang/IllegalArgumentException") ∈ am_tab := am_tm (am_t1 (i := 459) (by decide +kernel)) rfl
theorem wq_460 : (Jvm.Cond.classLink "PepperboxTableLaw" (21 : Nat) "java/lang/IllegalStateException") ∈ am_tab := am_tm (am_t1 (i := 460) (by decide +kernel)) rfl
theorem wq_461 : (Jvm.Cond.methodLink "PepperboxTableLaw" (15 : Nat) ({ cls := "PepperboxTable", name := "deal", desc := "(III)I" } : Jvm.MethodName)) ∈ am_tab := am_tm (am_t1 (i := 461) (by decide +kernel)) rfl
theorem wq_462 : (Jvm.Cond.instanceMethod ({ cls := "PepperboxTable", name := "deal", desc := "(III)I" } : Jvm.MethodName)) ∈ am_tab := am_tm (am_t1 (i := 462) (by decide +kernel)) rfl
theorem wq_463 : (Jvm.Cond.selects "PepperboxTable" ({ cls := "PepperboxTable", name := "deal", desc := "(III)I" } : Jvm.MethodName) ({ cls := "PepperboxTable", name := "deal", desc := "(III)I" } : Jvm.MethodName)) ∈ am_tab := am_tm (am_t1 (i := 463) (by decide +kernel)) rfl
theorem wq_464 : (Jvm.Cond.code ({ cls := "PepperboxTable", name := "deal", desc := "(III)I" } : Jvm.MethodName) prog_1_method_3_code (6 : Nat) (Option.some Jvm.ClassFile.FieldType.int)) ∈ am_tab := am_tm (am_t1 (i := 464) (by decide +kernel)) rfl
theorem wq_465 : (Jvm.Cond.methodLink "PepperboxTable" (49 : Nat) ({ cls := "PepperboxTable", name := "isCard", desc := "(I)Z" } : Jvm.MethodName)) ∈ am_tab := am_tm (am_t1 (i := 465) (by decide +kernel)) rfl
theorem wq_466 : (Jvm.Cond.static ({ cls := "PepperboxTable", name := "isCard", desc := "(I)Z" } : Jvm.MethodName)) ∈ am_tab := am_tm (am_t1 (i := 466) (by decide +kernel)) rfl
theorem wq_467 : (Jvm.Cond.code ({ cls := "PepperboxTable", name := "isCard", desc := "(I)Z" } : Jvm.MethodName) prog_1_method_30_code (1 : Nat) (Option.some Jvm.ClassFile.FieldType.boolean)) ∈ am_tab := am_tm (am_t1 (i := 467) (by decide +kernel)) rfl
theorem wq_469 : (Jvm.Cond.methodLink "PepperboxTable" (60 : Nat) ({ cls := "PepperboxTable$Cards", name := "areAllEmpty", desc := "()Z" } : Jvm.MethodName)) ∈ am_tab := am_tm (am_t1 (i := 469) (by decide +kernel)) rfl
theorem wq_470 : (Jvm.Cond.instanceMethod ({ cls := "PepperboxTable$Cards", name := "areAllEmpty", desc := "()Z" } : Jvm.MethodName)) ∈ am_tab := am_tm (am_t1 (i := 470) (by decide +kernel)) rfl
theorem wq_471 : (Jvm.Cond.selects "PepperboxTable$Cards" ({ cls := "PepperboxTable$Cards", name := "areAllEmpty", desc := "()Z" } : Jvm.MethodName) ({ cls := "PepperboxTable$Cards", name := "areAllEmpty", desc := "()Z" } : Jvm.MethodName)) ∈ am_tab := am_tm (am_t1 (i := 471) (by decide +kernel)) rfl
theorem wq_472 : (Jvm.Cond.code ({ cls := "PepperboxTable$Cards", name := "areAllEmpty", desc := "()Z" } : Jvm.MethodName) prog_3_method_9_code (1 : Nat) (Option.some Jvm.ClassFile.FieldType.boolean)) ∈ am_tab := am_tm (am_t1 (i := 472) (by decide +kernel)) rfl
theorem wq_473 : (Jvm.Cond.methodLink "PepperboxTable$Cards" (60 : Nat) ({ cls := "PepperboxTable$Cards", name := "areAtMost", desc := "(I)Z" } : Jvm.MethodName)) ∈ am_tab := am_tm (am_t1 (i := 473) (by decide +kernel)) rfl
theorem wq_474 : (Jvm.Cond.classLink "PepperboxTable" (64 : Nat) "java/lang/IllegalStateException") ∈ am_tab := am_tm (am_t1 (i := 474) (by decide +kernel)) rfl
theorem wq_490 : (Jvm.Cond.methodLink "PepperboxTable" (69 : Nat) ({ cls := "PepperboxTable$Cards", name := "add", desc := "(II)V" } : Jvm.MethodName)) ∈ am_tab := am_tm (am_t1 (i := 490) (by decide +kernel)) rfl
theorem wq_493 : (Jvm.Cond.codeWith ({ cls := "PepperboxTableLaw", name := "give", desc := "(LPepperboxTable;II[J)I" } : Jvm.MethodName) method_5_code (5 : Nat) (Option.some Jvm.ClassFile.FieldType.int) [((0 : Nat), (10 : Nat), (13 : Nat), (13 : Nat)), ((0 : Nat), (10 : Nat), (17 : Nat), (21 : Nat))]) ∈ am_tab := am_tm (am_t1 (i := 493) (by decide +kernel)) rfl
theorem wq_494 : (Jvm.Cond.methodLink "PepperboxTableLaw" (23 : Nat) ({ cls := "PepperboxTable", name := "give", desc := "(II)I" } : Jvm.MethodName)) ∈ am_tab := am_tm (am_t1 (i := 494) (by decide +kernel)) rfl
theorem wq_495 : (Jvm.Cond.instanceMethod ({ cls := "PepperboxTable", name := "give", desc := "(II)I" } : Jvm.MethodName)) ∈ am_tab := am_tm (am_t1 (i := 495) (by decide +kernel)) rfl
theorem wq_496 : (Jvm.Cond.selects "PepperboxTable" ({ cls := "PepperboxTable", name := "give", desc := "(II)I" } : Jvm.MethodName) ({ cls := "PepperboxTable", name := "give", desc := "(II)I" } : Jvm.MethodName)) ∈ am_tab := am_tm (am_t1 (i := 496) (by decide +kernel)) rfl
theorem wq_497 : (Jvm.Cond.code ({ cls := "PepperboxTable", name := "give", desc := "(II)I" } : Jvm.MethodName) prog_1_method_4_code (3 : Nat) (Option.some Jvm.ClassFile.FieldType.int)) ∈ am_tab := am_tm (am_t1 (i := 497) (by decide +kernel)) rfl
theorem wq_498 : (Jvm.Cond.methodLink "PepperboxTable" (80 : Nat) ({ cls := "PepperboxTable", name := "checkCard", desc := "(I)V" } : Jvm.MethodName)) ∈ am_tab := am_tm (am_t1 (i := 498) (by decide +kernel)) rfl
theorem wq_499 : (Jvm.Cond.static ({ cls := "PepperboxTable", name := "checkCard", desc := "(I)V" } : Jvm.MethodName)) ∈ am_tab := am_tm (am_t1 (i := 499) (by decide +kernel)) rfl
theorem wq_500 : (Jvm.Cond.code ({ cls := "PepperboxTable", name := "checkCard", desc := "(I)V" } : Jvm.MethodName) prog_1_method_32_code (1 : Nat) (Option.none : Option Jvm.ClassFile.FieldType)) ∈ am_tab := am_tm (am_t1 (i := 500) (by decide +kernel)) rfl
theorem wq_502 : (Jvm.Cond.methodLink "PepperboxTable" (83 : Nat) ({ cls := "PepperboxTable$Cards", name := "count", desc := "(I)I" } : Jvm.MethodName)) ∈ am_tab := am_tm (am_t1 (i := 502) (by decide +kernel)) rfl
theorem wq_503 : (Jvm.Cond.methodLink "PepperboxTable" (86 : Nat) ({ cls := "PepperboxTable$Cards", name := "isHeld", desc := "(I)Z" } : Jvm.MethodName)) ∈ am_tab := am_tm (am_t1 (i := 503) (by decide +kernel)) rfl
theorem wq_504 : (Jvm.Cond.instanceMethod ({ cls := "PepperboxTable$Cards", name := "isHeld", desc := "(I)Z" } : Jvm.MethodName)) ∈ am_tab := am_tm (am_t1 (i := 504) (by decide +kernel)) rfl
theorem wq_505 : (Jvm.Cond.selects "PepperboxTable$Cards" ({ cls := "PepperboxTable$Cards", name := "isHeld", desc := "(I)Z" } : Jvm.MethodName) ({ cls := "PepperboxTable$Cards", name := "isHeld", desc := "(I)Z" } : Jvm.MethodName)) ∈ am_tab := am_tm (am_t1 (i := 505) (by decide +kernel)) rfl
theorem wq_506 : (Jvm.Cond.code ({ cls := "PepperboxTable$Cards", name := "isHeld", desc := "(I)Z" } : Jvm.MethodName) prog_3_method_8_code (2 : Nat) (Option.some Jvm.ClassFile.FieldType.boolean)) ∈ am_tab := am_tm (am_t1 (i := 506) (by decide +kernel)) rfl
theorem wq_510 : (Jvm.Cond.codeWith ({ cls := "PepperboxTableLaw", name := "open", desc := "(LPepperboxTable;[J)I" } : Jvm.MethodName) method_6_code (3 : Nat) (Option.some Jvm.ClassFile.FieldType.int) [((0 : Nat), (8 : Nat), (11 : Nat), (21 : Nat))]) ∈ am_tab := am_tm (am_t1 (i := 510) (by decide +kernel)) rfl
theorem wq_511 : (Jvm.Cond.methodLink "PepperboxTableLaw" (27 : Nat) ({ cls := "PepperboxTable", name := "open", desc := "()I" } : Jvm.MethodName)) ∈ am_tab := am_tm (am_t1 (i := 511) (by decide +kernel)) rfl
theorem wq_512 : (Jvm.Cond.instanceMethod ({ cls := "PepperboxTable", name := "open", desc := "()I" } : Jvm.MethodName)) ∈ am_tab := am_tm (am_t1 (i := 512) (by decide +kernel)) rfl
theorem wq_513 : (Jvm.Cond.selects "PepperboxTable" ({ cls := "PepperboxTable", name := "open", desc := "()I" } : Jvm.MethodName) ({ cls := "PepperboxTable", name := "open", desc := "()I" } : Jvm.MethodName)) ∈ am_tab := am_tm (am_t1 (i := 513) (by decide +kernel)) rfl
theorem wq_514 : (Jvm.Cond.code ({ cls := "PepperboxTable", name := "open", desc := "()I" } : Jvm.MethodName) prog_1_method_5_code (1 : Nat) (Option.some Jvm.ClassFile.FieldType.int)) ∈ am_tab := am_tm (am_t1 (i := 514) (by decide +kernel)) rfl
theorem wq_515 : (Jvm.Cond.methodLink "PepperboxTable" (91 : Nat) ({ cls := "PepperboxTable$Cards", name := "areReady", desc := "()Z" } : Jvm.MethodName)) ∈ am_tab := am_tm (am_t1 (i := 515) (by decide +kernel)) rfl
theorem wq_516 : (Jvm.Cond.instanceMethod ({ cls := "PepperboxTable$Cards", name := "areReady", desc := "()Z" } : Jvm.MethodName)) ∈ am_tab := am_tm (am_t1 (i := 516) (by decide +kernel)) rfl
theorem wq_517 : (Jvm.Cond.selects "PepperboxTable$Cards" ({ cls := "PepperboxTable$Cards", name := "areReady", desc := "()Z" } : Jvm.MethodName) ({ cls := "PepperboxTable$Cards", name := "areReady", desc := "()Z" } : Jvm.MethodName)) ∈ am_tab := am_tm (am_t1 (i := 517) (by decide +kernel)) rfl
theorem wq_518 : (Jvm.Cond.code ({ cls := "PepperboxTable$Cards", name := "areReady", desc := "()Z" } : Jvm.MethodName) prog_3_method_11_code (2 : Nat) (Option.some Jvm.ClassFile.FieldType.boolean)) ∈ am_tab := am_tm (am_t1 (i := 518) (by decide +kernel)) rfl
theorem wq_522 : (Jvm.Cond.codeWith ({ cls := "PepperboxTableLaw", name := "has", desc := "(LPepperboxTable;II[J)I" } : Jvm.MethodName) method_7_code (5 : Nat) (Option.some Jvm.ClassFile.FieldType.int) [((0 : Nat), (17 : Nat), (20 : Nat), (13 : Nat))]) ∈ am_tab := am_tm (am_t1 (i := 522) (by decide +kernel)) rfl
theorem wq_523 : (Jvm.Cond.methodLink "PepperboxTableLaw" (31 : Nat) ({ cls := "PepperboxTable", name := "has", desc := "(II)Z" } : Jvm.MethodName)) ∈ am_tab := am_tm (am_t1 (i := 523) (by decide +kernel)) rfl
theorem wq_524 : (Jvm.Cond.instanceMethod ({ cls := "PepperboxTable", name := "has", desc := "(II)Z" } : Jvm.MethodName)) ∈ am_tab := am_tm (am_t1 (i := 524) (by decide +kernel)) rfl
theorem wq_525 : (Jvm.Cond.selects "PepperboxTable" ({ cls := "PepperboxTable", name := "has", desc := "(II)Z" } : Jvm.MethodName) ({ cls := "PepperboxTable", name := "has", desc := "(II)Z" } : Jvm.MethodName)) ∈ am_tab := am_tm (am_t1 (i := 525) (by decide +kernel)) rfl
theorem wq_526 : (Jvm.Cond.code ({ cls := "PepperboxTable", name := "has", desc := "(II)Z" } : Jvm.MethodName) prog_1_method_6_code (3 : Nat) (Option.some Jvm.ClassFile.FieldType.boolean)) ∈ am_tab := am_tm (am_t1 (i := 526) (by decide +kernel)) rfl
theorem wq_527 : (Jvm.Cond.methodLink "PepperboxTable" (99 : Nat) ({ cls := "PepperboxTable", name := "contains", desc := "(II)Z" } : Jvm.MethodName)) ∈ am_tab := am_tm (am_t1 (i := 527) (by decide +kernel)) rfl
theorem wq_530 : (Jvm.Cond.codeWith ({ cls := "PepperboxTableLaw", name := "hand", desc := "(LPepperboxTable;III[J)I" } : Jvm.MethodName) method_8_code (6 : Nat) (Option.some Jvm.ClassFile.FieldType.int) [((0 : Nat), (12 : Nat), (15 : Nat), (13 : Nat)), ((0 : Nat), (12 : Nat), (19 : Nat), (19 : Nat))]) ∈ am_tab := am_tm (am_t1 (i := 530) (by decide +kernel)) rfl
theorem wq_531 : (Jvm.Cond.methodLink "PepperboxTableLaw" (35 : Nat) ({ cls := "PepperboxTable", name := "hand", desc := "(III)I" } : Jvm.MethodName)) ∈ am_tab := am_tm (am_t1 (i := 531) (by decide +kernel)) rfl
theorem wq_534 : (Jvm.Cond.codeWith ({ cls := "PepperboxTableLaw", name := "bid", desc := "(LPepperboxTable;I[J)I" } : Jvm.MethodName) method_9_code (4 : Nat) (Option.some Jvm.ClassFile.FieldType.int) [((0 : Nat), (9 : Nat), (12 : Nat), (19 : Nat)), ((0 : Nat), (9 : Nat), (15 : Nat), (21 : Nat))]) ∈ am_tab := am_tm (am_t1 (i := 534) (by decide +kernel)) rfl
theorem wq_535 : (Jvm.Cond.methodLink "PepperboxTableLaw" (38 : Nat) ({ cls := "PepperboxTable", name := "bid", desc := "(I)I" } : Jvm.MethodName)) ∈ am_tab := am_tm (am_t1 (i := 535) (by decide +kernel)) rfl
theorem wq_536 : (Jvm.Cond.instanceMethod ({ cls := "PepperboxTable", name := "bid", desc := "(I)I" } : Jvm.MethodName)) ∈ am_tab := am_tm (am_t1 (i := 536) (by decide +kernel)) rfl
theorem wq_537 : (Jvm.Cond.selects "PepperboxTable" ({ cls := "PepperboxTable", name := "bid", desc := "(I)I" } : Jvm.MethodName) ({ cls := "PepperboxTable", name := "bid", desc := "(I)I" } : Jvm.MethodName)) ∈ am_tab := am_tm (am_t1 (i := 537) (by decide +kernel)) rfl
theorem wq_538 : (Jvm.Cond.code ({ cls := "PepperboxTable", name := "bid", desc := "(I)I" } : Jvm.MethodName) prog_1_method_8_code (2 : Nat) (Option.some Jvm.ClassFile.FieldType.int)) ∈ am_tab := am_tm (am_t1 (i := 538) (by decide +kernel)) rfl
theorem wq_539 : (Jvm.Cond.methodLink "PepperboxTable" (116 : Nat) ({ cls := "PepperboxTable", name := "checkBid", desc := "(I)V" } : Jvm.MethodName)) ∈ am_tab := am_tm (am_t1 (i := 539) (by decide +kernel)) rfl
theorem wq_540 : (Jvm.Cond.static ({ cls := "PepperboxTable", name := "checkBid", desc := "(I)V" } : Jvm.MethodName)) ∈ am_tab := am_tm (am_t1 (i := 540) (by decide +kernel)) rfl
theorem wq_541 : (Jvm.Cond.code ({ cls := "PepperboxTable", name := "checkBid", desc := "(I)V" } : Jvm.MethodName) prog_1_method_33_code (1 : Nat) (Option.none : Option Jvm.ClassFile.FieldType)) ∈ am_tab := am_tm (am_t1 (i := 541) (by decide +kernel)) rfl
theorem wq_543 : (Jvm.Cond.methodLink "PepperboxTable" (119 : Nat) ({ cls := "PepperboxTable", name := "isBidAllowed", desc := "(I)Z" } : Jvm.MethodName)) ∈ am_tab := am_tm (am_t1 (i := 543) (by decide +kernel)) rfl
theorem wq_545 : (Jvm.Cond.instanceMethod ({ cls := "PepperboxTable", name := "isBidAllowed", desc := "(I)Z" } : Jvm.MethodName)) ∈ am_tab := am_tm (am_t1 (i := 545) (by decide +kernel)) rfl
theorem wq_546 : (Jvm.Cond.code ({ cls := "PepperboxTable", name := "isBidAllowed", desc := "(I)Z" } : Jvm.MethodName) prog_1_method_35_code (2 : Nat) (Option.some Jvm.ClassFile.FieldType.boolean)) ∈ am_tab := am_tm (am_t1 (i := 546) (by decide +kernel)) rfl
theorem wq_547 : (Jvm.Cond.methodLink "PepperboxTable" (297 : Nat) ({ cls := "PepperboxTable$Auction", name := "allows", desc := "(I)Z" } : Jvm.MethodName)) ∈ am_tab := am_tm (am_t1 (i := 547) (by decide +kernel)) rfl
theorem wq_548 : (Jvm.Cond.instanceMethod ({ cls := "PepperboxTable$Auction", name := "allows", desc := "(I)Z" } : Jvm.MethodName)) ∈ am_tab := am_tm (am_t1 (i := 548) (by decide +kernel)) rfl
theorem wq_549 : (Jvm.Cond.selects "PepperboxTable$Auction" ({ cls := "PepperboxTable$Auction", name := "allows", desc := "(I)Z" } : Jvm.MethodName) ({ cls := "PepperboxTable$Auction", name := "allows", desc := "(I)Z" } : Jvm.MethodName)) ∈ am_tab := am_tm (am_t1 (i := 549) (by decide +kernel)) rfl
theorem wq_550 : (Jvm.Cond.code ({ cls := "PepperboxTable$Auction", name := "allows", desc := "(I)Z" } : Jvm.MethodName) prog_2_method_6_code (3 : Nat) (Option.some Jvm.ClassFile.FieldType.boolean)) ∈ am_tab := am_tm (am_t1 (i := 550) (by decide +kernel)) rfl
theorem wq_551 : (Jvm.Cond.methodLink "PepperboxTable$Auction" (38 : Nat) ({ cls := "PepperboxTable$Auction", name := "turn", desc := "()I" } : Jvm.MethodName)) ∈ am_tab := am_tm (am_t1 (i := 551) (by decide +kernel)) rfl
theorem wq_553 : (Jvm.Cond.methodLink "PepperboxTable" (124 : Nat) ({ cls := "PepperboxTable$Auction", name := "add", desc := "(I)V" } : Jvm.MethodName)) ∈ am_tab := am_tm (am_t1 (i := 553) (by decide +kernel)) rfl
theorem wq_554 : (Jvm.Cond.instanceMethod ({ cls := "PepperboxTable$Auction", name := "add", desc := "(I)V" } : Jvm.MethodName)) ∈ am_tab := am_tm (am_t1 (i := 554) (by decide +kernel)) rfl
theorem wq_555 : (Jvm.Cond.selects "PepperboxTable$Auction" ({ cls := "PepperboxTable$Auction", name := "add", desc := "(I)V" } : Jvm.MethodName) ({ cls := "PepperboxTable$Auction", name := "add", desc := "(I)V" } : Jvm.MethodName)) ∈ am_tab := am_tm (am_t1 (i := 555) (by decide +kernel)) rfl
theorem wq_556 : (Jvm.Cond.code ({ cls := "PepperboxTable$Auction", name := "add", desc := "(I)V" } : Jvm.MethodName) prog_2_method_7_code (2 : Nat) (Option.none : Option Jvm.ClassFile.FieldType)) ∈ am_tab := am_tm (am_t1 (i := 556) (by decide +kernel)) rfl
theorem wq_557 : (Jvm.Cond.methodLink "PepperboxTable$Auction" (45 : Nat) ({ cls := "PepperboxTable$Auction", name := "addCall", desc := "(I)V" } : Jvm.MethodName)) ∈ am_tab := am_tm (am_t1 (i := 557) (by decide +kernel)) rfl
theorem wq_559 : (Jvm.Cond.instanceMethod ({ cls := "PepperboxTable$Auction", name := "addCall", desc := "(I)V" } : Jvm.MethodName)) ∈ am_tab := am_tm (am_t1 (i := 559) (by decide +kernel)) rfl
theorem wq_560 : (Jvm.Cond.code ({ cls := "PepperboxTable$Auction", name := "addCall", desc := "(I)V" } : Jvm.MethodName) prog_2_method_8_code (2 : Nat) (Option.none : Option Jvm.ClassFile.FieldType)) ∈ am_tab := am_tm (am_t1 (i := 560) (by decide +kernel)) rfl
theorem wq_561 : (Jvm.Cond.methodLink "PepperboxTable" (126 : Nat) ({ cls := "PepperboxTable$Auction", name := "isPassedOut", desc := "()Z" } : Jvm.MethodName)) ∈ am_tab := am_tm (am_t1 (i := 561) (by decide +kernel)) rfl
theorem wq_562 : (Jvm.Cond.instanceMethod ({ cls := "PepperboxTable$Auction", name := "isPassedOut", desc := "()Z" } : Jvm.MethodName)) ∈ am_tab := am_tm (am_t1 (i := 562) (by decide +kernel)) rfl
theorem wq_563 : (Jvm.Cond.selects "PepperboxTable$Auction" ({ cls := "PepperboxTable$Auction", name := "isPassedOut", desc := "()Z" } : Jvm.MethodName) ({ cls := "PepperboxTable$Auction", name := "isPassedOut", desc := "()Z" } : Jvm.MethodName)) ∈ am_tab := am_tm (am_t1 (i := 563) (by decide +kernel)) rfl
theorem wq_564 : (Jvm.Cond.code ({ cls := "PepperboxTable$Auction", name := "isPassedOut", desc := "()Z" } : Jvm.MethodName) prog_2_method_9_code (1 : Nat) (Option.some Jvm.ClassFile.FieldType.boolean)) ∈ am_tab := am_tm (am_t1 (i := 564) (by decide +kernel)) rfl
theorem wq_565 : (Jvm.Cond.methodLink "PepperboxTable" (136 : Nat) ({ cls := "PepperboxTable", name := "nextOf", desc := "(I)I" } : Jvm.MethodName)) ∈ am_tab := am_tm (am_t1 (i := 565) (by decide +kernel)) rfl
theorem wq_566 : (Jvm.Cond.methodLink "PepperboxTable" (142 : Nat) ({ cls := "PepperboxTable$Cards", name := "start", desc := "(II)V" } : Jvm.MethodName)) ∈ am_tab := am_tm (am_t1 (i := 566) (by decide +kernel)) rfl
theorem wq_567 : (Jvm.Cond.instanceMethod ({ cls := "PepperboxTable$Cards", name := "start", desc := "(II)V" } : Jvm.MethodName)) ∈ am_tab := am_tm (am_t1 (i := 567) (by decide +kernel)) rfl
theorem wq_568 : (Jvm.Cond.selects "PepperboxTable$Cards" ({ cls := "PepperboxTable$Cards", name := "start", desc := "(II)V" } : Jvm.MethodName) ({ cls := "PepperboxTable$Cards", name := "start", desc := "(II)V" } : Jvm.MethodName)) ∈ am_tab := am_tm (am_t1 (i := 568) (by decide +kernel)) rfl
theorem wq_569 : (Jvm.Cond.code ({ cls := "PepperboxTable$Cards", name := "start", desc := "(II)V" } : Jvm.MethodName) prog_3_method_4_code (3 : Nat) (Option.none : Option Jvm.ClassFile.FieldType)) ∈ am_tab := am_tm (am_t1 (i := 569) (by decide +kernel)) rfl
theorem wq_572 : (Jvm.Cond.codeWith ({ cls := "PepperboxTableLaw", name := "canBid", desc := "(LPepperboxTable;I[J)I" } : Jvm.MethodName) method_10_code (4 : Nat) (Option.some Jvm.ClassFile.FieldType.int) [((0 : Nat), (16 : Nat), (19 : Nat), (19 : Nat))]) ∈ am_tab := am_tm (am_t1 (i := 572) (by decide +kernel)) rfl
theorem wq_573 : (Jvm.Cond.methodLink "PepperboxTableLaw" (41 : Nat) ({ cls := "PepperboxTable", name := "canBid", desc := "(I)Z" } : Jvm.MethodName)) ∈ am_tab := am_tm (am_t1 (i := 573) (by decide +kernel)) rfl
theorem wq_574 : (Jvm.Cond.instanceMethod ({ cls := "PepperboxTable", name := "canBid", desc := "(I)Z" } : Jvm.MethodName)) ∈ am_tab := am_tm (am_t1 (i := 574) (by decide +kernel)) rfl
theorem wq_575 : (Jvm.Cond.selects "PepperboxTable" ({ cls := "PepperboxTable", name := "canBid", desc := "(I)Z" } : Jvm.MethodName) ({ cls := "PepperboxTable", name := "canBid", desc := "(I)Z" } : Jvm.MethodName)) ∈ am_tab := am_tm (am_t1 (i := 575) (by decide +kernel)) rfl
theorem wq_576 : (Jvm.Cond.code ({ cls := "PepperboxTable", name := "canBid", desc := "(I)Z" } : Jvm.MethodName) prog_1_method_9_code (2 : Nat) (Option.some Jvm.ClassFile.FieldType.boolean)) ∈ am_tab := am_tm (am_t1 (i := 576) (by decide +kernel)) rfl
theorem wq_579 : (Jvm.Cond.codeWith ({ cls := "PepperboxTableLaw", name := "bidAt", desc := "(LPepperboxTable;I[J)I" } : Jvm.MethodName) method_11_code (4 : Nat) (Option.some Jvm.ClassFile.FieldType.int) [((0 : Nat), (9 : Nat), (12 : Nat), (13 : Nat))]) ∈ am_tab := am_tm (am_t1 (i := 579) (by decide +kernel)) rfl
theorem wq_580 : (Jvm.Cond.methodLink "PepperboxTableLaw" (45 : Nat) ({ cls := "PepperboxTable", name := "bidAt", desc := "(I)I" } : Jvm.MethodName)) ∈ am_tab := am_tm (am_t1 (i := 580) (by decide +kernel)) rfl
theorem wq_581 : (Jvm.Cond.instanceMethod ({ cls := "PepperboxTable", name := "bidAt", desc := "(I)I" } : Jvm.MethodName)) ∈ am_tab := am_tm (am_t1 (i := 581) (by decide +kernel)) rfl
theorem wq_582 : (Jvm.Cond.selects "PepperboxTable" ({ cls := "PepperboxTable", name := "bidAt", desc := "(I)I" } : Jvm.MethodName) ({ cls := "PepperboxTable", name := "bidAt", desc := "(I)I" } : Jvm.MethodName)) ∈ am_tab := am_tm (am_t1 (i := 582) (by decide +kernel)) rfl
theorem wq_583 : (Jvm.Cond.code ({ cls := "PepperboxTable", name := "bidAt", desc := "(I)I" } : Jvm.MethodName) prog_1_method_10_code (2 : Nat) (Option.some Jvm.ClassFile.FieldType.int)) ∈ am_tab := am_tm (am_t1 (i := 583) (by decide +kernel)) rfl
theorem wq_587 : (Jvm.Cond.codeWith ({ cls := "PepperboxTableLaw", name := "contract", desc := "(LPepperboxTable;I[J)I" } : Jvm.MethodName) method_12_code (4 : Nat) (Option.some Jvm.ClassFile.FieldType.int) [((0 : Nat), (9 : Nat), (12 : Nat), (19 : Nat))]) ∈ am_tab := am_tm (am_t1 (i := 587) (by decide +kernel)) rfl
theorem wq_588 : (Jvm.Cond.methodLink "PepperboxTableLaw" (48 : Nat) ({ cls := "PepperboxTable", name := "contract", desc := "(I)I" } : Jvm.MethodName)) ∈ am_tab := am_tm (am_t1 (i := 588) (by decide +kernel)) rfl
theorem wq_591 : (Jvm.Cond.codeWith ({ cls := "PepperboxTableLaw", name := "play", desc := "(LPepperboxTable;I[J)I" } : Jvm.MethodName) method_13_code (4 : Nat) (Option.some Jvm.ClassFile.FieldType.int) [((0 : Nat), (9 : Nat), (12 : Nat), (13 : Nat)), ((0 : Nat), (9 : Nat), (15 : Nat), (21 : Nat))]) ∈ am_tab := am_tm (am_t1 (i := 591) (by decide +kernel)) rfl
theorem wq_592 : (Jvm.Cond.methodLink "PepperboxTableLaw" (51 : Nat) ({ cls := "PepperboxTable", name := "play", desc := "(I)I" } : Jvm.MethodName)) ∈ am_tab := am_tm (am_t1 (i := 592) (by decide +kernel)) rfl
theorem wq_593 : (Jvm.Cond.instanceMethod ({ cls := "PepperboxTable", name := "play", desc := "(I)I" } : Jvm.MethodName)) ∈ am_tab := am_tm (am_t1 (i := 593) (by decide +kernel)) rfl
theorem wq_594 : (Jvm.Cond.selects "PepperboxTable" ({ cls := "PepperboxTable", name := "play", desc := "(I)I" } : Jvm.MethodName) ({ cls := "PepperboxTable", name := "play", desc := "(I)I" } : Jvm.MethodName)) ∈ am_tab := am_tm (am_t1 (i := 594) (by decide +kernel)) rfl
theorem wq_595 : (Jvm.Cond.code ({ cls := "PepperboxTable", name := "play", desc := "(I)I" } : Jvm.MethodName) prog_1_method_12_code (3 : Nat) (Option.some Jvm.ClassFile.FieldType.int)) ∈ am_tab := am_tm (am_t1 (i := 595) (by decide +kernel)) rfl
theorem wq_596 : (Jvm.Cond.methodLink "PepperboxTable" (166 : Nat) ({ cls := "PepperboxTable", name := "checkPlayable", desc := "(I)V" } : Jvm.MethodName)) ∈ am_tab := am_tm (am_t1 (i := 596) (by decide +kernel)) rfl
theorem wq_598 : (Jvm.Cond.instanceMethod ({ cls := "PepperboxTable", name := "checkPlayable", desc := "(I)V" } : Jvm.MethodName)) ∈ am_tab := am_tm (am_t1 (i := 598) (by decide +kernel)) rfl
theorem wq_599 : (Jvm.Cond.code ({ cls := "PepperboxTable", name := "checkPlayable", desc := "(I)V" } : Jvm.MethodName) prog_1_method_34_code (2 : Nat) (Option.none : Option Jvm.ClassFile.FieldType)) ∈ am_tab := am_tm (am_t1 (i := 599) (by decide +kernel)) rfl
theorem wq_601 : (Jvm.Cond.methodLink "PepperboxTable" (178 : Nat) ({ cls := "PepperboxTable", name := "finishDeal", desc := "()V" } : Jvm.MethodName)) ∈ am_tab := am_tm (am_t1 (i := 601) (by decide +kernel)) rfl
theorem wq_603 : (Jvm.Cond.instanceMethod ({ cls := "PepperboxTable", name := "finishDeal", desc := "()V" } : Jvm.MethodName)) ∈ am_tab := am_tm (am_t1 (i := 603) (by decide +kernel)) rfl
theorem wq_604 : (Jvm.Cond.code ({ cls := "PepperboxTable", name := "finishDeal", desc := "()V" } : Jvm.MethodName) prog_1_method_38_code (3 : Nat) (Option.none : Option Jvm.ClassFile.FieldType)) ∈ am_tab := am_tm (am_t1 (i := 604) (by decide +kernel)) rfl
theorem wq_605 : (Jvm.Cond.methodLink "PepperboxTable" (305 : Nat) ({ cls := "PepperboxTable", name := "payForRevoke", desc := "(I)V" } : Jvm.MethodName)) ∈ am_tab := am_tm (am_t1 (i := 605) (by decide +kernel)) rfl
theorem wq_607 : (Jvm.Cond.instanceMethod ({ cls := "PepperboxTable", name := "payForRevoke", desc := "(I)V" } : Jvm.MethodName)) ∈ am_tab := am_tm (am_t1 (i := 607) (by decide +kernel)) rfl
theorem wq_608 : (Jvm.Cond.code ({ cls := "PepperboxTable", name := "payForRevoke", desc := "(I)V" } : Jvm.MethodName) prog_1_method_39_code (3 : Nat) (Option.none : Option Jvm.ClassFile.FieldType)) ∈ am_tab := am_tm (am_t1 (i := 608) (by decide +kernel)) rfl
theorem wq_609 : (Jvm.Cond.methodLink "PepperboxTable" (243 : Nat) ({ cls := "PepperboxTable$Auction", name := "scoreFor", desc := "(I)I" } : Jvm.MethodName)) ∈ am_tab := am_tm (am_t1 (i := 609) (by decide +kernel)) rfl
theorem wq_610 : (Jvm.Cond.instanceMethod ({ cls := "PepperboxTable$Auction", name := "scoreFor", desc := "(I)I" } : Jvm.MethodName)) ∈ am_tab := am_tm (am_t1 (i := 610) (by decide +kernel)) rfl
theorem wq_611 : (Jvm.Cond.selects "PepperboxTable$Auction" ({ cls := "PepperboxTable$Auction", name := "scoreFor", desc := "(I)I" } : Jvm.MethodName) ({ cls := "PepperboxTable$Auction", name := "scoreFor", desc := "(I)I" } : Jvm.MethodName)) ∈ am_tab := am_tm (am_t1 (i := 611) (by decide +kernel)) rfl
theorem wq_612 : (Jvm.Cond.code ({ cls := "PepperboxTable$Auction", name := "scoreFor", desc := "(I)I" } : Jvm.MethodName) prog_2_method_15_code (4 : Nat) (Option.some Jvm.ClassFile.FieldType.int)) ∈ am_tab := am_tm (am_t1 (i := 612) (by decide +kernel)) rfl
theorem wq_613 : (Jvm.Cond.methodLink "PepperboxTable$Auction" (58 : Nat) ({ cls := "PepperboxTable$Auction", name := "level", desc := "()I" } : Jvm.MethodName)) ∈ am_tab := am_tm (am_t1 (i := 613) (by decide +kernel)) rfl
theorem wq_614 : (Jvm.Cond.methodLink "PepperboxTable$Auction" (61 : Nat) ({ cls := "PepperboxTable$Auction", name := "worthOf", desc := "(I)I" } : Jvm.MethodName)) ∈ am_tab := am_tm (am_t1 (i := 614) (by decide +kernel)) rfl
theorem wq_615 : (Jvm.Cond.static ({ cls := "PepperboxTable$Auction", name := "worthOf", desc := "(I)I" } : Jvm.MethodName)) ∈ am_tab := am_tm (am_t1 (i := 615) (by decide +kernel)) rfl
theorem wq_616 : (Jvm.Cond.code ({ cls := "PepperboxTable$Auction", name := "worthOf", desc := "(I)I" } : Jvm.MethodName) prog_2_method_16_code (1 : Nat) (Option.some Jvm.ClassFile.FieldType.int)) ∈ am_tab := am_tm (am_t1 (i := 616) (by decide +kernel)) rfl
theorem wq_619 : (Jvm.Cond.codeWith ({ cls := "PepperboxTableLaw", name := "back", desc := "(LPepperboxTable;[J)I" } : Jvm.MethodName) method_14_code (3 : Nat) (Option.some Jvm.ClassFile.FieldType.int) [((0 : Nat), (8 : Nat), (11 : Nat), (21 : Nat))]) ∈ am_tab := am_tm (am_t1 (i := 619) (by decide +kernel)) rfl
theorem wq_620 : (Jvm.Cond.methodLink "PepperboxTableLaw" (54 : Nat) ({ cls := "PepperboxTable", name := "back", desc := "()I" } : Jvm.MethodName)) ∈ am_tab := am_tm (am_t1 (i := 620) (by decide +kernel)) rfl
theorem wq_621 : (Jvm.Cond.instanceMethod ({ cls := "PepperboxTable", name := "back", desc := "()I" } : Jvm.MethodName)) ∈ am_tab := am_tm (am_t1 (i := 621) (by decide +kernel)) rfl
theorem wq_622 : (Jvm.Cond.selects "PepperboxTable" ({ cls := "PepperboxTable", name := "back", desc := "()I" } : Jvm.MethodName) ({ cls := "PepperboxTable", name := "back", desc := "()I" } : Jvm.MethodName)) ∈ am_tab := am_tm (am_t1 (i := 622) (by decide +kernel)) rfl
theorem wq_623 : (Jvm.Cond.code ({ cls := "PepperboxTable", name := "back", desc := "()I" } : Jvm.MethodName) prog_1_method_13_code (1 : Nat) (Option.some Jvm.ClassFile.FieldType.int)) ∈ am_tab := am_tm (am_t1 (i := 623) (by decide +kernel)) rfl
theorem wq_627 : (Jvm.Cond.codeWith ({ cls := "PepperboxTableLaw", name := "isRight", desc := "(LPepperboxTable;I[J)I" } : Jvm.MethodName) method_15_code (4 : Nat) (Option.some Jvm.ClassFile.FieldType.int) [((0 : Nat), (16 : Nat), (19 : Nat), (13 : Nat))]) ∈ am_tab := am_tm (am_t1 (i := 627) (by decide +kernel)) rfl
theorem wq_628 : (Jvm.Cond.methodLink "PepperboxTableLaw" (57 : Nat) ({ cls := "PepperboxTable", name := "isRight", desc := "(I)Z" } : Jvm.MethodName)) ∈ am_tab := am_tm (am_t1 (i := 628) (by decide +kernel)) rfl
theorem wq_629 : (Jvm.Cond.instanceMethod ({ cls := "PepperboxTable", name := "isRight", desc := "(I)Z" } : Jvm.MethodName)) ∈ am_tab := am_tm (am_t1 (i := 629) (by decide +kernel)) rfl
theorem wq_630 : (Jvm.Cond.selects "PepperboxTable" ({ cls := "PepperboxTable", name := "isRight", desc := "(I)Z" } : Jvm.MethodName) ({ cls := "PepperboxTable", name := "isRight", desc := "(I)Z" } : Jvm.MethodName)) ∈ am_tab := am_tm (am_t1 (i := 630) (by decide +kernel)) rfl
theorem wq_631 : (Jvm.Cond.code ({ cls := "PepperboxTable", name := "isRight", desc := "(I)Z" } : Jvm.MethodName) prog_1_method_14_code (2 : Nat) (Option.some Jvm.ClassFile.FieldType.boolean)) ∈ am_tab := am_tm (am_t1 (i := 631) (by decide +kernel)) rfl
theorem wq_634 : (Jvm.Cond.codeWith ({ cls := "PepperboxTableLaw", name := "trick", desc := "(LPepperboxTable;II[J)I" } : Jvm.MethodName) method_16_code (5 : Nat) (Option.some Jvm.ClassFile.FieldType.int) [((0 : Nat), (10 : Nat), (13 : Nat), (13 : Nat)), ((0 : Nat), (10 : Nat), (17 : Nat), (19 : Nat))]) ∈ am_tab := am_tm (am_t1 (i := 634) (by decide +kernel)) rfl
theorem wq_635 : (Jvm.Cond.methodLink "PepperboxTableLaw" (60 : Nat) ({ cls := "PepperboxTable", name := "trick", desc := "(II)I" } : Jvm.MethodName)) ∈ am_tab := am_tm (am_t1 (i := 635) (by decide +kernel)) rfl
theorem wq_638 : (Jvm.Cond.codeWith ({ cls := "PepperboxTableLaw", name := "now", desc := "(LPepperboxTable;I[J)I" } : Jvm.MethodName) method_17_code (4 : Nat) (Option.some Jvm.ClassFile.FieldType.int) [((0 : Nat), (9 : Nat), (12 : Nat), (19 : Nat))]) ∈ am_tab := am_tm (am_t1 (i := 638) (by decide +kernel)) rfl
theorem wq_639 : (Jvm.Cond.methodLink "PepperboxTableLaw" (63 : Nat) ({ cls := "PepperboxTable", name := "now", desc := "(I)I" } : Jvm.MethodName)) ∈ am_tab := am_tm (am_t1 (i := 639) (by decide +kernel)) rfl
theorem wq_642 : (Jvm.Cond.codeWith ({ cls := "PepperboxTableLaw", name := "side", desc := "(LPepperboxTable;II[J)I" } : Jvm.MethodName) method_18_code (5 : Nat) (Option.some Jvm.ClassFile.FieldType.int) [((0 : Nat), (10 : Nat), (13 : Nat), (13 : Nat)), ((0 : Nat), (10 : Nat), (17 : Nat), (19 : Nat))]) ∈ am_tab := am_tm (am_t1 (i := 642) (by decide +kernel)) rfl
theorem wq_643 : (Jvm.Cond.methodLink "PepperboxTableLaw" (66 : Nat) ({ cls := "PepperboxTable", name := "side", desc := "(II)I" } : Jvm.MethodName)) ∈ am_tab := am_tm (am_t1 (i := 643) (by decide +kernel)) rfl
theorem wq_646 : (Jvm.Cond.codeWith ({ cls := "PepperboxTableLaw", name := "wouldGet", desc := "(LPepperboxTable;I[J)I" } : Jvm.MethodName) method_19_code (4 : Nat) (Option.some Jvm.ClassFile.FieldType.int) [((0 : Nat), (9 : Nat), (12 : Nat), (13 : Nat)), ((0 : Nat), (9 : Nat), (15 : Nat), (21 : Nat))]) ∈ am_tab := am_tm (am_t1 (i := 646) (by decide +kernel)) rfl
theorem wq_647 : (Jvm.Cond.methodLink "PepperboxTableLaw" (69 : Nat) ({ cls := "PepperboxTable", name := "wouldGet", desc := "(I)I" } : Jvm.MethodName)) ∈ am_tab := am_tm (am_t1 (i := 647) (by decide +kernel)) rfl
theorem wq_648 : (Jvm.Cond.instanceMethod ({ cls := "PepperboxTable", name := "wouldGet", desc := "(I)I" } : Jvm.MethodName)) ∈ am_tab := am_tm (am_t1 (i := 648) (by decide +kernel)) rfl
theorem wq_649 : (Jvm.Cond.selects "PepperboxTable" ({ cls := "PepperboxTable", name := "wouldGet", desc := "(I)I" } : Jvm.MethodName) ({ cls := "PepperboxTable", name := "wouldGet", desc := "(I)I" } : Jvm.MethodName)) ∈ am_tab := am_tm (am_t1 (i := 649) (by decide +kernel)) rfl
theorem wq_650 : (Jvm.Cond.code ({ cls := "PepperboxTable", name := "wouldGet", desc := "(I)I" } : Jvm.MethodName) prog_1_method_19_code (2 : Nat) (Option.some Jvm.ClassFile.FieldType.int)) ∈ am_tab := am_tm (am_t1 (i := 650) (by decide +kernel)) rfl
theorem wq_653 : (Jvm.Cond.codeWith ({ cls := "PepperboxTableLaw", name := "bestWith", desc := "(LPepperboxTable;I[J)I" } : Jvm.MethodName) method_20_code (4 : Nat) (Option.some Jvm.ClassFile.FieldType.int) [((0 : Nat), (9 : Nat), (12 : Nat), (13 : Nat)), ((0 : Nat), (9 : Nat), (15 : Nat), (21 : Nat))]) ∈ am_tab := am_tm (am_t1 (i := 653) (by decide +kernel)) rfl
theorem wq_654 : (Jvm.Cond.methodLink "PepperboxTableLaw" (72 : Nat) ({ cls := "PepperboxTable", name := "bestWith", desc := "(I)I" } : Jvm.MethodName)) ∈ am_tab := am_tm (am_t1 (i := 654) (by decide +kernel)) rfl
theorem wq_655 : (Jvm.Cond.instanceMethod ({ cls := "PepperboxTable", name := "bestWith", desc := "(I)I" } : Jvm.MethodName)) ∈ am_tab := am_tm (am_t1 (i := 655) (by decide +kernel)) rfl
theorem wq_656 : (Jvm.Cond.selects "PepperboxTable" ({ cls := "PepperboxTable", name := "bestWith", desc := "(I)I" } : Jvm.MethodName) ({ cls := "PepperboxTable", name := "bestWith", desc := "(I)I" } : Jvm.MethodName)) ∈ am_tab := am_tm (am_t1 (i := 656) (by decide +kernel)) rfl
theorem wq_657 : (Jvm.Cond.code ({ cls := "PepperboxTable", name := "bestWith", desc := "(I)I" } : Jvm.MethodName) prog_1_method_21_code (2 : Nat) (Option.some Jvm.ClassFile.FieldType.int)) ∈ am_tab := am_tm (am_t1 (i := 657) (by decide +kernel)) rfl
theorem wq_660 : (Jvm.Cond.codeWith ({ cls := "PepperboxTableLaw", name := "bestIn", desc := "(LPepperboxTable;I[J)I" } : Jvm.MethodName) method_21_code (4 : Nat) (Option.some Jvm.ClassFile.FieldType.int) [((0 : Nat), (9 : Nat), (12 : Nat), (19 : Nat))]) ∈ am_tab := am_tm (am_t1 (i := 660) (by decide +kernel)) rfl
theorem wq_661 : (Jvm.Cond.methodLink "PepperboxTableLaw" (75 : Nat) ({ cls := "PepperboxTable", name := "bestIn", desc := "(I)I" } : Jvm.MethodName)) ∈ am_tab := am_tm (am_t1 (i := 661) (by decide +kernel)) rfl
theorem wq_664 : (Jvm.Cond.codeWith ({ cls := "PepperboxTableLaw", name := "wouldScore", desc := "(LPepperboxTable;I[J)I" } : Jvm.MethodName) method_22_code (4 : Nat) (Option.some Jvm.ClassFile.FieldType.int) [((0 : Nat), (9 : Nat), (12 : Nat), (19 : Nat)), ((0 : Nat), (9 : Nat), (15 : Nat), (21 : Nat))]) ∈ am_tab := am_tm (am_t1 (i := 664) (by decide +kernel)) rfl
theorem wq_665 : (Jvm.Cond.methodLink "PepperboxTableLaw" (78 : Nat) ({ cls := "PepperboxTable", name := "wouldScore", desc := "(I)I" } : Jvm.MethodName)) ∈ am_tab := am_tm (am_t1 (i := 665) (by decide +kernel)) rfl
theorem wq_666 : (Jvm.Cond.instanceMethod ({ cls := "PepperboxTable", name := "wouldScore", desc := "(I)I" } : Jvm.MethodName)) ∈ am_tab := am_tm (am_t1 (i := 666) (by decide +kernel)) rfl
theorem wq_667 : (Jvm.Cond.selects "PepperboxTable" ({ cls := "PepperboxTable", name := "wouldScore", desc := "(I)I" } : Jvm.MethodName) ({ cls := "PepperboxTable", name := "wouldScore", desc := "(I)I" } : Jvm.MethodName)) ∈ am_tab := am_tm (am_t1 (i := 667) (by decide +kernel)) rfl
theorem wq_668 : (Jvm.Cond.code ({ cls := "PepperboxTable", name := "wouldScore", desc := "(I)I" } : Jvm.MethodName) prog_1_method_24_code (4 : Nat) (Option.some Jvm.ClassFile.FieldType.int)) ∈ am_tab := am_tm (am_t1 (i := 668) (by decide +kernel)) rfl
theorem wq_675 : (Jvm.Cond.code ({ cls := "PepperboxTableModel", name := "<init>", desc := "()V" } : Jvm.MethodName) prog_5_method_1_code (1 : Nat) (Option.none : Option Jvm.ClassFile.FieldType)) ∈ am_tab := am_tm (am_t1 (i := 675) (by decide +kernel)) rfl
theorem wq_676 : (Jvm.Cond.methodLink "PepperboxTableModel" (1 : Nat) ({ cls := "java/lang/Object", name := "<init>", desc := "()V" } : Jvm.MethodName)) ∈ am_tab := am_tm (am_t1 (i := 676) (by decide +kernel)) rfl
theorem wq_677 : (Jvm.Cond.classLink "PepperboxTableModel" (35 : Nat) "[[I") ∈ am_tab := am_tm (am_t1 (i := 677) (by decide +kernel)) rfl
theorem wq_679 : (Jvm.Cond.fieldLink "PepperboxTableModel" (44 : Nat) "PepperboxTableModel" "thrown" "I") ∈ am_tab := am_tm (am_t1 (i := 679) (by decide +kernel)) rfl
theorem wq_680 : (Jvm.Cond.fieldLink "PepperboxTableModel" (59 : Nat) "PepperboxTableModel" "state" "I") ∈ am_tab := am_tm (am_t1 (i := 680) (by decide +kernel)) rfl
theorem wq_681 : (Jvm.Cond.fieldLink "PepperboxTableModel" (62 : Nat) "PepperboxTableModel" "dealer" "I") ∈ am_tab := am_tm (am_t1 (i := 681) (by decide +kernel)) rfl
theorem wq_682 : (Jvm.Cond.fieldLink "PepperboxTableModel" (88 : Nat) "PepperboxTableModel" "size" "I") ∈ am_tab := am_tm (am_t1 (i := 682) (by decide +kernel)) rfl
theorem wq_683 : (Jvm.Cond.fieldLink "PepperboxTableModel" (9 : Nat) "PepperboxTableModel" "hand" "[I") ∈ am_tab := am_tm (am_t1 (i := 683) (by decide +kernel)) rfl
theorem wq_684 : (Jvm.Cond.fieldLink "PepperboxTableModel" (65 : Nat) "PepperboxTableModel" "bids" "I") ∈ am_tab := am_tm (am_t1 (i := 684) (by decide +kernel)) rfl
theorem wq_685 : (Jvm.Cond.fieldLink "PepperboxTableModel" (13 : Nat) "PepperboxTableModel" "bid" "[I") ∈ am_tab := am_tm (am_t1 (i := 685) (by decide +kernel)) rfl
theorem wq_686 : (Jvm.Cond.fieldLink "PepperboxTableModel" (40 : Nat) "PepperboxTableModel" "level" "I") ∈ am_tab := am_tm (am_t1 (i := 686) (by decide +kernel)) rfl
theorem wq_687 : (Jvm.Cond.fieldLink "PepperboxTableModel" (105 : Nat) "PepperboxTableModel" "trump" "I") ∈ am_tab := am_tm (am_t1 (i := 687) (by decide +kernel)) rfl
theorem wq_688 : (Jvm.Cond.fieldLink "PepperboxTableModel" (111 : Nat) "PepperboxTableModel" "declarer" "I") ∈ am_tab := am_tm (am_t1 (i := 688) (by decide +kernel)) rfl
theorem wq_689 : (Jvm.Cond.fieldLink "PepperboxTableModel" (108 : Nat) "PepperboxTableModel" "times" "I") ∈ am_tab := am_tm (am_t1 (i := 689) (by decide +kernel)) rfl
theorem wq_690 : (Jvm.Cond.fieldLink "PepperboxTableModel" (68 : Nat) "PepperboxTableModel" "tricks" "I") ∈ am_tab := am_tm (am_t1 (i := 690) (by decide +kernel)) rfl
theorem wq_691 : (Jvm.Cond.fieldLink "PepperboxTableModel" (16 : Nat) "PepperboxTableModel" "trick" "[I") ∈ am_tab := am_tm (am_t1 (i := 691) (by decide +kernel)) rfl
theorem wq_692 : (Jvm.Cond.fieldLink "PepperboxTableModel" (114 : Nat) "PepperboxTableModel" "leader" "I") ∈ am_tab := am_tm (am_t1 (i := 692) (by decide +kernel)) rfl
theorem wq_693 : (Jvm.Cond.fieldLink "PepperboxTableModel" (71 : Nat) "PepperboxTableModel" "lying" "I") ∈ am_tab := am_tm (am_t1 (i := 693) (by decide +kernel)) rfl
theorem wq_694 : (Jvm.Cond.fieldLink "PepperboxTableModel" (19 : Nat) "PepperboxTableModel" "card" "[I") ∈ am_tab := am_tm (am_t1 (i := 694) (by decide +kernel)) rfl
theorem wq_695 : (Jvm.Cond.fieldLink "PepperboxTableModel" (22 : Nat) "PepperboxTableModel" "revokes" "[I") ∈ am_tab := am_tm (am_t1 (i := 695) (by decide +kernel)) rfl
theorem wq_696 : (Jvm.Cond.fieldLink "PepperboxTableModel" (25 : Nat) "PepperboxTableModel" "isRevoke" "[Z") ∈ am_tab := am_tm (am_t1 (i := 696) (by decide +kernel)) rfl
theorem wq_697 : (Jvm.Cond.fieldLink "PepperboxTableModel" (29 : Nat) "PepperboxTableModel" "got" "[I") ∈ am_tab := am_tm (am_t1 (i := 697) (by decide +kernel)) rfl
theorem wq_698 : (Jvm.Cond.fieldLink "PepperboxTableModel" (32 : Nat) "PepperboxTableModel" "score" "[I") ∈ am_tab := am_tm (am_t1 (i := 698) (by decide +kernel)) rfl
theorem wq_699 : (Jvm.Cond.fieldLink "PepperboxTableModel" (142 : Nat) "PepperboxTableModel" "deals" "I") ∈ am_tab := am_tm (am_t1 (i := 699) (by decide +kernel)) rfl
theorem wq_700 : (Jvm.Cond.fieldLink "PepperboxTableModel" (37 : Nat) "PepperboxTableModel" "row" "[[I") ∈ am_tab := am_tm (am_t1 (i := 700) (by decide +kernel)) rfl
theorem wq_746 : (Jvm.Cond.arrayClass Jvm.ClassFile.FieldType.boolean) ∈ am_tab := am_tm (am_t1 (i := 746) (by decide +kernel)) rfl
theorem wq_750 : (Jvm.Cond.code ({ cls := "PepperboxTableModel", name := "thrown", desc := "()I" } : Jvm.MethodName) prog_5_method_2_code (1 : Nat) (Option.some Jvm.ClassFile.FieldType.int)) ∈ am_tab := am_tm (am_t1 (i := 750) (by decide +kernel)) rfl
theorem wq_754 : (Jvm.Cond.code ({ cls := "PepperboxTableModel", name := "begin", desc := "(I)I" } : Jvm.MethodName) prog_5_method_12_code (4 : Nat) (Option.some Jvm.ClassFile.FieldType.int)) ∈ am_tab := am_tm (am_t1 (i := 754) (by decide +kernel)) rfl
theorem wq_755 : (Jvm.Cond.methodLink "PepperboxTableModel" (51 : Nat) ({ cls := "PepperboxTableModel", name := "isPlayer", desc := "(I)Z" } : Jvm.MethodName)) ∈ am_tab := am_tm (am_t1 (i := 755) (by decide +kernel)) rfl
theorem wq_756 : (Jvm.Cond.static ({ cls := "PepperboxTableModel", name := "isPlayer", desc := "(I)Z" } : Jvm.MethodName)) ∈ am_tab := am_tm (am_t1 (i := 756) (by decide +kernel)) rfl
theorem wq_757 : (Jvm.Cond.code ({ cls := "PepperboxTableModel", name := "isPlayer", desc := "(I)Z" } : Jvm.MethodName) prog_5_method_6_code (1 : Nat) (Option.some Jvm.ClassFile.FieldType.boolean)) ∈ am_tab := am_tm (am_t1 (i := 757) (by decide +kernel)) rfl
theorem wq_758 : (Jvm.Cond.methodLink "PepperboxTableModel" (47 : Nat) ({ cls := "PepperboxTableModel", name := "isIn", desc := "(III)Z" } : Jvm.MethodName)) ∈ am_tab := am_tm (am_t1 (i := 758) (by decide +kernel)) rfl
theorem wq_759 : (Jvm.Cond.static ({ cls := "PepperboxTableModel", name := "isIn", desc := "(III)Z" } : Jvm.MethodName)) ∈ am_tab := am_tm (am_t1 (i := 759) (by decide +kernel)) rfl
theorem wq_760 : (Jvm.Cond.code ({ cls := "PepperboxTableModel", name := "isIn", desc := "(III)Z" } : Jvm.MethodName) prog_5_method_5_code (3 : Nat) (Option.some Jvm.ClassFile.FieldType.boolean)) ∈ am_tab := am_tm (am_t1 (i := 760) (by decide +kernel)) rfl
theorem wq_761 : (Jvm.Cond.methodLink "PepperboxTableModel" (55 : Nat) ({ cls := "PepperboxTableModel", name := "no", desc := "(I)I" } : Jvm.MethodName)) ∈ am_tab := am_tm (am_t1 (i := 761) (by decide +kernel)) rfl
theorem wq_763 : (Jvm.Cond.instanceMethod ({ cls := "PepperboxTableModel", name := "no", desc := "(I)I" } : Jvm.MethodName)) ∈ am_tab := am_tm (am_t1 (i := 763) (by decide +kernel)) rfl
theorem wq_764 : (Jvm.Cond.code ({ cls := "PepperboxTableModel", name := "no", desc := "(I)I" } : Jvm.MethodName) prog_5_method_3_code (2 : Nat) (Option.some Jvm.ClassFile.FieldType.int)) ∈ am_tab := am_tm (am_t1 (i := 764) (by decide +kernel)) rfl
theorem wq_768 : (Jvm.Cond.code ({ cls := "PepperboxTableModel", name := "deal", desc := "(III)I" } : Jvm.MethodName) prog_5_method_13_code (5 : Nat) (Option.some Jvm.ClassFile.FieldType.int)) ∈ am_tab := am_tm (am_t1 (i := 768) (by decide +kernel)) rfl
theorem wq_769 : (Jvm.Cond.methodLink "PepperboxTableModel" (74 : Nat) ({ cls := "PepperboxTableModel", name := "isCard", desc := "(I)Z" } : Jvm.MethodName)) ∈ am_tab := am_tm (am_t1 (i := 769) (by decide +kernel)) rfl
theorem wq_770 : (Jvm.Cond.static ({ cls := "PepperboxTableModel", name := "isCard", desc := "(I)Z" } : Jvm.MethodName)) ∈ am_tab := am_tm (am_t1 (i := 770) (by decide +kernel)) rfl
theorem wq_771 : (Jvm.Cond.code ({ cls := "PepperboxTableModel", name := "isCard", desc := "(I)Z" } : Jvm.MethodName) prog_5_method_7_code (1 : Nat) (Option.some Jvm.ClassFile.FieldType.boolean)) ∈ am_tab := am_tm (am_t1 (i := 771) (by decide +kernel)) rfl
theorem wq_772 : (Jvm.Cond.methodLink "PepperboxTableModel" (77 : Nat) ({ cls := "PepperboxTableModel", name := "all", desc := "()I" } : Jvm.MethodName)) ∈ am_tab := am_tm (am_t1 (i := 772) (by decide +kernel)) rfl
theorem wq_774 : (Jvm.Cond.instanceMethod ({ cls := "PepperboxTableModel", name := "all", desc := "()I" } : Jvm.MethodName)) ∈ am_tab := am_tm (am_t1 (i := 774) (by decide +kernel)) rfl
theorem wq_775 : (Jvm.Cond.code ({ cls := "PepperboxTableModel", name := "all", desc := "()I" } : Jvm.MethodName) prog_5_method_11_code (1 : Nat) (Option.some Jvm.ClassFile.FieldType.int)) ∈ am_tab := am_tm (am_t1 (i := 775) (by decide +kernel)) rfl
theorem wq_776 : (Jvm.Cond.methodLink "PepperboxTableModel" (81 : Nat) ({ cls := "PepperboxTableModel", name := "handNow", desc := "(III)I" } : Jvm.MethodName)) ∈ am_tab := am_tm (am_t1 (i := 776) (by decide +kernel)) rfl
theorem wq_778 : (Jvm.Cond.instanceMethod ({ cls := "PepperboxTableModel", name := "handNow", desc := "(III)I" } : Jvm.MethodName)) ∈ am_tab := am_tm (am_t1 (i := 778) (by decide +kernel)) rfl
theorem wq_779 : (Jvm.Cond.code ({ cls := "PepperboxTableModel", name := "handNow", desc := "(III)I" } : Jvm.MethodName) prog_5_method_17_code (6 : Nat) (Option.some Jvm.ClassFile.FieldType.int)) ∈ am_tab := am_tm (am_t1 (i := 779) (by decide +kernel)) rfl
theorem wq_780 : (Jvm.Cond.methodLink "PepperboxTableModel" (85 : Nat) ({ cls := "PepperboxTableModel", name := "count", desc := "(I)I" } : Jvm.MethodName)) ∈ am_tab := am_tm (am_t1 (i := 780) (by decide +kernel)) rfl
theorem wq_781 : (Jvm.Cond.static ({ cls := "PepperboxTableModel", name := "count", desc := "(I)I" } : Jvm.MethodName)) ∈ am_tab := am_tm (am_t1 (i := 781) (by decide +kernel)) rfl
theorem wq_782 : (Jvm.Cond.code ({ cls := "PepperboxTableModel", name := "count", desc := "(I)I" } : Jvm.MethodName) prog_5_method_9_code (3 : Nat) (Option.some Jvm.ClassFile.FieldType.int)) ∈ am_tab := am_tm (am_t1 (i := 782) (by decide +kernel)) rfl
theorem wq_783 : (Jvm.Cond.methodLink "PepperboxTableModel" (95 : Nat) ({ cls := "PepperboxTableModel", name := "next", desc := "(II)I" } : Jvm.MethodName)) ∈ am_tab := am_tm (am_t1 (i := 783) (by decide +kernel)) rfl
theorem wq_784 : (Jvm.Cond.static ({ cls := "PepperboxTableModel", name := "next", desc := "(II)I" } : Jvm.MethodName)) ∈ am_tab := am_tm (am_t1 (i := 784) (by decide +kernel)) rfl
theorem wq_785 : (Jvm.Cond.code ({ cls := "PepperboxTableModel", name := "next", desc := "(II)I" } : Jvm.MethodName) prog_5_method_10_code (3 : Nat) (Option.some Jvm.ClassFile.FieldType.int)) ∈ am_tab := am_tm (am_t1 (i := 785) (by decide +kernel)) rfl
theorem wq_789 : (Jvm.Cond.code ({ cls := "PepperboxTableModel", name := "give", desc := "(II)I" } : Jvm.MethodName) prog_5_method_14_code (3 : Nat) (Option.some Jvm.ClassFile.FieldType.int)) ∈ am_tab := am_tm (am_t1 (i := 789) (by decide +kernel)) rfl
theorem wq_793 : (Jvm.Cond.code ({ cls := "PepperboxTableModel", name := "open", desc := "()I" } : Jvm.MethodName) prog_5_method_15_code (3 : Nat) (Option.some Jvm.ClassFile.FieldType.int)) ∈ am_tab := am_tm (am_t1 (i := 793) (by decide +kernel)) rfl
theorem wq_797 : (Jvm.Cond.code ({ cls := "PepperboxTableModel", name := "has", desc := "(II)Z" } : Jvm.MethodName) prog_5_method_16_code (3 : Nat) (Option.some Jvm.ClassFile.FieldType.boolean)) ∈ am_tab := am_tm (am_t1 (i := 797) (by decide +kernel)) rfl
theorem wq_798 : (Jvm.Cond.methodLink "PepperboxTableModel" (91 : Nat) ({ cls := "PepperboxTableModel", name := "hasCard", desc := "(II)Z" } : Jvm.MethodName)) ∈ am_tab := am_tm (am_t1 (i := 798) (by decide +kernel)) rfl
theorem wq_800 : (Jvm.Cond.instanceMethod ({ cls := "PepperboxTableModel", name := "hasCard", desc := "(II)Z" } : Jvm.MethodName)) ∈ am_tab := am_tm (am_t1 (i := 800) (by decide +kernel)) rfl
theorem wq_801 : (Jvm.Cond.code ({ cls := "PepperboxTableModel", name := "hasCard", desc := "(II)Z" } : Jvm.MethodName) prog_5_method_8_code (3 : Nat) (Option.some Jvm.ClassFile.FieldType.boolean)) ∈ am_tab := am_tm (am_t1 (i := 801) (by decide +kernel)) rfl
theorem wq_805 : (Jvm.Cond.code ({ cls := "PepperboxTableModel", name := "hand", desc := "(III)I" } : Jvm.MethodName) prog_5_method_18_code (4 : Nat) (Option.some Jvm.ClassFile.FieldType.int)) ∈ am_tab := am_tm (am_t1 (i := 805) (by decide +kernel)) rfl
theorem wq_809 : (Jvm.Cond.code ({ cls := "PepperboxTableModel", name := "bid", desc := "(I)I" } : Jvm.MethodName) prog_5_method_24_code (3 : Nat) (Option.some Jvm.ClassFile.FieldType.int)) ∈ am_tab := am_tm (am_t1 (i := 809) (by decide +kernel)) rfl
theorem wq_810 : (Jvm.Cond.methodLink "PepperboxTableModel" (117 : Nat) ({ cls := "PepperboxTableModel", name := "mayBid", desc := "(I)Z" } : Jvm.MethodName)) ∈ am_tab := am_tm (am_t1 (i := 810) (by decide +kernel)) rfl
theorem wq_812 : (Jvm.Cond.instanceMethod ({ cls := "PepperboxTableModel", name := "mayBid", desc := "(I)Z" } : Jvm.MethodName)) ∈ am_tab := am_tm (am_t1 (i := 812) (by decide +kernel)) rfl
theorem wq_813 : (Jvm.Cond.code ({ cls := "PepperboxTableModel", name := "mayBid", desc := "(I)Z" } : Jvm.MethodName) prog_5_method_22_code (4 : Nat) (Option.some Jvm.ClassFile.FieldType.boolean)) ∈ am_tab := am_tm (am_t1 (i := 813) (by decide +kernel)) rfl
theorem wq_814 : (Jvm.Cond.methodLink "PepperboxTableModel" (99 : Nat) ({ cls := "PepperboxTableModel", name := "lastLevel", desc := "()I" } : Jvm.MethodName)) ∈ am_tab := am_tm (am_t1 (i := 814) (by decide +kernel)) rfl
theorem wq_816 : (Jvm.Cond.instanceMethod ({ cls := "PepperboxTableModel", name := "lastLevel", desc := "()I" } : Jvm.MethodName)) ∈ am_tab := am_tm (am_t1 (i := 816) (by decide +kernel)) rfl
theorem wq_817 : (Jvm.Cond.code ({ cls := "PepperboxTableModel", name := "lastLevel", desc := "()I" } : Jvm.MethodName) prog_5_method_20_code (2 : Nat) (Option.some Jvm.ClassFile.FieldType.int)) ∈ am_tab := am_tm (am_t1 (i := 817) (by decide +kernel)) rfl
theorem wq_818 : (Jvm.Cond.methodLink "PepperboxTableModel" (102 : Nat) ({ cls := "PepperboxTableModel", name := "wasSince", desc := "(I)Z" } : Jvm.MethodName)) ∈ am_tab := am_tm (am_t1 (i := 818) (by decide +kernel)) rfl
theorem wq_820 : (Jvm.Cond.instanceMethod ({ cls := "PepperboxTableModel", name := "wasSince", desc := "(I)Z" } : Jvm.MethodName)) ∈ am_tab := am_tm (am_t1 (i := 820) (by decide +kernel)) rfl
theorem wq_821 : (Jvm.Cond.code ({ cls := "PepperboxTableModel", name := "wasSince", desc := "(I)Z" } : Jvm.MethodName) prog_5_method_21_code (3 : Nat) (Option.some Jvm.ClassFile.FieldType.boolean)) ∈ am_tab := am_tm (am_t1 (i := 821) (by decide +kernel)) rfl
theorem wq_822 : (Jvm.Cond.methodLink "PepperboxTableModel" (120 : Nat) ({ cls := "java/lang/System", name := "arraycopy", desc := "(Ljava/lang/Object;ILjava/lang/Object;II)V" } : Jvm.MethodName)) ∈ am_tab := am_tm (am_t1 (i := 822) (by decide +kernel)) rfl
theorem wq_823 : (Jvm.Cond.methodLink "PepperboxTableModel" (126 : Nat) ({ cls := "PepperboxTableModel", name := "contracted", desc := "(I)V" } : Jvm.MethodName)) ∈ am_tab := am_tm (am_t1 (i := 823) (by decide +kernel)) rfl
theorem wq_825 : (Jvm.Cond.instanceMethod ({ cls := "PepperboxTableModel", name := "contracted", desc := "(I)V" } : Jvm.MethodName)) ∈ am_tab := am_tm (am_t1 (i := 825) (by decide +kernel)) rfl
theorem wq_826 : (Jvm.Cond.code ({ cls := "PepperboxTableModel", name := "contracted", desc := "(I)V" } : Jvm.MethodName) prog_5_method_23_code (3 : Nat) (Option.none : Option Jvm.ClassFile.FieldType)) ∈ am_tab := am_tm (am_t1 (i := 826) (by decide +kernel)) rfl
theorem wq_827 : (Jvm.Cond.methodLink "PepperboxTableModel" (130 : Nat) ({ cls := "PepperboxTableModel", name := "turn", desc := "()I" } : Jvm.MethodName)) ∈ am_tab := am_tm (am_t1 (i := 827) (by decide +kernel)) rfl
theorem wq_829 : (Jvm.Cond.instanceMethod ({ cls := "PepperboxTableModel", name := "turn", desc := "()I" } : Jvm.MethodName)) ∈ am_tab := am_tm (am_t1 (i := 829) (by decide +kernel)) rfl
theorem wq_830 : (Jvm.Cond.code ({ cls := "PepperboxTableModel", name := "turn", desc := "()I" } : Jvm.MethodName) prog_5_method_25_code (1 : Nat) (Option.some Jvm.ClassFile.FieldType.int)) ∈ am_tab := am_tm (am_t1 (i := 830) (by decide +kernel)) rfl
theorem wq_831 : (Jvm.Cond.methodLink "PepperboxTableModel" (133 : Nat) ({ cls := "PepperboxTableModel", name := "bidder", desc := "()I" } : Jvm.MethodName)) ∈ am_tab := am_tm (am_t1 (i := 831) (by decide +kernel)) rfl
theorem wq_833 : (Jvm.Cond.instanceMethod ({ cls := "PepperboxTableModel", name := "bidder", desc := "()I" } : Jvm.MethodName)) ∈ am_tab := am_tm (am_t1 (i := 833) (by decide +kernel)) rfl
theorem wq_834 : (Jvm.Cond.code ({ cls := "PepperboxTableModel", name := "bidder", desc := "()I" } : Jvm.MethodName) prog_5_method_19_code (1 : Nat) (Option.some Jvm.ClassFile.FieldType.int)) ∈ am_tab := am_tm (am_t1 (i := 834) (by decide +kernel)) rfl
theorem wq_838 : (Jvm.Cond.code ({ cls := "PepperboxTableModel", name := "canBid", desc := "(I)Z" } : Jvm.MethodName) prog_5_method_26_code (2 : Nat) (Option.some Jvm.ClassFile.FieldType.boolean)) ∈ am_tab := am_tm (am_t1 (i := 838) (by decide +kernel)) rfl
theorem wq_842 : (Jvm.Cond.code ({ cls := "PepperboxTableModel", name := "bidAt", desc := "(I)I" } : Jvm.MethodName) prog_5_method_27_code (2 : Nat) (Option.some Jvm.ClassFile.FieldType.int)) ∈ am_tab := am_tm (am_t1 (i := 842) (by decide +kernel)) rfl
theorem wq_846 : (Jvm.Cond.code ({ cls := "PepperboxTableModel", name := "contract", desc := "(I)I" } : Jvm.MethodName) prog_5_method_29_code (2 : Nat) (Option.some Jvm.ClassFile.FieldType.int)) ∈ am_tab := am_tm (am_t1 (i := 846) (by decide +kernel)) rfl
theorem wq_847 : (Jvm.Cond.methodLink "PepperboxTableModel" (136 : Nat) ({ cls := "PepperboxTableModel", name := "contractNow", desc := "(I)I" } : Jvm.MethodName)) ∈ am_tab := am_tm (am_t1 (i := 847) (by decide +kernel)) rfl
theorem wq_849 : (Jvm.Cond.instanceMethod ({ cls := "PepperboxTableModel", name := "contractNow", desc := "(I)I" } : Jvm.MethodName)) ∈ am_tab := am_tm (am_t1 (i := 849) (by decide +kernel)) rfl
theorem wq_850 : (Jvm.Cond.code ({ cls := "PepperboxTableModel", name := "contractNow", desc := "(I)I" } : Jvm.MethodName) prog_5_method_28_code (2 : Nat) (Option.some Jvm.ClassFile.FieldType.int)) ∈ am_tab := am_tm (am_t1 (i := 850) (by decide +kernel)) rfl
theorem wq_854 : (Jvm.Cond.code ({ cls := "PepperboxTableModel", name := "play", desc := "(I)I" } : Jvm.MethodName) prog_5_method_35_code (5 : Nat) (Option.some Jvm.ClassFile.FieldType.int)) ∈ am_tab := am_tm (am_t1 (i := 854) (by decide +kernel)) rfl
theorem wq_855 : (Jvm.Cond.methodLink "PepperboxTableModel" (149 : Nat) ({ cls := "PepperboxTableModel", name := "isRightNow", desc := "(II[II)Z" } : Jvm.MethodName)) ∈ am_tab := am_tm (am_t1 (i := 855) (by decide +kernel)) rfl
theorem wq_856 : (Jvm.Cond.static ({ cls := "PepperboxTableModel", name := "isRightNow", desc := "(II[II)Z" } : Jvm.MethodName)) ∈ am_tab := am_tm (am_t1 (i := 856) (by decide +kernel)) rfl
theorem wq_857 : (Jvm.Cond.code ({ cls := "PepperboxTableModel", name := "isRightNow", desc := "(II[II)Z" } : Jvm.MethodName) prog_5_method_32_code (4 : Nat) (Option.some Jvm.ClassFile.FieldType.boolean)) ∈ am_tab := am_tm (am_t1 (i := 857) (by decide +kernel)) rfl
theorem wq_858 : (Jvm.Cond.methodLink "PepperboxTableModel" (153 : Nat) ({ cls := "PepperboxTableModel", name := "best", desc := "([IIII)I" } : Jvm.MethodName)) ∈ am_tab := am_tm (am_t1 (i := 858) (by decide +kernel)) rfl
theorem wq_859 : (Jvm.Cond.static ({ cls := "PepperboxTableModel", name := "best", desc := "([IIII)I" } : Jvm.MethodName)) ∈ am_tab := am_tm (am_t1 (i := 859) (by decide +kernel)) rfl
theorem wq_860 : (Jvm.Cond.code ({ cls := "PepperboxTableModel", name := "best", desc := "([IIII)I" } : Jvm.MethodName) prog_5_method_31_code (6 : Nat) (Option.some Jvm.ClassFile.FieldType.int)) ∈ am_tab := am_tm (am_t1 (i := 860) (by decide +kernel)) rfl
theorem wq_861 : (Jvm.Cond.methodLink "PepperboxTableModel" (139 : Nat) ({ cls := "PepperboxTableModel", name := "isBetter", desc := "(III)Z" } : Jvm.MethodName)) ∈ am_tab := am_tm (am_t1 (i := 861) (by decide +kernel)) rfl
theorem wq_862 : (Jvm.Cond.static ({ cls := "PepperboxTableModel", name := "isBetter", desc := "(III)Z" } : Jvm.MethodName)) ∈ am_tab := am_tm (am_t1 (i := 862) (by decide +kernel)) rfl
theorem wq_863 : (Jvm.Cond.code ({ cls := "PepperboxTableModel", name := "isBetter", desc := "(III)Z" } : Jvm.MethodName) prog_5_method_30_code (3 : Nat) (Option.some Jvm.ClassFile.FieldType.boolean)) ∈ am_tab := am_tm (am_t1 (i := 863) (by decide +kernel)) rfl
theorem wq_864 : (Jvm.Cond.methodLink "PepperboxTableModel" (157 : Nat) ({ cls := "PepperboxTableModel", name := "end", desc := "()V" } : Jvm.MethodName)) ∈ am_tab := am_tm (am_t1 (i := 864) (by decide +kernel)) rfl
theorem wq_866 : (Jvm.Cond.instanceMethod ({ cls := "PepperboxTableModel", name := "end", desc := "()V" } : Jvm.MethodName)) ∈ am_tab := am_tm (am_t1 (i := 866) (by decide +kernel)) rfl
theorem wq_867 : (Jvm.Cond.code ({ cls := "PepperboxTableModel", name := "end", desc := "()V" } : Jvm.MethodName) prog_5_method_34_code (2 : Nat) (Option.none : Option Jvm.ClassFile.FieldType)) ∈ am_tab := am_tm (am_t1 (i := 867) (by decide +kernel)) rfl
theorem wq_868 : (Jvm.Cond.methodLink "PepperboxTableModel" (145 : Nat) ({ cls := "PepperboxTableModel", name := "scores", desc := "(I)[I" } : Jvm.MethodName)) ∈ am_tab := am_tm (am_t1 (i := 868) (by decide +kernel)) rfl
theorem wq_870 : (Jvm.Cond.instanceMethod ({ cls := "PepperboxTableModel", name := "scores", desc := "(I)[I" } : Jvm.MethodName)) ∈ am_tab := am_tm (am_t1 (i := 870) (by decide +kernel)) rfl
theorem wq_871 : (Jvm.Cond.code ({ cls := "PepperboxTableModel", name := "scores", desc := "(I)[I" } : Jvm.MethodName) prog_5_method_33_code (4 : Nat) (Option.some (Jvm.ClassFile.FieldType.array Jvm.ClassFile.FieldType.int))) ∈ am_tab := am_tm (am_t1 (i := 871) (by decide +kernel)) rfl
theorem wq_875 : (Jvm.Cond.code ({ cls := "PepperboxTableModel", name := "back", desc := "()I" } : Jvm.MethodName) prog_5_method_36_code (2 : Nat) (Option.some Jvm.ClassFile.FieldType.int)) ∈ am_tab := am_tm (am_t1 (i := 875) (by decide +kernel)) rfl
theorem wq_879 : (Jvm.Cond.code ({ cls := "PepperboxTableModel", name := "isRight", desc := "(I)Z" } : Jvm.MethodName) prog_5_method_37_code (2 : Nat) (Option.some Jvm.ClassFile.FieldType.boolean)) ∈ am_tab := am_tm (am_t1 (i := 879) (by decide +kernel)) rfl
theorem wq_883 : (Jvm.Cond.code ({ cls := "PepperboxTableModel", name := "trick", desc := "(II)I" } : Jvm.MethodName) prog_5_method_38_code (3 : Nat) (Option.some Jvm.ClassFile.FieldType.int)) ∈ am_tab := am_tm (am_t1 (i := 883) (by decide +kernel)) rfl
theorem wq_887 : (Jvm.Cond.code ({ cls := "PepperboxTableModel", name := "now", desc := "(I)I" } : Jvm.MethodName) prog_5_method_40_code (2 : Nat) (Option.some Jvm.ClassFile.FieldType.int)) ∈ am_tab := am_tm (am_t1 (i := 887) (by decide +kernel)) rfl
theorem wq_888 : (Jvm.Cond.methodLink "PepperboxTableModel" (160 : Nat) ({ cls := "PepperboxTableModel", name := "nowOf", desc := "(I)I" } : Jvm.MethodName)) ∈ am_tab := am_tm (am_t1 (i := 888) (by decide +kernel)) rfl
theorem wq_890 : (Jvm.Cond.instanceMethod ({ cls := "PepperboxTableModel", name := "nowOf", desc := "(I)I" } : Jvm.MethodName)) ∈ am_tab := am_tm (am_t1 (i := 890) (by decide +kernel)) rfl
theorem wq_891 : (Jvm.Cond.code ({ cls := "PepperboxTableModel", name := "nowOf", desc := "(I)I" } : Jvm.MethodName) prog_5_method_39_code (2 : Nat) (Option.some Jvm.ClassFile.FieldType.int)) ∈ am_tab := am_tm (am_t1 (i := 891) (by decide +kernel)) rfl
theorem wq_895 : (Jvm.Cond.code ({ cls := "PepperboxTableModel", name := "side", desc := "(II)I" } : Jvm.MethodName) prog_5_method_42_code (3 : Nat) (Option.some Jvm.ClassFile.FieldType.int)) ∈ am_tab := am_tm (am_t1 (i := 895) (by decide +kernel)) rfl
theorem wq_896 : (Jvm.Cond.methodLink "PepperboxTableModel" (163 : Nat) ({ cls := "PepperboxTableModel", name := "sideNow", desc := "(II)I" } : Jvm.MethodName)) ∈ am_tab := am_tm (am_t1 (i := 896) (by decide +kernel)) rfl
theorem wq_898 : (Jvm.Cond.instanceMethod ({ cls := "PepperboxTableModel", name := "sideNow", desc := "(II)I" } : Jvm.MethodName)) ∈ am_tab := am_tm (am_t1 (i := 898) (by decide +kernel)) rfl
theorem wq_899 : (Jvm.Cond.code ({ cls := "PepperboxTableModel", name := "sideNow", desc := "(II)I" } : Jvm.MethodName) prog_5_method_41_code (3 : Nat) (Option.some Jvm.ClassFile.FieldType.int)) ∈ am_tab := am_tm (am_t1 (i := 899) (by decide +kernel)) rfl
theorem wq_903 : (Jvm.Cond.code ({ cls := "PepperboxTableModel", name := "meanScore", desc := "()D" } : Jvm.MethodName) prog_5_method_43_code (1 : Nat) (Option.some Jvm.ClassFile.FieldType.double)) ∈ am_tab := am_tm (am_t1 (i := 903) (by decide +kernel)) rfl
theorem wq_907 : (Jvm.Cond.code ({ cls := "PepperboxTableModel", name := "best", desc := "()I" } : Jvm.MethodName) prog_5_method_51_code (1 : Nat) (Option.some Jvm.ClassFile.FieldType.int)) ∈ am_tab := am_tm (am_t1 (i := 907) (by decide +kernel)) rfl
theorem wq_908 : (Jvm.Cond.methodLink "PepperboxTableModel" (189 : Nat) ({ cls := "PepperboxTableModel", name := "bestNow", desc := "(I)I" } : Jvm.MethodName)) ∈ am_tab := am_tm (am_t1 (i := 908) (by decide +kernel)) rfl
theorem wq_910 : (Jvm.Cond.instanceMethod ({ cls := "PepperboxTableModel", name := "bestNow", desc := "(I)I" } : Jvm.MethodName)) ∈ am_tab := am_tm (am_t1 (i := 910) (by decide +kernel)) rfl
theorem wq_911 : (Jvm.Cond.code ({ cls := "PepperboxTableModel", name := "bestNow", desc := "(I)I" } : Jvm.MethodName) prog_5_method_48_code (2 : Nat) (Option.some Jvm.ClassFile.FieldType.int)) ∈ am_tab := am_tm (am_t1 (i := 911) (by decide +kernel)) rfl
theorem wq_912 : (Jvm.Cond.methodLink "PepperboxTableModel" (182 : Nat) ({ cls := "PepperboxTableModel", name := "lay", desc := "()V" } : Jvm.MethodName)) ∈ am_tab := am_tm (am_t1 (i := 912) (by decide +kernel)) rfl
theorem wq_914 : (Jvm.Cond.instanceMethod ({ cls := "PepperboxTableModel", name := "lay", desc := "()V" } : Jvm.MethodName)) ∈ am_tab := am_tm (am_t1 (i := 914) (by decide +kernel)) rfl
theorem wq_915 : (Jvm.Cond.code ({ cls := "PepperboxTableModel", name := "lay", desc := "()V" } : Jvm.MethodName) prog_5_method_47_code (1 : Nat) (Option.none : Option Jvm.ClassFile.FieldType)) ∈ am_tab := am_tm (am_t1 (i := 915) (by decide +kernel)) rfl
theorem wq_916 : (Jvm.Cond.methodLink "PepperboxTableModel" (185 : Nat) ({ cls := "PepperboxTableModel", name := "isBestPlay", desc := "()Z" } : Jvm.MethodName)) ∈ am_tab := am_tm (am_t1 (i := 916) (by decide +kernel)) rfl
theorem wq_918 : (Jvm.Cond.instanceMethod ({ cls := "PepperboxTableModel", name := "isBestPlay", desc := "()Z" } : Jvm.MethodName)) ∈ am_tab := am_tm (am_t1 (i := 918) (by decide +kernel)) rfl
theorem wq_919 : (Jvm.Cond.code ({ cls := "PepperboxTableModel", name := "isBestPlay", desc := "()Z" } : Jvm.MethodName) prog_5_method_44_code (3 : Nat) (Option.some Jvm.ClassFile.FieldType.boolean)) ∈ am_tab := am_tm (am_t1 (i := 919) (by decide +kernel)) rfl
theorem wq_920 : (Jvm.Cond.methodLink "PepperboxTableModel" (166 : Nat) ({ cls := "PepperboxTableModel", name := "rest", desc := "(IIII)I" } : Jvm.MethodName)) ∈ am_tab := am_tm (am_t1 (i := 920) (by decide +kernel)) rfl
theorem wq_922 : (Jvm.Cond.instanceMethod ({ cls := "PepperboxTableModel", name := "rest", desc := "(IIII)I" } : Jvm.MethodName)) ∈ am_tab := am_tm (am_t1 (i := 922) (by decide +kernel)) rfl
theorem wq_923 : (Jvm.Cond.code ({ cls := "PepperboxTableModel", name := "rest", desc := "(IIII)I" } : Jvm.MethodName) prog_5_method_46_code (9 : Nat) (Option.some Jvm.ClassFile.FieldType.int)) ∈ am_tab := am_tm (am_t1 (i := 923) (by decide +kernel)) rfl
theorem wq_924 : (Jvm.Cond.methodLink "PepperboxTableModel" (170 : Nat) ({ cls := "PepperboxTableModel", name := "with", desc := "(IIIII)I" } : Jvm.MethodName)) ∈ am_tab := am_tm (am_t1 (i := 924) (by decide +kernel)) rfl
theorem wq_926 : (Jvm.Cond.instanceMethod ({ cls := "PepperboxTableModel", name := "with", desc := "(IIIII)I" } : Jvm.MethodName)) ∈ am_tab := am_tm (am_t1 (i := 926) (by decide +kernel)) rfl
theorem wq_927 : (Jvm.Cond.code ({ cls := "PepperboxTableModel", name := "with", desc := "(IIIII)I" } : Jvm.MethodName) prog_5_method_45_code (9 : Nat) (Option.some Jvm.ClassFile.FieldType.int)) ∈ am_tab := am_tm (am_t1 (i := 927) (by decide +kernel)) rfl
theorem wq_928 : (Jvm.Cond.methodLink "PepperboxTableModel" (174 : Nat) ({ cls := "java/lang/Math", name := "max", desc := "(II)I" } : Jvm.MethodName)) ∈ am_tab := am_tm (am_t1 (i := 928) (by decide +kernel)) rfl
theorem wq_929 : (Jvm.Cond.static ({ cls := "java/lang/Math", name := "max", desc := "(II)I" } : Jvm.MethodName)) ∈ am_tab := am_tm (am_t1 (i := 929) (by decide +kernel)) rfl
theorem wq_930 : (Jvm.Cond.code ({ cls := "java/lang/Math", name := "max", desc := "(II)I" } : Jvm.MethodName) prog_11_method_65_code (2 : Nat) (Option.some Jvm.ClassFile.FieldType.int)) ∈ am_tab := am_tm (am_t1 (i := 930) (by decide +kernel)) rfl
theorem wq_931 : (Jvm.Cond.methodLink "PepperboxTableModel" (179 : Nat) ({ cls := "java/lang/Math", name := "min", desc := "(II)I" } : Jvm.MethodName)) ∈ am_tab := am_tm (am_t1 (i := 931) (by decide +kernel)) rfl
theorem wq_932 : (Jvm.Cond.static ({ cls := "java/lang/Math", name := "min", desc := "(II)I" } : Jvm.MethodName)) ∈ am_tab := am_tm (am_t1 (i := 932) (by decide +kernel)) rfl
theorem wq_933 : (Jvm.Cond.code ({ cls := "java/lang/Math", name := "min", desc := "(II)I" } : Jvm.MethodName) prog_11_method_69_code (2 : Nat) (Option.some Jvm.ClassFile.FieldType.int)) ∈ am_tab := am_tm (am_t1 (i := 933) (by decide +kernel)) rfl
theorem wq_937 : (Jvm.Cond.code ({ cls := "PepperboxTableModel", name := "bestWith", desc := "(I)I" } : Jvm.MethodName) prog_5_method_52_code (2 : Nat) (Option.some Jvm.ClassFile.FieldType.int)) ∈ am_tab := am_tm (am_t1 (i := 937) (by decide +kernel)) rfl
theorem wq_938 : (Jvm.Cond.methodLink "PepperboxTableModel" (192 : Nat) ({ cls := "PepperboxTableModel", name := "withNow", desc := "(I)I" } : Jvm.MethodName)) ∈ am_tab := am_tm (am_t1 (i := 938) (by decide +kernel)) rfl
theorem wq_940 : (Jvm.Cond.instanceMethod ({ cls := "PepperboxTableModel", name := "withNow", desc := "(I)I" } : Jvm.MethodName)) ∈ am_tab := am_tm (am_t1 (i := 940) (by decide +kernel)) rfl
theorem wq_941 : (Jvm.Cond.code ({ cls := "PepperboxTableModel", name := "withNow", desc := "(I)I" } : Jvm.MethodName) prog_5_method_49_code (2 : Nat) (Option.some Jvm.ClassFile.FieldType.int)) ∈ am_tab := am_tm (am_t1 (i := 941) (by decide +kernel)) rfl
theorem wq_945 : (Jvm.Cond.code ({ cls := "PepperboxTableModel", name := "bestCard", desc := "()I" } : Jvm.MethodName) prog_5_method_53_code (1 : Nat) (Option.some Jvm.ClassFile.FieldType.int)) ∈ am_tab := am_tm (am_t1 (i := 945) (by decide +kernel)) rfl
theorem wq_946 : (Jvm.Cond.methodLink "PepperboxTableModel" (195 : Nat) ({ cls := "PepperboxTableModel", name := "bestCardNow", desc := "()I" } : Jvm.MethodName)) ∈ am_tab := am_tm (am_t1 (i := 946) (by decide +kernel)) rfl
theorem wq_948 : (Jvm.Cond.instanceMethod ({ cls := "PepperboxTableModel", name := "bestCardNow", desc := "()I" } : Jvm.MethodName)) ∈ am_tab := am_tm (am_t1 (i := 948) (by decide +kernel)) rfl
theorem wq_949 : (Jvm.Cond.code ({ cls := "PepperboxTableModel", name := "bestCardNow", desc := "()I" } : Jvm.MethodName) prog_5_method_50_code (3 : Nat) (Option.some Jvm.ClassFile.FieldType.int)) ∈ am_tab := am_tm (am_t1 (i := 949) (by decide +kernel)) rfl
theorem wq_953 : (Jvm.Cond.code ({ cls := "PepperboxTableModel", name := "bestIn", desc := "(I)I" } : Jvm.MethodName) prog_5_method_54_code (2 : Nat) (Option.some Jvm.ClassFile.FieldType.int)) ∈ am_tab := am_tm (am_t1 (i := 953) (by decide +kernel)) rfl
theorem wq_957 : (Jvm.Cond.code ({ cls := "PepperboxTableModel", name := "wouldGet", desc := "(I)I" } : Jvm.MethodName) prog_5_method_55_code (3 : Nat) (Option.some Jvm.ClassFile.FieldType.int)) ∈ am_tab := am_tm (am_t1 (i := 957) (by decide +kernel)) rfl
theorem wq_961 : (Jvm.Cond.code ({ cls := "PepperboxTableModel", name := "wouldScore", desc := "(I)I" } : Jvm.MethodName) prog_5_method_56_code (3 : Nat) (Option.some Jvm.ClassFile.FieldType.int)) ∈ am_tab := am_tm (am_t1 (i := 961) (by decide +kernel)) rfl
theorem wq_965 : (Jvm.Cond.code ({ cls := "PepperboxTableModel", name := "digest", desc := "()J" } : Jvm.MethodName) prog_5_method_57_code (6 : Nat) (Option.some Jvm.ClassFile.FieldType.long)) ∈ am_tab := am_tm (am_t1 (i := 965) (by decide +kernel)) rfl
theorem wq_966 : (Jvm.Cond.constantLong "PepperboxTableModel" (198 : Nat) (968 : Int64)) ∈ am_tab := am_tm (am_t1 (i := 966) (by decide +kernel)) rfl
theorem wq_967 : (Jvm.Cond.constantLong "PepperboxTableModel" (200 : Nat) (31 : Int64)) ∈ am_tab := am_tm (am_t1 (i := 967) (by decide +kernel)) rfl
theorem wp_1 : Cond.selects "PepperboxTable" ⟨"PepperboxTable", "hasBestPlay", "()Z"⟩ ⟨"PepperboxTable", "hasBestPlay", "()Z"⟩ ∈ am_tab := am_tm (am_t0 (i := 1) (by decide +kernel)) rfl
theorem wp_2 : Cond.selects "PepperboxTable$Cards" ⟨"PepperboxTable$Cards", "playedAt", "(I)I"⟩ ⟨"PepperboxTable$Cards", "playedAt", "(I)I"⟩ ∈ am_tab := am_tm (am_t0 (i := 2) (by decide +kernel)) rfl
theorem wp_3 : Cond.selects "PepperboxTable$Cards" ⟨"PepperboxTable$Cards", "beats", "(II)Z"⟩ ⟨"PepperboxTable$Cards", "beats", "(II)Z"⟩ ∈ am_tab := am_tm (am_t0 (i := 3) (by decide +kernel)) rfl
theorem wp_4 : Cond.selects "PepperboxTable$Cards" ⟨"PepperboxTable$Cards", "playerAt", "(I)I"⟩ ⟨"PepperboxTable$Cards", "playerAt", "(I)I"⟩ ∈ am_tab := am_tm (am_t0 (i := 4) (by decide +kernel)) rfl
theorem wp_5 : Cond.selects "PepperboxTable" ⟨"PepperboxTable", "bestBehind", "(I)I"⟩ ⟨"PepperboxTable", "bestBehind", "(I)I"⟩ ∈ am_tab := am_tm (am_t0 (i := 5) (by decide +kernel)) rfl
theorem wp_6 : Cond.selects "PepperboxTable" ⟨"PepperboxTable", "turnNow", "()I"⟩ ⟨"PepperboxTable", "turnNow", "()I"⟩ ∈ am_tab := am_tm (am_t0 (i := 6) (by decide +kernel)) rfl
theorem wp_7 : Cond.selects "PepperboxTable" ⟨"PepperboxTable", "mixTricks", "(J)J"⟩ ⟨"PepperboxTable", "mixTricks", "(J)J"⟩ ∈ am_tab := am_tm (am_t0 (i := 7) (by decide +kernel)) rfl
theorem wp_8 : Cond.selects "PepperboxTable" ⟨"PepperboxTable", "mixSides", "(J)J"⟩ ⟨"PepperboxTable", "mixSides", "(J)J"⟩ ∈ am_tab := am_tm (am_t0 (i := 8) (by decide +kernel)) rfl
theorem wp_9 : Cond.selects "PepperboxTable" ⟨"PepperboxTable", "revokersOf", "(I)I"⟩ ⟨"PepperboxTable", "revokersOf", "(I)I"⟩ ∈ am_tab := am_tm (am_t0 (i := 9) (by decide +kernel)) rfl
theorem wp_10 : Cond.selects "PepperboxTable" ⟨"PepperboxTable", "mixHands", "(J)J"⟩ ⟨"PepperboxTable", "mixHands", "(J)J"⟩ ∈ am_tab := am_tm (am_t0 (i := 10) (by decide +kernel)) rfl
theorem wp_11 : Cond.selects "PepperboxTable" ⟨"PepperboxTable", "isBidAllowed", "(I)Z"⟩ ⟨"PepperboxTable", "isBidAllowed", "(I)Z"⟩ ∈ am_tab := am_tm (am_t0 (i := 11) (by decide +kernel)) rfl
theorem wp_12 : Cond.selects "PepperboxTable$Auction" ⟨"PepperboxTable$Auction", "addCall", "(I)V"⟩ ⟨"PepperboxTable$Auction", "addCall", "(I)V"⟩ ∈ am_tab := am_tm (am_t0 (i := 12) (by decide +kernel)) rfl
theorem wp_13 : Cond.selects "PepperboxTable" ⟨"PepperboxTable", "checkPlayable", "(I)V"⟩ ⟨"PepperboxTable", "checkPlayable", "(I)V"⟩ ∈ am_tab := am_tm (am_t0 (i := 13) (by decide +kernel)) rfl
theorem wp_14 : Cond.selects "PepperboxTable" ⟨"PepperboxTable", "finishDeal", "()V"⟩ ⟨"PepperboxTable", "finishDeal", "()V"⟩ ∈ am_tab := am_tm (am_t0 (i := 14) (by decide +kernel)) rfl
theorem wp_15 : Cond.selects "PepperboxTable" ⟨"PepperboxTable", "payForRevoke", "(I)V"⟩ ⟨"PepperboxTable", "payForRevoke", "(I)V"⟩ ∈ am_tab := am_tm (am_t0 (i := 15) (by decide +kernel)) rfl
theorem wp_16 : Cond.selects "PepperboxTableModel" ⟨"PepperboxTableModel", "no", "(I)I"⟩ ⟨"PepperboxTableModel", "no", "(I)I"⟩ ∈ am_tab := am_tm (am_t0 (i := 16) (by decide +kernel)) rfl
theorem wp_17 : Cond.selects "PepperboxTableModel" ⟨"PepperboxTableModel", "all", "()I"⟩ ⟨"PepperboxTableModel", "all", "()I"⟩ ∈ am_tab := am_tm (am_t0 (i := 17) (by decide +kernel)) rfl
theorem wp_18 : Cond.selects "PepperboxTableModel" ⟨"PepperboxTableModel", "handNow", "(III)I"⟩ ⟨"PepperboxTableModel", "handNow", "(III)I"⟩ ∈ am_tab := am_tm (am_t0 (i := 18) (by decide +kernel)) rfl
theorem wp_19 : Cond.selects "PepperboxTableModel" ⟨"PepperboxTableModel", "hasCard", "(II)Z"⟩ ⟨"PepperboxTableModel", "hasCard", "(II)Z"⟩ ∈ am_tab := am_tm (am_t0 (i := 19) (by decide +kernel)) rfl
theorem wp_20 : Cond.selects "PepperboxTableModel" ⟨"PepperboxTableModel", "mayBid", "(I)Z"⟩ ⟨"PepperboxTableModel", "mayBid", "(I)Z"⟩ ∈ am_tab := am_tm (am_t0 (i := 20) (by decide +kernel)) rfl
theorem wp_21 : Cond.selects "PepperboxTableModel" ⟨"PepperboxTableModel", "lastLevel", "()I"⟩ ⟨"PepperboxTableModel", "lastLevel", "()I"⟩ ∈ am_tab := am_tm (am_t0 (i := 21) (by decide +kernel)) rfl
theorem wp_22 : Cond.selects "PepperboxTableModel" ⟨"PepperboxTableModel", "wasSince", "(I)Z"⟩ ⟨"PepperboxTableModel", "wasSince", "(I)Z"⟩ ∈ am_tab := am_tm (am_t0 (i := 22) (by decide +kernel)) rfl
theorem wp_23 : Cond.selects "PepperboxTableModel" ⟨"PepperboxTableModel", "contracted", "(I)V"⟩ ⟨"PepperboxTableModel", "contracted", "(I)V"⟩ ∈ am_tab := am_tm (am_t0 (i := 23) (by decide +kernel)) rfl
theorem wp_24 : Cond.selects "PepperboxTableModel" ⟨"PepperboxTableModel", "turn", "()I"⟩ ⟨"PepperboxTableModel", "turn", "()I"⟩ ∈ am_tab := am_tm (am_t0 (i := 24) (by decide +kernel)) rfl
theorem wp_25 : Cond.selects "PepperboxTableModel" ⟨"PepperboxTableModel", "bidder", "()I"⟩ ⟨"PepperboxTableModel", "bidder", "()I"⟩ ∈ am_tab := am_tm (am_t0 (i := 25) (by decide +kernel)) rfl
theorem wp_26 : Cond.selects "PepperboxTableModel" ⟨"PepperboxTableModel", "contractNow", "(I)I"⟩ ⟨"PepperboxTableModel", "contractNow", "(I)I"⟩ ∈ am_tab := am_tm (am_t0 (i := 26) (by decide +kernel)) rfl
theorem wp_27 : Cond.selects "PepperboxTableModel" ⟨"PepperboxTableModel", "end", "()V"⟩ ⟨"PepperboxTableModel", "end", "()V"⟩ ∈ am_tab := am_tm (am_t0 (i := 27) (by decide +kernel)) rfl
theorem wp_28 : Cond.selects "PepperboxTableModel" ⟨"PepperboxTableModel", "scores", "(I)[I"⟩ ⟨"PepperboxTableModel", "scores", "(I)[I"⟩ ∈ am_tab := am_tm (am_t0 (i := 28) (by decide +kernel)) rfl
theorem wp_29 : Cond.selects "PepperboxTableModel" ⟨"PepperboxTableModel", "nowOf", "(I)I"⟩ ⟨"PepperboxTableModel", "nowOf", "(I)I"⟩ ∈ am_tab := am_tm (am_t0 (i := 29) (by decide +kernel)) rfl
theorem wp_30 : Cond.selects "PepperboxTableModel" ⟨"PepperboxTableModel", "sideNow", "(II)I"⟩ ⟨"PepperboxTableModel", "sideNow", "(II)I"⟩ ∈ am_tab := am_tm (am_t0 (i := 30) (by decide +kernel)) rfl
theorem wp_31 : Cond.selects "PepperboxTableModel" ⟨"PepperboxTableModel", "bestNow", "(I)I"⟩ ⟨"PepperboxTableModel", "bestNow", "(I)I"⟩ ∈ am_tab := am_tm (am_t0 (i := 31) (by decide +kernel)) rfl
theorem wp_32 : Cond.selects "PepperboxTableModel" ⟨"PepperboxTableModel", "lay", "()V"⟩ ⟨"PepperboxTableModel", "lay", "()V"⟩ ∈ am_tab := am_tm (am_t0 (i := 32) (by decide +kernel)) rfl
theorem wp_33 : Cond.selects "PepperboxTableModel" ⟨"PepperboxTableModel", "isBestPlay", "()Z"⟩ ⟨"PepperboxTableModel", "isBestPlay", "()Z"⟩ ∈ am_tab := am_tm (am_t0 (i := 33) (by decide +kernel)) rfl
theorem wp_34 : Cond.selects "PepperboxTableModel" ⟨"PepperboxTableModel", "rest", "(IIII)I"⟩ ⟨"PepperboxTableModel", "rest", "(IIII)I"⟩ ∈ am_tab := am_tm (am_t0 (i := 34) (by decide +kernel)) rfl
theorem wp_35 : Cond.selects "PepperboxTableModel" ⟨"PepperboxTableModel", "with", "(IIIII)I"⟩ ⟨"PepperboxTableModel", "with", "(IIIII)I"⟩ ∈ am_tab := am_tm (am_t0 (i := 35) (by decide +kernel)) rfl
theorem wp_36 : Cond.selects "PepperboxTableModel" ⟨"PepperboxTableModel", "withNow", "(I)I"⟩ ⟨"PepperboxTableModel", "withNow", "(I)I"⟩ ∈ am_tab := am_tm (am_t0 (i := 36) (by decide +kernel)) rfl
theorem wp_37 : Cond.selects "PepperboxTableModel" ⟨"PepperboxTableModel", "bestCardNow", "()I"⟩ ⟨"PepperboxTableModel", "bestCardNow", "()I"⟩ ∈ am_tab := am_tm (am_t0 (i := 37) (by decide +kernel)) rfl
theorem th_57_g : ∀ w ∈ (vx_atS "PepperboxTable" 57 (am_xn 2) ["java/lang/RuntimeException", "java/lang/Exception"]).filter goodWord, w ∈ am_tab := fun w h => am_tm ((by decide +kernel : ∀ w ∈ (vx_atS "PepperboxTable" 57 (am_xn 2) ["java/lang/RuntimeException", "java/lang/Exception"]).filter goodWord, w ∈ lw_tbl) w h) (List.mem_filter.mp h).2
theorem th_57_b : ∀ w ∈ (vx_atS "PepperboxTable" 57 (am_xn 2) ["java/lang/RuntimeException", "java/lang/Exception"]).filter (fun w => !goodWord w), w ∈ am_decls.map Cond.declares ++ am_casts.map (fun q => Cond.castable q q) := by decide +kernel
theorem th_57_o : ∀ w ∈ Cond.classLink "PepperboxTable" 53 (am_xn 2) :: Cond.initialized (am_xn 2) :: vx_atS "PepperboxTable" 57 (am_xn 2) ["java/lang/RuntimeException", "java/lang/Exception"], vx_ot w = true := by decide +kernel
theorem th_68_g : ∀ w ∈ (vx_atS "PepperboxTable" 68 (am_xn 3) ["java/lang/RuntimeException", "java/lang/Exception"]).filter goodWord, w ∈ am_tab := fun w h => am_tm ((by decide +kernel : ∀ w ∈ (vx_atS "PepperboxTable" 68 (am_xn 3) ["java/lang/RuntimeException", "java/lang/Exception"]).filter goodWord, w ∈ lw_tbl) w h) (List.mem_filter.mp h).2
theorem th_68_b : ∀ w ∈ (vx_atS "PepperboxTable" 68 (am_xn 3) ["java/lang/RuntimeException", "java/lang/Exception"]).filter (fun w => !goodWord w), w ∈ am_decls.map Cond.declares ++ am_casts.map (fun q => Cond.castable q q) := by decide +kernel
theorem th_68_o : ∀ w ∈ Cond.classLink "PepperboxTable" 64 (am_xn 3) :: Cond.initialized (am_xn 3) :: vx_atS "PepperboxTable" 68 (am_xn 3) ["java/lang/RuntimeException", "java/lang/Exception"], vx_ot w = true := by decide +kernel
theorem th_154_g : ∀ w ∈ (vx_atS "PepperboxTable" 154 (am_xn 1) ["java/lang/RuntimeException", "java/lang/Exception"]).filter goodWord, w ∈ am_tab := fun w h => am_tm ((by decide +kernel : ∀ w ∈ (vx_atS "PepperboxTable" 154 (am_xn 1) ["java/lang/RuntimeException", "java/lang/Exception"]).filter goodWord, w ∈ lw_tbl) w h) (List.mem_filter.mp h).2
theorem th_154_b : ∀ w ∈ (vx_atS "PepperboxTable" 154 (am_xn 1) ["java/lang/RuntimeException", "java/lang/Exception"]).filter (fun w => !goodWord w), w ∈ am_decls.map Cond.declares ++ am_casts.map (fun q => Cond.castable q q) := by decide +kernel
theorem th_154_o : ∀ w ∈ Cond.classLink "PepperboxTable" 150 (am_xn 1) :: Cond.initialized (am_xn 1) :: vx_atS "PepperboxTable" 154 (am_xn 1) ["java/lang/RuntimeException", "java/lang/Exception"], vx_ot w = true := by decide +kernel
theorem nm_0 : am_nm 0 = yX0_init := rfl
theorem cw_0 : am_cw 0 = Cond.code yX0_init cX0_init 1 (Option.none : Option Jvm.ClassFile.FieldType) := rfl
theorem cm_0 : am_cw 0 ∈ am_tab := by rw [cw_0]; exact wq_61
theorem nm_1 : am_nm 1 = yX0_clear := rfl
theorem cw_1 : am_cw 1 = Cond.code yX0_clear cX0_clear 2 (Option.none : Option Jvm.ClassFile.FieldType) := rfl
theorem cm_1 : am_cw 1 ∈ am_tab := by rw [cw_1]; exact wq_455
theorem nm_2 : am_nm 2 = yX0_bidderAt := rfl
theorem cw_2 : am_cw 2 = Cond.code yX0_bidderAt cX0_bidderAt 2 (Option.some Jvm.ClassFile.FieldType.int) := rfl
theorem cm_2 : am_cw 2 ∈ am_tab := by rw [cw_2]; exact wq_332
theorem nm_3 : am_nm 3 = yX0_turn := rfl
theorem cw_3 : am_cw 3 = Cond.code yX0_turn cX0_turn 1 (Option.some Jvm.ClassFile.FieldType.int) := rfl
theorem cm_3 : am_cw 3 ∈ am_tab := by rw [cw_3]; exact wq_328
theorem nm_4 : am_nm 4 = yX0_at := rfl
theorem cw_4 : am_cw 4 = Cond.code yX0_at cX0_at 2 (Option.some Jvm.ClassFile.FieldType.int) := rfl
theorem cm_4 : am_cw 4 ∈ am_tab := by rw [cw_4]; exact wq_366
theorem nm_5 : am_nm 5 = yX0_allows := rfl
theorem cw_5 : am_cw 5 = Cond.code yX0_allows cX0_allows 3 (Option.some Jvm.ClassFile.FieldType.boolean) := rfl
theorem cm_5 : am_cw 5 ∈ am_tab := by rw [cw_5]; exact wq_550
theorem nm_6 : am_nm 6 = yX0_add := rfl
theorem cw_6 : am_cw 6 = Cond.code yX0_add cX0_add 2 (Option.none : Option Jvm.ClassFile.FieldType) := rfl
theorem cm_6 : am_cw 6 ∈ am_tab := by rw [cw_6]; exact wq_556
theorem nm_7 : am_nm 7 = yX0_addCall := rfl
theorem cw_7 : am_cw 7 = Cond.code yX0_addCall cX0_addCall 2 (Option.none : Option Jvm.ClassFile.FieldType) := rfl
theorem cm_7 : am_cw 7 ∈ am_tab := by rw [cw_7]; exact wq_560
theorem nm_8 : am_nm 8 = yX0_isPassedOut := rfl
theorem cw_8 : am_cw 8 = Cond.code yX0_isPassedOut cX0_isPassedOut 1 (Option.some Jvm.ClassFile.FieldType.boolean) := rfl
theorem cm_8 : am_cw 8 ∈ am_tab := by rw [cw_8]; exact wq_564
theorem nm_9 : am_nm 9 = yX0_isSettled := rfl
theorem cw_9 : am_cw 9 = Cond.code yX0_isSettled cX0_isSettled 1 (Option.some Jvm.ClassFile.FieldType.boolean) := rfl
theorem cm_9 : am_cw 9 ∈ am_tab := by rw [cw_9]; exact wq_347
theorem nm_10 : am_nm 10 = yX0_level := rfl
theorem cw_10 : am_cw 10 = Cond.code yX0_level cX0_level 1 (Option.some Jvm.ClassFile.FieldType.int) := rfl
theorem cm_10 : am_cw 10 ∈ am_tab := by rw [cw_10]; exact wq_351
theorem nm_11 : am_nm 11 = yX0_trump := rfl
theorem cw_11 : am_cw 11 = Cond.code yX0_trump cX0_trump 1 (Option.some Jvm.ClassFile.FieldType.int) := rfl
theorem cm_11 : am_cw 11 ∈ am_tab := by rw [cw_11]; exact wq_355
theorem nm_12 : am_nm 12 = yX0_trumpOf := rfl
theorem cw_12 : am_cw 12 = Cond.code yX0_trumpOf cX0_trumpOf 1 (Option.some Jvm.ClassFile.FieldType.int) := rfl
theorem cm_12 : am_cw 12 ∈ am_tab := by rw [cw_12]; exact wq_358
theorem nm_13 : am_nm 13 = yX0_declarer := rfl
theorem cw_13 : am_cw 13 = Cond.code yX0_declarer cX0_declarer 5 (Option.some Jvm.ClassFile.FieldType.int) := rfl
theorem cm_13 : am_cw 13 ∈ am_tab := by rw [cw_13]; exact wq_362
theorem nm_14 : am_nm 14 = yX0_scoreFor := rfl
theorem cw_14 : am_cw 14 = Cond.code yX0_scoreFor cX0_scoreFor 4 (Option.some Jvm.ClassFile.FieldType.int) := rfl
theorem cm_14 : am_cw 14 ∈ am_tab := by rw [cw_14]; exact wq_612
theorem nm_15 : am_nm 15 = yX0_worthOf := rfl
theorem cw_15 : am_cw 15 = Cond.code yX0_worthOf cX0_worthOf 1 (Option.some Jvm.ClassFile.FieldType.int) := rfl
theorem cm_15 : am_cw 15 ∈ am_tab := by rw [cw_15]; exact wq_616
theorem nm_16 : am_nm 16 = yX1_init := rfl
theorem cw_16 : am_cw 16 = Cond.code yX1_init cX1_init 1 (Option.none : Option Jvm.ClassFile.FieldType) := rfl
theorem cm_16 : am_cw 16 ∈ am_tab := by rw [cw_16]; exact wq_26
theorem nm_17 : am_nm 17 = yX1_clear := rfl
theorem cw_17 : am_cw 17 = Cond.code yX1_clear cX1_clear 2 (Option.none : Option Jvm.ClassFile.FieldType) := rfl
theorem cm_17 : am_cw 17 ∈ am_tab := by rw [cw_17]; exact wq_451
theorem nm_18 : am_nm 18 = yX1_copyFrom := rfl
theorem cw_18 : am_cw 18 = Cond.code yX1_copyFrom cX1_copyFrom 2 (Option.none : Option Jvm.ClassFile.FieldType) := rfl
theorem cm_18 : am_cw 18 ∈ am_tab := by rw [cw_18]; exact wq_215
theorem nm_19 : am_nm 19 = yX1_start := rfl
theorem cw_19 : am_cw 19 = Cond.code yX1_start cX1_start 3 (Option.none : Option Jvm.ClassFile.FieldType) := rfl
theorem cm_19 : am_cw 19 ∈ am_tab := by rw [cw_19]; exact wq_569
theorem nm_20 : am_nm 20 = yX1_heldBy := rfl
theorem cw_20 : am_cw 20 = Cond.code yX1_heldBy cX1_heldBy 2 (Option.some Jvm.ClassFile.FieldType.int) := rfl
theorem cm_20 : am_cw 20 ∈ am_tab := by rw [cw_20]; exact wq_205
theorem nm_21 : am_nm 21 = yX1_count := rfl
theorem cw_21 : am_cw 21 = Cond.code yX1_count cX1_count 2 (Option.some Jvm.ClassFile.FieldType.int) := rfl
theorem cm_21 : am_cw 21 ∈ am_tab := by rw [cw_21]; exact wq_201
theorem nm_22 : am_nm 22 = yX1_add := rfl
theorem cw_22 : am_cw 22 = Cond.code yX1_add cX1_add 3 (Option.none : Option Jvm.ClassFile.FieldType) := rfl
theorem cm_22 : am_cw 22 ∈ am_tab := by rw [cw_22]; exact wq_302
theorem nm_23 : am_nm 23 = yX1_isHeld := rfl
theorem cw_23 : am_cw 23 = Cond.code yX1_isHeld cX1_isHeld 2 (Option.some Jvm.ClassFile.FieldType.boolean) := rfl
theorem cm_23 : am_cw 23 ∈ am_tab := by rw [cw_23]; exact wq_506
theorem nm_24 : am_nm 24 = yX1_areAllEmpty := rfl
theorem cw_24 : am_cw 24 = Cond.code yX1_areAllEmpty cX1_areAllEmpty 1 (Option.some Jvm.ClassFile.FieldType.boolean) := rfl
theorem cm_24 : am_cw 24 ∈ am_tab := by rw [cw_24]; exact wq_472
theorem nm_25 : am_nm 25 = yX1_areAtMost := rfl
theorem cw_25 : am_cw 25 = Cond.code yX1_areAtMost cX1_areAtMost 3 (Option.some Jvm.ClassFile.FieldType.boolean) := rfl
theorem cm_25 : am_cw 25 ∈ am_tab := by rw [cw_25]; exact wq_197
theorem nm_26 : am_nm 26 = yX1_areReady := rfl
theorem cw_26 : am_cw 26 = Cond.code yX1_areReady cX1_areReady 2 (Option.some Jvm.ClassFile.FieldType.boolean) := rfl
theorem cm_26 : am_cw 26 ∈ am_tab := by rw [cw_26]; exact wq_518
theorem nm_27 : am_nm 27 = yX1_ended := rfl
theorem cw_27 : am_cw 27 = Cond.code yX1_ended cX1_ended 1 (Option.some Jvm.ClassFile.FieldType.int) := rfl
theorem cm_27 : am_cw 27 ∈ am_tab := by rw [cw_27]; exact wq_232
theorem nm_28 : am_nm 28 = yX1_lying := rfl
theorem cw_28 : am_cw 28 = Cond.code yX1_lying cX1_lying 1 (Option.some Jvm.ClassFile.FieldType.int) := rfl
theorem cm_28 : am_cw 28 ∈ am_tab := by rw [cw_28]; exact wq_243
theorem nm_29 : am_nm 29 = yX1_tricksLeft := rfl
theorem cw_29 : am_cw 29 = Cond.code yX1_tricksLeft cX1_tricksLeft 1 (Option.some Jvm.ClassFile.FieldType.int) := rfl
theorem cm_29 : am_cw 29 ∈ am_tab := by rw [cw_29]; exact wq_228
theorem nm_30 : am_nm 30 = yX1_leaderOf := rfl
theorem cw_30 : am_cw 30 = Cond.code yX1_leaderOf cX1_leaderOf 2 (Option.some Jvm.ClassFile.FieldType.int) := rfl
theorem cm_30 : am_cw 30 ∈ am_tab := by rw [cw_30]; exact wq_287
theorem nm_31 : am_nm 31 = yX1_playedAt := rfl
theorem cw_31 : am_cw 31 = Cond.code yX1_playedAt cX1_playedAt 2 (Option.some Jvm.ClassFile.FieldType.int) := rfl
theorem cm_31 : am_cw 31 ∈ am_tab := by rw [cw_31]; exact wq_247
theorem nm_32 : am_nm 32 = yX1_playerAt := rfl
theorem cw_32 : am_cw 32 = Cond.code yX1_playerAt cX1_playerAt 2 (Option.some Jvm.ClassFile.FieldType.int) := rfl
theorem cm_32 : am_cw 32 ∈ am_tab := by rw [cw_32]; exact wq_298
theorem nm_33 : am_nm 33 = yX1_cardIn := rfl
theorem cw_33 : am_cw 33 = Cond.code yX1_cardIn cX1_cardIn 4 (Option.some Jvm.ClassFile.FieldType.int) := rfl
theorem cm_33 : am_cw 33 ∈ am_tab := by rw [cw_33]; exact wq_398
theorem nm_34 : am_nm 34 = yX1_takerOf := rfl
theorem cw_34 : am_cw 34 = Cond.code yX1_takerOf cX1_takerOf 7 (Option.some Jvm.ClassFile.FieldType.int) := rfl
theorem cm_34 : am_cw 34 ∈ am_tab := by rw [cw_34]; exact wq_279
theorem nm_35 : am_nm 35 = yX1_beats := rfl
theorem cw_35 : am_cw 35 = Cond.code yX1_beats cX1_beats 4 (Option.some Jvm.ClassFile.FieldType.boolean) := rfl
theorem cm_35 : am_cw 35 ∈ am_tab := by rw [cw_35]; exact wq_283
theorem nm_36 : am_nm 36 = yX1_rightCards := rfl
theorem cw_36 : am_cw 36 = Cond.code yX1_rightCards cX1_rightCards 4 (Option.some Jvm.ClassFile.FieldType.int) := rfl
theorem cm_36 : am_cw 36 ∈ am_tab := by rw [cw_36]; exact wq_239
theorem nm_37 : am_nm 37 = yX1_put := rfl
theorem cw_37 : am_cw 37 = Cond.code yX1_put cX1_put 3 (Option.some Jvm.ClassFile.FieldType.int) := rfl
theorem cm_37 : am_cw 37 ∈ am_tab := by rw [cw_37]; exact wq_264
theorem nm_38 : am_nm 38 = yX1_takeBack := rfl
theorem cw_38 : am_cw 38 = Cond.code yX1_takeBack cX1_takeBack 2 (Option.some Jvm.ClassFile.FieldType.int) := rfl
theorem cm_38 : am_cw 38 ∈ am_tab := by rw [cw_38]; exact wq_294
theorem nm_39 : am_nm 39 = yX1_hasRevoked := rfl
theorem cw_39 : am_cw 39 = Cond.code yX1_hasRevoked cX1_hasRevoked 3 (Option.some Jvm.ClassFile.FieldType.boolean) := rfl
theorem cm_39 : am_cw 39 ∈ am_tab := by rw [cw_39]; exact wq_415
theorem nm_40 : am_nm 40 = yX2_init := rfl
theorem cw_40 : am_cw 40 = Cond.code yX2_init cX2_init 1 (Option.none : Option Jvm.ClassFile.FieldType) := rfl
theorem cm_40 : am_cw 40 ∈ am_tab := by rw [cw_40]; exact wq_18
theorem nm_41 : am_nm 41 = yX2_begin := rfl
theorem cw_41 : am_cw 41 = Cond.code yX2_begin cX2_begin 3 (Option.some Jvm.ClassFile.FieldType.int) := rfl
theorem cm_41 : am_cw 41 ∈ am_tab := by rw [cw_41]; exact wq_447
theorem nm_42 : am_nm 42 = yX2_deal := rfl
theorem cw_42 : am_cw 42 = Cond.code yX2_deal cX2_deal 6 (Option.some Jvm.ClassFile.FieldType.int) := rfl
theorem cm_42 : am_cw 42 ∈ am_tab := by rw [cw_42]; exact wq_464
theorem nm_43 : am_nm 43 = yX2_give := rfl
theorem cw_43 : am_cw 43 = Cond.code yX2_give cX2_give 3 (Option.some Jvm.ClassFile.FieldType.int) := rfl
theorem cm_43 : am_cw 43 ∈ am_tab := by rw [cw_43]; exact wq_497
theorem nm_44 : am_nm 44 = yX2_open := rfl
theorem cw_44 : am_cw 44 = Cond.code yX2_open cX2_open 1 (Option.some Jvm.ClassFile.FieldType.int) := rfl
theorem cm_44 : am_cw 44 ∈ am_tab := by rw [cw_44]; exact wq_514
theorem nm_45 : am_nm 45 = yX2_has := rfl
theorem cw_45 : am_cw 45 = Cond.code yX2_has cX2_has 3 (Option.some Jvm.ClassFile.FieldType.boolean) := rfl
theorem cm_45 : am_cw 45 ∈ am_tab := by rw [cw_45]; exact wq_526
theorem nm_46 : am_nm 46 = yX2_hand := rfl
theorem cw_46 : am_cw 46 = Cond.code yX2_hand cX2_hand 6 (Option.some Jvm.ClassFile.FieldType.int) := rfl
theorem cm_46 : am_cw 46 ∈ am_tab := by rw [cw_46]; exact wq_423
theorem nm_47 : am_nm 47 = yX2_bid := rfl
theorem cw_47 : am_cw 47 = Cond.code yX2_bid cX2_bid 2 (Option.some Jvm.ClassFile.FieldType.int) := rfl
theorem cm_47 : am_cw 47 ∈ am_tab := by rw [cw_47]; exact wq_538
theorem nm_48 : am_nm 48 = yX2_canBid := rfl
theorem cw_48 : am_cw 48 = Cond.code yX2_canBid cX2_canBid 2 (Option.some Jvm.ClassFile.FieldType.boolean) := rfl
theorem cm_48 : am_cw 48 ∈ am_tab := by rw [cw_48]; exact wq_576
theorem nm_49 : am_nm 49 = yX2_bidAt := rfl
theorem cw_49 : am_cw 49 = Cond.code yX2_bidAt cX2_bidAt 2 (Option.some Jvm.ClassFile.FieldType.int) := rfl
theorem cm_49 : am_cw 49 ∈ am_tab := by rw [cw_49]; exact wq_583
theorem nm_50 : am_nm 50 = yX2_contract := rfl
theorem cw_50 : am_cw 50 = Cond.code yX2_contract cX2_contract 2 (Option.some Jvm.ClassFile.FieldType.int) := rfl
theorem cm_50 : am_cw 50 ∈ am_tab := by rw [cw_50]; exact wq_343
theorem nm_51 : am_nm 51 = yX2_play := rfl
theorem cw_51 : am_cw 51 = Cond.code yX2_play cX2_play 3 (Option.some Jvm.ClassFile.FieldType.int) := rfl
theorem cm_51 : am_cw 51 ∈ am_tab := by rw [cw_51]; exact wq_595
theorem nm_52 : am_nm 52 = yX2_back := rfl
theorem cw_52 : am_cw 52 = Cond.code yX2_back cX2_back 1 (Option.some Jvm.ClassFile.FieldType.int) := rfl
theorem cm_52 : am_cw 52 ∈ am_tab := by rw [cw_52]; exact wq_623
theorem nm_53 : am_nm 53 = yX2_isRight := rfl
theorem cw_53 : am_cw 53 = Cond.code yX2_isRight cX2_isRight 2 (Option.some Jvm.ClassFile.FieldType.boolean) := rfl
theorem cm_53 : am_cw 53 ∈ am_tab := by rw [cw_53]; exact wq_631
theorem nm_54 : am_nm 54 = yX2_trick := rfl
theorem cw_54 : am_cw 54 = Cond.code yX2_trick cX2_trick 3 (Option.some Jvm.ClassFile.FieldType.int) := rfl
theorem cm_54 : am_cw 54 ∈ am_tab := by rw [cw_54]; exact wq_377
theorem nm_55 : am_nm 55 = yX2_now := rfl
theorem cw_55 : am_cw 55 = Cond.code yX2_now cX2_now 2 (Option.some Jvm.ClassFile.FieldType.int) := rfl
theorem cm_55 : am_cw 55 ∈ am_tab := by rw [cw_55]; exact wq_319
theorem nm_56 : am_nm 56 = yX2_side := rfl
theorem cw_56 : am_cw 56 = Cond.code yX2_side cX2_side 3 (Option.some Jvm.ClassFile.FieldType.int) := rfl
theorem cm_56 : am_cw 56 ∈ am_tab := by rw [cw_56]; exact wq_406
theorem nm_57 : am_nm 57 = yX2_meanScore := rfl
theorem cw_57 : am_cw 57 = Cond.code yX2_meanScore cX2_meanScore 1 (Option.some Jvm.ClassFile.FieldType.double) := rfl
theorem cm_57 : am_cw 57 ∈ am_tab := by rw [cw_57]; exact wq_113
theorem nm_58 : am_nm 58 = yX2_wouldGet := rfl
theorem cw_58 : am_cw 58 = Cond.code yX2_wouldGet cX2_wouldGet 2 (Option.some Jvm.ClassFile.FieldType.int) := rfl
theorem cm_58 : am_cw 58 ∈ am_tab := by rw [cw_58]; exact wq_650
theorem nm_59 : am_nm 59 = yX2_best := rfl
theorem cw_59 : am_cw 59 = Cond.code yX2_best cX2_best 1 (Option.some Jvm.ClassFile.FieldType.int) := rfl
theorem cm_59 : am_cw 59 ∈ am_tab := by rw [cw_59]; exact wq_117
theorem nm_60 : am_nm 60 = yX2_bestWith := rfl
theorem cw_60 : am_cw 60 = Cond.code yX2_bestWith cX2_bestWith 2 (Option.some Jvm.ClassFile.FieldType.int) := rfl
theorem cm_60 : am_cw 60 ∈ am_tab := by rw [cw_60]; exact wq_657
theorem nm_61 : am_nm 61 = yX2_bestCard := rfl
theorem cw_61 : am_cw 61 = Cond.code yX2_bestCard cX2_bestCard 5 (Option.some Jvm.ClassFile.FieldType.int) := rfl
theorem cm_61 : am_cw 61 ∈ am_tab := by rw [cw_61]; exact wq_306
theorem nm_62 : am_nm 62 = yX2_bestIn := rfl
theorem cw_62 : am_cw 62 = Cond.code yX2_bestIn cX2_bestIn 2 (Option.some Jvm.ClassFile.FieldType.int) := rfl
theorem cm_62 : am_cw 62 ∈ am_tab := by rw [cw_62]; exact wq_121
theorem nm_63 : am_nm 63 = yX2_wouldScore := rfl
theorem cw_63 : am_cw 63 = Cond.code yX2_wouldScore cX2_wouldScore 4 (Option.some Jvm.ClassFile.FieldType.int) := rfl
theorem cm_63 : am_cw 63 ∈ am_tab := by rw [cw_63]; exact wq_668
theorem nm_64 : am_nm 64 = yX2_digest := rfl
theorem cw_64 : am_cw 64 = Cond.code yX2_digest cX2_digest 4 (Option.some Jvm.ClassFile.FieldType.long) := rfl
theorem cm_64 : am_cw 64 ∈ am_tab := by rw [cw_64]; exact wq_314
theorem nm_65 : am_nm 65 = yX2_mix := rfl
theorem cw_65 : am_cw 65 = Cond.code yX2_mix cX2_mix 3 (Option.some Jvm.ClassFile.FieldType.long) := rfl
theorem cm_65 : am_cw 65 ∈ am_tab := by rw [cw_65]; exact wq_338
theorem nm_66 : am_nm 66 = yX2_mixTricks := rfl
theorem cw_66 : am_cw 66 = Cond.code yX2_mixTricks cX2_mixTricks 7 (Option.some Jvm.ClassFile.FieldType.long) := rfl
theorem cm_66 : am_cw 66 ∈ am_tab := by rw [cw_66]; exact wq_373
theorem nm_67 : am_nm 67 = yX2_mixSides := rfl
theorem cw_67 : am_cw 67 = Cond.code yX2_mixSides cX2_mixSides 7 (Option.some Jvm.ClassFile.FieldType.long) := rfl
theorem cm_67 : am_cw 67 ∈ am_tab := by rw [cw_67]; exact wq_402
theorem nm_68 : am_nm 68 = yX2_mixHands := rfl
theorem cw_68 : am_cw 68 = Cond.code yX2_mixHands cX2_mixHands 8 (Option.some Jvm.ClassFile.FieldType.long) := rfl
theorem cm_68 : am_cw 68 ∈ am_tab := by rw [cw_68]; exact wq_419
theorem nm_69 : am_nm 69 = yX2_isCard := rfl
theorem cw_69 : am_cw 69 = Cond.code yX2_isCard cX2_isCard 1 (Option.some Jvm.ClassFile.FieldType.boolean) := rfl
theorem cm_69 : am_cw 69 ∈ am_tab := by rw [cw_69]; exact wq_467
theorem nm_70 : am_nm 70 = yX2_checkPlayer := rfl
theorem cw_70 : am_cw 70 = Cond.code yX2_checkPlayer cX2_checkPlayer 1 (Option.none : Option Jvm.ClassFile.FieldType) := rfl
theorem cm_70 : am_cw 70 ∈ am_tab := by rw [cw_70]; exact wq_426
theorem nm_71 : am_nm 71 = yX2_checkCard := rfl
theorem cw_71 : am_cw 71 = Cond.code yX2_checkCard cX2_checkCard 1 (Option.none : Option Jvm.ClassFile.FieldType) := rfl
theorem cm_71 : am_cw 71 ∈ am_tab := by rw [cw_71]; exact wq_500
theorem nm_72 : am_nm 72 = yX2_checkBid := rfl
theorem cw_72 : am_cw 72 = Cond.code yX2_checkBid cX2_checkBid 1 (Option.none : Option Jvm.ClassFile.FieldType) := rfl
theorem cm_72 : am_cw 72 ∈ am_tab := by rw [cw_72]; exact wq_541
theorem nm_73 : am_nm 73 = yX2_checkPlayable := rfl
theorem cw_73 : am_cw 73 = Cond.code yX2_checkPlayable cX2_checkPlayable 2 (Option.none : Option Jvm.ClassFile.FieldType) := rfl
theorem cm_73 : am_cw 73 ∈ am_tab := by rw [cw_73]; exact wq_599
theorem nm_74 : am_nm 74 = yX2_isBidAllowed := rfl
theorem cw_74 : am_cw 74 = Cond.code yX2_isBidAllowed cX2_isBidAllowed 2 (Option.some Jvm.ClassFile.FieldType.boolean) := rfl
theorem cm_74 : am_cw 74 ∈ am_tab := by rw [cw_74]; exact wq_546
theorem nm_75 : am_nm 75 = yX2_turnNow := rfl
theorem cw_75 : am_cw 75 = Cond.code yX2_turnNow cX2_turnNow 1 (Option.some Jvm.ClassFile.FieldType.int) := rfl
theorem cm_75 : am_cw 75 ∈ am_tab := by rw [cw_75]; exact wq_324
theorem nm_76 : am_nm 76 = yX2_revokersOf := rfl
theorem cw_76 : am_cw 76 = Cond.code yX2_revokersOf cX2_revokersOf 4 (Option.some Jvm.ClassFile.FieldType.int) := rfl
theorem cm_76 : am_cw 76 ∈ am_tab := by rw [cw_76]; exact wq_411
theorem nm_77 : am_nm 77 = yX2_finishDeal := rfl
theorem cw_77 : am_cw 77 = Cond.code yX2_finishDeal cX2_finishDeal 3 (Option.none : Option Jvm.ClassFile.FieldType) := rfl
theorem cm_77 : am_cw 77 ∈ am_tab := by rw [cw_77]; exact wq_604
theorem nm_78 : am_nm 78 = yX2_payForRevoke := rfl
theorem cw_78 : am_cw 78 = Cond.code yX2_payForRevoke cX2_payForRevoke 3 (Option.none : Option Jvm.ClassFile.FieldType) := rfl
theorem cm_78 : am_cw 78 ∈ am_tab := by rw [cw_78]; exact wq_608
theorem nm_79 : am_nm 79 = yX2_hasBestPlay := rfl
theorem cw_79 : am_cw 79 = Cond.code yX2_hasBestPlay cX2_hasBestPlay 1 (Option.some Jvm.ClassFile.FieldType.boolean) := rfl
theorem cm_79 : am_cw 79 ∈ am_tab := by rw [cw_79]; exact wq_193
theorem nm_80 : am_nm 80 = yX2_bestBehind := rfl
theorem cw_80 : am_cw 80 = Cond.code yX2_bestBehind cX2_bestBehind 3 (Option.some Jvm.ClassFile.FieldType.int) := rfl
theorem cm_80 : am_cw 80 ∈ am_tab := by rw [cw_80]; exact wq_310
theorem nm_81 : am_nm 81 = yX2_mostOfSide0 := rfl
theorem cw_81 : am_cw 81 = Cond.code yX2_mostOfSide0 cX2_mostOfSide0 3 (Option.some Jvm.ClassFile.FieldType.int) := rfl
theorem cm_81 : am_cw 81 ∈ am_tab := by rw [cw_81]; exact wq_221
theorem nm_82 : am_nm 82 = yX2_doesSide0Get := rfl
theorem cw_82 : am_cw 82 = Cond.code yX2_doesSide0Get cX2_doesSide0Get 9 (Option.some Jvm.ClassFile.FieldType.boolean) := rfl
theorem cm_82 : am_cw 82 ∈ am_tab := by rw [cw_82]; exact wq_224
theorem nm_83 : am_nm 83 = yX2_countForSide0 := rfl
theorem cw_83 : am_cw 83 = Cond.code yX2_countForSide0 cX2_countForSide0 1 (Option.some Jvm.ClassFile.FieldType.int) := rfl
theorem cm_83 : am_cw 83 ∈ am_tab := by rw [cw_83]; exact wq_290
theorem nm_84 : am_nm 84 = yX2_sideOf := rfl
theorem cw_84 : am_cw 84 = Cond.code yX2_sideOf cX2_sideOf 1 (Option.some Jvm.ClassFile.FieldType.int) := rfl
theorem cm_84 : am_cw 84 ∈ am_tab := by rw [cw_84]; exact wq_235
theorem nm_85 : am_nm 85 = yX2_nextOf := rfl
theorem cw_85 : am_cw 85 = Cond.code yX2_nextOf cX2_nextOf 1 (Option.some Jvm.ClassFile.FieldType.int) := rfl
theorem cm_85 : am_cw 85 ∈ am_tab := by rw [cw_85]; exact wq_275
theorem nm_86 : am_nm 86 = yX2_contains := rfl
theorem cw_86 : am_cw 86 = Cond.code yX2_contains cX2_contains 2 (Option.some Jvm.ClassFile.FieldType.boolean) := rfl
theorem cm_86 : am_cw 86 ∈ am_tab := by rw [cw_86]; exact wq_268
theorem nm_87 : am_nm 87 = yX2_with := rfl
theorem cw_87 : am_cw 87 = Cond.code yX2_with cX2_with 2 (Option.some Jvm.ClassFile.FieldType.int) := rfl
theorem cm_87 : am_cw 87 ∈ am_tab := by rw [cw_87]; exact wq_271
theorem nm_88 : am_nm 88 = yX2_without := rfl
theorem cw_88 : am_cw 88 = Cond.code yX2_without cX2_without 2 (Option.some Jvm.ClassFile.FieldType.int) := rfl
theorem cm_88 : am_cw 88 ∈ am_tab := by rw [cw_88]; exact wq_260
theorem nm_89 : am_nm 89 = yX2_wholeSuit := rfl
theorem cw_89 : am_cw 89 = Cond.code yX2_wholeSuit cX2_wholeSuit 1 (Option.some Jvm.ClassFile.FieldType.int) := rfl
theorem cm_89 : am_cw 89 ∈ am_tab := by rw [cw_89]; exact wq_250
theorem nm_90 : am_nm 90 = yX2_smallest := rfl
theorem cw_90 : am_cw 90 = Cond.code yX2_smallest cX2_smallest 1 (Option.some Jvm.ClassFile.FieldType.int) := rfl
theorem cm_90 : am_cw 90 ∈ am_tab := by rw [cw_90]; exact wq_253
theorem nm_91 : am_nm 91 = yX2_greatest := rfl
theorem cw_91 : am_cw 91 = Cond.code yX2_greatest cX2_greatest 1 (Option.some Jvm.ClassFile.FieldType.int) := rfl
theorem cm_91 : am_cw 91 ∈ am_tab := by rw [cw_91]; exact wq_434
theorem nm_92 : am_nm 92 = yX3_init := rfl
theorem cw_92 : am_cw 92 = Cond.code yX3_init cX3_init 1 (Option.none : Option Jvm.ClassFile.FieldType) := rfl
theorem cm_92 : am_cw 92 ∈ am_tab := by rw [cw_92]; exact wq_675
theorem nm_93 : am_nm 93 = yX3_thrown := rfl
theorem cw_93 : am_cw 93 = Cond.code yX3_thrown cX3_thrown 1 (Option.some Jvm.ClassFile.FieldType.int) := rfl
theorem cm_93 : am_cw 93 ∈ am_tab := by rw [cw_93]; exact wq_750
theorem nm_94 : am_nm 94 = yX3_no := rfl
theorem cw_94 : am_cw 94 = Cond.code yX3_no cX3_no 2 (Option.some Jvm.ClassFile.FieldType.int) := rfl
theorem cm_94 : am_cw 94 ∈ am_tab := by rw [cw_94]; exact wq_764
theorem nm_95 : am_nm 95 = yX3_isIn := rfl
theorem cw_95 : am_cw 95 = Cond.code yX3_isIn cX3_isIn 3 (Option.some Jvm.ClassFile.FieldType.boolean) := rfl
theorem cm_95 : am_cw 95 ∈ am_tab := by rw [cw_95]; exact wq_760
theorem nm_96 : am_nm 96 = yX3_isPlayer := rfl
theorem cw_96 : am_cw 96 = Cond.code yX3_isPlayer cX3_isPlayer 1 (Option.some Jvm.ClassFile.FieldType.boolean) := rfl
theorem cm_96 : am_cw 96 ∈ am_tab := by rw [cw_96]; exact wq_757
theorem nm_97 : am_nm 97 = yX3_isCard := rfl
theorem cw_97 : am_cw 97 = Cond.code yX3_isCard cX3_isCard 1 (Option.some Jvm.ClassFile.FieldType.boolean) := rfl
theorem cm_97 : am_cw 97 ∈ am_tab := by rw [cw_97]; exact wq_771
theorem nm_98 : am_nm 98 = yX3_hasCard := rfl
theorem cw_98 : am_cw 98 = Cond.code yX3_hasCard cX3_hasCard 3 (Option.some Jvm.ClassFile.FieldType.boolean) := rfl
theorem cm_98 : am_cw 98 ∈ am_tab := by rw [cw_98]; exact wq_801
theorem nm_99 : am_nm 99 = yX3_count := rfl
theorem cw_99 : am_cw 99 = Cond.code yX3_count cX3_count 3 (Option.some Jvm.ClassFile.FieldType.int) := rfl
theorem cm_99 : am_cw 99 ∈ am_tab := by rw [cw_99]; exact wq_782
theorem nm_100 : am_nm 100 = yX3_next := rfl
theorem cw_100 : am_cw 100 = Cond.code yX3_next cX3_next 3 (Option.some Jvm.ClassFile.FieldType.int) := rfl
theorem cm_100 : am_cw 100 ∈ am_tab := by rw [cw_100]; exact wq_785
theorem nm_101 : am_nm 101 = yX3_all := rfl
theorem cw_101 : am_cw 101 = Cond.code yX3_all cX3_all 1 (Option.some Jvm.ClassFile.FieldType.int) := rfl
theorem cm_101 : am_cw 101 ∈ am_tab := by rw [cw_101]; exact wq_775
theorem nm_102 : am_nm 102 = yX3_begin := rfl
theorem cw_102 : am_cw 102 = Cond.code yX3_begin cX3_begin 4 (Option.some Jvm.ClassFile.FieldType.int) := rfl
theorem cm_102 : am_cw 102 ∈ am_tab := by rw [cw_102]; exact wq_754
theorem nm_103 : am_nm 103 = yX3_deal := rfl
theorem cw_103 : am_cw 103 = Cond.code yX3_deal cX3_deal 5 (Option.some Jvm.ClassFile.FieldType.int) := rfl
theorem cm_103 : am_cw 103 ∈ am_tab := by rw [cw_103]; exact wq_768
theorem nm_104 : am_nm 104 = yX3_give := rfl
theorem cw_104 : am_cw 104 = Cond.code yX3_give cX3_give 3 (Option.some Jvm.ClassFile.FieldType.int) := rfl
theorem cm_104 : am_cw 104 ∈ am_tab := by rw [cw_104]; exact wq_789
theorem nm_105 : am_nm 105 = yX3_open := rfl
theorem cw_105 : am_cw 105 = Cond.code yX3_open cX3_open 3 (Option.some Jvm.ClassFile.FieldType.int) := rfl
theorem cm_105 : am_cw 105 ∈ am_tab := by rw [cw_105]; exact wq_793
theorem nm_106 : am_nm 106 = yX3_has := rfl
theorem cw_106 : am_cw 106 = Cond.code yX3_has cX3_has 3 (Option.some Jvm.ClassFile.FieldType.boolean) := rfl
theorem cm_106 : am_cw 106 ∈ am_tab := by rw [cw_106]; exact wq_797
theorem nm_107 : am_nm 107 = yX3_handNow := rfl
theorem cw_107 : am_cw 107 = Cond.code yX3_handNow cX3_handNow 6 (Option.some Jvm.ClassFile.FieldType.int) := rfl
theorem cm_107 : am_cw 107 ∈ am_tab := by rw [cw_107]; exact wq_779
theorem nm_108 : am_nm 108 = yX3_hand := rfl
theorem cw_108 : am_cw 108 = Cond.code yX3_hand cX3_hand 4 (Option.some Jvm.ClassFile.FieldType.int) := rfl
theorem cm_108 : am_cw 108 ∈ am_tab := by rw [cw_108]; exact wq_805
theorem nm_109 : am_nm 109 = yX3_bidder := rfl
theorem cw_109 : am_cw 109 = Cond.code yX3_bidder cX3_bidder 1 (Option.some Jvm.ClassFile.FieldType.int) := rfl
theorem cm_109 : am_cw 109 ∈ am_tab := by rw [cw_109]; exact wq_834
theorem nm_110 : am_nm 110 = yX3_lastLevel := rfl
theorem cw_110 : am_cw 110 = Cond.code yX3_lastLevel cX3_lastLevel 2 (Option.some Jvm.ClassFile.FieldType.int) := rfl
theorem cm_110 : am_cw 110 ∈ am_tab := by rw [cw_110]; exact wq_817
theorem nm_111 : am_nm 111 = yX3_wasSince := rfl
theorem cw_111 : am_cw 111 = Cond.code yX3_wasSince cX3_wasSince 3 (Option.some Jvm.ClassFile.FieldType.boolean) := rfl
theorem cm_111 : am_cw 111 ∈ am_tab := by rw [cw_111]; exact wq_821
theorem nm_112 : am_nm 112 = yX3_mayBid := rfl
theorem cw_112 : am_cw 112 = Cond.code yX3_mayBid cX3_mayBid 4 (Option.some Jvm.ClassFile.FieldType.boolean) := rfl
theorem cm_112 : am_cw 112 ∈ am_tab := by rw [cw_112]; exact wq_813
theorem nm_113 : am_nm 113 = yX3_contracted := rfl
theorem cw_113 : am_cw 113 = Cond.code yX3_contracted cX3_contracted 3 (Option.none : Option Jvm.ClassFile.FieldType) := rfl
theorem cm_113 : am_cw 113 ∈ am_tab := by rw [cw_113]; exact wq_826
theorem nm_114 : am_nm 114 = yX3_bid := rfl
theorem cw_114 : am_cw 114 = Cond.code yX3_bid cX3_bid 3 (Option.some Jvm.ClassFile.FieldType.int) := rfl
theorem cm_114 : am_cw 114 ∈ am_tab := by rw [cw_114]; exact wq_809
theorem nm_115 : am_nm 115 = yX3_turn := rfl
theorem cw_115 : am_cw 115 = Cond.code yX3_turn cX3_turn 1 (Option.some Jvm.ClassFile.FieldType.int) := rfl
theorem cm_115 : am_cw 115 ∈ am_tab := by rw [cw_115]; exact wq_830
theorem nm_116 : am_nm 116 = yX3_canBid := rfl
theorem cw_116 : am_cw 116 = Cond.code yX3_canBid cX3_canBid 2 (Option.some Jvm.ClassFile.FieldType.boolean) := rfl
theorem cm_116 : am_cw 116 ∈ am_tab := by rw [cw_116]; exact wq_838
theorem nm_117 : am_nm 117 = yX3_bidAt := rfl
theorem cw_117 : am_cw 117 = Cond.code yX3_bidAt cX3_bidAt 2 (Option.some Jvm.ClassFile.FieldType.int) := rfl
theorem cm_117 : am_cw 117 ∈ am_tab := by rw [cw_117]; exact wq_842
theorem nm_118 : am_nm 118 = yX3_contractNow := rfl
theorem cw_118 : am_cw 118 = Cond.code yX3_contractNow cX3_contractNow 2 (Option.some Jvm.ClassFile.FieldType.int) := rfl
theorem cm_118 : am_cw 118 ∈ am_tab := by rw [cw_118]; exact wq_850
theorem nm_119 : am_nm 119 = yX3_contract := rfl
theorem cw_119 : am_cw 119 = Cond.code yX3_contract cX3_contract 2 (Option.some Jvm.ClassFile.FieldType.int) := rfl
theorem cm_119 : am_cw 119 ∈ am_tab := by rw [cw_119]; exact wq_846
theorem nm_120 : am_nm 120 = yX3_isBetter := rfl
theorem cw_120 : am_cw 120 = Cond.code yX3_isBetter cX3_isBetter 3 (Option.some Jvm.ClassFile.FieldType.boolean) := rfl
theorem cm_120 : am_cw 120 ∈ am_tab := by rw [cw_120]; exact wq_863
theorem nm_121 : am_nm 121 = yX3_best := rfl
theorem cw_121 : am_cw 121 = Cond.code yX3_best cX3_best 6 (Option.some Jvm.ClassFile.FieldType.int) := rfl
theorem cm_121 : am_cw 121 ∈ am_tab := by rw [cw_121]; exact wq_860
theorem nm_122 : am_nm 122 = yX3_isRightNow := rfl
theorem cw_122 : am_cw 122 = Cond.code yX3_isRightNow cX3_isRightNow 4 (Option.some Jvm.ClassFile.FieldType.boolean) := rfl
theorem cm_122 : am_cw 122 ∈ am_tab := by rw [cw_122]; exact wq_857
theorem nm_123 : am_nm 123 = yX3_scores := rfl
theorem cw_123 : am_cw 123 = Cond.code yX3_scores cX3_scores 4 (Option.some (Jvm.ClassFile.FieldType.array Jvm.ClassFile.FieldType.int)) := rfl
theorem cm_123 : am_cw 123 ∈ am_tab := by rw [cw_123]; exact wq_871
theorem nm_124 : am_nm 124 = yX3_end := rfl
theorem cw_124 : am_cw 124 = Cond.code yX3_end cX3_end 2 (Option.none : Option Jvm.ClassFile.FieldType) := rfl
theorem cm_124 : am_cw 124 ∈ am_tab := by rw [cw_124]; exact wq_867
theorem nm_125 : am_nm 125 = yX3_play := rfl
theorem cw_125 : am_cw 125 = Cond.code yX3_play cX3_play 5 (Option.some Jvm.ClassFile.FieldType.int) := rfl
theorem cm_125 : am_cw 125 ∈ am_tab := by rw [cw_125]; exact wq_854
theorem nm_126 : am_nm 126 = yX3_back := rfl
theorem cw_126 : am_cw 126 = Cond.code yX3_back cX3_back 2 (Option.some Jvm.ClassFile.FieldType.int) := rfl
theorem cm_126 : am_cw 126 ∈ am_tab := by rw [cw_126]; exact wq_875
theorem nm_127 : am_nm 127 = yX3_isRight := rfl
theorem cw_127 : am_cw 127 = Cond.code yX3_isRight cX3_isRight 2 (Option.some Jvm.ClassFile.FieldType.boolean) := rfl
theorem cm_127 : am_cw 127 ∈ am_tab := by rw [cw_127]; exact wq_879
theorem nm_128 : am_nm 128 = yX3_trick := rfl
theorem cw_128 : am_cw 128 = Cond.code yX3_trick cX3_trick 3 (Option.some Jvm.ClassFile.FieldType.int) := rfl
theorem cm_128 : am_cw 128 ∈ am_tab := by rw [cw_128]; exact wq_883
theorem nm_129 : am_nm 129 = yX3_nowOf := rfl
theorem cw_129 : am_cw 129 = Cond.code yX3_nowOf cX3_nowOf 2 (Option.some Jvm.ClassFile.FieldType.int) := rfl
theorem cm_129 : am_cw 129 ∈ am_tab := by rw [cw_129]; exact wq_891
theorem nm_130 : am_nm 130 = yX3_now := rfl
theorem cw_130 : am_cw 130 = Cond.code yX3_now cX3_now 2 (Option.some Jvm.ClassFile.FieldType.int) := rfl
theorem cm_130 : am_cw 130 ∈ am_tab := by rw [cw_130]; exact wq_887
theorem nm_131 : am_nm 131 = yX3_sideNow := rfl
theorem cw_131 : am_cw 131 = Cond.code yX3_sideNow cX3_sideNow 3 (Option.some Jvm.ClassFile.FieldType.int) := rfl
theorem cm_131 : am_cw 131 ∈ am_tab := by rw [cw_131]; exact wq_899
theorem nm_132 : am_nm 132 = yX3_side := rfl
theorem cw_132 : am_cw 132 = Cond.code yX3_side cX3_side 3 (Option.some Jvm.ClassFile.FieldType.int) := rfl
theorem cm_132 : am_cw 132 ∈ am_tab := by rw [cw_132]; exact wq_895
theorem nm_133 : am_nm 133 = yX3_meanScore := rfl
theorem cw_133 : am_cw 133 = Cond.code yX3_meanScore cX3_meanScore 1 (Option.some Jvm.ClassFile.FieldType.double) := rfl
theorem cm_133 : am_cw 133 ∈ am_tab := by rw [cw_133]; exact wq_903
theorem nm_134 : am_nm 134 = yX3_isBestPlay := rfl
theorem cw_134 : am_cw 134 = Cond.code yX3_isBestPlay cX3_isBestPlay 3 (Option.some Jvm.ClassFile.FieldType.boolean) := rfl
theorem cm_134 : am_cw 134 ∈ am_tab := by rw [cw_134]; exact wq_919
theorem nm_135 : am_nm 135 = yX3_with := rfl
theorem cw_135 : am_cw 135 = Cond.code yX3_with cX3_with 9 (Option.some Jvm.ClassFile.FieldType.int) := rfl
theorem cm_135 : am_cw 135 ∈ am_tab := by rw [cw_135]; exact wq_927
theorem nm_136 : am_nm 136 = yX3_rest := rfl
theorem cw_136 : am_cw 136 = Cond.code yX3_rest cX3_rest 9 (Option.some Jvm.ClassFile.FieldType.int) := rfl
theorem cm_136 : am_cw 136 ∈ am_tab := by rw [cw_136]; exact wq_923
theorem nm_137 : am_nm 137 = yX3_lay := rfl
theorem cw_137 : am_cw 137 = Cond.code yX3_lay cX3_lay 1 (Option.none : Option Jvm.ClassFile.FieldType) := rfl
theorem cm_137 : am_cw 137 ∈ am_tab := by rw [cw_137]; exact wq_915
theorem nm_138 : am_nm 138 = yX3_bestNow := rfl
theorem cw_138 : am_cw 138 = Cond.code yX3_bestNow cX3_bestNow 2 (Option.some Jvm.ClassFile.FieldType.int) := rfl
theorem cm_138 : am_cw 138 ∈ am_tab := by rw [cw_138]; exact wq_911
theorem nm_139 : am_nm 139 = yX3_withNow := rfl
theorem cw_139 : am_cw 139 = Cond.code yX3_withNow cX3_withNow 2 (Option.some Jvm.ClassFile.FieldType.int) := rfl
theorem cm_139 : am_cw 139 ∈ am_tab := by rw [cw_139]; exact wq_941
theorem nm_140 : am_nm 140 = yX3_bestCardNow := rfl
theorem cw_140 : am_cw 140 = Cond.code yX3_bestCardNow cX3_bestCardNow 3 (Option.some Jvm.ClassFile.FieldType.int) := rfl
theorem cm_140 : am_cw 140 ∈ am_tab := by rw [cw_140]; exact wq_949
theorem nm_141 : am_nm 141 = yX3_best_ := rfl
theorem cw_141 : am_cw 141 = Cond.code yX3_best_ cX3_best_ 1 (Option.some Jvm.ClassFile.FieldType.int) := rfl
theorem cm_141 : am_cw 141 ∈ am_tab := by rw [cw_141]; exact wq_907
theorem nm_142 : am_nm 142 = yX3_bestWith := rfl
theorem cw_142 : am_cw 142 = Cond.code yX3_bestWith cX3_bestWith 2 (Option.some Jvm.ClassFile.FieldType.int) := rfl
theorem cm_142 : am_cw 142 ∈ am_tab := by rw [cw_142]; exact wq_937
theorem nm_143 : am_nm 143 = yX3_bestCard := rfl
theorem cw_143 : am_cw 143 = Cond.code yX3_bestCard cX3_bestCard 1 (Option.some Jvm.ClassFile.FieldType.int) := rfl
theorem cm_143 : am_cw 143 ∈ am_tab := by rw [cw_143]; exact wq_945
theorem nm_144 : am_nm 144 = yX3_bestIn := rfl
theorem cw_144 : am_cw 144 = Cond.code yX3_bestIn cX3_bestIn 2 (Option.some Jvm.ClassFile.FieldType.int) := rfl
theorem cm_144 : am_cw 144 ∈ am_tab := by rw [cw_144]; exact wq_953
theorem nm_145 : am_nm 145 = yX3_wouldGet := rfl
theorem cw_145 : am_cw 145 = Cond.code yX3_wouldGet cX3_wouldGet 3 (Option.some Jvm.ClassFile.FieldType.int) := rfl
theorem cm_145 : am_cw 145 ∈ am_tab := by rw [cw_145]; exact wq_957
theorem nm_146 : am_nm 146 = yX3_wouldScore := rfl
theorem cw_146 : am_cw 146 = Cond.code yX3_wouldScore cX3_wouldScore 3 (Option.some Jvm.ClassFile.FieldType.int) := rfl
theorem cm_146 : am_cw 146 ∈ am_tab := by rw [cw_146]; exact wq_961
theorem nm_147 : am_nm 147 = yX3_digest := rfl
theorem cw_147 : am_cw 147 = Cond.code yX3_digest cX3_digest 6 (Option.some Jvm.ClassFile.FieldType.long) := rfl
theorem cm_147 : am_cw 147 ∈ am_tab := by rw [cw_147]; exact wq_965
theorem nm_148 : am_nm 148 = yJ6_numberOfLeadingZeros_0f7a4 := rfl
theorem cw_148 : am_cw 148 = Cond.code yJ6_numberOfLeadingZeros_0f7a4 cJ6_numberOfLeadingZeros_0f7a4 2 (Option.some Jvm.ClassFile.FieldType.int) := rfl
theorem cm_148 : am_cw 148 ∈ am_tab := by rw [cw_148]; exact wq_437
theorem nm_149 : am_nm 149 = yJ6_numberOfTrailingZeros_0f7a4 := rfl
theorem cw_149 : am_cw 149 = Cond.code yJ6_numberOfTrailingZeros_0f7a4 cJ6_numberOfTrailingZeros_0f7a4 2 (Option.some Jvm.ClassFile.FieldType.int) := rfl
theorem cm_149 : am_cw 149 ∈ am_tab := by rw [cw_149]; exact wq_256
theorem nm_150 : am_nm 150 = yJ6_bitCount_0f7a4 := rfl
theorem cw_150 : am_cw 150 = Cond.code yJ6_bitCount_0f7a4 cJ6_bitCount_0f7a4 1 (Option.some Jvm.ClassFile.FieldType.int) := rfl
theorem cm_150 : am_cw 150 ∈ am_tab := by rw [cw_150]; exact wq_208
theorem nm_151 : am_nm 151 = yL_begin := rfl
theorem cw_151 : am_cw 151 = Cond.codeWith yL_begin cL_begin 4 (Option.some Jvm.ClassFile.FieldType.int) [((0 : Nat), (9 : Nat), (12 : Nat), (13 : Nat))] := rfl
theorem cm_151 : am_cw 151 ∈ am_tab := by rw [cw_151]; exact wq_442
theorem nm_152 : am_nm 152 = yL_deal := rfl
theorem cw_152 : am_cw 152 = Cond.codeWith yL_deal cL_deal 6 (Option.some Jvm.ClassFile.FieldType.int) [((0 : Nat), (12 : Nat), (15 : Nat), (19 : Nat)), ((0 : Nat), (12 : Nat), (19 : Nat), (21 : Nat))] := rfl
theorem cm_152 : am_cw 152 ∈ am_tab := by rw [cw_152]; exact wq_458
theorem nm_153 : am_nm 153 = yL_give := rfl
theorem cw_153 : am_cw 153 = Cond.codeWith yL_give cL_give 5 (Option.some Jvm.ClassFile.FieldType.int) [((0 : Nat), (10 : Nat), (13 : Nat), (13 : Nat)), ((0 : Nat), (10 : Nat), (17 : Nat), (21 : Nat))] := rfl
theorem cm_153 : am_cw 153 ∈ am_tab := by rw [cw_153]; exact wq_493
theorem nm_154 : am_nm 154 = yL_open := rfl
theorem cw_154 : am_cw 154 = Cond.codeWith yL_open cL_open 3 (Option.some Jvm.ClassFile.FieldType.int) [((0 : Nat), (8 : Nat), (11 : Nat), (21 : Nat))] := rfl
theorem cm_154 : am_cw 154 ∈ am_tab := by rw [cw_154]; exact wq_510
theorem nm_155 : am_nm 155 = yL_has := rfl
theorem cw_155 : am_cw 155 = Cond.codeWith yL_has cL_has 5 (Option.some Jvm.ClassFile.FieldType.int) [((0 : Nat), (17 : Nat), (20 : Nat), (13 : Nat))] := rfl
theorem cm_155 : am_cw 155 ∈ am_tab := by rw [cw_155]; exact wq_522
theorem nm_156 : am_nm 156 = yL_hand := rfl
theorem cw_156 : am_cw 156 = Cond.codeWith yL_hand cL_hand 6 (Option.some Jvm.ClassFile.FieldType.int) [((0 : Nat), (12 : Nat), (15 : Nat), (13 : Nat)), ((0 : Nat), (12 : Nat), (19 : Nat), (19 : Nat))] := rfl
theorem cm_156 : am_cw 156 ∈ am_tab := by rw [cw_156]; exact wq_530
theorem nm_157 : am_nm 157 = yL_bid := rfl
theorem cw_157 : am_cw 157 = Cond.codeWith yL_bid cL_bid 4 (Option.some Jvm.ClassFile.FieldType.int) [((0 : Nat), (9 : Nat), (12 : Nat), (19 : Nat)), ((0 : Nat), (9 : Nat), (15 : Nat), (21 : Nat))] := rfl
theorem cm_157 : am_cw 157 ∈ am_tab := by rw [cw_157]; exact wq_534
theorem nm_158 : am_nm 158 = yL_canBid := rfl
theorem cw_158 : am_cw 158 = Cond.codeWith yL_canBid cL_canBid 4 (Option.some Jvm.ClassFile.FieldType.int) [((0 : Nat), (16 : Nat), (19 : Nat), (19 : Nat))] := rfl
theorem cm_158 : am_cw 158 ∈ am_tab := by rw [cw_158]; exact wq_572
theorem nm_159 : am_nm 159 = yL_bidAt := rfl
theorem cw_159 : am_cw 159 = Cond.codeWith yL_bidAt cL_bidAt 4 (Option.some Jvm.ClassFile.FieldType.int) [((0 : Nat), (9 : Nat), (12 : Nat), (13 : Nat))] := rfl
theorem cm_159 : am_cw 159 ∈ am_tab := by rw [cw_159]; exact wq_579
theorem nm_160 : am_nm 160 = yL_contract := rfl
theorem cw_160 : am_cw 160 = Cond.codeWith yL_contract cL_contract 4 (Option.some Jvm.ClassFile.FieldType.int) [((0 : Nat), (9 : Nat), (12 : Nat), (19 : Nat))] := rfl
theorem cm_160 : am_cw 160 ∈ am_tab := by rw [cw_160]; exact wq_587
theorem nm_161 : am_nm 161 = yL_play := rfl
theorem cw_161 : am_cw 161 = Cond.codeWith yL_play cL_play 4 (Option.some Jvm.ClassFile.FieldType.int) [((0 : Nat), (9 : Nat), (12 : Nat), (13 : Nat)), ((0 : Nat), (9 : Nat), (15 : Nat), (21 : Nat))] := rfl
theorem cm_161 : am_cw 161 ∈ am_tab := by rw [cw_161]; exact wq_591
theorem nm_162 : am_nm 162 = yL_back := rfl
theorem cw_162 : am_cw 162 = Cond.codeWith yL_back cL_back 3 (Option.some Jvm.ClassFile.FieldType.int) [((0 : Nat), (8 : Nat), (11 : Nat), (21 : Nat))] := rfl
theorem cm_162 : am_cw 162 ∈ am_tab := by rw [cw_162]; exact wq_619
theorem nm_163 : am_nm 163 = yL_isRight := rfl
theorem cw_163 : am_cw 163 = Cond.codeWith yL_isRight cL_isRight 4 (Option.some Jvm.ClassFile.FieldType.int) [((0 : Nat), (16 : Nat), (19 : Nat), (13 : Nat))] := rfl
theorem cm_163 : am_cw 163 ∈ am_tab := by rw [cw_163]; exact wq_627
theorem nm_164 : am_nm 164 = yL_trick := rfl
theorem cw_164 : am_cw 164 = Cond.codeWith yL_trick cL_trick 5 (Option.some Jvm.ClassFile.FieldType.int) [((0 : Nat), (10 : Nat), (13 : Nat), (13 : Nat)), ((0 : Nat), (10 : Nat), (17 : Nat), (19 : Nat))] := rfl
theorem cm_164 : am_cw 164 ∈ am_tab := by rw [cw_164]; exact wq_634
theorem nm_165 : am_nm 165 = yL_now := rfl
theorem cw_165 : am_cw 165 = Cond.codeWith yL_now cL_now 4 (Option.some Jvm.ClassFile.FieldType.int) [((0 : Nat), (9 : Nat), (12 : Nat), (19 : Nat))] := rfl
theorem cm_165 : am_cw 165 ∈ am_tab := by rw [cw_165]; exact wq_638
theorem nm_166 : am_nm 166 = yL_side := rfl
theorem cw_166 : am_cw 166 = Cond.codeWith yL_side cL_side 5 (Option.some Jvm.ClassFile.FieldType.int) [((0 : Nat), (10 : Nat), (13 : Nat), (13 : Nat)), ((0 : Nat), (10 : Nat), (17 : Nat), (19 : Nat))] := rfl
theorem cm_166 : am_cw 166 ∈ am_tab := by rw [cw_166]; exact wq_642
theorem nm_167 : am_nm 167 = yL_wouldGet := rfl
theorem cw_167 : am_cw 167 = Cond.codeWith yL_wouldGet cL_wouldGet 4 (Option.some Jvm.ClassFile.FieldType.int) [((0 : Nat), (9 : Nat), (12 : Nat), (13 : Nat)), ((0 : Nat), (9 : Nat), (15 : Nat), (21 : Nat))] := rfl
theorem cm_167 : am_cw 167 ∈ am_tab := by rw [cw_167]; exact wq_646
theorem nm_168 : am_nm 168 = yL_bestWith := rfl
theorem cw_168 : am_cw 168 = Cond.codeWith yL_bestWith cL_bestWith 4 (Option.some Jvm.ClassFile.FieldType.int) [((0 : Nat), (9 : Nat), (12 : Nat), (13 : Nat)), ((0 : Nat), (9 : Nat), (15 : Nat), (21 : Nat))] := rfl
theorem cm_168 : am_cw 168 ∈ am_tab := by rw [cw_168]; exact wq_653
theorem nm_169 : am_nm 169 = yL_bestIn := rfl
theorem cw_169 : am_cw 169 = Cond.codeWith yL_bestIn cL_bestIn 4 (Option.some Jvm.ClassFile.FieldType.int) [((0 : Nat), (9 : Nat), (12 : Nat), (19 : Nat))] := rfl
theorem cm_169 : am_cw 169 ∈ am_tab := by rw [cw_169]; exact wq_660
theorem nm_170 : am_nm 170 = yL_wouldScore := rfl
theorem cw_170 : am_cw 170 = Cond.codeWith yL_wouldScore cL_wouldScore 4 (Option.some Jvm.ClassFile.FieldType.int) [((0 : Nat), (9 : Nat), (12 : Nat), (19 : Nat)), ((0 : Nat), (9 : Nat), (15 : Nat), (21 : Nat))] := rfl
theorem cm_170 : am_cw 170 ∈ am_tab := by rw [cw_170]; exact wq_664
/-- a table switch from 0 on -/
theorem am_sw_out {K : Nat → Prop} {x : Int32} {dd : Nat} : ∀ {ts : List (Int32 × Nat)}, am_sw K x dd ts → (∃ (j : Nat) (v : Int32) (t : Nat), ts[j]? = some (v, t) ∧ x = v ∧ K t) ∨ ((∀ (j : Nat) (v : Int32) (t : Nat), ts[j]? = some (v, t) → ¬ x = v) ∧ K dd)
  | [], h => Or.inr ⟨fun j v t h => by simp at h, h⟩
  | (v, t) :: ts, h => by
    by_cases hv : x = v
    · exact Or.inl ⟨0, v, t, rfl, hv, h.1 hv⟩
    · rcases am_sw_out (h.2 hv) with ⟨j, v', t', a, b, c⟩ | ⟨a, b⟩
      · exact Or.inl ⟨j + 1, v', t', by simpa using a, b, c⟩
      · refine Or.inr ⟨fun j v' t' hj => ?_, b⟩
        cases j with
        | zero =>
          simp at hj
          rw [← hj.1]
          exact hv
        | succ j => exact a j v' t' (by simpa using hj)
theorem am_tsw {p : Program} {l : Launch} {e : Env} {R : Room} {s : State} {m : MethodId} {args : Array Value} {below : List Frame} {meth : Method} {c : Code} {H : Heap} {locs : List Loc} {cells slots : Nat} {Z : State → Prop} {pc : Nat} {ls : Array Slot} {rest : List Value} {cc : ByteArray} (hx : p.tables.exec = Jvm.exec) (hb : c.code = cc) {dflt hi : Int} {offs : Array Int} {len dd : Nat} {x : Int32} {ts : List (Int32 × Nat)} (hdg : decode cc pc = .ok (.tableswitch dflt 0 hi offs, len))
    (h1 : hi.toNat + 1 = ts.length ∧ 0 ≤ hi) (h2 : ∀ j, j < ts.length → (ts[j]?).map (fun q => ((q.1.toInt, q.1), offs[j]?.map (fun o => (pc : Int) + o))) = (ts[j]?).map (fun q => (((j : Int), Int32.ofNat j), some (q.2 : Int)))) (h3 : (pc : Int) + dflt = (dd : Int))
    (k : am_sw (fun t => W p l e R s m args below meth c H locs cells slots Z (F0 m t ls rest)) x dd ts) : W p l e R s m args below meth c H locs cells slots Z (F0 m pc ls (.int x :: rest)) := by
  rcases am_sw_out k with ⟨j, v, t, hj, hv, hk⟩ | ⟨hn, hk⟩
  · have hjl := (List.getElem?_eq_some_iff.mp hj).1
    have hq := h2 j hjl
    rw [hj] at hq
    simp only [Option.map_some, Option.some.injEq, Prod.mk.injEq] at hq
    obtain ⟨⟨ha, -⟩, hb2⟩ := hq
    cases ho : offs[j]? with
    | none => rw [ho] at hb2; cases hb2
    | some o =>
      rw [ho] at hb2
      simp only [Option.map_some, Option.some.injEq] at hb2
      subst hv
      refine lv_tableIn hx hb hdg (by omega) (by omega) (off := o) ?_ hb2 hk
      rw [ha]
      simpa using ho
  · by_cases hr : x.toInt < 0 ∨ hi < x.toInt
    · exact lv_tableOut hx hb hdg hr h3 hk
    · exfalso
      obtain ⟨j, hj⟩ : ∃ j : Nat, x.toInt = j := ⟨x.toInt.toNat, by omega⟩
      have hjl : j < ts.length := by omega
      cases hq : ts[j]? with
      | none => exact absurd (List.getElem?_eq_none_iff.mp hq) (by omega)
      | some q =>
        have h9 := h2 j hjl
        rw [hq] at h9
        simp only [Option.map_some, Option.some.injEq, Prod.mk.injEq] at h9
        refine hn j q.1 q.2 hq ?_
        exact Int32.toInt_inj.mp (by rw [h9.1.1]; exact hj)
