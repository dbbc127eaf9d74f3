/-! printed by a program of mine out of the claim: the words that are used, then the methods as tables of AM, and their soundness -/
theorem inX0 : ∀ w ∈ u_ws RX0 TX0 7, w ∈ am_tab := fun w h => am_tm ((by decide +kernel : ∀ w ∈ u_ws RX0 TX0 7, w ∈ lw_tbl) w h) ((by decide +kernel : ∀ w ∈ u_ws RX0 TX0 7, goodWord w = true) w h)
theorem inX1 : ∀ w ∈ u_ws RX1 TX1 8, w ∈ am_tab := fun w h => am_tm ((by decide +kernel : ∀ w ∈ u_ws RX1 TX1 8, w ∈ lw_tbl) w h) ((by decide +kernel : ∀ w ∈ u_ws RX1 TX1 8, goodWord w = true) w h)
theorem inX2 : ∀ w ∈ u_ws RX2 TX2 7, w ∈ am_tab := fun w h => am_tm ((by decide +kernel : ∀ w ∈ u_ws RX2 TX2 7, w ∈ lw_tbl) w h) ((by decide +kernel : ∀ w ∈ u_ws RX2 TX2 7, goodWord w = true) w h)
theorem inX3 : ∀ w ∈ u_ws RX3 TX3 18, w ∈ am_tab := fun w h => am_tm ((by decide +kernel : ∀ w ∈ u_ws RX3 TX3 18, w ∈ lw_tbl) w h) ((by decide +kernel : ∀ w ∈ u_ws RX3 TX3 18, goodWord w = true) w h)
theorem dfX0 : ∀ j, j < 7 → defaultValue (tyX0 j) = vp_V [.null, .int 0, .int 0, .int 0, .int 0, .int 0, .int 0] j := by decide +kernel
theorem dwX0 : ∀ n : Nat, ∀ v ∈ ([.null, .int 0, .int 0, .int 0, .int 0, .int 0, .int 0] : List Value), am_wv n v := by
  intro n v hv
  simp only [List.mem_cons, List.not_mem_nil, or_false] at hv
  rcases hv with rfl | rfl | rfl | rfl | rfl | rfl | rfl <;> trivial
theorem dfX1 : ∀ j, j < 8 → defaultValue (tyX1 j) = vp_V [.null, .null, .null, .int 0, .int 0, .int 0, .int 0, .int 0] j := by decide +kernel
theorem dwX1 : ∀ n : Nat, ∀ v ∈ ([.null, .null, .null, .int 0, .int 0, .int 0, .int 0, .int 0] : List Value), am_wv n v := by
  intro n v hv
  simp only [List.mem_cons, List.not_mem_nil, or_false] at hv
  rcases hv with rfl | rfl | rfl | rfl | rfl | rfl | rfl | rfl <;> trivial
theorem dfX2 : ∀ j, j < 7 → defaultValue (tyX2 j) = vp_V [.null, .null, .null, .null, .null, .int 0, .int 0] j := by decide +kernel
theorem dwX2 : ∀ n : Nat, ∀ v ∈ ([.null, .null, .null, .null, .null, .int 0, .int 0] : List Value), am_wv n v := by
  intro n v hv
  simp only [List.mem_cons, List.not_mem_nil, or_false] at hv
  rcases hv with rfl | rfl | rfl | rfl | rfl | rfl | rfl <;> trivial
theorem dfX3 : ∀ j, j < 18 → defaultValue (tyX3 j) = vp_V [.null, .null, .int 0, .int 0, .int 0, .int 0, .null, .null, .null, .null, .int 0, .null, .null, .null, .null, .null, .null, .int 0] j := by decide +kernel
theorem dwX3 : ∀ n : Nat, ∀ v ∈ ([.null, .null, .int 0, .int 0, .int 0, .int 0, .null, .null, .null, .null, .int 0, .null, .null, .null, .null, .null, .null, .int 0] : List Value), am_wv n v := by
  intro n v hv
  simp only [List.mem_cons, List.not_mem_nil, or_false] at hv
  rcases hv with rfl | rfl | rfl | rfl | rfl | rfl | rfl | rfl | rfl | rfl | rfl | rfl | rfl | rfl | rfl | rfl | rfl | rfl <;> trivial
theorem wq_0 : (Jvm.Cond.initialized "PepperboxTableLaw") ∈ am_tab := am_tm (am_t1 (i := 0) (by decide +kernel)) rfl
theorem wq_1 : (Jvm.Cond.initialized "PepperboxTableLaw$Deal") ∈ am_tab := am_tm (am_t1 (i := 1) (by decide +kernel)) rfl
theorem wq_2 : (Jvm.Cond.initialized "PepperboxTable") ∈ am_tab := am_tm (am_t1 (i := 2) (by decide +kernel)) rfl
theorem wq_3 : (Jvm.Cond.initialized "PepperboxTable$Cards") ∈ am_tab := am_tm (am_t1 (i := 3) (by decide +kernel)) rfl
theorem wq_4 : (Jvm.Cond.initialized "PepperboxTable$Auction") ∈ am_tab := am_tm (am_t1 (i := 4) (by decide +kernel)) rfl
theorem wq_8 : (Jvm.Cond.initialized "java/lang/IndexOutOfBoundsException") ∈ am_tab := am_tm (am_t1 (i := 8) (by decide +kernel)) rfl
theorem wq_9 : (Jvm.Cond.initialized "java/lang/IllegalArgumentException") ∈ am_tab := am_tm (am_t1 (i := 9) (by decide +kernel)) rfl
theorem wq_10 : (Jvm.Cond.initialized "java/lang/Integer") ∈ am_tab := am_tm (am_t1 (i := 10) (by decide +kernel)) rfl
theorem wq_11 : (Jvm.Cond.initialized "java/lang/IllegalStateException") ∈ am_tab := am_tm (am_t1 (i := 11) (by decide +kernel)) rfl
theorem wq_12 : (Jvm.Cond.initialized "java/lang/System") ∈ am_tab := am_tm (am_t1 (i := 12) (by decide +kernel)) rfl
theorem wq_13 : (Jvm.Cond.initialized "java/lang/Math") ∈ am_tab := am_tm (am_t1 (i := 13) (by decide +kernel)) rfl
theorem wq_17 : (Jvm.Cond.code ({ cls := "PepperboxTable", name := "has", desc := "(II)Z" } : Jvm.MethodName) prog_1_method_6_code (3 : Nat) (Option.some Jvm.ClassFile.FieldType.boolean)) ∈ am_tab := am_tm (am_t1 (i := 17) (by decide +kernel)) rfl
theorem wq_18 : (Jvm.Cond.methodLink "PepperboxTable" (40 : Nat) ({ cls := "PepperboxTable", name := "checkPlayer", desc := "(I)V" } : Jvm.MethodName)) ∈ am_tab := am_tm (am_t1 (i := 18) (by decide +kernel)) rfl
theorem wq_19 : (Jvm.Cond.static ({ cls := "PepperboxTable", name := "checkPlayer", desc := "(I)V" } : Jvm.MethodName)) ∈ am_tab := am_tm (am_t1 (i := 19) (by decide +kernel)) rfl
theorem wq_20 : (Jvm.Cond.code ({ cls := "PepperboxTable", name := "checkPlayer", desc := "(I)V" } : Jvm.MethodName) prog_1_method_31_code (1 : Nat) (Option.none : Option Jvm.ClassFile.FieldType)) ∈ am_tab := am_tm (am_t1 (i := 20) (by decide +kernel)) rfl
theorem wq_21 : (Jvm.Cond.classLink "PepperboxTable" (150 : Nat) "java/lang/IndexOutOfBoundsException") ∈ am_tab := am_tm (am_t1 (i := 21) (by decide +kernel)) rfl
theorem wq_47 : (Jvm.Cond.instanceMethod ({ cls := "java/lang/Object", name := "<init>", desc := "()V" } : Jvm.MethodName)) ∈ am_tab := am_tm (am_t1 (i := 47) (by decide +kernel)) rfl
theorem wq_48 : (Jvm.Cond.code ({ cls := "java/lang/Object", name := "<init>", desc := "()V" } : Jvm.MethodName) object_method_1_code (1 : Nat) (Option.none : Option Jvm.ClassFile.FieldType)) ∈ am_tab := am_tm (am_t1 (i := 48) (by decide +kernel)) rfl
theorem wq_91 : (Jvm.Cond.methodLink "PepperboxTable" (80 : Nat) ({ cls := "PepperboxTable", name := "checkCard", desc := "(I)V" } : Jvm.MethodName)) ∈ am_tab := am_tm (am_t1 (i := 91) (by decide +kernel)) rfl
theorem wq_92 : (Jvm.Cond.static ({ cls := "PepperboxTable", name := "checkCard", desc := "(I)V" } : Jvm.MethodName)) ∈ am_tab := am_tm (am_t1 (i := 92) (by decide +kernel)) rfl
theorem wq_93 : (Jvm.Cond.code ({ cls := "PepperboxTable", name := "checkCard", desc := "(I)V" } : Jvm.MethodName) prog_1_method_32_code (1 : Nat) (Option.none : Option Jvm.ClassFile.FieldType)) ∈ am_tab := am_tm (am_t1 (i := 93) (by decide +kernel)) rfl
theorem wq_94 : (Jvm.Cond.methodLink "PepperboxTable" (49 : Nat) ({ cls := "PepperboxTable", name := "isCard", desc := "(I)Z" } : Jvm.MethodName)) ∈ am_tab := am_tm (am_t1 (i := 94) (by decide +kernel)) rfl
theorem wq_95 : (Jvm.Cond.static ({ cls := "PepperboxTable", name := "isCard", desc := "(I)Z" } : Jvm.MethodName)) ∈ am_tab := am_tm (am_t1 (i := 95) (by decide +kernel)) rfl
theorem wq_96 : (Jvm.Cond.code ({ cls := "PepperboxTable", name := "isCard", desc := "(I)Z" } : Jvm.MethodName) prog_1_method_30_code (1 : Nat) (Option.some Jvm.ClassFile.FieldType.boolean)) ∈ am_tab := am_tm (am_t1 (i := 96) (by decide +kernel)) rfl
theorem wq_98 : (Jvm.Cond.methodLink "PepperboxTable" (73 : Nat) ({ cls := "PepperboxTable$Cards", name := "heldBy", desc := "(I)I" } : Jvm.MethodName)) ∈ am_tab := am_tm (am_t1 (i := 98) (by decide +kernel)) rfl
theorem wq_99 : (Jvm.Cond.instanceMethod ({ cls := "PepperboxTable$Cards", name := "heldBy", desc := "(I)I" } : Jvm.MethodName)) ∈ am_tab := am_tm (am_t1 (i := 99) (by decide +kernel)) rfl
theorem wq_100 : (Jvm.Cond.selects "PepperboxTable$Cards" ({ cls := "PepperboxTable$Cards", name := "heldBy", desc := "(I)I" } : Jvm.MethodName) ({ cls := "PepperboxTable$Cards", name := "heldBy", desc := "(I)I" } : Jvm.MethodName)) ∈ am_tab := am_tm (am_t1 (i := 100) (by decide +kernel)) rfl
theorem wq_101 : (Jvm.Cond.code ({ cls := "PepperboxTable$Cards", name := "heldBy", desc := "(I)I" } : Jvm.MethodName) prog_3_method_5_code (2 : Nat) (Option.some Jvm.ClassFile.FieldType.int)) ∈ am_tab := am_tm (am_t1 (i := 101) (by decide +kernel)) rfl
theorem wq_102 : (Jvm.Cond.methodLink "PepperboxTable" (99 : Nat) ({ cls := "PepperboxTable", name := "contains", desc := "(II)Z" } : Jvm.MethodName)) ∈ am_tab := am_tm (am_t1 (i := 102) (by decide +kernel)) rfl
theorem wq_103 : (Jvm.Cond.static ({ cls := "PepperboxTable", name := "contains", desc := "(II)Z" } : Jvm.MethodName)) ∈ am_tab := am_tm (am_t1 (i := 103) (by decide +kernel)) rfl
theorem wq_104 : (Jvm.Cond.code ({ cls := "PepperboxTable", name := "contains", desc := "(II)Z" } : Jvm.MethodName) prog_1_method_47_code (2 : Nat) (Option.some Jvm.ClassFile.FieldType.boolean)) ∈ am_tab := am_tm (am_t1 (i := 104) (by decide +kernel)) rfl
theorem wq_106 : (Jvm.Cond.instanceMethod ({ cls := "PepperboxTable", name := "hand", desc := "(III)I" } : Jvm.MethodName)) ∈ am_tab := am_tm (am_t1 (i := 106) (by decide +kernel)) rfl
theorem wq_107 : (Jvm.Cond.selects "PepperboxTable" ({ cls := "PepperboxTable", name := "hand", desc := "(III)I" } : Jvm.MethodName) ({ cls := "PepperboxTable", name := "hand", desc := "(III)I" } : Jvm.MethodName)) ∈ am_tab := am_tm (am_t1 (i := 107) (by decide +kernel)) rfl
theorem wq_108 : (Jvm.Cond.code ({ cls := "PepperboxTable", name := "hand", desc := "(III)I" } : Jvm.MethodName) prog_1_method_7_code (6 : Nat) (Option.some Jvm.ClassFile.FieldType.int)) ∈ am_tab := am_tm (am_t1 (i := 108) (by decide +kernel)) rfl
theorem wq_109 : (Jvm.Cond.classLink "PepperboxTable" (53 : Nat) "java/lang/IllegalArgumentException") ∈ am_tab := am_tm (am_t1 (i := 109) (by decide +kernel)) rfl
theorem wq_125 : (Jvm.Cond.methodLink "PepperboxTable" (105 : Nat) ({ cls := "PepperboxTable", name := "wholeSuit", desc := "(I)I" } : Jvm.MethodName)) ∈ am_tab := am_tm (am_t1 (i := 125) (by decide +kernel)) rfl
theorem wq_126 : (Jvm.Cond.static ({ cls := "PepperboxTable", name := "wholeSuit", desc := "(I)I" } : Jvm.MethodName)) ∈ am_tab := am_tm (am_t1 (i := 126) (by decide +kernel)) rfl
theorem wq_127 : (Jvm.Cond.code ({ cls := "PepperboxTable", name := "wholeSuit", desc := "(I)I" } : Jvm.MethodName) prog_1_method_50_code (1 : Nat) (Option.some Jvm.ClassFile.FieldType.int)) ∈ am_tab := am_tm (am_t1 (i := 127) (by decide +kernel)) rfl
theorem wq_128 : (Jvm.Cond.methodLink "PepperboxTable" (108 : Nat) ({ cls := "java/lang/Integer", name := "bitCount", desc := "(I)I" } : Jvm.MethodName)) ∈ am_tab := am_tm (am_t1 (i := 128) (by decide +kernel)) rfl
theorem wq_129 : (Jvm.Cond.static ({ cls := "java/lang/Integer", name := "bitCount", desc := "(I)I" } : Jvm.MethodName)) ∈ am_tab := am_tm (am_t1 (i := 129) (by decide +kernel)) rfl
theorem wq_130 : (Jvm.Cond.code ({ cls := "java/lang/Integer", name := "bitCount", desc := "(I)I" } : Jvm.MethodName) prog_11_method_49_code (1 : Nat) (Option.some Jvm.ClassFile.FieldType.int)) ∈ am_tab := am_tm (am_t1 (i := 130) (by decide +kernel)) rfl
theorem wq_131 : (Jvm.Cond.constant "java/lang/Integer" (265 : Nat) (1431655765 : Int32)) ∈ am_tab := am_tm (am_t1 (i := 131) (by decide +kernel)) rfl
theorem wq_132 : (Jvm.Cond.constant "java/lang/Integer" (266 : Nat) (858993459 : Int32)) ∈ am_tab := am_tm (am_t1 (i := 132) (by decide +kernel)) rfl
theorem wq_133 : (Jvm.Cond.constant "java/lang/Integer" (267 : Nat) (252645135 : Int32)) ∈ am_tab := am_tm (am_t1 (i := 133) (by decide +kernel)) rfl
theorem wq_134 : (Jvm.Cond.methodLink "PepperboxTable" (113 : Nat) ({ cls := "PepperboxTable", name := "greatest", desc := "(I)I" } : Jvm.MethodName)) ∈ am_tab := am_tm (am_t1 (i := 134) (by decide +kernel)) rfl
theorem wq_135 : (Jvm.Cond.static ({ cls := "PepperboxTable", name := "greatest", desc := "(I)I" } : Jvm.MethodName)) ∈ am_tab := am_tm (am_t1 (i := 135) (by decide +kernel)) rfl
theorem wq_136 : (Jvm.Cond.code ({ cls := "PepperboxTable", name := "greatest", desc := "(I)I" } : Jvm.MethodName) prog_1_method_52_code (1 : Nat) (Option.some Jvm.ClassFile.FieldType.int)) ∈ am_tab := am_tm (am_t1 (i := 136) (by decide +kernel)) rfl
theorem wq_137 : (Jvm.Cond.methodLink "PepperboxTable" (321 : Nat) ({ cls := "java/lang/Integer", name := "numberOfLeadingZeros", desc := "(I)I" } : Jvm.MethodName)) ∈ am_tab := am_tm (am_t1 (i := 137) (by decide +kernel)) rfl
theorem wq_138 : (Jvm.Cond.static ({ cls := "java/lang/Integer", name := "numberOfLeadingZeros", desc := "(I)I" } : Jvm.MethodName)) ∈ am_tab := am_tm (am_t1 (i := 138) (by decide +kernel)) rfl
theorem wq_139 : (Jvm.Cond.code ({ cls := "java/lang/Integer", name := "numberOfLeadingZeros", desc := "(I)I" } : Jvm.MethodName) prog_11_method_47_code (2 : Nat) (Option.some Jvm.ClassFile.FieldType.int)) ∈ am_tab := am_tm (am_t1 (i := 139) (by decide +kernel)) rfl
theorem wq_140 : (Jvm.Cond.constant "java/lang/Integer" (264 : Nat) (65536 : Int32)) ∈ am_tab := am_tm (am_t1 (i := 140) (by decide +kernel)) rfl
theorem wq_141 : (Jvm.Cond.methodLink "PepperboxTable" (77 : Nat) ({ cls := "PepperboxTable", name := "smallest", desc := "(I)I" } : Jvm.MethodName)) ∈ am_tab := am_tm (am_t1 (i := 141) (by decide +kernel)) rfl
theorem wq_142 : (Jvm.Cond.static ({ cls := "PepperboxTable", name := "smallest", desc := "(I)I" } : Jvm.MethodName)) ∈ am_tab := am_tm (am_t1 (i := 142) (by decide +kernel)) rfl
theorem wq_143 : (Jvm.Cond.code ({ cls := "PepperboxTable", name := "smallest", desc := "(I)I" } : Jvm.MethodName) prog_1_method_51_code (1 : Nat) (Option.some Jvm.ClassFile.FieldType.int)) ∈ am_tab := am_tm (am_t1 (i := 143) (by decide +kernel)) rfl
theorem wq_144 : (Jvm.Cond.methodLink "PepperboxTable" (318 : Nat) ({ cls := "java/lang/Integer", name := "numberOfTrailingZeros", desc := "(I)I" } : Jvm.MethodName)) ∈ am_tab := am_tm (am_t1 (i := 144) (by decide +kernel)) rfl
theorem wq_145 : (Jvm.Cond.static ({ cls := "java/lang/Integer", name := "numberOfTrailingZeros", desc := "(I)I" } : Jvm.MethodName)) ∈ am_tab := am_tm (am_t1 (i := 145) (by decide +kernel)) rfl
theorem wq_146 : (Jvm.Cond.code ({ cls := "java/lang/Integer", name := "numberOfTrailingZeros", desc := "(I)I" } : Jvm.MethodName) prog_11_method_48_code (2 : Nat) (Option.some Jvm.ClassFile.FieldType.int)) ∈ am_tab := am_tm (am_t1 (i := 146) (by decide +kernel)) rfl
theorem wq_150 : (Jvm.Cond.code ({ cls := "PepperboxTable", name := "canBid", desc := "(I)Z" } : Jvm.MethodName) prog_1_method_9_code (2 : Nat) (Option.some Jvm.ClassFile.FieldType.boolean)) ∈ am_tab := am_tm (am_t1 (i := 150) (by decide +kernel)) rfl
theorem wq_151 : (Jvm.Cond.methodLink "PepperboxTable" (116 : Nat) ({ cls := "PepperboxTable", name := "checkBid", desc := "(I)V" } : Jvm.MethodName)) ∈ am_tab := am_tm (am_t1 (i := 151) (by decide +kernel)) rfl
theorem wq_152 : (Jvm.Cond.static ({ cls := "PepperboxTable", name := "checkBid", desc := "(I)V" } : Jvm.MethodName)) ∈ am_tab := am_tm (am_t1 (i := 152) (by decide +kernel)) rfl
theorem wq_153 : (Jvm.Cond.code ({ cls := "PepperboxTable", name := "checkBid", desc := "(I)V" } : Jvm.MethodName) prog_1_method_33_code (1 : Nat) (Option.none : Option Jvm.ClassFile.FieldType)) ∈ am_tab := am_tm (am_t1 (i := 153) (by decide +kernel)) rfl
theorem wq_155 : (Jvm.Cond.methodLink "PepperboxTable" (119 : Nat) ({ cls := "PepperboxTable", name := "isBidAllowed", desc := "(I)Z" } : Jvm.MethodName)) ∈ am_tab := am_tm (am_t1 (i := 155) (by decide +kernel)) rfl
theorem wq_157 : (Jvm.Cond.instanceMethod ({ cls := "PepperboxTable", name := "isBidAllowed", desc := "(I)Z" } : Jvm.MethodName)) ∈ am_tab := am_tm (am_t1 (i := 157) (by decide +kernel)) rfl
theorem wq_158 : (Jvm.Cond.instantiable "PepperboxTable" (7 : Nat)) ∈ am_tab := am_tm (am_t1 (i := 158) (by decide +kernel)) rfl
theorem wq_159 : (Jvm.Cond.code ({ cls := "PepperboxTable", name := "isBidAllowed", desc := "(I)Z" } : Jvm.MethodName) prog_1_method_35_code (2 : Nat) (Option.some Jvm.ClassFile.FieldType.boolean)) ∈ am_tab := am_tm (am_t1 (i := 159) (by decide +kernel)) rfl
theorem wq_160 : (Jvm.Cond.methodLink "PepperboxTable" (297 : Nat) ({ cls := "PepperboxTable$Auction", name := "allows", desc := "(I)Z" } : Jvm.MethodName)) ∈ am_tab := am_tm (am_t1 (i := 160) (by decide +kernel)) rfl
theorem wq_161 : (Jvm.Cond.instanceMethod ({ cls := "PepperboxTable$Auction", name := "allows", desc := "(I)Z" } : Jvm.MethodName)) ∈ am_tab := am_tm (am_t1 (i := 161) (by decide +kernel)) rfl
theorem wq_162 : (Jvm.Cond.selects "PepperboxTable$Auction" ({ cls := "PepperboxTable$Auction", name := "allows", desc := "(I)Z" } : Jvm.MethodName) ({ cls := "PepperboxTable$Auction", name := "allows", desc := "(I)Z" } : Jvm.MethodName)) ∈ am_tab := am_tm (am_t1 (i := 162) (by decide +kernel)) rfl
theorem wq_163 : (Jvm.Cond.code ({ cls := "PepperboxTable$Auction", name := "allows", desc := "(I)Z" } : Jvm.MethodName) prog_2_method_6_code (3 : Nat) (Option.some Jvm.ClassFile.FieldType.boolean)) ∈ am_tab := am_tm (am_t1 (i := 163) (by decide +kernel)) rfl
theorem wq_164 : (Jvm.Cond.methodLink "PepperboxTable$Auction" (38 : Nat) ({ cls := "PepperboxTable$Auction", name := "turn", desc := "()I" } : Jvm.MethodName)) ∈ am_tab := am_tm (am_t1 (i := 164) (by decide +kernel)) rfl
theorem wq_165 : (Jvm.Cond.instanceMethod ({ cls := "PepperboxTable$Auction", name := "turn", desc := "()I" } : Jvm.MethodName)) ∈ am_tab := am_tm (am_t1 (i := 165) (by decide +kernel)) rfl
theorem wq_166 : (Jvm.Cond.selects "PepperboxTable$Auction" ({ cls := "PepperboxTable$Auction", name := "turn", desc := "()I" } : Jvm.MethodName) ({ cls := "PepperboxTable$Auction", name := "turn", desc := "()I" } : Jvm.MethodName)) ∈ am_tab := am_tm (am_t1 (i := 166) (by decide +kernel)) rfl
theorem wq_167 : (Jvm.Cond.code ({ cls := "PepperboxTable$Auction", name := "turn", desc := "()I" } : Jvm.MethodName) prog_2_method_4_code (1 : Nat) (Option.some Jvm.ClassFile.FieldType.int)) ∈ am_tab := am_tm (am_t1 (i := 167) (by decide +kernel)) rfl
theorem wq_168 : (Jvm.Cond.methodLink "PepperboxTable$Auction" (34 : Nat) ({ cls := "PepperboxTable$Auction", name := "bidderAt", desc := "(I)I" } : Jvm.MethodName)) ∈ am_tab := am_tm (am_t1 (i := 168) (by decide +kernel)) rfl
theorem wq_169 : (Jvm.Cond.instanceMethod ({ cls := "PepperboxTable$Auction", name := "bidderAt", desc := "(I)I" } : Jvm.MethodName)) ∈ am_tab := am_tm (am_t1 (i := 169) (by decide +kernel)) rfl
theorem wq_170 : (Jvm.Cond.selects "PepperboxTable$Auction" ({ cls := "PepperboxTable$Auction", name := "bidderAt", desc := "(I)I" } : Jvm.MethodName) ({ cls := "PepperboxTable$Auction", name := "bidderAt", desc := "(I)I" } : Jvm.MethodName)) ∈ am_tab := am_tm (am_t1 (i := 170) (by decide +kernel)) rfl
theorem wq_171 : (Jvm.Cond.code ({ cls := "PepperboxTable$Auction", name := "bidderAt", desc := "(I)I" } : Jvm.MethodName) prog_2_method_3_code (2 : Nat) (Option.some Jvm.ClassFile.FieldType.int)) ∈ am_tab := am_tm (am_t1 (i := 171) (by decide +kernel)) rfl
theorem wq_173 : (Jvm.Cond.static ({ cls := "PepperboxTable", name := "sideOf", desc := "(I)I" } : Jvm.MethodName)) ∈ am_tab := am_tm (am_t1 (i := 173) (by decide +kernel)) rfl
theorem wq_174 : (Jvm.Cond.code ({ cls := "PepperboxTable", name := "sideOf", desc := "(I)I" } : Jvm.MethodName) prog_1_method_45_code (1 : Nat) (Option.some Jvm.ClassFile.FieldType.int)) ∈ am_tab := am_tm (am_t1 (i := 174) (by decide +kernel)) rfl
theorem wq_176 : (Jvm.Cond.instanceMethod ({ cls := "PepperboxTable", name := "contract", desc := "(I)I" } : Jvm.MethodName)) ∈ am_tab := am_tm (am_t1 (i := 176) (by decide +kernel)) rfl
theorem wq_177 : (Jvm.Cond.selects "PepperboxTable" ({ cls := "PepperboxTable", name := "contract", desc := "(I)I" } : Jvm.MethodName) ({ cls := "PepperboxTable", name := "contract", desc := "(I)I" } : Jvm.MethodName)) ∈ am_tab := am_tm (am_t1 (i := 177) (by decide +kernel)) rfl
theorem wq_178 : (Jvm.Cond.code ({ cls := "PepperboxTable", name := "contract", desc := "(I)I" } : Jvm.MethodName) prog_1_method_11_code (2 : Nat) (Option.some Jvm.ClassFile.FieldType.int)) ∈ am_tab := am_tm (am_t1 (i := 178) (by decide +kernel)) rfl
theorem wq_180 : (Jvm.Cond.methodLink "PepperboxTable" (129 : Nat) ({ cls := "PepperboxTable$Auction", name := "isSettled", desc := "()Z" } : Jvm.MethodName)) ∈ am_tab := am_tm (am_t1 (i := 180) (by decide +kernel)) rfl
theorem wq_181 : (Jvm.Cond.instanceMethod ({ cls := "PepperboxTable$Auction", name := "isSettled", desc := "()Z" } : Jvm.MethodName)) ∈ am_tab := am_tm (am_t1 (i := 181) (by decide +kernel)) rfl
theorem wq_182 : (Jvm.Cond.selects "PepperboxTable$Auction" ({ cls := "PepperboxTable$Auction", name := "isSettled", desc := "()Z" } : Jvm.MethodName) ({ cls := "PepperboxTable$Auction", name := "isSettled", desc := "()Z" } : Jvm.MethodName)) ∈ am_tab := am_tm (am_t1 (i := 182) (by decide +kernel)) rfl
theorem wq_183 : (Jvm.Cond.code ({ cls := "PepperboxTable$Auction", name := "isSettled", desc := "()Z" } : Jvm.MethodName) prog_2_method_10_code (1 : Nat) (Option.some Jvm.ClassFile.FieldType.boolean)) ∈ am_tab := am_tm (am_t1 (i := 183) (by decide +kernel)) rfl
theorem wq_184 : (Jvm.Cond.methodLink "PepperboxTable" (160 : Nat) ({ cls := "PepperboxTable$Auction", name := "level", desc := "()I" } : Jvm.MethodName)) ∈ am_tab := am_tm (am_t1 (i := 184) (by decide +kernel)) rfl
theorem wq_185 : (Jvm.Cond.instanceMethod ({ cls := "PepperboxTable$Auction", name := "level", desc := "()I" } : Jvm.MethodName)) ∈ am_tab := am_tm (am_t1 (i := 185) (by decide +kernel)) rfl
theorem wq_186 : (Jvm.Cond.selects "PepperboxTable$Auction" ({ cls := "PepperboxTable$Auction", name := "level", desc := "()I" } : Jvm.MethodName) ({ cls := "PepperboxTable$Auction", name := "level", desc := "()I" } : Jvm.MethodName)) ∈ am_tab := am_tm (am_t1 (i := 186) (by decide +kernel)) rfl
theorem wq_187 : (Jvm.Cond.code ({ cls := "PepperboxTable$Auction", name := "level", desc := "()I" } : Jvm.MethodName) prog_2_method_11_code (1 : Nat) (Option.some Jvm.ClassFile.FieldType.int)) ∈ am_tab := am_tm (am_t1 (i := 187) (by decide +kernel)) rfl
theorem wq_188 : (Jvm.Cond.methodLink "PepperboxTable" (139 : Nat) ({ cls := "PepperboxTable$Auction", name := "trump", desc := "()I" } : Jvm.MethodName)) ∈ am_tab := am_tm (am_t1 (i := 188) (by decide +kernel)) rfl
theorem wq_189 : (Jvm.Cond.instanceMethod ({ cls := "PepperboxTable$Auction", name := "trump", desc := "()I" } : Jvm.MethodName)) ∈ am_tab := am_tm (am_t1 (i := 189) (by decide +kernel)) rfl
theorem wq_190 : (Jvm.Cond.selects "PepperboxTable$Auction" ({ cls := "PepperboxTable$Auction", name := "trump", desc := "()I" } : Jvm.MethodName) ({ cls := "PepperboxTable$Auction", name := "trump", desc := "()I" } : Jvm.MethodName)) ∈ am_tab := am_tm (am_t1 (i := 190) (by decide +kernel)) rfl
theorem wq_191 : (Jvm.Cond.code ({ cls := "PepperboxTable$Auction", name := "trump", desc := "()I" } : Jvm.MethodName) prog_2_method_12_code (1 : Nat) (Option.some Jvm.ClassFile.FieldType.int)) ∈ am_tab := am_tm (am_t1 (i := 191) (by decide +kernel)) rfl
theorem wq_192 : (Jvm.Cond.methodLink "PepperboxTable$Auction" (49 : Nat) ({ cls := "PepperboxTable$Auction", name := "trumpOf", desc := "(I)I" } : Jvm.MethodName)) ∈ am_tab := am_tm (am_t1 (i := 192) (by decide +kernel)) rfl
theorem wq_193 : (Jvm.Cond.static ({ cls := "PepperboxTable$Auction", name := "trumpOf", desc := "(I)I" } : Jvm.MethodName)) ∈ am_tab := am_tm (am_t1 (i := 193) (by decide +kernel)) rfl
theorem wq_194 : (Jvm.Cond.code ({ cls := "PepperboxTable$Auction", name := "trumpOf", desc := "(I)I" } : Jvm.MethodName) prog_2_method_13_code (1 : Nat) (Option.some Jvm.ClassFile.FieldType.int)) ∈ am_tab := am_tm (am_t1 (i := 194) (by decide +kernel)) rfl
theorem wq_195 : (Jvm.Cond.methodLink "PepperboxTable" (132 : Nat) ({ cls := "PepperboxTable$Auction", name := "declarer", desc := "()I" } : Jvm.MethodName)) ∈ am_tab := am_tm (am_t1 (i := 195) (by decide +kernel)) rfl
theorem wq_196 : (Jvm.Cond.instanceMethod ({ cls := "PepperboxTable$Auction", name := "declarer", desc := "()I" } : Jvm.MethodName)) ∈ am_tab := am_tm (am_t1 (i := 196) (by decide +kernel)) rfl
theorem wq_197 : (Jvm.Cond.selects "PepperboxTable$Auction" ({ cls := "PepperboxTable$Auction", name := "declarer", desc := "()I" } : Jvm.MethodName) ({ cls := "PepperboxTable$Auction", name := "declarer", desc := "()I" } : Jvm.MethodName)) ∈ am_tab := am_tm (am_t1 (i := 197) (by decide +kernel)) rfl
theorem wq_198 : (Jvm.Cond.code ({ cls := "PepperboxTable$Auction", name := "declarer", desc := "()I" } : Jvm.MethodName) prog_2_method_14_code (5 : Nat) (Option.some Jvm.ClassFile.FieldType.int)) ∈ am_tab := am_tm (am_t1 (i := 198) (by decide +kernel)) rfl
theorem wq_199 : (Jvm.Cond.methodLink "PepperboxTable$Auction" (52 : Nat) ({ cls := "PepperboxTable$Auction", name := "at", desc := "(I)I" } : Jvm.MethodName)) ∈ am_tab := am_tm (am_t1 (i := 199) (by decide +kernel)) rfl
theorem wq_200 : (Jvm.Cond.instanceMethod ({ cls := "PepperboxTable$Auction", name := "at", desc := "(I)I" } : Jvm.MethodName)) ∈ am_tab := am_tm (am_t1 (i := 200) (by decide +kernel)) rfl
theorem wq_201 : (Jvm.Cond.selects "PepperboxTable$Auction" ({ cls := "PepperboxTable$Auction", name := "at", desc := "(I)I" } : Jvm.MethodName) ({ cls := "PepperboxTable$Auction", name := "at", desc := "(I)I" } : Jvm.MethodName)) ∈ am_tab := am_tm (am_t1 (i := 201) (by decide +kernel)) rfl
theorem wq_202 : (Jvm.Cond.code ({ cls := "PepperboxTable$Auction", name := "at", desc := "(I)I" } : Jvm.MethodName) prog_2_method_5_code (2 : Nat) (Option.some Jvm.ClassFile.FieldType.int)) ∈ am_tab := am_tm (am_t1 (i := 202) (by decide +kernel)) rfl
theorem wq_203 : (Jvm.Cond.methodLink "PepperboxTable$Auction" (55 : Nat) ({ cls := "PepperboxTable$Auction", name := "trump", desc := "()I" } : Jvm.MethodName)) ∈ am_tab := am_tm (am_t1 (i := 203) (by decide +kernel)) rfl
theorem wq_207 : (Jvm.Cond.code ({ cls := "PepperboxTable", name := "isRight", desc := "(I)Z" } : Jvm.MethodName) prog_1_method_14_code (2 : Nat) (Option.some Jvm.ClassFile.FieldType.boolean)) ∈ am_tab := am_tm (am_t1 (i := 207) (by decide +kernel)) rfl
theorem wq_208 : (Jvm.Cond.methodLink "PepperboxTable" (189 : Nat) ({ cls := "PepperboxTable$Cards", name := "rightCards", desc := "()I" } : Jvm.MethodName)) ∈ am_tab := am_tm (am_t1 (i := 208) (by decide +kernel)) rfl
theorem wq_209 : (Jvm.Cond.instanceMethod ({ cls := "PepperboxTable$Cards", name := "rightCards", desc := "()I" } : Jvm.MethodName)) ∈ am_tab := am_tm (am_t1 (i := 209) (by decide +kernel)) rfl
theorem wq_210 : (Jvm.Cond.selects "PepperboxTable$Cards" ({ cls := "PepperboxTable$Cards", name := "rightCards", desc := "()I" } : Jvm.MethodName) ({ cls := "PepperboxTable$Cards", name := "rightCards", desc := "()I" } : Jvm.MethodName)) ∈ am_tab := am_tm (am_t1 (i := 210) (by decide +kernel)) rfl
theorem wq_211 : (Jvm.Cond.code ({ cls := "PepperboxTable$Cards", name := "rightCards", desc := "()I" } : Jvm.MethodName) prog_3_method_21_code (4 : Nat) (Option.some Jvm.ClassFile.FieldType.int)) ∈ am_tab := am_tm (am_t1 (i := 211) (by decide +kernel)) rfl
theorem wq_212 : (Jvm.Cond.methodLink "PepperboxTable$Cards" (43 : Nat) ({ cls := "PepperboxTable$Cards", name := "heldBy", desc := "(I)I" } : Jvm.MethodName)) ∈ am_tab := am_tm (am_t1 (i := 212) (by decide +kernel)) rfl
theorem wq_213 : (Jvm.Cond.methodLink "PepperboxTable$Cards" (80 : Nat) ({ cls := "PepperboxTable$Cards", name := "lying", desc := "()I" } : Jvm.MethodName)) ∈ am_tab := am_tm (am_t1 (i := 213) (by decide +kernel)) rfl
theorem wq_214 : (Jvm.Cond.instanceMethod ({ cls := "PepperboxTable$Cards", name := "lying", desc := "()I" } : Jvm.MethodName)) ∈ am_tab := am_tm (am_t1 (i := 214) (by decide +kernel)) rfl
theorem wq_215 : (Jvm.Cond.selects "PepperboxTable$Cards" ({ cls := "PepperboxTable$Cards", name := "lying", desc := "()I" } : Jvm.MethodName) ({ cls := "PepperboxTable$Cards", name := "lying", desc := "()I" } : Jvm.MethodName)) ∈ am_tab := am_tm (am_t1 (i := 215) (by decide +kernel)) rfl
theorem wq_216 : (Jvm.Cond.code ({ cls := "PepperboxTable$Cards", name := "lying", desc := "()I" } : Jvm.MethodName) prog_3_method_13_code (1 : Nat) (Option.some Jvm.ClassFile.FieldType.int)) ∈ am_tab := am_tm (am_t1 (i := 216) (by decide +kernel)) rfl
theorem wq_217 : (Jvm.Cond.methodLink "PepperboxTable$Cards" (67 : Nat) ({ cls := "PepperboxTable$Cards", name := "ended", desc := "()I" } : Jvm.MethodName)) ∈ am_tab := am_tm (am_t1 (i := 217) (by decide +kernel)) rfl
theorem wq_218 : (Jvm.Cond.instanceMethod ({ cls := "PepperboxTable$Cards", name := "ended", desc := "()I" } : Jvm.MethodName)) ∈ am_tab := am_tm (am_t1 (i := 218) (by decide +kernel)) rfl
theorem wq_219 : (Jvm.Cond.selects "PepperboxTable$Cards" ({ cls := "PepperboxTable$Cards", name := "ended", desc := "()I" } : Jvm.MethodName) ({ cls := "PepperboxTable$Cards", name := "ended", desc := "()I" } : Jvm.MethodName)) ∈ am_tab := am_tm (am_t1 (i := 219) (by decide +kernel)) rfl
theorem wq_220 : (Jvm.Cond.code ({ cls := "PepperboxTable$Cards", name := "ended", desc := "()I" } : Jvm.MethodName) prog_3_method_12_code (1 : Nat) (Option.some Jvm.ClassFile.FieldType.int)) ∈ am_tab := am_tm (am_t1 (i := 220) (by decide +kernel)) rfl
theorem wq_221 : (Jvm.Cond.methodLink "PepperboxTable$Cards" (74 : Nat) ({ cls := "PepperboxTable$Cards", name := "playedAt", desc := "(I)I" } : Jvm.MethodName)) ∈ am_tab := am_tm (am_t1 (i := 221) (by decide +kernel)) rfl
theorem wq_223 : (Jvm.Cond.instanceMethod ({ cls := "PepperboxTable$Cards", name := "playedAt", desc := "(I)I" } : Jvm.MethodName)) ∈ am_tab := am_tm (am_t1 (i := 223) (by decide +kernel)) rfl
theorem wq_224 : (Jvm.Cond.instantiable "PepperboxTable$Cards" (8 : Nat)) ∈ am_tab := am_tm (am_t1 (i := 224) (by decide +kernel)) rfl
theorem wq_225 : (Jvm.Cond.code ({ cls := "PepperboxTable$Cards", name := "playedAt", desc := "(I)I" } : Jvm.MethodName) prog_3_method_16_code (2 : Nat) (Option.some Jvm.ClassFile.FieldType.int)) ∈ am_tab := am_tm (am_t1 (i := 225) (by decide +kernel)) rfl
theorem wq_228 : (Jvm.Cond.instanceMethod ({ cls := "PepperboxTable", name := "trick", desc := "(II)I" } : Jvm.MethodName)) ∈ am_tab := am_tm (am_t1 (i := 228) (by decide +kernel)) rfl
theorem wq_229 : (Jvm.Cond.selects "PepperboxTable" ({ cls := "PepperboxTable", name := "trick", desc := "(II)I" } : Jvm.MethodName) ({ cls := "PepperboxTable", name := "trick", desc := "(II)I" } : Jvm.MethodName)) ∈ am_tab := am_tm (am_t1 (i := 229) (by decide +kernel)) rfl
theorem wq_230 : (Jvm.Cond.code ({ cls := "PepperboxTable", name := "trick", desc := "(II)I" } : Jvm.MethodName) prog_1_method_15_code (3 : Nat) (Option.some Jvm.ClassFile.FieldType.int)) ∈ am_tab := am_tm (am_t1 (i := 230) (by decide +kernel)) rfl
theorem wq_231 : (Jvm.Cond.methodLink "PepperboxTable" (192 : Nat) ({ cls := "PepperboxTable$Cards", name := "ended", desc := "()I" } : Jvm.MethodName)) ∈ am_tab := am_tm (am_t1 (i := 231) (by decide +kernel)) rfl
theorem wq_233 : (Jvm.Cond.methodLink "PepperboxTable" (197 : Nat) ({ cls := "PepperboxTable$Cards", name := "leaderOf", desc := "(I)I" } : Jvm.MethodName)) ∈ am_tab := am_tm (am_t1 (i := 233) (by decide +kernel)) rfl
theorem wq_234 : (Jvm.Cond.instanceMethod ({ cls := "PepperboxTable$Cards", name := "leaderOf", desc := "(I)I" } : Jvm.MethodName)) ∈ am_tab := am_tm (am_t1 (i := 234) (by decide +kernel)) rfl
theorem wq_235 : (Jvm.Cond.selects "PepperboxTable$Cards" ({ cls := "PepperboxTable$Cards", name := "leaderOf", desc := "(I)I" } : Jvm.MethodName) ({ cls := "PepperboxTable$Cards", name := "leaderOf", desc := "(I)I" } : Jvm.MethodName)) ∈ am_tab := am_tm (am_t1 (i := 235) (by decide +kernel)) rfl
theorem wq_236 : (Jvm.Cond.code ({ cls := "PepperboxTable$Cards", name := "leaderOf", desc := "(I)I" } : Jvm.MethodName) prog_3_method_15_code (2 : Nat) (Option.some Jvm.ClassFile.FieldType.int)) ∈ am_tab := am_tm (am_t1 (i := 236) (by decide +kernel)) rfl
theorem wq_237 : (Jvm.Cond.methodLink "PepperboxTable" (200 : Nat) ({ cls := "PepperboxTable$Cards", name := "cardIn", desc := "(II)I" } : Jvm.MethodName)) ∈ am_tab := am_tm (am_t1 (i := 237) (by decide +kernel)) rfl
theorem wq_238 : (Jvm.Cond.instanceMethod ({ cls := "PepperboxTable$Cards", name := "cardIn", desc := "(II)I" } : Jvm.MethodName)) ∈ am_tab := am_tm (am_t1 (i := 238) (by decide +kernel)) rfl
theorem wq_239 : (Jvm.Cond.selects "PepperboxTable$Cards" ({ cls := "PepperboxTable$Cards", name := "cardIn", desc := "(II)I" } : Jvm.MethodName) ({ cls := "PepperboxTable$Cards", name := "cardIn", desc := "(II)I" } : Jvm.MethodName)) ∈ am_tab := am_tm (am_t1 (i := 239) (by decide +kernel)) rfl
theorem wq_240 : (Jvm.Cond.code ({ cls := "PepperboxTable$Cards", name := "cardIn", desc := "(II)I" } : Jvm.MethodName) prog_3_method_18_code (4 : Nat) (Option.some Jvm.ClassFile.FieldType.int)) ∈ am_tab := am_tm (am_t1 (i := 240) (by decide +kernel)) rfl
theorem wq_241 : (Jvm.Cond.methodLink "PepperboxTable$Cards" (71 : Nat) ({ cls := "PepperboxTable$Cards", name := "leaderOf", desc := "(I)I" } : Jvm.MethodName)) ∈ am_tab := am_tm (am_t1 (i := 241) (by decide +kernel)) rfl
theorem wq_243 : (Jvm.Cond.instanceMethod ({ cls := "PepperboxTable", name := "now", desc := "(I)I" } : Jvm.MethodName)) ∈ am_tab := am_tm (am_t1 (i := 243) (by decide +kernel)) rfl
theorem wq_244 : (Jvm.Cond.selects "PepperboxTable" ({ cls := "PepperboxTable", name := "now", desc := "(I)I" } : Jvm.MethodName) ({ cls := "PepperboxTable", name := "now", desc := "(I)I" } : Jvm.MethodName)) ∈ am_tab := am_tm (am_t1 (i := 244) (by decide +kernel)) rfl
theorem wq_245 : (Jvm.Cond.code ({ cls := "PepperboxTable", name := "now", desc := "(I)I" } : Jvm.MethodName) prog_1_method_16_code (2 : Nat) (Option.some Jvm.ClassFile.FieldType.int)) ∈ am_tab := am_tm (am_t1 (i := 245) (by decide +kernel)) rfl
theorem wq_246 : (Jvm.Cond.methodLink "PepperboxTable" (145 : Nat) ({ cls := "PepperboxTable", name := "turnNow", desc := "()I" } : Jvm.MethodName)) ∈ am_tab := am_tm (am_t1 (i := 246) (by decide +kernel)) rfl
theorem wq_248 : (Jvm.Cond.instanceMethod ({ cls := "PepperboxTable", name := "turnNow", desc := "()I" } : Jvm.MethodName)) ∈ am_tab := am_tm (am_t1 (i := 248) (by decide +kernel)) rfl
theorem wq_249 : (Jvm.Cond.code ({ cls := "PepperboxTable", name := "turnNow", desc := "()I" } : Jvm.MethodName) prog_1_method_36_code (1 : Nat) (Option.some Jvm.ClassFile.FieldType.int)) ∈ am_tab := am_tm (am_t1 (i := 249) (by decide +kernel)) rfl
theorem wq_250 : (Jvm.Cond.methodLink "PepperboxTable" (300 : Nat) ({ cls := "PepperboxTable$Auction", name := "turn", desc := "()I" } : Jvm.MethodName)) ∈ am_tab := am_tm (am_t1 (i := 250) (by decide +kernel)) rfl
theorem wq_251 : (Jvm.Cond.methodLink "PepperboxTable" (181 : Nat) ({ cls := "PepperboxTable$Cards", name := "lying", desc := "()I" } : Jvm.MethodName)) ∈ am_tab := am_tm (am_t1 (i := 251) (by decide +kernel)) rfl
theorem wq_252 : (Jvm.Cond.methodLink "PepperboxTable" (207 : Nat) ({ cls := "PepperboxTable$Cards", name := "takerOf", desc := "(II)I" } : Jvm.MethodName)) ∈ am_tab := am_tm (am_t1 (i := 252) (by decide +kernel)) rfl
theorem wq_253 : (Jvm.Cond.instanceMethod ({ cls := "PepperboxTable$Cards", name := "takerOf", desc := "(II)I" } : Jvm.MethodName)) ∈ am_tab := am_tm (am_t1 (i := 253) (by decide +kernel)) rfl
theorem wq_254 : (Jvm.Cond.selects "PepperboxTable$Cards" ({ cls := "PepperboxTable$Cards", name := "takerOf", desc := "(II)I" } : Jvm.MethodName) ({ cls := "PepperboxTable$Cards", name := "takerOf", desc := "(II)I" } : Jvm.MethodName)) ∈ am_tab := am_tm (am_t1 (i := 254) (by decide +kernel)) rfl
theorem wq_255 : (Jvm.Cond.code ({ cls := "PepperboxTable$Cards", name := "takerOf", desc := "(II)I" } : Jvm.MethodName) prog_3_method_19_code (7 : Nat) (Option.some Jvm.ClassFile.FieldType.int)) ∈ am_tab := am_tm (am_t1 (i := 255) (by decide +kernel)) rfl
theorem wq_256 : (Jvm.Cond.methodLink "PepperboxTable$Cards" (77 : Nat) ({ cls := "PepperboxTable$Cards", name := "beats", desc := "(II)Z" } : Jvm.MethodName)) ∈ am_tab := am_tm (am_t1 (i := 256) (by decide +kernel)) rfl
theorem wq_258 : (Jvm.Cond.instanceMethod ({ cls := "PepperboxTable$Cards", name := "beats", desc := "(II)Z" } : Jvm.MethodName)) ∈ am_tab := am_tm (am_t1 (i := 258) (by decide +kernel)) rfl
theorem wq_259 : (Jvm.Cond.code ({ cls := "PepperboxTable$Cards", name := "beats", desc := "(II)Z" } : Jvm.MethodName) prog_3_method_20_code (4 : Nat) (Option.some Jvm.ClassFile.FieldType.boolean)) ∈ am_tab := am_tm (am_t1 (i := 259) (by decide +kernel)) rfl
theorem wq_261 : (Jvm.Cond.instanceMethod ({ cls := "PepperboxTable", name := "side", desc := "(II)I" } : Jvm.MethodName)) ∈ am_tab := am_tm (am_t1 (i := 261) (by decide +kernel)) rfl
theorem wq_262 : (Jvm.Cond.selects "PepperboxTable" ({ cls := "PepperboxTable", name := "side", desc := "(II)I" } : Jvm.MethodName) ({ cls := "PepperboxTable", name := "side", desc := "(II)I" } : Jvm.MethodName)) ∈ am_tab := am_tm (am_t1 (i := 262) (by decide +kernel)) rfl
theorem wq_263 : (Jvm.Cond.code ({ cls := "PepperboxTable", name := "side", desc := "(II)I" } : Jvm.MethodName) prog_1_method_17_code (3 : Nat) (Option.some Jvm.ClassFile.FieldType.int)) ∈ am_tab := am_tm (am_t1 (i := 263) (by decide +kernel)) rfl
theorem wq_265 : (Jvm.Cond.methodLink "PepperboxTable" (212 : Nat) ({ cls := "PepperboxTable", name := "revokersOf", desc := "(I)I" } : Jvm.MethodName)) ∈ am_tab := am_tm (am_t1 (i := 265) (by decide +kernel)) rfl
theorem wq_267 : (Jvm.Cond.instanceMethod ({ cls := "PepperboxTable", name := "revokersOf", desc := "(I)I" } : Jvm.MethodName)) ∈ am_tab := am_tm (am_t1 (i := 267) (by decide +kernel)) rfl
theorem wq_268 : (Jvm.Cond.code ({ cls := "PepperboxTable", name := "revokersOf", desc := "(I)I" } : Jvm.MethodName) prog_1_method_37_code (4 : Nat) (Option.some Jvm.ClassFile.FieldType.int)) ∈ am_tab := am_tm (am_t1 (i := 268) (by decide +kernel)) rfl
theorem wq_269 : (Jvm.Cond.methodLink "PepperboxTable" (302 : Nat) ({ cls := "PepperboxTable$Cards", name := "hasRevoked", desc := "(I)Z" } : Jvm.MethodName)) ∈ am_tab := am_tm (am_t1 (i := 269) (by decide +kernel)) rfl
theorem wq_270 : (Jvm.Cond.instanceMethod ({ cls := "PepperboxTable$Cards", name := "hasRevoked", desc := "(I)Z" } : Jvm.MethodName)) ∈ am_tab := am_tm (am_t1 (i := 270) (by decide +kernel)) rfl
theorem wq_271 : (Jvm.Cond.selects "PepperboxTable$Cards" ({ cls := "PepperboxTable$Cards", name := "hasRevoked", desc := "(I)Z" } : Jvm.MethodName) ({ cls := "PepperboxTable$Cards", name := "hasRevoked", desc := "(I)Z" } : Jvm.MethodName)) ∈ am_tab := am_tm (am_t1 (i := 271) (by decide +kernel)) rfl
theorem wq_272 : (Jvm.Cond.code ({ cls := "PepperboxTable$Cards", name := "hasRevoked", desc := "(I)Z" } : Jvm.MethodName) prog_3_method_24_code (3 : Nat) (Option.some Jvm.ClassFile.FieldType.boolean)) ∈ am_tab := am_tm (am_t1 (i := 272) (by decide +kernel)) rfl
theorem wq_274 : (Jvm.Cond.methodLink "PepperboxTable$Cards" (98 : Nat) ({ cls := "PepperboxTable$Cards", name := "playerAt", desc := "(I)I" } : Jvm.MethodName)) ∈ am_tab := am_tm (am_t1 (i := 274) (by decide +kernel)) rfl
theorem wq_276 : (Jvm.Cond.instanceMethod ({ cls := "PepperboxTable$Cards", name := "playerAt", desc := "(I)I" } : Jvm.MethodName)) ∈ am_tab := am_tm (am_t1 (i := 276) (by decide +kernel)) rfl
theorem wq_277 : (Jvm.Cond.code ({ cls := "PepperboxTable$Cards", name := "playerAt", desc := "(I)I" } : Jvm.MethodName) prog_3_method_17_code (2 : Nat) (Option.some Jvm.ClassFile.FieldType.int)) ∈ am_tab := am_tm (am_t1 (i := 277) (by decide +kernel)) rfl
theorem wq_281 : (Jvm.Cond.code ({ cls := "PepperboxTable", name := "meanScore", desc := "()D" } : Jvm.MethodName) prog_1_method_18_code (1 : Nat) (Option.some Jvm.ClassFile.FieldType.double)) ∈ am_tab := am_tm (am_t1 (i := 281) (by decide +kernel)) rfl
theorem wq_285 : (Jvm.Cond.code ({ cls := "PepperboxTable", name := "wouldGet", desc := "(I)I" } : Jvm.MethodName) prog_1_method_19_code (2 : Nat) (Option.some Jvm.ClassFile.FieldType.int)) ∈ am_tab := am_tm (am_t1 (i := 285) (by decide +kernel)) rfl
theorem wq_286 : (Jvm.Cond.methodLink "PepperboxTable" (166 : Nat) ({ cls := "PepperboxTable", name := "checkPlayable", desc := "(I)V" } : Jvm.MethodName)) ∈ am_tab := am_tm (am_t1 (i := 286) (by decide +kernel)) rfl
theorem wq_288 : (Jvm.Cond.instanceMethod ({ cls := "PepperboxTable", name := "checkPlayable", desc := "(I)V" } : Jvm.MethodName)) ∈ am_tab := am_tm (am_t1 (i := 288) (by decide +kernel)) rfl
theorem wq_289 : (Jvm.Cond.code ({ cls := "PepperboxTable", name := "checkPlayable", desc := "(I)V" } : Jvm.MethodName) prog_1_method_34_code (2 : Nat) (Option.none : Option Jvm.ClassFile.FieldType)) ∈ am_tab := am_tm (am_t1 (i := 289) (by decide +kernel)) rfl
theorem wq_290 : (Jvm.Cond.classLink "PepperboxTable" (64 : Nat) "java/lang/IllegalStateException") ∈ am_tab := am_tm (am_t1 (i := 290) (by decide +kernel)) rfl
theorem wq_306 : (Jvm.Cond.methodLink "PepperboxTable" (215 : Nat) ({ cls := "PepperboxTable$Cards", name := "copyFrom", desc := "(LPepperboxTable$Cards;)V" } : Jvm.MethodName)) ∈ am_tab := am_tm (am_t1 (i := 306) (by decide +kernel)) rfl
theorem wq_307 : (Jvm.Cond.instanceMethod ({ cls := "PepperboxTable$Cards", name := "copyFrom", desc := "(LPepperboxTable$Cards;)V" } : Jvm.MethodName)) ∈ am_tab := am_tm (am_t1 (i := 307) (by decide +kernel)) rfl
theorem wq_308 : (Jvm.Cond.selects "PepperboxTable$Cards" ({ cls := "PepperboxTable$Cards", name := "copyFrom", desc := "(LPepperboxTable$Cards;)V" } : Jvm.MethodName) ({ cls := "PepperboxTable$Cards", name := "copyFrom", desc := "(LPepperboxTable$Cards;)V" } : Jvm.MethodName)) ∈ am_tab := am_tm (am_t1 (i := 308) (by decide +kernel)) rfl
theorem wq_309 : (Jvm.Cond.code ({ cls := "PepperboxTable$Cards", name := "copyFrom", desc := "(LPepperboxTable$Cards;)V" } : Jvm.MethodName) prog_3_method_3_code (2 : Nat) (Option.none : Option Jvm.ClassFile.FieldType)) ∈ am_tab := am_tm (am_t1 (i := 309) (by decide +kernel)) rfl
theorem wq_310 : (Jvm.Cond.methodLink "PepperboxTable$Cards" (37 : Nat) ({ cls := "java/lang/System", name := "arraycopy", desc := "(Ljava/lang/Object;ILjava/lang/Object;II)V" } : Jvm.MethodName)) ∈ am_tab := am_tm (am_t1 (i := 310) (by decide +kernel)) rfl
theorem wq_311 : (Jvm.Cond.static ({ cls := "java/lang/System", name := "arraycopy", desc := "(Ljava/lang/Object;ILjava/lang/Object;II)V" } : Jvm.MethodName)) ∈ am_tab := am_tm (am_t1 (i := 311) (by decide +kernel)) rfl
theorem wq_312 : (Jvm.Cond.native ({ cls := "java/lang/System", name := "arraycopy", desc := "(Ljava/lang/Object;ILjava/lang/Object;II)V" } : Jvm.MethodName)) ∈ am_tab := am_tm (am_t1 (i := 312) (by decide +kernel)) rfl
theorem wq_313 : (Jvm.Cond.methodLink "PepperboxTable" (169 : Nat) ({ cls := "PepperboxTable$Cards", name := "put", desc := "(I)I" } : Jvm.MethodName)) ∈ am_tab := am_tm (am_t1 (i := 313) (by decide +kernel)) rfl
theorem wq_314 : (Jvm.Cond.instanceMethod ({ cls := "PepperboxTable$Cards", name := "put", desc := "(I)I" } : Jvm.MethodName)) ∈ am_tab := am_tm (am_t1 (i := 314) (by decide +kernel)) rfl
theorem wq_315 : (Jvm.Cond.selects "PepperboxTable$Cards" ({ cls := "PepperboxTable$Cards", name := "put", desc := "(I)I" } : Jvm.MethodName) ({ cls := "PepperboxTable$Cards", name := "put", desc := "(I)I" } : Jvm.MethodName)) ∈ am_tab := am_tm (am_t1 (i := 315) (by decide +kernel)) rfl
theorem wq_316 : (Jvm.Cond.code ({ cls := "PepperboxTable$Cards", name := "put", desc := "(I)I" } : Jvm.MethodName) prog_3_method_22_code (3 : Nat) (Option.some Jvm.ClassFile.FieldType.int)) ∈ am_tab := am_tm (am_t1 (i := 316) (by decide +kernel)) rfl
theorem wq_317 : (Jvm.Cond.methodLink "PepperboxTable$Cards" (86 : Nat) ({ cls := "PepperboxTable$Cards", name := "rightCards", desc := "()I" } : Jvm.MethodName)) ∈ am_tab := am_tm (am_t1 (i := 317) (by decide +kernel)) rfl
theorem wq_319 : (Jvm.Cond.static ({ cls := "PepperboxTable", name := "with", desc := "(II)I" } : Jvm.MethodName)) ∈ am_tab := am_tm (am_t1 (i := 319) (by decide +kernel)) rfl
theorem wq_320 : (Jvm.Cond.code ({ cls := "PepperboxTable", name := "with", desc := "(II)I" } : Jvm.MethodName) prog_1_method_48_code (2 : Nat) (Option.some Jvm.ClassFile.FieldType.int)) ∈ am_tab := am_tm (am_t1 (i := 320) (by decide +kernel)) rfl
theorem wq_322 : (Jvm.Cond.static ({ cls := "PepperboxTable", name := "without", desc := "(II)I" } : Jvm.MethodName)) ∈ am_tab := am_tm (am_t1 (i := 322) (by decide +kernel)) rfl
theorem wq_323 : (Jvm.Cond.code ({ cls := "PepperboxTable", name := "without", desc := "(II)I" } : Jvm.MethodName) prog_1_method_49_code (2 : Nat) (Option.some Jvm.ClassFile.FieldType.int)) ∈ am_tab := am_tm (am_t1 (i := 323) (by decide +kernel)) rfl
theorem wq_325 : (Jvm.Cond.static ({ cls := "PepperboxTable", name := "nextOf", desc := "(I)I" } : Jvm.MethodName)) ∈ am_tab := am_tm (am_t1 (i := 325) (by decide +kernel)) rfl
theorem wq_326 : (Jvm.Cond.code ({ cls := "PepperboxTable", name := "nextOf", desc := "(I)I" } : Jvm.MethodName) prog_1_method_46_code (1 : Nat) (Option.some Jvm.ClassFile.FieldType.int)) ∈ am_tab := am_tm (am_t1 (i := 326) (by decide +kernel)) rfl
theorem wq_327 : (Jvm.Cond.methodLink "PepperboxTable$Cards" (95 : Nat) ({ cls := "PepperboxTable$Cards", name := "takerOf", desc := "(II)I" } : Jvm.MethodName)) ∈ am_tab := am_tm (am_t1 (i := 327) (by decide +kernel)) rfl
theorem wq_329 : (Jvm.Cond.instanceMethod ({ cls := "PepperboxTable", name := "best", desc := "()I" } : Jvm.MethodName)) ∈ am_tab := am_tm (am_t1 (i := 329) (by decide +kernel)) rfl
theorem wq_330 : (Jvm.Cond.selects "PepperboxTable" ({ cls := "PepperboxTable", name := "best", desc := "()I" } : Jvm.MethodName) ({ cls := "PepperboxTable", name := "best", desc := "()I" } : Jvm.MethodName)) ∈ am_tab := am_tm (am_t1 (i := 330) (by decide +kernel)) rfl
theorem wq_331 : (Jvm.Cond.code ({ cls := "PepperboxTable", name := "best", desc := "()I" } : Jvm.MethodName) prog_1_method_20_code (1 : Nat) (Option.some Jvm.ClassFile.FieldType.int)) ∈ am_tab := am_tm (am_t1 (i := 331) (by decide +kernel)) rfl
theorem wq_332 : (Jvm.Cond.methodLink "PepperboxTable" (221 : Nat) ({ cls := "PepperboxTable", name := "bestIn", desc := "(I)I" } : Jvm.MethodName)) ∈ am_tab := am_tm (am_t1 (i := 332) (by decide +kernel)) rfl
theorem wq_333 : (Jvm.Cond.instanceMethod ({ cls := "PepperboxTable", name := "bestIn", desc := "(I)I" } : Jvm.MethodName)) ∈ am_tab := am_tm (am_t1 (i := 333) (by decide +kernel)) rfl
theorem wq_334 : (Jvm.Cond.selects "PepperboxTable" ({ cls := "PepperboxTable", name := "bestIn", desc := "(I)I" } : Jvm.MethodName) ({ cls := "PepperboxTable", name := "bestIn", desc := "(I)I" } : Jvm.MethodName)) ∈ am_tab := am_tm (am_t1 (i := 334) (by decide +kernel)) rfl
theorem wq_335 : (Jvm.Cond.code ({ cls := "PepperboxTable", name := "bestIn", desc := "(I)I" } : Jvm.MethodName) prog_1_method_23_code (2 : Nat) (Option.some Jvm.ClassFile.FieldType.int)) ∈ am_tab := am_tm (am_t1 (i := 335) (by decide +kernel)) rfl
theorem wq_337 : (Jvm.Cond.methodLink "PepperboxTable" (224 : Nat) ({ cls := "PepperboxTable", name := "hasBestPlay", desc := "()Z" } : Jvm.MethodName)) ∈ am_tab := am_tm (am_t1 (i := 337) (by decide +kernel)) rfl
theorem wq_339 : (Jvm.Cond.instanceMethod ({ cls := "PepperboxTable", name := "hasBestPlay", desc := "()Z" } : Jvm.MethodName)) ∈ am_tab := am_tm (am_t1 (i := 339) (by decide +kernel)) rfl
theorem wq_340 : (Jvm.Cond.code ({ cls := "PepperboxTable", name := "hasBestPlay", desc := "()Z" } : Jvm.MethodName) prog_1_method_40_code (1 : Nat) (Option.some Jvm.ClassFile.FieldType.boolean)) ∈ am_tab := am_tm (am_t1 (i := 340) (by decide +kernel)) rfl
theorem wq_341 : (Jvm.Cond.methodLink "PepperboxTable" (308 : Nat) ({ cls := "PepperboxTable$Cards", name := "areAtMost", desc := "(I)Z" } : Jvm.MethodName)) ∈ am_tab := am_tm (am_t1 (i := 341) (by decide +kernel)) rfl
theorem wq_342 : (Jvm.Cond.instanceMethod ({ cls := "PepperboxTable$Cards", name := "areAtMost", desc := "(I)Z" } : Jvm.MethodName)) ∈ am_tab := am_tm (am_t1 (i := 342) (by decide +kernel)) rfl
theorem wq_343 : (Jvm.Cond.selects "PepperboxTable$Cards" ({ cls := "PepperboxTable$Cards", name := "areAtMost", desc := "(I)Z" } : Jvm.MethodName) ({ cls := "PepperboxTable$Cards", name := "areAtMost", desc := "(I)Z" } : Jvm.MethodName)) ∈ am_tab := am_tm (am_t1 (i := 343) (by decide +kernel)) rfl
theorem wq_344 : (Jvm.Cond.code ({ cls := "PepperboxTable$Cards", name := "areAtMost", desc := "(I)Z" } : Jvm.MethodName) prog_3_method_10_code (3 : Nat) (Option.some Jvm.ClassFile.FieldType.boolean)) ∈ am_tab := am_tm (am_t1 (i := 344) (by decide +kernel)) rfl
theorem wq_345 : (Jvm.Cond.methodLink "PepperboxTable$Cards" (64 : Nat) ({ cls := "PepperboxTable$Cards", name := "count", desc := "(I)I" } : Jvm.MethodName)) ∈ am_tab := am_tm (am_t1 (i := 345) (by decide +kernel)) rfl
theorem wq_346 : (Jvm.Cond.instanceMethod ({ cls := "PepperboxTable$Cards", name := "count", desc := "(I)I" } : Jvm.MethodName)) ∈ am_tab := am_tm (am_t1 (i := 346) (by decide +kernel)) rfl
theorem wq_347 : (Jvm.Cond.selects "PepperboxTable$Cards" ({ cls := "PepperboxTable$Cards", name := "count", desc := "(I)I" } : Jvm.MethodName) ({ cls := "PepperboxTable$Cards", name := "count", desc := "(I)I" } : Jvm.MethodName)) ∈ am_tab := am_tm (am_t1 (i := 347) (by decide +kernel)) rfl
theorem wq_348 : (Jvm.Cond.code ({ cls := "PepperboxTable$Cards", name := "count", desc := "(I)I" } : Jvm.MethodName) prog_3_method_6_code (2 : Nat) (Option.some Jvm.ClassFile.FieldType.int)) ∈ am_tab := am_tm (am_t1 (i := 348) (by decide +kernel)) rfl
theorem wq_349 : (Jvm.Cond.methodLink "PepperboxTable$Cards" (47 : Nat) ({ cls := "java/lang/Integer", name := "bitCount", desc := "(I)I" } : Jvm.MethodName)) ∈ am_tab := am_tm (am_t1 (i := 349) (by decide +kernel)) rfl
theorem wq_350 : (Jvm.Cond.methodLink "PepperboxTable" (235 : Nat) ({ cls := "PepperboxTable", name := "mostOfSide0", desc := "(LPepperboxTable$Cards;)I" } : Jvm.MethodName)) ∈ am_tab := am_tm (am_t1 (i := 350) (by decide +kernel)) rfl
theorem wq_351 : (Jvm.Cond.static ({ cls := "PepperboxTable", name := "mostOfSide0", desc := "(LPepperboxTable$Cards;)I" } : Jvm.MethodName)) ∈ am_tab := am_tm (am_t1 (i := 351) (by decide +kernel)) rfl
theorem wq_352 : (Jvm.Cond.code ({ cls := "PepperboxTable", name := "mostOfSide0", desc := "(LPepperboxTable$Cards;)I" } : Jvm.MethodName) prog_1_method_42_code (3 : Nat) (Option.some Jvm.ClassFile.FieldType.int)) ∈ am_tab := am_tm (am_t1 (i := 352) (by decide +kernel)) rfl
theorem wq_353 : (Jvm.Cond.methodLink "PepperboxTable" (314 : Nat) ({ cls := "PepperboxTable", name := "doesSide0Get", desc := "(LPepperboxTable$Cards;II)Z" } : Jvm.MethodName)) ∈ am_tab := am_tm (am_t1 (i := 353) (by decide +kernel)) rfl
theorem wq_354 : (Jvm.Cond.static ({ cls := "PepperboxTable", name := "doesSide0Get", desc := "(LPepperboxTable$Cards;II)Z" } : Jvm.MethodName)) ∈ am_tab := am_tm (am_t1 (i := 354) (by decide +kernel)) rfl
theorem wq_355 : (Jvm.Cond.code ({ cls := "PepperboxTable", name := "doesSide0Get", desc := "(LPepperboxTable$Cards;II)Z" } : Jvm.MethodName) prog_1_method_43_code (9 : Nat) (Option.some Jvm.ClassFile.FieldType.boolean)) ∈ am_tab := am_tm (am_t1 (i := 355) (by decide +kernel)) rfl
theorem wq_356 : (Jvm.Cond.methodLink "PepperboxTable" (175 : Nat) ({ cls := "PepperboxTable$Cards", name := "tricksLeft", desc := "()I" } : Jvm.MethodName)) ∈ am_tab := am_tm (am_t1 (i := 356) (by decide +kernel)) rfl
theorem wq_357 : (Jvm.Cond.instanceMethod ({ cls := "PepperboxTable$Cards", name := "tricksLeft", desc := "()I" } : Jvm.MethodName)) ∈ am_tab := am_tm (am_t1 (i := 357) (by decide +kernel)) rfl
theorem wq_358 : (Jvm.Cond.selects "PepperboxTable$Cards" ({ cls := "PepperboxTable$Cards", name := "tricksLeft", desc := "()I" } : Jvm.MethodName) ({ cls := "PepperboxTable$Cards", name := "tricksLeft", desc := "()I" } : Jvm.MethodName)) ∈ am_tab := am_tm (am_t1 (i := 358) (by decide +kernel)) rfl
theorem wq_359 : (Jvm.Cond.code ({ cls := "PepperboxTable$Cards", name := "tricksLeft", desc := "()I" } : Jvm.MethodName) prog_3_method_14_code (1 : Nat) (Option.some Jvm.ClassFile.FieldType.int)) ∈ am_tab := am_tm (am_t1 (i := 359) (by decide +kernel)) rfl
theorem wq_360 : (Jvm.Cond.methodLink "PepperboxTable" (172 : Nat) ({ cls := "PepperboxTable", name := "sideOf", desc := "(I)I" } : Jvm.MethodName)) ∈ am_tab := am_tm (am_t1 (i := 360) (by decide +kernel)) rfl
theorem wq_361 : (Jvm.Cond.methodLink "PepperboxTable" (230 : Nat) ({ cls := "PepperboxTable", name := "without", desc := "(II)I" } : Jvm.MethodName)) ∈ am_tab := am_tm (am_t1 (i := 361) (by decide +kernel)) rfl
theorem wq_362 : (Jvm.Cond.methodLink "PepperboxTable" (311 : Nat) ({ cls := "PepperboxTable", name := "countForSide0", desc := "(I)I" } : Jvm.MethodName)) ∈ am_tab := am_tm (am_t1 (i := 362) (by decide +kernel)) rfl
theorem wq_363 : (Jvm.Cond.static ({ cls := "PepperboxTable", name := "countForSide0", desc := "(I)I" } : Jvm.MethodName)) ∈ am_tab := am_tm (am_t1 (i := 363) (by decide +kernel)) rfl
theorem wq_364 : (Jvm.Cond.code ({ cls := "PepperboxTable", name := "countForSide0", desc := "(I)I" } : Jvm.MethodName) prog_1_method_44_code (1 : Nat) (Option.some Jvm.ClassFile.FieldType.int)) ∈ am_tab := am_tm (am_t1 (i := 364) (by decide +kernel)) rfl
theorem wq_365 : (Jvm.Cond.methodLink "PepperboxTable" (186 : Nat) ({ cls := "PepperboxTable$Cards", name := "takeBack", desc := "()I" } : Jvm.MethodName)) ∈ am_tab := am_tm (am_t1 (i := 365) (by decide +kernel)) rfl
theorem wq_366 : (Jvm.Cond.instanceMethod ({ cls := "PepperboxTable$Cards", name := "takeBack", desc := "()I" } : Jvm.MethodName)) ∈ am_tab := am_tm (am_t1 (i := 366) (by decide +kernel)) rfl
theorem wq_367 : (Jvm.Cond.selects "PepperboxTable$Cards" ({ cls := "PepperboxTable$Cards", name := "takeBack", desc := "()I" } : Jvm.MethodName) ({ cls := "PepperboxTable$Cards", name := "takeBack", desc := "()I" } : Jvm.MethodName)) ∈ am_tab := am_tm (am_t1 (i := 367) (by decide +kernel)) rfl
theorem wq_368 : (Jvm.Cond.code ({ cls := "PepperboxTable$Cards", name := "takeBack", desc := "()I" } : Jvm.MethodName) prog_3_method_23_code (2 : Nat) (Option.some Jvm.ClassFile.FieldType.int)) ∈ am_tab := am_tm (am_t1 (i := 368) (by decide +kernel)) rfl
theorem wq_369 : (Jvm.Cond.methodLink "PepperboxTable$Cards" (101 : Nat) ({ cls := "PepperboxTable$Cards", name := "add", desc := "(II)V" } : Jvm.MethodName)) ∈ am_tab := am_tm (am_t1 (i := 369) (by decide +kernel)) rfl
theorem wq_370 : (Jvm.Cond.instanceMethod ({ cls := "PepperboxTable$Cards", name := "add", desc := "(II)V" } : Jvm.MethodName)) ∈ am_tab := am_tm (am_t1 (i := 370) (by decide +kernel)) rfl
theorem wq_371 : (Jvm.Cond.selects "PepperboxTable$Cards" ({ cls := "PepperboxTable$Cards", name := "add", desc := "(II)V" } : Jvm.MethodName) ({ cls := "PepperboxTable$Cards", name := "add", desc := "(II)V" } : Jvm.MethodName)) ∈ am_tab := am_tm (am_t1 (i := 371) (by decide +kernel)) rfl
theorem wq_372 : (Jvm.Cond.code ({ cls := "PepperboxTable$Cards", name := "add", desc := "(II)V" } : Jvm.MethodName) prog_3_method_7_code (3 : Nat) (Option.none : Option Jvm.ClassFile.FieldType)) ∈ am_tab := am_tm (am_t1 (i := 372) (by decide +kernel)) rfl
theorem wq_376 : (Jvm.Cond.code ({ cls := "PepperboxTable", name := "bestWith", desc := "(I)I" } : Jvm.MethodName) prog_1_method_21_code (2 : Nat) (Option.some Jvm.ClassFile.FieldType.int)) ∈ am_tab := am_tm (am_t1 (i := 376) (by decide +kernel)) rfl
theorem wq_377 : (Jvm.Cond.methodLink "PepperboxTable" (227 : Nat) ({ cls := "PepperboxTable", name := "bestBehind", desc := "(I)I" } : Jvm.MethodName)) ∈ am_tab := am_tm (am_t1 (i := 377) (by decide +kernel)) rfl
theorem wq_379 : (Jvm.Cond.instanceMethod ({ cls := "PepperboxTable", name := "bestBehind", desc := "(I)I" } : Jvm.MethodName)) ∈ am_tab := am_tm (am_t1 (i := 379) (by decide +kernel)) rfl
theorem wq_380 : (Jvm.Cond.code ({ cls := "PepperboxTable", name := "bestBehind", desc := "(I)I" } : Jvm.MethodName) prog_1_method_41_code (3 : Nat) (Option.some Jvm.ClassFile.FieldType.int)) ∈ am_tab := am_tm (am_t1 (i := 380) (by decide +kernel)) rfl
theorem wq_382 : (Jvm.Cond.instanceMethod ({ cls := "PepperboxTable", name := "bestCard", desc := "()I" } : Jvm.MethodName)) ∈ am_tab := am_tm (am_t1 (i := 382) (by decide +kernel)) rfl
theorem wq_383 : (Jvm.Cond.selects "PepperboxTable" ({ cls := "PepperboxTable", name := "bestCard", desc := "()I" } : Jvm.MethodName) ({ cls := "PepperboxTable", name := "bestCard", desc := "()I" } : Jvm.MethodName)) ∈ am_tab := am_tm (am_t1 (i := 383) (by decide +kernel)) rfl
theorem wq_384 : (Jvm.Cond.code ({ cls := "PepperboxTable", name := "bestCard", desc := "()I" } : Jvm.MethodName) prog_1_method_22_code (5 : Nat) (Option.some Jvm.ClassFile.FieldType.int)) ∈ am_tab := am_tm (am_t1 (i := 384) (by decide +kernel)) rfl
theorem wq_388 : (Jvm.Cond.code ({ cls := "PepperboxTable", name := "digest", desc := "()J" } : Jvm.MethodName) prog_1_method_25_code (4 : Nat) (Option.some Jvm.ClassFile.FieldType.long)) ∈ am_tab := am_tm (am_t1 (i := 388) (by decide +kernel)) rfl
theorem wq_389 : (Jvm.Cond.constantLong "PepperboxTable" (246 : Nat) (968 : Int64)) ∈ am_tab := am_tm (am_t1 (i := 389) (by decide +kernel)) rfl
theorem wq_390 : (Jvm.Cond.methodLink "PepperboxTable" (248 : Nat) ({ cls := "PepperboxTable", name := "now", desc := "(I)I" } : Jvm.MethodName)) ∈ am_tab := am_tm (am_t1 (i := 390) (by decide +kernel)) rfl
theorem wq_391 : (Jvm.Cond.methodLink "PepperboxTable" (251 : Nat) ({ cls := "PepperboxTable", name := "mix", desc := "(JI)J" } : Jvm.MethodName)) ∈ am_tab := am_tm (am_t1 (i := 391) (by decide +kernel)) rfl
theorem wq_392 : (Jvm.Cond.static ({ cls := "PepperboxTable", name := "mix", desc := "(JI)J" } : Jvm.MethodName)) ∈ am_tab := am_tm (am_t1 (i := 392) (by decide +kernel)) rfl
theorem wq_393 : (Jvm.Cond.code ({ cls := "PepperboxTable", name := "mix", desc := "(JI)J" } : Jvm.MethodName) prog_1_method_26_code (3 : Nat) (Option.some Jvm.ClassFile.FieldType.long)) ∈ am_tab := am_tm (am_t1 (i := 393) (by decide +kernel)) rfl
theorem wq_394 : (Jvm.Cond.constantLong "PepperboxTable" (274 : Nat) (31 : Int64)) ∈ am_tab := am_tm (am_t1 (i := 394) (by decide +kernel)) rfl
theorem wq_395 : (Jvm.Cond.methodLink "PepperboxTable" (255 : Nat) ({ cls := "PepperboxTable", name := "contract", desc := "(I)I" } : Jvm.MethodName)) ∈ am_tab := am_tm (am_t1 (i := 395) (by decide +kernel)) rfl
theorem wq_396 : (Jvm.Cond.methodLink "PepperboxTable" (155 : Nat) ({ cls := "PepperboxTable$Auction", name := "at", desc := "(I)I" } : Jvm.MethodName)) ∈ am_tab := am_tm (am_t1 (i := 396) (by decide +kernel)) rfl
theorem wq_397 : (Jvm.Cond.methodLink "PepperboxTable" (258 : Nat) ({ cls := "PepperboxTable", name := "mixTricks", desc := "(J)J" } : Jvm.MethodName)) ∈ am_tab := am_tm (am_t1 (i := 397) (by decide +kernel)) rfl
theorem wq_399 : (Jvm.Cond.instanceMethod ({ cls := "PepperboxTable", name := "mixTricks", desc := "(J)J" } : Jvm.MethodName)) ∈ am_tab := am_tm (am_t1 (i := 399) (by decide +kernel)) rfl
theorem wq_400 : (Jvm.Cond.code ({ cls := "PepperboxTable", name := "mixTricks", desc := "(J)J" } : Jvm.MethodName) prog_1_method_27_code (7 : Nat) (Option.some Jvm.ClassFile.FieldType.long)) ∈ am_tab := am_tm (am_t1 (i := 400) (by decide +kernel)) rfl
theorem wq_401 : (Jvm.Cond.methodLink "PepperboxTable" (276 : Nat) ({ cls := "PepperboxTable", name := "trick", desc := "(II)I" } : Jvm.MethodName)) ∈ am_tab := am_tm (am_t1 (i := 401) (by decide +kernel)) rfl
theorem wq_402 : (Jvm.Cond.methodLink "PepperboxTable" (262 : Nat) ({ cls := "PepperboxTable", name := "mixSides", desc := "(J)J" } : Jvm.MethodName)) ∈ am_tab := am_tm (am_t1 (i := 402) (by decide +kernel)) rfl
theorem wq_404 : (Jvm.Cond.instanceMethod ({ cls := "PepperboxTable", name := "mixSides", desc := "(J)J" } : Jvm.MethodName)) ∈ am_tab := am_tm (am_t1 (i := 404) (by decide +kernel)) rfl
theorem wq_405 : (Jvm.Cond.code ({ cls := "PepperboxTable", name := "mixSides", desc := "(J)J" } : Jvm.MethodName) prog_1_method_28_code (7 : Nat) (Option.some Jvm.ClassFile.FieldType.long)) ∈ am_tab := am_tm (am_t1 (i := 405) (by decide +kernel)) rfl
theorem wq_406 : (Jvm.Cond.methodLink "PepperboxTable" (279 : Nat) ({ cls := "PepperboxTable", name := "side", desc := "(II)I" } : Jvm.MethodName)) ∈ am_tab := am_tm (am_t1 (i := 406) (by decide +kernel)) rfl
theorem wq_407 : (Jvm.Cond.methodLink "PepperboxTable" (265 : Nat) ({ cls := "PepperboxTable", name := "mixHands", desc := "(J)J" } : Jvm.MethodName)) ∈ am_tab := am_tm (am_t1 (i := 407) (by decide +kernel)) rfl
theorem wq_409 : (Jvm.Cond.instanceMethod ({ cls := "PepperboxTable", name := "mixHands", desc := "(J)J" } : Jvm.MethodName)) ∈ am_tab := am_tm (am_t1 (i := 409) (by decide +kernel)) rfl
theorem wq_410 : (Jvm.Cond.code ({ cls := "PepperboxTable", name := "mixHands", desc := "(J)J" } : Jvm.MethodName) prog_1_method_29_code (8 : Nat) (Option.some Jvm.ClassFile.FieldType.long)) ∈ am_tab := am_tm (am_t1 (i := 410) (by decide +kernel)) rfl
theorem wq_411 : (Jvm.Cond.methodLink "PepperboxTable" (282 : Nat) ({ cls := "PepperboxTable", name := "hand", desc := "(III)I" } : Jvm.MethodName)) ∈ am_tab := am_tm (am_t1 (i := 411) (by decide +kernel)) rfl
theorem wq_412 : (Jvm.Cond.methodLink "PepperboxTable" (268 : Nat) ({ cls := "PepperboxTable", name := "best", desc := "()I" } : Jvm.MethodName)) ∈ am_tab := am_tm (am_t1 (i := 412) (by decide +kernel)) rfl
theorem wq_413 : (Jvm.Cond.methodLink "PepperboxTable" (271 : Nat) ({ cls := "PepperboxTable", name := "bestCard", desc := "()I" } : Jvm.MethodName)) ∈ am_tab := am_tm (am_t1 (i := 413) (by decide +kernel)) rfl
theorem wq_418 : (Jvm.Cond.code ({ cls := "PepperboxTableLaw$Deal", name := "<init>", desc := "([II)V" } : Jvm.MethodName) prog_5_method_1_code (3 : Nat) (Option.none : Option Jvm.ClassFile.FieldType)) ∈ am_tab := am_tm (am_t1 (i := 418) (by decide +kernel)) rfl
theorem wq_419 : (Jvm.Cond.methodLink "PepperboxTableLaw$Deal" (1 : Nat) ({ cls := "java/lang/Object", name := "<init>", desc := "()V" } : Jvm.MethodName)) ∈ am_tab := am_tm (am_t1 (i := 419) (by decide +kernel)) rfl
theorem wq_420 : (Jvm.Cond.classLink "PepperboxTableLaw$Deal" (7 : Nat) "PepperboxTable") ∈ am_tab := am_tm (am_t1 (i := 420) (by decide +kernel)) rfl
theorem wq_421 : (Jvm.Cond.methodLink "PepperboxTableLaw$Deal" (9 : Nat) ({ cls := "PepperboxTable", name := "<init>", desc := "()V" } : Jvm.MethodName)) ∈ am_tab := am_tm (am_t1 (i := 421) (by decide +kernel)) rfl
theorem wq_422 : (Jvm.Cond.instanceMethod ({ cls := "PepperboxTable", name := "<init>", desc := "()V" } : Jvm.MethodName)) ∈ am_tab := am_tm (am_t1 (i := 422) (by decide +kernel)) rfl
theorem wq_423 : (Jvm.Cond.code ({ cls := "PepperboxTable", name := "<init>", desc := "()V" } : Jvm.MethodName) prog_1_method_1_code (1 : Nat) (Option.none : Option Jvm.ClassFile.FieldType)) ∈ am_tab := am_tm (am_t1 (i := 423) (by decide +kernel)) rfl
theorem wq_424 : (Jvm.Cond.methodLink "PepperboxTable" (3 : Nat) ({ cls := "java/lang/Object", name := "<init>", desc := "()V" } : Jvm.MethodName)) ∈ am_tab := am_tm (am_t1 (i := 424) (by decide +kernel)) rfl
theorem wq_425 : (Jvm.Cond.classLink "PepperboxTable" (9 : Nat) "PepperboxTable$Cards") ∈ am_tab := am_tm (am_t1 (i := 425) (by decide +kernel)) rfl
theorem wq_427 : (Jvm.Cond.instanceMethod ({ cls := "PepperboxTable$Cards", name := "<init>", desc := "()V" } : Jvm.MethodName)) ∈ am_tab := am_tm (am_t1 (i := 427) (by decide +kernel)) rfl
theorem wq_428 : (Jvm.Cond.code ({ cls := "PepperboxTable$Cards", name := "<init>", desc := "()V" } : Jvm.MethodName) prog_3_method_1_code (1 : Nat) (Option.none : Option Jvm.ClassFile.FieldType)) ∈ am_tab := am_tm (am_t1 (i := 428) (by decide +kernel)) rfl
theorem wq_429 : (Jvm.Cond.methodLink "PepperboxTable$Cards" (3 : Nat) ({ cls := "java/lang/Object", name := "<init>", desc := "()V" } : Jvm.MethodName)) ∈ am_tab := am_tm (am_t1 (i := 429) (by decide +kernel)) rfl
theorem wq_430 : (Jvm.Cond.fieldLink "PepperboxTable$Cards" (9 : Nat) "PepperboxTable$Cards" "hands" "[I") ∈ am_tab := am_tm (am_t1 (i := 430) (by decide +kernel)) rfl
theorem wq_431 : (Jvm.Cond.fieldLink "PepperboxTable$Cards" (15 : Nat) "PepperboxTable$Cards" "playedCards" "[I") ∈ am_tab := am_tm (am_t1 (i := 431) (by decide +kernel)) rfl
theorem wq_432 : (Jvm.Cond.fieldLink "PepperboxTable$Cards" (18 : Nat) "PepperboxTable$Cards" "leaders" "[I") ∈ am_tab := am_tm (am_t1 (i := 432) (by decide +kernel)) rfl
theorem wq_433 : (Jvm.Cond.fieldLink "PepperboxTable$Cards" (21 : Nat) "PepperboxTable$Cards" "size" "I") ∈ am_tab := am_tm (am_t1 (i := 433) (by decide +kernel)) rfl
theorem wq_435 : (Jvm.Cond.fieldLink "PepperboxTable$Cards" (25 : Nat) "PepperboxTable$Cards" "played" "I") ∈ am_tab := am_tm (am_t1 (i := 435) (by decide +kernel)) rfl
theorem wq_436 : (Jvm.Cond.fieldLink "PepperboxTable$Cards" (28 : Nat) "PepperboxTable$Cards" "revokes" "I") ∈ am_tab := am_tm (am_t1 (i := 436) (by decide +kernel)) rfl
theorem wq_437 : (Jvm.Cond.fieldLink "PepperboxTable$Cards" (31 : Nat) "PepperboxTable$Cards" "trump" "I") ∈ am_tab := am_tm (am_t1 (i := 437) (by decide +kernel)) rfl
theorem wq_439 : (Jvm.Cond.fieldLink "PepperboxTable$Cards" (34 : Nat) "PepperboxTable$Cards" "turn" "I") ∈ am_tab := am_tm (am_t1 (i := 439) (by decide +kernel)) rfl
theorem wq_458 : (Jvm.Cond.arrayClass Jvm.ClassFile.FieldType.int) ∈ am_tab := am_tm (am_t1 (i := 458) (by decide +kernel)) rfl
theorem wq_459 : (Jvm.Cond.classLink "PepperboxTable" (19 : Nat) "PepperboxTable$Auction") ∈ am_tab := am_tm (am_t1 (i := 459) (by decide +kernel)) rfl
theorem wq_460 : (Jvm.Cond.instantiable "PepperboxTable$Auction" (7 : Nat)) ∈ am_tab := am_tm (am_t1 (i := 460) (by decide +kernel)) rfl
theorem wq_462 : (Jvm.Cond.instanceMethod ({ cls := "PepperboxTable$Auction", name := "<init>", desc := "()V" } : Jvm.MethodName)) ∈ am_tab := am_tm (am_t1 (i := 462) (by decide +kernel)) rfl
theorem wq_463 : (Jvm.Cond.code ({ cls := "PepperboxTable$Auction", name := "<init>", desc := "()V" } : Jvm.MethodName) prog_2_method_1_code (1 : Nat) (Option.none : Option Jvm.ClassFile.FieldType)) ∈ am_tab := am_tm (am_t1 (i := 463) (by decide +kernel)) rfl
theorem wq_464 : (Jvm.Cond.methodLink "PepperboxTable$Auction" (3 : Nat) ({ cls := "java/lang/Object", name := "<init>", desc := "()V" } : Jvm.MethodName)) ∈ am_tab := am_tm (am_t1 (i := 464) (by decide +kernel)) rfl
theorem wq_465 : (Jvm.Cond.fieldLink "PepperboxTable$Auction" (9 : Nat) "PepperboxTable$Auction" "bids" "[I") ∈ am_tab := am_tm (am_t1 (i := 465) (by decide +kernel)) rfl
theorem wq_466 : (Jvm.Cond.fieldLink "PepperboxTable$Auction" (15 : Nat) "PepperboxTable$Auction" "count" "I") ∈ am_tab := am_tm (am_t1 (i := 466) (by decide +kernel)) rfl
theorem wq_468 : (Jvm.Cond.fieldLink "PepperboxTable$Auction" (19 : Nat) "PepperboxTable$Auction" "dealer" "I") ∈ am_tab := am_tm (am_t1 (i := 468) (by decide +kernel)) rfl
theorem wq_470 : (Jvm.Cond.fieldLink "PepperboxTable$Auction" (22 : Nat) "PepperboxTable$Auction" "lastLevel" "I") ∈ am_tab := am_tm (am_t1 (i := 470) (by decide +kernel)) rfl
theorem wq_471 : (Jvm.Cond.fieldLink "PepperboxTable$Auction" (25 : Nat) "PepperboxTable$Auction" "lastBidder" "I") ∈ am_tab := am_tm (am_t1 (i := 471) (by decide +kernel)) rfl
theorem wq_472 : (Jvm.Cond.fieldLink "PepperboxTable$Auction" (28 : Nat) "PepperboxTable$Auction" "times" "I") ∈ am_tab := am_tm (am_t1 (i := 472) (by decide +kernel)) rfl
theorem wq_474 : (Jvm.Cond.fieldLink "PepperboxTable$Auction" (31 : Nat) "PepperboxTable$Auction" "passes" "I") ∈ am_tab := am_tm (am_t1 (i := 474) (by decide +kernel)) rfl
theorem wq_490 : (Jvm.Cond.fieldLink "PepperboxTable" (12 : Nat) "PepperboxTable" "cards" "LPepperboxTable$Cards;") ∈ am_tab := am_tm (am_t1 (i := 490) (by decide +kernel)) rfl
theorem wq_491 : (Jvm.Cond.fieldLink "PepperboxTable" (16 : Nat) "PepperboxTable" "trial" "LPepperboxTable$Cards;") ∈ am_tab := am_tm (am_t1 (i := 491) (by decide +kernel)) rfl
theorem wq_492 : (Jvm.Cond.fieldLink "PepperboxTable" (22 : Nat) "PepperboxTable" "auction" "LPepperboxTable$Auction;") ∈ am_tab := am_tm (am_t1 (i := 492) (by decide +kernel)) rfl
theorem wq_493 : (Jvm.Cond.fieldLink "PepperboxTable" (26 : Nat) "PepperboxTable" "taken" "[I") ∈ am_tab := am_tm (am_t1 (i := 493) (by decide +kernel)) rfl
theorem wq_494 : (Jvm.Cond.fieldLink "PepperboxTable" (30 : Nat) "PepperboxTable" "scores" "[I") ∈ am_tab := am_tm (am_t1 (i := 494) (by decide +kernel)) rfl
theorem wq_495 : (Jvm.Cond.fieldLink "PepperboxTable" (33 : Nat) "PepperboxTable" "state" "I") ∈ am_tab := am_tm (am_t1 (i := 495) (by decide +kernel)) rfl
theorem wq_496 : (Jvm.Cond.fieldLink "PepperboxTable" (37 : Nat) "PepperboxTable" "dealsOver" "I") ∈ am_tab := am_tm (am_t1 (i := 496) (by decide +kernel)) rfl
theorem wq_512 : (Jvm.Cond.classLink "PepperboxTableLaw$Deal" (16 : Nat) "[[Z") ∈ am_tab := am_tm (am_t1 (i := 512) (by decide +kernel)) rfl
theorem wq_514 : (Jvm.Cond.classLink "PepperboxTableLaw$Deal" (28 : Nat) "[I") ∈ am_tab := am_tm (am_t1 (i := 514) (by decide +kernel)) rfl
theorem wq_516 : (Jvm.Cond.fieldLink "PepperboxTableLaw$Deal" (10 : Nat) "PepperboxTableLaw$Deal" "m" "LPepperboxTable;") ∈ am_tab := am_tm (am_t1 (i := 516) (by decide +kernel)) rfl
theorem wq_518 : (Jvm.Cond.fieldLink "PepperboxTableLaw$Deal" (52 : Nat) "PepperboxTableLaw$Deal" "s" "[I") ∈ am_tab := am_tm (am_t1 (i := 518) (by decide +kernel)) rfl
theorem wq_519 : (Jvm.Cond.fieldLink "PepperboxTableLaw$Deal" (55 : Nat) "PepperboxTableLaw$Deal" "draws" "I") ∈ am_tab := am_tm (am_t1 (i := 519) (by decide +kernel)) rfl
theorem wq_521 : (Jvm.Cond.fieldLink "PepperboxTableLaw$Deal" (75 : Nat) "PepperboxTableLaw$Deal" "state" "I") ∈ am_tab := am_tm (am_t1 (i := 521) (by decide +kernel)) rfl
theorem wq_522 : (Jvm.Cond.fieldLink "PepperboxTableLaw$Deal" (82 : Nat) "PepperboxTableLaw$Deal" "dealer" "I") ∈ am_tab := am_tm (am_t1 (i := 522) (by decide +kernel)) rfl
theorem wq_524 : (Jvm.Cond.fieldLink "PepperboxTableLaw$Deal" (95 : Nat) "PepperboxTableLaw$Deal" "size" "I") ∈ am_tab := am_tm (am_t1 (i := 524) (by decide +kernel)) rfl
theorem wq_525 : (Jvm.Cond.fieldLink "PepperboxTableLaw$Deal" (18 : Nat) "PepperboxTableLaw$Deal" "has" "[[Z") ∈ am_tab := am_tm (am_t1 (i := 525) (by decide +kernel)) rfl
theorem wq_526 : (Jvm.Cond.fieldLink "PepperboxTableLaw$Deal" (21 : Nat) "PepperboxTableLaw$Deal" "bids" "[I") ∈ am_tab := am_tm (am_t1 (i := 526) (by decide +kernel)) rfl
theorem wq_527 : (Jvm.Cond.fieldLink "PepperboxTableLaw$Deal" (25 : Nat) "PepperboxTableLaw$Deal" "contract" "[I") ∈ am_tab := am_tm (am_t1 (i := 527) (by decide +kernel)) rfl
theorem wq_528 : (Jvm.Cond.fieldLink "PepperboxTableLaw$Deal" (29 : Nat) "PepperboxTableLaw$Deal" "tricks" "[[I") ∈ am_tab := am_tm (am_t1 (i := 528) (by decide +kernel)) rfl
theorem wq_529 : (Jvm.Cond.fieldLink "PepperboxTableLaw$Deal" (102 : Nat) "PepperboxTableLaw$Deal" "leader" "I") ∈ am_tab := am_tm (am_t1 (i := 529) (by decide +kernel)) rfl
theorem wq_530 : (Jvm.Cond.fieldLink "PepperboxTableLaw$Deal" (33 : Nat) "PepperboxTableLaw$Deal" "lies" "[I") ∈ am_tab := am_tm (am_t1 (i := 530) (by decide +kernel)) rfl
theorem wq_531 : (Jvm.Cond.fieldLink "PepperboxTableLaw$Deal" (36 : Nat) "PepperboxTableLaw$Deal" "hasRevoke" "[Z") ∈ am_tab := am_tm (am_t1 (i := 531) (by decide +kernel)) rfl
theorem wq_532 : (Jvm.Cond.fieldLink "PepperboxTableLaw$Deal" (40 : Nat) "PepperboxTableLaw$Deal" "isWrong" "[Z") ∈ am_tab := am_tm (am_t1 (i := 532) (by decide +kernel)) rfl
theorem wq_533 : (Jvm.Cond.fieldLink "PepperboxTableLaw$Deal" (43 : Nat) "PepperboxTableLaw$Deal" "hadOne" "[Z") ∈ am_tab := am_tm (am_t1 (i := 533) (by decide +kernel)) rfl
theorem wq_534 : (Jvm.Cond.fieldLink "PepperboxTableLaw$Deal" (46 : Nat) "PepperboxTableLaw$Deal" "got" "[I") ∈ am_tab := am_tm (am_t1 (i := 534) (by decide +kernel)) rfl
theorem wq_535 : (Jvm.Cond.fieldLink "PepperboxTableLaw$Deal" (49 : Nat) "PepperboxTableLaw$Deal" "score" "[I") ∈ am_tab := am_tm (am_t1 (i := 535) (by decide +kernel)) rfl
theorem wq_536 : (Jvm.Cond.fieldLink "PepperboxTableLaw$Deal" (147 : Nat) "PepperboxTableLaw$Deal" "deals" "I") ∈ am_tab := am_tm (am_t1 (i := 536) (by decide +kernel)) rfl
theorem wq_574 : (Jvm.Cond.arrayClass Jvm.ClassFile.FieldType.boolean) ∈ am_tab := am_tm (am_t1 (i := 574) (by decide +kernel)) rfl
theorem wq_576 : (Jvm.Cond.instanceMethod ({ cls := "PepperboxTableLaw$Deal", name := "draw", desc := "(I)I" } : Jvm.MethodName)) ∈ am_tab := am_tm (am_t1 (i := 576) (by decide +kernel)) rfl
theorem wq_577 : (Jvm.Cond.selects "PepperboxTableLaw$Deal" ({ cls := "PepperboxTableLaw$Deal", name := "draw", desc := "(I)I" } : Jvm.MethodName) ({ cls := "PepperboxTableLaw$Deal", name := "draw", desc := "(I)I" } : Jvm.MethodName)) ∈ am_tab := am_tm (am_t1 (i := 577) (by decide +kernel)) rfl
theorem wq_578 : (Jvm.Cond.code ({ cls := "PepperboxTableLaw$Deal", name := "draw", desc := "(I)I" } : Jvm.MethodName) prog_5_method_2_code (3 : Nat) (Option.some Jvm.ClassFile.FieldType.int)) ∈ am_tab := am_tm (am_t1 (i := 578) (by decide +kernel)) rfl
theorem wq_580 : (Jvm.Cond.static ({ cls := "PepperboxTableLaw", name := "cell", desc := "([II)I" } : Jvm.MethodName)) ∈ am_tab := am_tm (am_t1 (i := 580) (by decide +kernel)) rfl
theorem wq_581 : (Jvm.Cond.code ({ cls := "PepperboxTableLaw", name := "cell", desc := "([II)I" } : Jvm.MethodName) method_3_code (2 : Nat) (Option.some Jvm.ClassFile.FieldType.int)) ∈ am_tab := am_tm (am_t1 (i := 581) (by decide +kernel)) rfl
theorem wq_582 : (Jvm.Cond.constant "PepperboxTableLaw" (8 : Nat) (790386105 : Int32)) ∈ am_tab := am_tm (am_t1 (i := 582) (by decide +kernel)) rfl
theorem wq_584 : (Jvm.Cond.static ({ cls := "PepperboxTableLaw", name := "below", desc := "(II)I" } : Jvm.MethodName)) ∈ am_tab := am_tm (am_t1 (i := 584) (by decide +kernel)) rfl
theorem wq_585 : (Jvm.Cond.code ({ cls := "PepperboxTableLaw", name := "below", desc := "(II)I" } : Jvm.MethodName) method_2_code (2 : Nat) (Option.some Jvm.ClassFile.FieldType.int)) ∈ am_tab := am_tm (am_t1 (i := 585) (by decide +kernel)) rfl
theorem wq_586 : (Jvm.Cond.constant "PepperboxTableLaw" (7 : Nat) (2147483647 : Int32)) ∈ am_tab := am_tm (am_t1 (i := 586) (by decide +kernel)) rfl
theorem wq_588 : (Jvm.Cond.instanceMethod ({ cls := "PepperboxTableLaw$Deal", name := "count", desc := "(I)I" } : Jvm.MethodName)) ∈ am_tab := am_tm (am_t1 (i := 588) (by decide +kernel)) rfl
theorem wq_589 : (Jvm.Cond.selects "PepperboxTableLaw$Deal" ({ cls := "PepperboxTableLaw$Deal", name := "count", desc := "(I)I" } : Jvm.MethodName) ({ cls := "PepperboxTableLaw$Deal", name := "count", desc := "(I)I" } : Jvm.MethodName)) ∈ am_tab := am_tm (am_t1 (i := 589) (by decide +kernel)) rfl
theorem wq_590 : (Jvm.Cond.code ({ cls := "PepperboxTableLaw$Deal", name := "count", desc := "(I)I" } : Jvm.MethodName) prog_5_method_4_code (7 : Nat) (Option.some Jvm.ClassFile.FieldType.int)) ∈ am_tab := am_tm (am_t1 (i := 590) (by decide +kernel)) rfl
theorem wq_594 : (Jvm.Cond.code ({ cls := "PepperboxTableLaw$Deal", name := "begin", desc := "()Z" } : Jvm.MethodName) prog_5_method_5_code (4 : Nat) (Option.some Jvm.ClassFile.FieldType.boolean)) ∈ am_tab := am_tm (am_t1 (i := 594) (by decide +kernel)) rfl
theorem wq_595 : (Jvm.Cond.methodLink "PepperboxTableLaw$Deal" (78 : Nat) ({ cls := "PepperboxTableLaw$Deal", name := "draw", desc := "(I)I" } : Jvm.MethodName)) ∈ am_tab := am_tm (am_t1 (i := 595) (by decide +kernel)) rfl
theorem wq_596 : (Jvm.Cond.methodLink "PepperboxTableLaw$Deal" (85 : Nat) ({ cls := "PepperboxTable", name := "begin", desc := "(I)I" } : Jvm.MethodName)) ∈ am_tab := am_tm (am_t1 (i := 596) (by decide +kernel)) rfl
theorem wq_597 : (Jvm.Cond.instanceMethod ({ cls := "PepperboxTable", name := "begin", desc := "(I)I" } : Jvm.MethodName)) ∈ am_tab := am_tm (am_t1 (i := 597) (by decide +kernel)) rfl
theorem wq_598 : (Jvm.Cond.selects "PepperboxTable" ({ cls := "PepperboxTable", name := "begin", desc := "(I)I" } : Jvm.MethodName) ({ cls := "PepperboxTable", name := "begin", desc := "(I)I" } : Jvm.MethodName)) ∈ am_tab := am_tm (am_t1 (i := 598) (by decide +kernel)) rfl
theorem wq_599 : (Jvm.Cond.code ({ cls := "PepperboxTable", name := "begin", desc := "(I)I" } : Jvm.MethodName) prog_1_method_2_code (3 : Nat) (Option.some Jvm.ClassFile.FieldType.int)) ∈ am_tab := am_tm (am_t1 (i := 599) (by decide +kernel)) rfl
theorem wq_600 : (Jvm.Cond.methodLink "PepperboxTable" (44 : Nat) ({ cls := "PepperboxTable$Cards", name := "clear", desc := "()V" } : Jvm.MethodName)) ∈ am_tab := am_tm (am_t1 (i := 600) (by decide +kernel)) rfl
theorem wq_601 : (Jvm.Cond.instanceMethod ({ cls := "PepperboxTable$Cards", name := "clear", desc := "()V" } : Jvm.MethodName)) ∈ am_tab := am_tm (am_t1 (i := 601) (by decide +kernel)) rfl
theorem wq_602 : (Jvm.Cond.selects "PepperboxTable$Cards" ({ cls := "PepperboxTable$Cards", name := "clear", desc := "()V" } : Jvm.MethodName) ({ cls := "PepperboxTable$Cards", name := "clear", desc := "()V" } : Jvm.MethodName)) ∈ am_tab := am_tm (am_t1 (i := 602) (by decide +kernel)) rfl
theorem wq_603 : (Jvm.Cond.code ({ cls := "PepperboxTable$Cards", name := "clear", desc := "()V" } : Jvm.MethodName) prog_3_method_2_code (2 : Nat) (Option.none : Option Jvm.ClassFile.FieldType)) ∈ am_tab := am_tm (am_t1 (i := 603) (by decide +kernel)) rfl
theorem wq_604 : (Jvm.Cond.methodLink "PepperboxTable" (47 : Nat) ({ cls := "PepperboxTable$Auction", name := "clear", desc := "(I)V" } : Jvm.MethodName)) ∈ am_tab := am_tm (am_t1 (i := 604) (by decide +kernel)) rfl
theorem wq_605 : (Jvm.Cond.instanceMethod ({ cls := "PepperboxTable$Auction", name := "clear", desc := "(I)V" } : Jvm.MethodName)) ∈ am_tab := am_tm (am_t1 (i := 605) (by decide +kernel)) rfl
theorem wq_606 : (Jvm.Cond.selects "PepperboxTable$Auction" ({ cls := "PepperboxTable$Auction", name := "clear", desc := "(I)V" } : Jvm.MethodName) ({ cls := "PepperboxTable$Auction", name := "clear", desc := "(I)V" } : Jvm.MethodName)) ∈ am_tab := am_tm (am_t1 (i := 606) (by decide +kernel)) rfl
theorem wq_607 : (Jvm.Cond.code ({ cls := "PepperboxTable$Auction", name := "clear", desc := "(I)V" } : Jvm.MethodName) prog_2_method_2_code (2 : Nat) (Option.none : Option Jvm.ClassFile.FieldType)) ∈ am_tab := am_tm (am_t1 (i := 607) (by decide +kernel)) rfl
theorem wq_611 : (Jvm.Cond.code ({ cls := "PepperboxTableLaw$Deal", name := "deal", desc := "(I)Z" } : Jvm.MethodName) prog_5_method_6_code (7 : Nat) (Option.some Jvm.ClassFile.FieldType.boolean)) ∈ am_tab := am_tm (am_t1 (i := 611) (by decide +kernel)) rfl
theorem wq_612 : (Jvm.Cond.methodLink "PepperboxTableLaw$Deal" (88 : Nat) ({ cls := "PepperboxTable", name := "deal", desc := "(III)I" } : Jvm.MethodName)) ∈ am_tab := am_tm (am_t1 (i := 612) (by decide +kernel)) rfl
theorem wq_613 : (Jvm.Cond.instanceMethod ({ cls := "PepperboxTable", name := "deal", desc := "(III)I" } : Jvm.MethodName)) ∈ am_tab := am_tm (am_t1 (i := 613) (by decide +kernel)) rfl
theorem wq_614 : (Jvm.Cond.selects "PepperboxTable" ({ cls := "PepperboxTable", name := "deal", desc := "(III)I" } : Jvm.MethodName) ({ cls := "PepperboxTable", name := "deal", desc := "(III)I" } : Jvm.MethodName)) ∈ am_tab := am_tm (am_t1 (i := 614) (by decide +kernel)) rfl
theorem wq_615 : (Jvm.Cond.code ({ cls := "PepperboxTable", name := "deal", desc := "(III)I" } : Jvm.MethodName) prog_1_method_3_code (6 : Nat) (Option.some Jvm.ClassFile.FieldType.int)) ∈ am_tab := am_tm (am_t1 (i := 615) (by decide +kernel)) rfl
theorem wq_617 : (Jvm.Cond.methodLink "PepperboxTable" (60 : Nat) ({ cls := "PepperboxTable$Cards", name := "areAllEmpty", desc := "()Z" } : Jvm.MethodName)) ∈ am_tab := am_tm (am_t1 (i := 617) (by decide +kernel)) rfl
theorem wq_618 : (Jvm.Cond.instanceMethod ({ cls := "PepperboxTable$Cards", name := "areAllEmpty", desc := "()Z" } : Jvm.MethodName)) ∈ am_tab := am_tm (am_t1 (i := 618) (by decide +kernel)) rfl
theorem wq_619 : (Jvm.Cond.selects "PepperboxTable$Cards" ({ cls := "PepperboxTable$Cards", name := "areAllEmpty", desc := "()Z" } : Jvm.MethodName) ({ cls := "PepperboxTable$Cards", name := "areAllEmpty", desc := "()Z" } : Jvm.MethodName)) ∈ am_tab := am_tm (am_t1 (i := 619) (by decide +kernel)) rfl
theorem wq_620 : (Jvm.Cond.code ({ cls := "PepperboxTable$Cards", name := "areAllEmpty", desc := "()Z" } : Jvm.MethodName) prog_3_method_9_code (1 : Nat) (Option.some Jvm.ClassFile.FieldType.boolean)) ∈ am_tab := am_tm (am_t1 (i := 620) (by decide +kernel)) rfl
theorem wq_621 : (Jvm.Cond.methodLink "PepperboxTable$Cards" (60 : Nat) ({ cls := "PepperboxTable$Cards", name := "areAtMost", desc := "(I)Z" } : Jvm.MethodName)) ∈ am_tab := am_tm (am_t1 (i := 621) (by decide +kernel)) rfl
theorem wq_623 : (Jvm.Cond.methodLink "PepperboxTable" (69 : Nat) ({ cls := "PepperboxTable$Cards", name := "add", desc := "(II)V" } : Jvm.MethodName)) ∈ am_tab := am_tm (am_t1 (i := 623) (by decide +kernel)) rfl
theorem wq_627 : (Jvm.Cond.code ({ cls := "PepperboxTableLaw$Deal", name := "open", desc := "()Z" } : Jvm.MethodName) prog_5_method_7_code (1 : Nat) (Option.some Jvm.ClassFile.FieldType.boolean)) ∈ am_tab := am_tm (am_t1 (i := 627) (by decide +kernel)) rfl
theorem wq_628 : (Jvm.Cond.methodLink "PepperboxTableLaw$Deal" (92 : Nat) ({ cls := "PepperboxTableLaw$Deal", name := "count", desc := "(I)I" } : Jvm.MethodName)) ∈ am_tab := am_tm (am_t1 (i := 628) (by decide +kernel)) rfl
theorem wq_629 : (Jvm.Cond.methodLink "PepperboxTableLaw$Deal" (98 : Nat) ({ cls := "PepperboxTable", name := "open", desc := "()I" } : Jvm.MethodName)) ∈ am_tab := am_tm (am_t1 (i := 629) (by decide +kernel)) rfl
theorem wq_630 : (Jvm.Cond.instanceMethod ({ cls := "PepperboxTable", name := "open", desc := "()I" } : Jvm.MethodName)) ∈ am_tab := am_tm (am_t1 (i := 630) (by decide +kernel)) rfl
theorem wq_631 : (Jvm.Cond.selects "PepperboxTable" ({ cls := "PepperboxTable", name := "open", desc := "()I" } : Jvm.MethodName) ({ cls := "PepperboxTable", name := "open", desc := "()I" } : Jvm.MethodName)) ∈ am_tab := am_tm (am_t1 (i := 631) (by decide +kernel)) rfl
theorem wq_632 : (Jvm.Cond.code ({ cls := "PepperboxTable", name := "open", desc := "()I" } : Jvm.MethodName) prog_1_method_5_code (1 : Nat) (Option.some Jvm.ClassFile.FieldType.int)) ∈ am_tab := am_tm (am_t1 (i := 632) (by decide +kernel)) rfl
theorem wq_633 : (Jvm.Cond.methodLink "PepperboxTable" (91 : Nat) ({ cls := "PepperboxTable$Cards", name := "areReady", desc := "()Z" } : Jvm.MethodName)) ∈ am_tab := am_tm (am_t1 (i := 633) (by decide +kernel)) rfl
theorem wq_634 : (Jvm.Cond.instanceMethod ({ cls := "PepperboxTable$Cards", name := "areReady", desc := "()Z" } : Jvm.MethodName)) ∈ am_tab := am_tm (am_t1 (i := 634) (by decide +kernel)) rfl
theorem wq_635 : (Jvm.Cond.selects "PepperboxTable$Cards" ({ cls := "PepperboxTable$Cards", name := "areReady", desc := "()Z" } : Jvm.MethodName) ({ cls := "PepperboxTable$Cards", name := "areReady", desc := "()Z" } : Jvm.MethodName)) ∈ am_tab := am_tm (am_t1 (i := 635) (by decide +kernel)) rfl
theorem wq_636 : (Jvm.Cond.code ({ cls := "PepperboxTable$Cards", name := "areReady", desc := "()Z" } : Jvm.MethodName) prog_3_method_11_code (2 : Nat) (Option.some Jvm.ClassFile.FieldType.boolean)) ∈ am_tab := am_tm (am_t1 (i := 636) (by decide +kernel)) rfl
theorem wq_638 : (Jvm.Cond.methodLink "PepperboxTable" (83 : Nat) ({ cls := "PepperboxTable$Cards", name := "count", desc := "(I)I" } : Jvm.MethodName)) ∈ am_tab := am_tm (am_t1 (i := 638) (by decide +kernel)) rfl
theorem wq_640 : (Jvm.Cond.instanceMethod ({ cls := "PepperboxTableLaw$Deal", name := "turn", desc := "()I" } : Jvm.MethodName)) ∈ am_tab := am_tm (am_t1 (i := 640) (by decide +kernel)) rfl
theorem wq_641 : (Jvm.Cond.selects "PepperboxTableLaw$Deal" ({ cls := "PepperboxTableLaw$Deal", name := "turn", desc := "()I" } : Jvm.MethodName) ({ cls := "PepperboxTableLaw$Deal", name := "turn", desc := "()I" } : Jvm.MethodName)) ∈ am_tab := am_tm (am_t1 (i := 641) (by decide +kernel)) rfl
theorem wq_642 : (Jvm.Cond.code ({ cls := "PepperboxTableLaw$Deal", name := "turn", desc := "()I" } : Jvm.MethodName) prog_5_method_9_code (1 : Nat) (Option.some Jvm.ClassFile.FieldType.int)) ∈ am_tab := am_tm (am_t1 (i := 642) (by decide +kernel)) rfl
theorem wq_646 : (Jvm.Cond.codeWith ({ cls := "PepperboxTableLaw$Deal", name := "bid", desc := "(I)Z" } : Jvm.MethodName) prog_5_method_10_code (4 : Nat) (Option.some Jvm.ClassFile.FieldType.boolean) [((6 : Nat), (20 : Nat), (51 : Nat), (122 : Nat)), ((21 : Nat), (50 : Nat), (51 : Nat), (122 : Nat))]) ∈ am_tab := am_tm (am_t1 (i := 646) (by decide +kernel)) rfl
theorem wq_647 : (Jvm.Cond.classLink "PepperboxTableLaw$Deal" (122 : Nat) "java/lang/IllegalStateException") ∈ am_tab := am_tm (am_t1 (i := 647) (by decide +kernel)) rfl
theorem wq_648 : (Jvm.Cond.methodLink "PepperboxTableLaw$Deal" (105 : Nat) ({ cls := "PepperboxTableLaw$Deal", name := "canBid", desc := "(I)Z" } : Jvm.MethodName)) ∈ am_tab := am_tm (am_t1 (i := 648) (by decide +kernel)) rfl
theorem wq_649 : (Jvm.Cond.instanceMethod ({ cls := "PepperboxTableLaw$Deal", name := "canBid", desc := "(I)Z" } : Jvm.MethodName)) ∈ am_tab := am_tm (am_t1 (i := 649) (by decide +kernel)) rfl
theorem wq_650 : (Jvm.Cond.selects "PepperboxTableLaw$Deal" ({ cls := "PepperboxTableLaw$Deal", name := "canBid", desc := "(I)Z" } : Jvm.MethodName) ({ cls := "PepperboxTableLaw$Deal", name := "canBid", desc := "(I)Z" } : Jvm.MethodName)) ∈ am_tab := am_tm (am_t1 (i := 650) (by decide +kernel)) rfl
theorem wq_651 : (Jvm.Cond.code ({ cls := "PepperboxTableLaw$Deal", name := "canBid", desc := "(I)Z" } : Jvm.MethodName) prog_5_method_8_code (7 : Nat) (Option.some Jvm.ClassFile.FieldType.boolean)) ∈ am_tab := am_tm (am_t1 (i := 651) (by decide +kernel)) rfl
theorem wq_652 : (Jvm.Cond.methodLink "PepperboxTableLaw$Deal" (109 : Nat) ({ cls := "PepperboxTable", name := "bid", desc := "(I)I" } : Jvm.MethodName)) ∈ am_tab := am_tm (am_t1 (i := 652) (by decide +kernel)) rfl
theorem wq_653 : (Jvm.Cond.instanceMethod ({ cls := "PepperboxTable", name := "bid", desc := "(I)I" } : Jvm.MethodName)) ∈ am_tab := am_tm (am_t1 (i := 653) (by decide +kernel)) rfl
theorem wq_654 : (Jvm.Cond.selects "PepperboxTable" ({ cls := "PepperboxTable", name := "bid", desc := "(I)I" } : Jvm.MethodName) ({ cls := "PepperboxTable", name := "bid", desc := "(I)I" } : Jvm.MethodName)) ∈ am_tab := am_tm (am_t1 (i := 654) (by decide +kernel)) rfl
theorem wq_655 : (Jvm.Cond.code ({ cls := "PepperboxTable", name := "bid", desc := "(I)I" } : Jvm.MethodName) prog_1_method_8_code (2 : Nat) (Option.some Jvm.ClassFile.FieldType.int)) ∈ am_tab := am_tm (am_t1 (i := 655) (by decide +kernel)) rfl
theorem wq_657 : (Jvm.Cond.methodLink "PepperboxTable" (124 : Nat) ({ cls := "PepperboxTable$Auction", name := "add", desc := "(I)V" } : Jvm.MethodName)) ∈ am_tab := am_tm (am_t1 (i := 657) (by decide +kernel)) rfl
theorem wq_658 : (Jvm.Cond.instanceMethod ({ cls := "PepperboxTable$Auction", name := "add", desc := "(I)V" } : Jvm.MethodName)) ∈ am_tab := am_tm (am_t1 (i := 658) (by decide +kernel)) rfl
theorem wq_659 : (Jvm.Cond.selects "PepperboxTable$Auction" ({ cls := "PepperboxTable$Auction", name := "add", desc := "(I)V" } : Jvm.MethodName) ({ cls := "PepperboxTable$Auction", name := "add", desc := "(I)V" } : Jvm.MethodName)) ∈ am_tab := am_tm (am_t1 (i := 659) (by decide +kernel)) rfl
theorem wq_660 : (Jvm.Cond.code ({ cls := "PepperboxTable$Auction", name := "add", desc := "(I)V" } : Jvm.MethodName) prog_2_method_7_code (2 : Nat) (Option.none : Option Jvm.ClassFile.FieldType)) ∈ am_tab := am_tm (am_t1 (i := 660) (by decide +kernel)) rfl
theorem wq_661 : (Jvm.Cond.methodLink "PepperboxTable$Auction" (45 : Nat) ({ cls := "PepperboxTable$Auction", name := "addCall", desc := "(I)V" } : Jvm.MethodName)) ∈ am_tab := am_tm (am_t1 (i := 661) (by decide +kernel)) rfl
theorem wq_663 : (Jvm.Cond.instanceMethod ({ cls := "PepperboxTable$Auction", name := "addCall", desc := "(I)V" } : Jvm.MethodName)) ∈ am_tab := am_tm (am_t1 (i := 663) (by decide +kernel)) rfl
theorem wq_664 : (Jvm.Cond.code ({ cls := "PepperboxTable$Auction", name := "addCall", desc := "(I)V" } : Jvm.MethodName) prog_2_method_8_code (2 : Nat) (Option.none : Option Jvm.ClassFile.FieldType)) ∈ am_tab := am_tm (am_t1 (i := 664) (by decide +kernel)) rfl
theorem wq_665 : (Jvm.Cond.methodLink "PepperboxTable" (126 : Nat) ({ cls := "PepperboxTable$Auction", name := "isPassedOut", desc := "()Z" } : Jvm.MethodName)) ∈ am_tab := am_tm (am_t1 (i := 665) (by decide +kernel)) rfl
theorem wq_666 : (Jvm.Cond.instanceMethod ({ cls := "PepperboxTable$Auction", name := "isPassedOut", desc := "()Z" } : Jvm.MethodName)) ∈ am_tab := am_tm (am_t1 (i := 666) (by decide +kernel)) rfl
theorem wq_667 : (Jvm.Cond.selects "PepperboxTable$Auction" ({ cls := "PepperboxTable$Auction", name := "isPassedOut", desc := "()Z" } : Jvm.MethodName) ({ cls := "PepperboxTable$Auction", name := "isPassedOut", desc := "()Z" } : Jvm.MethodName)) ∈ am_tab := am_tm (am_t1 (i := 667) (by decide +kernel)) rfl
theorem wq_668 : (Jvm.Cond.code ({ cls := "PepperboxTable$Auction", name := "isPassedOut", desc := "()Z" } : Jvm.MethodName) prog_2_method_9_code (1 : Nat) (Option.some Jvm.ClassFile.FieldType.boolean)) ∈ am_tab := am_tm (am_t1 (i := 668) (by decide +kernel)) rfl
theorem wq_669 : (Jvm.Cond.methodLink "PepperboxTable" (136 : Nat) ({ cls := "PepperboxTable", name := "nextOf", desc := "(I)I" } : Jvm.MethodName)) ∈ am_tab := am_tm (am_t1 (i := 669) (by decide +kernel)) rfl
theorem wq_670 : (Jvm.Cond.methodLink "PepperboxTable" (142 : Nat) ({ cls := "PepperboxTable$Cards", name := "start", desc := "(II)V" } : Jvm.MethodName)) ∈ am_tab := am_tm (am_t1 (i := 670) (by decide +kernel)) rfl
theorem wq_671 : (Jvm.Cond.instanceMethod ({ cls := "PepperboxTable$Cards", name := "start", desc := "(II)V" } : Jvm.MethodName)) ∈ am_tab := am_tm (am_t1 (i := 671) (by decide +kernel)) rfl
theorem wq_672 : (Jvm.Cond.selects "PepperboxTable$Cards" ({ cls := "PepperboxTable$Cards", name := "start", desc := "(II)V" } : Jvm.MethodName) ({ cls := "PepperboxTable$Cards", name := "start", desc := "(II)V" } : Jvm.MethodName)) ∈ am_tab := am_tm (am_t1 (i := 672) (by decide +kernel)) rfl
theorem wq_673 : (Jvm.Cond.code ({ cls := "PepperboxTable$Cards", name := "start", desc := "(II)V" } : Jvm.MethodName) prog_3_method_4_code (3 : Nat) (Option.none : Option Jvm.ClassFile.FieldType)) ∈ am_tab := am_tm (am_t1 (i := 673) (by decide +kernel)) rfl
theorem wq_674 : (Jvm.Cond.methodLink "PepperboxTableLaw$Deal" (112 : Nat) ({ cls := "PepperboxTableLaw$Deal", name := "plus", desc := "([II)[I" } : Jvm.MethodName)) ∈ am_tab := am_tm (am_t1 (i := 674) (by decide +kernel)) rfl
theorem wq_675 : (Jvm.Cond.static ({ cls := "PepperboxTableLaw$Deal", name := "plus", desc := "([II)[I" } : Jvm.MethodName)) ∈ am_tab := am_tm (am_t1 (i := 675) (by decide +kernel)) rfl
theorem wq_676 : (Jvm.Cond.code ({ cls := "PepperboxTableLaw$Deal", name := "plus", desc := "([II)[I" } : Jvm.MethodName) prog_5_method_3_code (3 : Nat) (Option.some (Jvm.ClassFile.FieldType.array Jvm.ClassFile.FieldType.int))) ∈ am_tab := am_tm (am_t1 (i := 676) (by decide +kernel)) rfl
theorem wq_677 : (Jvm.Cond.methodLink "PepperboxTableLaw$Deal" (69 : Nat) ({ cls := "java/lang/System", name := "arraycopy", desc := "(Ljava/lang/Object;ILjava/lang/Object;II)V" } : Jvm.MethodName)) ∈ am_tab := am_tm (am_t1 (i := 677) (by decide +kernel)) rfl
theorem wq_678 : (Jvm.Cond.methodLink "PepperboxTableLaw$Deal" (116 : Nat) ({ cls := "PepperboxTableLaw$Deal", name := "conclude", desc := "()V" } : Jvm.MethodName)) ∈ am_tab := am_tm (am_t1 (i := 678) (by decide +kernel)) rfl
theorem wq_680 : (Jvm.Cond.instanceMethod ({ cls := "PepperboxTableLaw$Deal", name := "conclude", desc := "()V" } : Jvm.MethodName)) ∈ am_tab := am_tm (am_t1 (i := 680) (by decide +kernel)) rfl
theorem wq_681 : (Jvm.Cond.code ({ cls := "PepperboxTableLaw$Deal", name := "conclude", desc := "()V" } : Jvm.MethodName) prog_5_method_11_code (7 : Nat) (Option.none : Option Jvm.ClassFile.FieldType)) ∈ am_tab := am_tm (am_t1 (i := 681) (by decide +kernel)) rfl
theorem wq_682 : (Jvm.Cond.methodLink "PepperboxTableLaw$Deal" (119 : Nat) ({ cls := "PepperboxTableLaw$Deal", name := "turn", desc := "()I" } : Jvm.MethodName)) ∈ am_tab := am_tm (am_t1 (i := 682) (by decide +kernel)) rfl
theorem wq_686 : (Jvm.Cond.code ({ cls := "PepperboxTableLaw$Deal", name := "step", desc := "()Z" } : Jvm.MethodName) prog_5_method_21_code (1 : Nat) (Option.some Jvm.ClassFile.FieldType.boolean)) ∈ am_tab := am_tm (am_t1 (i := 686) (by decide +kernel)) rfl
theorem wq_687 : (Jvm.Cond.methodLink "PepperboxTableLaw$Deal" (159 : Nat) ({ cls := "PepperboxTableLaw$Deal", name := "back", desc := "()Z" } : Jvm.MethodName)) ∈ am_tab := am_tm (am_t1 (i := 687) (by decide +kernel)) rfl
theorem wq_688 : (Jvm.Cond.instanceMethod ({ cls := "PepperboxTableLaw$Deal", name := "back", desc := "()Z" } : Jvm.MethodName)) ∈ am_tab := am_tm (am_t1 (i := 688) (by decide +kernel)) rfl
theorem wq_689 : (Jvm.Cond.selects "PepperboxTableLaw$Deal" ({ cls := "PepperboxTableLaw$Deal", name := "back", desc := "()Z" } : Jvm.MethodName) ({ cls := "PepperboxTableLaw$Deal", name := "back", desc := "()Z" } : Jvm.MethodName)) ∈ am_tab := am_tm (am_t1 (i := 689) (by decide +kernel)) rfl
theorem wq_690 : (Jvm.Cond.code ({ cls := "PepperboxTableLaw$Deal", name := "back", desc := "()Z" } : Jvm.MethodName) prog_5_method_20_code (4 : Nat) (Option.some Jvm.ClassFile.FieldType.boolean)) ∈ am_tab := am_tm (am_t1 (i := 690) (by decide +kernel)) rfl
theorem wq_691 : (Jvm.Cond.methodLink "PepperboxTableLaw$Deal" (156 : Nat) ({ cls := "PepperboxTable", name := "back", desc := "()I" } : Jvm.MethodName)) ∈ am_tab := am_tm (am_t1 (i := 691) (by decide +kernel)) rfl
theorem wq_692 : (Jvm.Cond.instanceMethod ({ cls := "PepperboxTable", name := "back", desc := "()I" } : Jvm.MethodName)) ∈ am_tab := am_tm (am_t1 (i := 692) (by decide +kernel)) rfl
theorem wq_693 : (Jvm.Cond.selects "PepperboxTable" ({ cls := "PepperboxTable", name := "back", desc := "()I" } : Jvm.MethodName) ({ cls := "PepperboxTable", name := "back", desc := "()I" } : Jvm.MethodName)) ∈ am_tab := am_tm (am_t1 (i := 693) (by decide +kernel)) rfl
theorem wq_694 : (Jvm.Cond.code ({ cls := "PepperboxTable", name := "back", desc := "()I" } : Jvm.MethodName) prog_1_method_13_code (1 : Nat) (Option.some Jvm.ClassFile.FieldType.int)) ∈ am_tab := am_tm (am_t1 (i := 694) (by decide +kernel)) rfl
theorem wq_696 : (Jvm.Cond.methodLink "PepperboxTableLaw$Deal" (162 : Nat) ({ cls := "PepperboxTableLaw$Deal", name := "any", desc := "(Z)I" } : Jvm.MethodName)) ∈ am_tab := am_tm (am_t1 (i := 696) (by decide +kernel)) rfl
theorem wq_697 : (Jvm.Cond.instanceMethod ({ cls := "PepperboxTableLaw$Deal", name := "any", desc := "(Z)I" } : Jvm.MethodName)) ∈ am_tab := am_tm (am_t1 (i := 697) (by decide +kernel)) rfl
theorem wq_698 : (Jvm.Cond.selects "PepperboxTableLaw$Deal" ({ cls := "PepperboxTableLaw$Deal", name := "any", desc := "(Z)I" } : Jvm.MethodName) ({ cls := "PepperboxTableLaw$Deal", name := "any", desc := "(Z)I" } : Jvm.MethodName)) ∈ am_tab := am_tm (am_t1 (i := 698) (by decide +kernel)) rfl
theorem wq_699 : (Jvm.Cond.code ({ cls := "PepperboxTableLaw$Deal", name := "any", desc := "(Z)I" } : Jvm.MethodName) prog_5_method_16_code (6 : Nat) (Option.some Jvm.ClassFile.FieldType.int)) ∈ am_tab := am_tm (am_t1 (i := 699) (by decide +kernel)) rfl
theorem wq_700 : (Jvm.Cond.methodLink "PepperboxTableLaw$Deal" (134 : Nat) ({ cls := "PepperboxTableLaw$Deal", name := "isRight", desc := "(II)Z" } : Jvm.MethodName)) ∈ am_tab := am_tm (am_t1 (i := 700) (by decide +kernel)) rfl
theorem wq_701 : (Jvm.Cond.instanceMethod ({ cls := "PepperboxTableLaw$Deal", name := "isRight", desc := "(II)Z" } : Jvm.MethodName)) ∈ am_tab := am_tm (am_t1 (i := 701) (by decide +kernel)) rfl
theorem wq_702 : (Jvm.Cond.selects "PepperboxTableLaw$Deal" ({ cls := "PepperboxTableLaw$Deal", name := "isRight", desc := "(II)Z" } : Jvm.MethodName) ({ cls := "PepperboxTableLaw$Deal", name := "isRight", desc := "(II)Z" } : Jvm.MethodName)) ∈ am_tab := am_tm (am_t1 (i := 702) (by decide +kernel)) rfl
theorem wq_703 : (Jvm.Cond.code ({ cls := "PepperboxTableLaw$Deal", name := "isRight", desc := "(II)Z" } : Jvm.MethodName) prog_5_method_14_code (3 : Nat) (Option.some Jvm.ClassFile.FieldType.boolean)) ∈ am_tab := am_tm (am_t1 (i := 703) (by decide +kernel)) rfl
theorem wq_704 : (Jvm.Cond.methodLink "PepperboxTableLaw$Deal" (126 : Nat) ({ cls := "PepperboxTableLaw$Deal", name := "mustFollow", desc := "(I)Z" } : Jvm.MethodName)) ∈ am_tab := am_tm (am_t1 (i := 704) (by decide +kernel)) rfl
theorem wq_705 : (Jvm.Cond.instanceMethod ({ cls := "PepperboxTableLaw$Deal", name := "mustFollow", desc := "(I)Z" } : Jvm.MethodName)) ∈ am_tab := am_tm (am_t1 (i := 705) (by decide +kernel)) rfl
theorem wq_706 : (Jvm.Cond.selects "PepperboxTableLaw$Deal" ({ cls := "PepperboxTableLaw$Deal", name := "mustFollow", desc := "(I)Z" } : Jvm.MethodName) ({ cls := "PepperboxTableLaw$Deal", name := "mustFollow", desc := "(I)Z" } : Jvm.MethodName)) ∈ am_tab := am_tm (am_t1 (i := 706) (by decide +kernel)) rfl
theorem wq_707 : (Jvm.Cond.code ({ cls := "PepperboxTableLaw$Deal", name := "mustFollow", desc := "(I)Z" } : Jvm.MethodName) prog_5_method_13_code (3 : Nat) (Option.some Jvm.ClassFile.FieldType.boolean)) ∈ am_tab := am_tm (am_t1 (i := 707) (by decide +kernel)) rfl
theorem wq_708 : (Jvm.Cond.methodLink "PepperboxTableLaw$Deal" (166 : Nat) ({ cls := "PepperboxTableLaw$Deal", name := "play", desc := "(I)Z" } : Jvm.MethodName)) ∈ am_tab := am_tm (am_t1 (i := 708) (by decide +kernel)) rfl
theorem wq_709 : (Jvm.Cond.instanceMethod ({ cls := "PepperboxTableLaw$Deal", name := "play", desc := "(I)Z" } : Jvm.MethodName)) ∈ am_tab := am_tm (am_t1 (i := 709) (by decide +kernel)) rfl
theorem wq_710 : (Jvm.Cond.selects "PepperboxTableLaw$Deal" ({ cls := "PepperboxTableLaw$Deal", name := "play", desc := "(I)Z" } : Jvm.MethodName) ({ cls := "PepperboxTableLaw$Deal", name := "play", desc := "(I)Z" } : Jvm.MethodName)) ∈ am_tab := am_tm (am_t1 (i := 710) (by decide +kernel)) rfl
theorem wq_711 : (Jvm.Cond.code ({ cls := "PepperboxTableLaw$Deal", name := "play", desc := "(I)Z" } : Jvm.MethodName) prog_5_method_17_code (3 : Nat) (Option.some Jvm.ClassFile.FieldType.boolean)) ∈ am_tab := am_tm (am_t1 (i := 711) (by decide +kernel)) rfl
theorem wq_712 : (Jvm.Cond.methodLink "PepperboxTableLaw$Deal" (138 : Nat) ({ cls := "PepperboxTableLaw$Deal", name := "end", desc := "()V" } : Jvm.MethodName)) ∈ am_tab := am_tm (am_t1 (i := 712) (by decide +kernel)) rfl
theorem wq_714 : (Jvm.Cond.instanceMethod ({ cls := "PepperboxTableLaw$Deal", name := "end", desc := "()V" } : Jvm.MethodName)) ∈ am_tab := am_tm (am_t1 (i := 714) (by decide +kernel)) rfl
theorem wq_715 : (Jvm.Cond.code ({ cls := "PepperboxTableLaw$Deal", name := "end", desc := "()V" } : Jvm.MethodName) prog_5_method_18_code (5 : Nat) (Option.none : Option Jvm.ClassFile.FieldType)) ∈ am_tab := am_tm (am_t1 (i := 715) (by decide +kernel)) rfl
theorem wq_716 : (Jvm.Cond.methodLink "PepperboxTableLaw$Deal" (144 : Nat) ({ cls := "PepperboxTableLaw$Deal", name := "taker", desc := "([II)I" } : Jvm.MethodName)) ∈ am_tab := am_tm (am_t1 (i := 716) (by decide +kernel)) rfl
theorem wq_717 : (Jvm.Cond.instanceMethod ({ cls := "PepperboxTableLaw$Deal", name := "taker", desc := "([II)I" } : Jvm.MethodName)) ∈ am_tab := am_tm (am_t1 (i := 717) (by decide +kernel)) rfl
theorem wq_718 : (Jvm.Cond.selects "PepperboxTableLaw$Deal" ({ cls := "PepperboxTableLaw$Deal", name := "taker", desc := "([II)I" } : Jvm.MethodName) ({ cls := "PepperboxTableLaw$Deal", name := "taker", desc := "([II)I" } : Jvm.MethodName)) ∈ am_tab := am_tm (am_t1 (i := 718) (by decide +kernel)) rfl
theorem wq_719 : (Jvm.Cond.code ({ cls := "PepperboxTableLaw$Deal", name := "taker", desc := "([II)I" } : Jvm.MethodName) prog_5_method_15_code (7 : Nat) (Option.some Jvm.ClassFile.FieldType.int)) ∈ am_tab := am_tm (am_t1 (i := 719) (by decide +kernel)) rfl
theorem wq_720 : (Jvm.Cond.methodLink "PepperboxTableLaw$Deal" (129 : Nat) ({ cls := "java/lang/Math", name := "max", desc := "(II)I" } : Jvm.MethodName)) ∈ am_tab := am_tm (am_t1 (i := 720) (by decide +kernel)) rfl
theorem wq_721 : (Jvm.Cond.static ({ cls := "java/lang/Math", name := "max", desc := "(II)I" } : Jvm.MethodName)) ∈ am_tab := am_tm (am_t1 (i := 721) (by decide +kernel)) rfl
theorem wq_722 : (Jvm.Cond.code ({ cls := "java/lang/Math", name := "max", desc := "(II)I" } : Jvm.MethodName) prog_12_method_65_code (2 : Nat) (Option.some Jvm.ClassFile.FieldType.int)) ∈ am_tab := am_tm (am_t1 (i := 722) (by decide +kernel)) rfl
theorem wq_723 : (Jvm.Cond.methodLink "PepperboxTableLaw$Deal" (150 : Nat) ({ cls := "PepperboxTableLaw$Deal", name := "worth", desc := "(I)I" } : Jvm.MethodName)) ∈ am_tab := am_tm (am_t1 (i := 723) (by decide +kernel)) rfl
theorem wq_724 : (Jvm.Cond.instanceMethod ({ cls := "PepperboxTableLaw$Deal", name := "worth", desc := "(I)I" } : Jvm.MethodName)) ∈ am_tab := am_tm (am_t1 (i := 724) (by decide +kernel)) rfl
theorem wq_725 : (Jvm.Cond.selects "PepperboxTableLaw$Deal" ({ cls := "PepperboxTableLaw$Deal", name := "worth", desc := "(I)I" } : Jvm.MethodName) ({ cls := "PepperboxTableLaw$Deal", name := "worth", desc := "(I)I" } : Jvm.MethodName)) ∈ am_tab := am_tm (am_t1 (i := 725) (by decide +kernel)) rfl
theorem wq_726 : (Jvm.Cond.code ({ cls := "PepperboxTableLaw$Deal", name := "worth", desc := "(I)I" } : Jvm.MethodName) prog_5_method_19_code (4 : Nat) (Option.some Jvm.ClassFile.FieldType.int)) ∈ am_tab := am_tm (am_t1 (i := 726) (by decide +kernel)) rfl
theorem wq_727 : (Jvm.Cond.methodLink "PepperboxTableLaw$Deal" (153 : Nat) ({ cls := "java/lang/Math", name := "abs", desc := "(I)I" } : Jvm.MethodName)) ∈ am_tab := am_tm (am_t1 (i := 727) (by decide +kernel)) rfl
theorem wq_728 : (Jvm.Cond.static ({ cls := "java/lang/Math", name := "abs", desc := "(I)I" } : Jvm.MethodName)) ∈ am_tab := am_tm (am_t1 (i := 728) (by decide +kernel)) rfl
theorem wq_729 : (Jvm.Cond.code ({ cls := "java/lang/Math", name := "abs", desc := "(I)I" } : Jvm.MethodName) prog_12_method_59_code (1 : Nat) (Option.some Jvm.ClassFile.FieldType.int)) ∈ am_tab := am_tm (am_t1 (i := 729) (by decide +kernel)) rfl
theorem wq_730 : (Jvm.Cond.methodLink "PepperboxTableLaw$Deal" (141 : Nat) ({ cls := "PepperboxTable", name := "play", desc := "(I)I" } : Jvm.MethodName)) ∈ am_tab := am_tm (am_t1 (i := 730) (by decide +kernel)) rfl
theorem wq_731 : (Jvm.Cond.instanceMethod ({ cls := "PepperboxTable", name := "play", desc := "(I)I" } : Jvm.MethodName)) ∈ am_tab := am_tm (am_t1 (i := 731) (by decide +kernel)) rfl
theorem wq_732 : (Jvm.Cond.selects "PepperboxTable" ({ cls := "PepperboxTable", name := "play", desc := "(I)I" } : Jvm.MethodName) ({ cls := "PepperboxTable", name := "play", desc := "(I)I" } : Jvm.MethodName)) ∈ am_tab := am_tm (am_t1 (i := 732) (by decide +kernel)) rfl
theorem wq_733 : (Jvm.Cond.code ({ cls := "PepperboxTable", name := "play", desc := "(I)I" } : Jvm.MethodName) prog_1_method_12_code (3 : Nat) (Option.some Jvm.ClassFile.FieldType.int)) ∈ am_tab := am_tm (am_t1 (i := 733) (by decide +kernel)) rfl
theorem wq_734 : (Jvm.Cond.methodLink "PepperboxTable" (178 : Nat) ({ cls := "PepperboxTable", name := "finishDeal", desc := "()V" } : Jvm.MethodName)) ∈ am_tab := am_tm (am_t1 (i := 734) (by decide +kernel)) rfl
theorem wq_736 : (Jvm.Cond.instanceMethod ({ cls := "PepperboxTable", name := "finishDeal", desc := "()V" } : Jvm.MethodName)) ∈ am_tab := am_tm (am_t1 (i := 736) (by decide +kernel)) rfl
theorem wq_737 : (Jvm.Cond.code ({ cls := "PepperboxTable", name := "finishDeal", desc := "()V" } : Jvm.MethodName) prog_1_method_38_code (3 : Nat) (Option.none : Option Jvm.ClassFile.FieldType)) ∈ am_tab := am_tm (am_t1 (i := 737) (by decide +kernel)) rfl
theorem wq_738 : (Jvm.Cond.methodLink "PepperboxTable" (305 : Nat) ({ cls := "PepperboxTable", name := "payForRevoke", desc := "(I)V" } : Jvm.MethodName)) ∈ am_tab := am_tm (am_t1 (i := 738) (by decide +kernel)) rfl
theorem wq_740 : (Jvm.Cond.instanceMethod ({ cls := "PepperboxTable", name := "payForRevoke", desc := "(I)V" } : Jvm.MethodName)) ∈ am_tab := am_tm (am_t1 (i := 740) (by decide +kernel)) rfl
theorem wq_741 : (Jvm.Cond.code ({ cls := "PepperboxTable", name := "payForRevoke", desc := "(I)V" } : Jvm.MethodName) prog_1_method_39_code (3 : Nat) (Option.none : Option Jvm.ClassFile.FieldType)) ∈ am_tab := am_tm (am_t1 (i := 741) (by decide +kernel)) rfl
theorem wq_742 : (Jvm.Cond.methodLink "PepperboxTable" (243 : Nat) ({ cls := "PepperboxTable$Auction", name := "scoreFor", desc := "(I)I" } : Jvm.MethodName)) ∈ am_tab := am_tm (am_t1 (i := 742) (by decide +kernel)) rfl
theorem wq_743 : (Jvm.Cond.instanceMethod ({ cls := "PepperboxTable$Auction", name := "scoreFor", desc := "(I)I" } : Jvm.MethodName)) ∈ am_tab := am_tm (am_t1 (i := 743) (by decide +kernel)) rfl
theorem wq_744 : (Jvm.Cond.selects "PepperboxTable$Auction" ({ cls := "PepperboxTable$Auction", name := "scoreFor", desc := "(I)I" } : Jvm.MethodName) ({ cls := "PepperboxTable$Auction", name := "scoreFor", desc := "(I)I" } : Jvm.MethodName)) ∈ am_tab := am_tm (am_t1 (i := 744) (by decide +kernel)) rfl
theorem wq_745 : (Jvm.Cond.code ({ cls := "PepperboxTable$Auction", name := "scoreFor", desc := "(I)I" } : Jvm.MethodName) prog_2_method_15_code (4 : Nat) (Option.some Jvm.ClassFile.FieldType.int)) ∈ am_tab := am_tm (am_t1 (i := 745) (by decide +kernel)) rfl
theorem wq_746 : (Jvm.Cond.methodLink "PepperboxTable$Auction" (58 : Nat) ({ cls := "PepperboxTable$Auction", name := "level", desc := "()I" } : Jvm.MethodName)) ∈ am_tab := am_tm (am_t1 (i := 746) (by decide +kernel)) rfl
theorem wq_747 : (Jvm.Cond.methodLink "PepperboxTable$Auction" (61 : Nat) ({ cls := "PepperboxTable$Auction", name := "worthOf", desc := "(I)I" } : Jvm.MethodName)) ∈ am_tab := am_tm (am_t1 (i := 747) (by decide +kernel)) rfl
theorem wq_748 : (Jvm.Cond.static ({ cls := "PepperboxTable$Auction", name := "worthOf", desc := "(I)I" } : Jvm.MethodName)) ∈ am_tab := am_tm (am_t1 (i := 748) (by decide +kernel)) rfl
theorem wq_749 : (Jvm.Cond.code ({ cls := "PepperboxTable$Auction", name := "worthOf", desc := "(I)I" } : Jvm.MethodName) prog_2_method_16_code (1 : Nat) (Option.some Jvm.ClassFile.FieldType.int)) ∈ am_tab := am_tm (am_t1 (i := 749) (by decide +kernel)) rfl
theorem wp_1 : Cond.selects "PepperboxTable" ⟨"PepperboxTable", "isBidAllowed", "(I)Z"⟩ ⟨"PepperboxTable", "isBidAllowed", "(I)Z"⟩ ∈ am_tab := am_tm (am_t0 (i := 1) (by decide +kernel)) rfl
theorem wp_2 : Cond.selects "PepperboxTable$Cards" ⟨"PepperboxTable$Cards", "playedAt", "(I)I"⟩ ⟨"PepperboxTable$Cards", "playedAt", "(I)I"⟩ ∈ am_tab := am_tm (am_t0 (i := 2) (by decide +kernel)) rfl
theorem wp_3 : Cond.selects "PepperboxTable" ⟨"PepperboxTable", "turnNow", "()I"⟩ ⟨"PepperboxTable", "turnNow", "()I"⟩ ∈ am_tab := am_tm (am_t0 (i := 3) (by decide +kernel)) rfl
theorem wp_4 : Cond.selects "PepperboxTable$Cards" ⟨"PepperboxTable$Cards", "beats", "(II)Z"⟩ ⟨"PepperboxTable$Cards", "beats", "(II)Z"⟩ ∈ am_tab := am_tm (am_t0 (i := 4) (by decide +kernel)) rfl
theorem wp_5 : Cond.selects "PepperboxTable" ⟨"PepperboxTable", "revokersOf", "(I)I"⟩ ⟨"PepperboxTable", "revokersOf", "(I)I"⟩ ∈ am_tab := am_tm (am_t0 (i := 5) (by decide +kernel)) rfl
theorem wp_6 : Cond.selects "PepperboxTable$Cards" ⟨"PepperboxTable$Cards", "playerAt", "(I)I"⟩ ⟨"PepperboxTable$Cards", "playerAt", "(I)I"⟩ ∈ am_tab := am_tm (am_t0 (i := 6) (by decide +kernel)) rfl
theorem wp_7 : Cond.selects "PepperboxTable" ⟨"PepperboxTable", "checkPlayable", "(I)V"⟩ ⟨"PepperboxTable", "checkPlayable", "(I)V"⟩ ∈ am_tab := am_tm (am_t0 (i := 7) (by decide +kernel)) rfl
theorem wp_8 : Cond.selects "PepperboxTable" ⟨"PepperboxTable", "hasBestPlay", "()Z"⟩ ⟨"PepperboxTable", "hasBestPlay", "()Z"⟩ ∈ am_tab := am_tm (am_t0 (i := 8) (by decide +kernel)) rfl
theorem wp_9 : Cond.selects "PepperboxTable" ⟨"PepperboxTable", "bestBehind", "(I)I"⟩ ⟨"PepperboxTable", "bestBehind", "(I)I"⟩ ∈ am_tab := am_tm (am_t0 (i := 9) (by decide +kernel)) rfl
theorem wp_10 : Cond.selects "PepperboxTable" ⟨"PepperboxTable", "mixTricks", "(J)J"⟩ ⟨"PepperboxTable", "mixTricks", "(J)J"⟩ ∈ am_tab := am_tm (am_t0 (i := 10) (by decide +kernel)) rfl
theorem wp_11 : Cond.selects "PepperboxTable" ⟨"PepperboxTable", "mixSides", "(J)J"⟩ ⟨"PepperboxTable", "mixSides", "(J)J"⟩ ∈ am_tab := am_tm (am_t0 (i := 11) (by decide +kernel)) rfl
theorem wp_12 : Cond.selects "PepperboxTable" ⟨"PepperboxTable", "mixHands", "(J)J"⟩ ⟨"PepperboxTable", "mixHands", "(J)J"⟩ ∈ am_tab := am_tm (am_t0 (i := 12) (by decide +kernel)) rfl
theorem wp_13 : Cond.selects "PepperboxTable$Auction" ⟨"PepperboxTable$Auction", "addCall", "(I)V"⟩ ⟨"PepperboxTable$Auction", "addCall", "(I)V"⟩ ∈ am_tab := am_tm (am_t0 (i := 13) (by decide +kernel)) rfl
theorem wp_14 : Cond.selects "PepperboxTableLaw$Deal" ⟨"PepperboxTableLaw$Deal", "conclude", "()V"⟩ ⟨"PepperboxTableLaw$Deal", "conclude", "()V"⟩ ∈ am_tab := am_tm (am_t0 (i := 14) (by decide +kernel)) rfl
theorem wp_15 : Cond.selects "PepperboxTableLaw$Deal" ⟨"PepperboxTableLaw$Deal", "end", "()V"⟩ ⟨"PepperboxTableLaw$Deal", "end", "()V"⟩ ∈ am_tab := am_tm (am_t0 (i := 15) (by decide +kernel)) rfl
theorem wp_16 : Cond.selects "PepperboxTable" ⟨"PepperboxTable", "finishDeal", "()V"⟩ ⟨"PepperboxTable", "finishDeal", "()V"⟩ ∈ am_tab := am_tm (am_t0 (i := 16) (by decide +kernel)) rfl
theorem wp_17 : Cond.selects "PepperboxTable" ⟨"PepperboxTable", "payForRevoke", "(I)V"⟩ ⟨"PepperboxTable", "payForRevoke", "(I)V"⟩ ∈ am_tab := am_tm (am_t0 (i := 17) (by decide +kernel)) rfl
theorem th_57_g : ∀ w ∈ (vx_atS "PepperboxTable" 57 (am_xn 2) ["java/lang/RuntimeException", "java/lang/Exception"]).filter goodWord, w ∈ am_tab := fun w h => am_tm ((by decide +kernel : ∀ w ∈ (vx_atS "PepperboxTable" 57 (am_xn 2) ["java/lang/RuntimeException", "java/lang/Exception"]).filter goodWord, w ∈ lw_tbl) w h) (List.mem_filter.mp h).2
theorem th_57_b : ∀ w ∈ (vx_atS "PepperboxTable" 57 (am_xn 2) ["java/lang/RuntimeException", "java/lang/Exception"]).filter (fun w => !goodWord w), w ∈ am_decls.map Cond.declares ++ am_casts.map (fun q => Cond.castable q q) := by decide +kernel
theorem th_57_o : ∀ w ∈ Cond.classLink "PepperboxTable" 53 (am_xn 2) :: Cond.initialized (am_xn 2) :: vx_atS "PepperboxTable" 57 (am_xn 2) ["java/lang/RuntimeException", "java/lang/Exception"], vx_ot w = true := by decide +kernel
theorem th_68_g : ∀ w ∈ (vx_atS "PepperboxTable" 68 (am_xn 3) ["java/lang/RuntimeException", "java/lang/Exception"]).filter goodWord, w ∈ am_tab := fun w h => am_tm ((by decide +kernel : ∀ w ∈ (vx_atS "PepperboxTable" 68 (am_xn 3) ["java/lang/RuntimeException", "java/lang/Exception"]).filter goodWord, w ∈ lw_tbl) w h) (List.mem_filter.mp h).2
theorem th_68_b : ∀ w ∈ (vx_atS "PepperboxTable" 68 (am_xn 3) ["java/lang/RuntimeException", "java/lang/Exception"]).filter (fun w => !goodWord w), w ∈ am_decls.map Cond.declares ++ am_casts.map (fun q => Cond.castable q q) := by decide +kernel
theorem th_68_o : ∀ w ∈ Cond.classLink "PepperboxTable" 64 (am_xn 3) :: Cond.initialized (am_xn 3) :: vx_atS "PepperboxTable" 68 (am_xn 3) ["java/lang/RuntimeException", "java/lang/Exception"], vx_ot w = true := by decide +kernel
theorem th_154_g : ∀ w ∈ (vx_atS "PepperboxTable" 154 (am_xn 1) ["java/lang/RuntimeException", "java/lang/Exception"]).filter goodWord, w ∈ am_tab := fun w h => am_tm ((by decide +kernel : ∀ w ∈ (vx_atS "PepperboxTable" 154 (am_xn 1) ["java/lang/RuntimeException", "java/lang/Exception"]).filter goodWord, w ∈ lw_tbl) w h) (List.mem_filter.mp h).2
theorem th_154_b : ∀ w ∈ (vx_atS "PepperboxTable" 154 (am_xn 1) ["java/lang/RuntimeException", "java/lang/Exception"]).filter (fun w => !goodWord w), w ∈ am_decls.map Cond.declares ++ am_casts.map (fun q => Cond.castable q q) := by decide +kernel
theorem th_154_o : ∀ w ∈ Cond.classLink "PepperboxTable" 150 (am_xn 1) :: Cond.initialized (am_xn 1) :: vx_atS "PepperboxTable" 154 (am_xn 1) ["java/lang/RuntimeException", "java/lang/Exception"], vx_ot w = true := by decide +kernel
theorem nm_0 : am_nm 0 = yX0_init := rfl
theorem cw_0 : am_cw 0 = Cond.code yX0_init cX0_init 1 (Option.none : Option Jvm.ClassFile.FieldType) := rfl
theorem cm_0 : am_cw 0 ∈ am_tab := by rw [cw_0]; exact wq_463
theorem nm_1 : am_nm 1 = yX0_clear := rfl
theorem cw_1 : am_cw 1 = Cond.code yX0_clear cX0_clear 2 (Option.none : Option Jvm.ClassFile.FieldType) := rfl
theorem cm_1 : am_cw 1 ∈ am_tab := by rw [cw_1]; exact wq_607
theorem nm_2 : am_nm 2 = yX0_bidderAt := rfl
theorem cw_2 : am_cw 2 = Cond.code yX0_bidderAt cX0_bidderAt 2 (Option.some Jvm.ClassFile.FieldType.int) := rfl
theorem cm_2 : am_cw 2 ∈ am_tab := by rw [cw_2]; exact wq_171
theorem nm_3 : am_nm 3 = yX0_turn := rfl
theorem cw_3 : am_cw 3 = Cond.code yX0_turn cX0_turn 1 (Option.some Jvm.ClassFile.FieldType.int) := rfl
theorem cm_3 : am_cw 3 ∈ am_tab := by rw [cw_3]; exact wq_167
theorem nm_4 : am_nm 4 = yX0_at := rfl
theorem cw_4 : am_cw 4 = Cond.code yX0_at cX0_at 2 (Option.some Jvm.ClassFile.FieldType.int) := rfl
theorem cm_4 : am_cw 4 ∈ am_tab := by rw [cw_4]; exact wq_202
theorem nm_5 : am_nm 5 = yX0_allows := rfl
theorem cw_5 : am_cw 5 = Cond.code yX0_allows cX0_allows 3 (Option.some Jvm.ClassFile.FieldType.boolean) := rfl
theorem cm_5 : am_cw 5 ∈ am_tab := by rw [cw_5]; exact wq_163
theorem nm_6 : am_nm 6 = yX0_add := rfl
theorem cw_6 : am_cw 6 = Cond.code yX0_add cX0_add 2 (Option.none : Option Jvm.ClassFile.FieldType) := rfl
theorem cm_6 : am_cw 6 ∈ am_tab := by rw [cw_6]; exact wq_660
theorem nm_7 : am_nm 7 = yX0_addCall := rfl
theorem cw_7 : am_cw 7 = Cond.code yX0_addCall cX0_addCall 2 (Option.none : Option Jvm.ClassFile.FieldType) := rfl
theorem cm_7 : am_cw 7 ∈ am_tab := by rw [cw_7]; exact wq_664
theorem nm_8 : am_nm 8 = yX0_isPassedOut := rfl
theorem cw_8 : am_cw 8 = Cond.code yX0_isPassedOut cX0_isPassedOut 1 (Option.some Jvm.ClassFile.FieldType.boolean) := rfl
theorem cm_8 : am_cw 8 ∈ am_tab := by rw [cw_8]; exact wq_668
theorem nm_9 : am_nm 9 = yX0_isSettled := rfl
theorem cw_9 : am_cw 9 = Cond.code yX0_isSettled cX0_isSettled 1 (Option.some Jvm.ClassFile.FieldType.boolean) := rfl
theorem cm_9 : am_cw 9 ∈ am_tab := by rw [cw_9]; exact wq_183
theorem nm_10 : am_nm 10 = yX0_level := rfl
theorem cw_10 : am_cw 10 = Cond.code yX0_level cX0_level 1 (Option.some Jvm.ClassFile.FieldType.int) := rfl
theorem cm_10 : am_cw 10 ∈ am_tab := by rw [cw_10]; exact wq_187
theorem nm_11 : am_nm 11 = yX0_trump := rfl
theorem cw_11 : am_cw 11 = Cond.code yX0_trump cX0_trump 1 (Option.some Jvm.ClassFile.FieldType.int) := rfl
theorem cm_11 : am_cw 11 ∈ am_tab := by rw [cw_11]; exact wq_191
theorem nm_12 : am_nm 12 = yX0_trumpOf := rfl
theorem cw_12 : am_cw 12 = Cond.code yX0_trumpOf cX0_trumpOf 1 (Option.some Jvm.ClassFile.FieldType.int) := rfl
theorem cm_12 : am_cw 12 ∈ am_tab := by rw [cw_12]; exact wq_194
theorem nm_13 : am_nm 13 = yX0_declarer := rfl
theorem cw_13 : am_cw 13 = Cond.code yX0_declarer cX0_declarer 5 (Option.some Jvm.ClassFile.FieldType.int) := rfl
theorem cm_13 : am_cw 13 ∈ am_tab := by rw [cw_13]; exact wq_198
theorem nm_14 : am_nm 14 = yX0_scoreFor := rfl
theorem cw_14 : am_cw 14 = Cond.code yX0_scoreFor cX0_scoreFor 4 (Option.some Jvm.ClassFile.FieldType.int) := rfl
theorem cm_14 : am_cw 14 ∈ am_tab := by rw [cw_14]; exact wq_745
theorem nm_15 : am_nm 15 = yX0_worthOf := rfl
theorem cw_15 : am_cw 15 = Cond.code yX0_worthOf cX0_worthOf 1 (Option.some Jvm.ClassFile.FieldType.int) := rfl
theorem cm_15 : am_cw 15 ∈ am_tab := by rw [cw_15]; exact wq_749
theorem nm_16 : am_nm 16 = yX1_init := rfl
theorem cw_16 : am_cw 16 = Cond.code yX1_init cX1_init 1 (Option.none : Option Jvm.ClassFile.FieldType) := rfl
theorem cm_16 : am_cw 16 ∈ am_tab := by rw [cw_16]; exact wq_428
theorem nm_17 : am_nm 17 = yX1_clear := rfl
theorem cw_17 : am_cw 17 = Cond.code yX1_clear cX1_clear 2 (Option.none : Option Jvm.ClassFile.FieldType) := rfl
theorem cm_17 : am_cw 17 ∈ am_tab := by rw [cw_17]; exact wq_603
theorem nm_18 : am_nm 18 = yX1_copyFrom := rfl
theorem cw_18 : am_cw 18 = Cond.code yX1_copyFrom cX1_copyFrom 2 (Option.none : Option Jvm.ClassFile.FieldType) := rfl
theorem cm_18 : am_cw 18 ∈ am_tab := by rw [cw_18]; exact wq_309
theorem nm_19 : am_nm 19 = yX1_start := rfl
theorem cw_19 : am_cw 19 = Cond.code yX1_start cX1_start 3 (Option.none : Option Jvm.ClassFile.FieldType) := rfl
theorem cm_19 : am_cw 19 ∈ am_tab := by rw [cw_19]; exact wq_673
theorem nm_20 : am_nm 20 = yX1_heldBy := rfl
theorem cw_20 : am_cw 20 = Cond.code yX1_heldBy cX1_heldBy 2 (Option.some Jvm.ClassFile.FieldType.int) := rfl
theorem cm_20 : am_cw 20 ∈ am_tab := by rw [cw_20]; exact wq_101
theorem nm_21 : am_nm 21 = yX1_count := rfl
theorem cw_21 : am_cw 21 = Cond.code yX1_count cX1_count 2 (Option.some Jvm.ClassFile.FieldType.int) := rfl
theorem cm_21 : am_cw 21 ∈ am_tab := by rw [cw_21]; exact wq_348
theorem nm_22 : am_nm 22 = yX1_add := rfl
theorem cw_22 : am_cw 22 = Cond.code yX1_add cX1_add 3 (Option.none : Option Jvm.ClassFile.FieldType) := rfl
theorem cm_22 : am_cw 22 ∈ am_tab := by rw [cw_22]; exact wq_372
theorem nm_24 : am_nm 24 = yX1_areAllEmpty := rfl
theorem cw_24 : am_cw 24 = Cond.code yX1_areAllEmpty cX1_areAllEmpty 1 (Option.some Jvm.ClassFile.FieldType.boolean) := rfl
theorem cm_24 : am_cw 24 ∈ am_tab := by rw [cw_24]; exact wq_620
theorem nm_25 : am_nm 25 = yX1_areAtMost := rfl
theorem cw_25 : am_cw 25 = Cond.code yX1_areAtMost cX1_areAtMost 3 (Option.some Jvm.ClassFile.FieldType.boolean) := rfl
theorem cm_25 : am_cw 25 ∈ am_tab := by rw [cw_25]; exact wq_344
theorem nm_26 : am_nm 26 = yX1_areReady := rfl
theorem cw_26 : am_cw 26 = Cond.code yX1_areReady cX1_areReady 2 (Option.some Jvm.ClassFile.FieldType.boolean) := rfl
theorem cm_26 : am_cw 26 ∈ am_tab := by rw [cw_26]; exact wq_636
theorem nm_27 : am_nm 27 = yX1_ended := rfl
theorem cw_27 : am_cw 27 = Cond.code yX1_ended cX1_ended 1 (Option.some Jvm.ClassFile.FieldType.int) := rfl
theorem cm_27 : am_cw 27 ∈ am_tab := by rw [cw_27]; exact wq_220
theorem nm_28 : am_nm 28 = yX1_lying := rfl
theorem cw_28 : am_cw 28 = Cond.code yX1_lying cX1_lying 1 (Option.some Jvm.ClassFile.FieldType.int) := rfl
theorem cm_28 : am_cw 28 ∈ am_tab := by rw [cw_28]; exact wq_216
theorem nm_29 : am_nm 29 = yX1_tricksLeft := rfl
theorem cw_29 : am_cw 29 = Cond.code yX1_tricksLeft cX1_tricksLeft 1 (Option.some Jvm.ClassFile.FieldType.int) := rfl
theorem cm_29 : am_cw 29 ∈ am_tab := by rw [cw_29]; exact wq_359
theorem nm_30 : am_nm 30 = yX1_leaderOf := rfl
theorem cw_30 : am_cw 30 = Cond.code yX1_leaderOf cX1_leaderOf 2 (Option.some Jvm.ClassFile.FieldType.int) := rfl
theorem cm_30 : am_cw 30 ∈ am_tab := by rw [cw_30]; exact wq_236
theorem nm_31 : am_nm 31 = yX1_playedAt := rfl
theorem cw_31 : am_cw 31 = Cond.code yX1_playedAt cX1_playedAt 2 (Option.some Jvm.ClassFile.FieldType.int) := rfl
theorem cm_31 : am_cw 31 ∈ am_tab := by rw [cw_31]; exact wq_225
theorem nm_32 : am_nm 32 = yX1_playerAt := rfl
theorem cw_32 : am_cw 32 = Cond.code yX1_playerAt cX1_playerAt 2 (Option.some Jvm.ClassFile.FieldType.int) := rfl
theorem cm_32 : am_cw 32 ∈ am_tab := by rw [cw_32]; exact wq_277
theorem nm_33 : am_nm 33 = yX1_cardIn := rfl
theorem cw_33 : am_cw 33 = Cond.code yX1_cardIn cX1_cardIn 4 (Option.some Jvm.ClassFile.FieldType.int) := rfl
theorem cm_33 : am_cw 33 ∈ am_tab := by rw [cw_33]; exact wq_240
theorem nm_34 : am_nm 34 = yX1_takerOf := rfl
theorem cw_34 : am_cw 34 = Cond.code yX1_takerOf cX1_takerOf 7 (Option.some Jvm.ClassFile.FieldType.int) := rfl
theorem cm_34 : am_cw 34 ∈ am_tab := by rw [cw_34]; exact wq_255
theorem nm_35 : am_nm 35 = yX1_beats := rfl
theorem cw_35 : am_cw 35 = Cond.code yX1_beats cX1_beats 4 (Option.some Jvm.ClassFile.FieldType.boolean) := rfl
theorem cm_35 : am_cw 35 ∈ am_tab := by rw [cw_35]; exact wq_259
theorem nm_36 : am_nm 36 = yX1_rightCards := rfl
theorem cw_36 : am_cw 36 = Cond.code yX1_rightCards cX1_rightCards 4 (Option.some Jvm.ClassFile.FieldType.int) := rfl
theorem cm_36 : am_cw 36 ∈ am_tab := by rw [cw_36]; exact wq_211
theorem nm_37 : am_nm 37 = yX1_put := rfl
theorem cw_37 : am_cw 37 = Cond.code yX1_put cX1_put 3 (Option.some Jvm.ClassFile.FieldType.int) := rfl
theorem cm_37 : am_cw 37 ∈ am_tab := by rw [cw_37]; exact wq_316
theorem nm_38 : am_nm 38 = yX1_takeBack := rfl
theorem cw_38 : am_cw 38 = Cond.code yX1_takeBack cX1_takeBack 2 (Option.some Jvm.ClassFile.FieldType.int) := rfl
theorem cm_38 : am_cw 38 ∈ am_tab := by rw [cw_38]; exact wq_368
theorem nm_39 : am_nm 39 = yX1_hasRevoked := rfl
theorem cw_39 : am_cw 39 = Cond.code yX1_hasRevoked cX1_hasRevoked 3 (Option.some Jvm.ClassFile.FieldType.boolean) := rfl
theorem cm_39 : am_cw 39 ∈ am_tab := by rw [cw_39]; exact wq_272
theorem nm_40 : am_nm 40 = yX2_init := rfl
theorem cw_40 : am_cw 40 = Cond.code yX2_init cX2_init 1 (Option.none : Option Jvm.ClassFile.FieldType) := rfl
theorem cm_40 : am_cw 40 ∈ am_tab := by rw [cw_40]; exact wq_423
theorem nm_41 : am_nm 41 = yX2_begin := rfl
theorem cw_41 : am_cw 41 = Cond.code yX2_begin cX2_begin 3 (Option.some Jvm.ClassFile.FieldType.int) := rfl
theorem cm_41 : am_cw 41 ∈ am_tab := by rw [cw_41]; exact wq_599
theorem nm_42 : am_nm 42 = yX2_deal := rfl
theorem cw_42 : am_cw 42 = Cond.code yX2_deal cX2_deal 6 (Option.some Jvm.ClassFile.FieldType.int) := rfl
theorem cm_42 : am_cw 42 ∈ am_tab := by rw [cw_42]; exact wq_615
theorem nm_44 : am_nm 44 = yX2_open := rfl
theorem cw_44 : am_cw 44 = Cond.code yX2_open cX2_open 1 (Option.some Jvm.ClassFile.FieldType.int) := rfl
theorem cm_44 : am_cw 44 ∈ am_tab := by rw [cw_44]; exact wq_632
theorem nm_45 : am_nm 45 = yX2_has := rfl
theorem cw_45 : am_cw 45 = Cond.code yX2_has cX2_has 3 (Option.some Jvm.ClassFile.FieldType.boolean) := rfl
theorem cm_45 : am_cw 45 ∈ am_tab := by rw [cw_45]; exact wq_17
theorem nm_46 : am_nm 46 = yX2_hand := rfl
theorem cw_46 : am_cw 46 = Cond.code yX2_hand cX2_hand 6 (Option.some Jvm.ClassFile.FieldType.int) := rfl
theorem cm_46 : am_cw 46 ∈ am_tab := by rw [cw_46]; exact wq_108
theorem nm_47 : am_nm 47 = yX2_bid := rfl
theorem cw_47 : am_cw 47 = Cond.code yX2_bid cX2_bid 2 (Option.some Jvm.ClassFile.FieldType.int) := rfl
theorem cm_47 : am_cw 47 ∈ am_tab := by rw [cw_47]; exact wq_655
theorem nm_48 : am_nm 48 = yX2_canBid := rfl
theorem cw_48 : am_cw 48 = Cond.code yX2_canBid cX2_canBid 2 (Option.some Jvm.ClassFile.FieldType.boolean) := rfl
theorem cm_48 : am_cw 48 ∈ am_tab := by rw [cw_48]; exact wq_150
theorem nm_50 : am_nm 50 = yX2_contract := rfl
theorem cw_50 : am_cw 50 = Cond.code yX2_contract cX2_contract 2 (Option.some Jvm.ClassFile.FieldType.int) := rfl
theorem cm_50 : am_cw 50 ∈ am_tab := by rw [cw_50]; exact wq_178
theorem nm_51 : am_nm 51 = yX2_play := rfl
theorem cw_51 : am_cw 51 = Cond.code yX2_play cX2_play 3 (Option.some Jvm.ClassFile.FieldType.int) := rfl
theorem cm_51 : am_cw 51 ∈ am_tab := by rw [cw_51]; exact wq_733
theorem nm_52 : am_nm 52 = yX2_back := rfl
theorem cw_52 : am_cw 52 = Cond.code yX2_back cX2_back 1 (Option.some Jvm.ClassFile.FieldType.int) := rfl
theorem cm_52 : am_cw 52 ∈ am_tab := by rw [cw_52]; exact wq_694
theorem nm_53 : am_nm 53 = yX2_isRight := rfl
theorem cw_53 : am_cw 53 = Cond.code yX2_isRight cX2_isRight 2 (Option.some Jvm.ClassFile.FieldType.boolean) := rfl
theorem cm_53 : am_cw 53 ∈ am_tab := by rw [cw_53]; exact wq_207
theorem nm_54 : am_nm 54 = yX2_trick := rfl
theorem cw_54 : am_cw 54 = Cond.code yX2_trick cX2_trick 3 (Option.some Jvm.ClassFile.FieldType.int) := rfl
theorem cm_54 : am_cw 54 ∈ am_tab := by rw [cw_54]; exact wq_230
theorem nm_55 : am_nm 55 = yX2_now := rfl
theorem cw_55 : am_cw 55 = Cond.code yX2_now cX2_now 2 (Option.some Jvm.ClassFile.FieldType.int) := rfl
theorem cm_55 : am_cw 55 ∈ am_tab := by rw [cw_55]; exact wq_245
theorem nm_56 : am_nm 56 = yX2_side := rfl
theorem cw_56 : am_cw 56 = Cond.code yX2_side cX2_side 3 (Option.some Jvm.ClassFile.FieldType.int) := rfl
theorem cm_56 : am_cw 56 ∈ am_tab := by rw [cw_56]; exact wq_263
theorem nm_57 : am_nm 57 = yX2_meanScore := rfl
theorem cw_57 : am_cw 57 = Cond.code yX2_meanScore cX2_meanScore 1 (Option.some Jvm.ClassFile.FieldType.double) := rfl
theorem cm_57 : am_cw 57 ∈ am_tab := by rw [cw_57]; exact wq_281
theorem nm_58 : am_nm 58 = yX2_wouldGet := rfl
theorem cw_58 : am_cw 58 = Cond.code yX2_wouldGet cX2_wouldGet 2 (Option.some Jvm.ClassFile.FieldType.int) := rfl
theorem cm_58 : am_cw 58 ∈ am_tab := by rw [cw_58]; exact wq_285
theorem nm_59 : am_nm 59 = yX2_best := rfl
theorem cw_59 : am_cw 59 = Cond.code yX2_best cX2_best 1 (Option.some Jvm.ClassFile.FieldType.int) := rfl
theorem cm_59 : am_cw 59 ∈ am_tab := by rw [cw_59]; exact wq_331
theorem nm_60 : am_nm 60 = yX2_bestWith := rfl
theorem cw_60 : am_cw 60 = Cond.code yX2_bestWith cX2_bestWith 2 (Option.some Jvm.ClassFile.FieldType.int) := rfl
theorem cm_60 : am_cw 60 ∈ am_tab := by rw [cw_60]; exact wq_376
theorem nm_61 : am_nm 61 = yX2_bestCard := rfl
theorem cw_61 : am_cw 61 = Cond.code yX2_bestCard cX2_bestCard 5 (Option.some Jvm.ClassFile.FieldType.int) := rfl
theorem cm_61 : am_cw 61 ∈ am_tab := by rw [cw_61]; exact wq_384
theorem nm_62 : am_nm 62 = yX2_bestIn := rfl
theorem cw_62 : am_cw 62 = Cond.code yX2_bestIn cX2_bestIn 2 (Option.some Jvm.ClassFile.FieldType.int) := rfl
theorem cm_62 : am_cw 62 ∈ am_tab := by rw [cw_62]; exact wq_335
theorem nm_64 : am_nm 64 = yX2_digest := rfl
theorem cw_64 : am_cw 64 = Cond.code yX2_digest cX2_digest 4 (Option.some Jvm.ClassFile.FieldType.long) := rfl
theorem cm_64 : am_cw 64 ∈ am_tab := by rw [cw_64]; exact wq_388
theorem nm_65 : am_nm 65 = yX2_mix := rfl
theorem cw_65 : am_cw 65 = Cond.code yX2_mix cX2_mix 3 (Option.some Jvm.ClassFile.FieldType.long) := rfl
theorem cm_65 : am_cw 65 ∈ am_tab := by rw [cw_65]; exact wq_393
theorem nm_66 : am_nm 66 = yX2_mixTricks := rfl
theorem cw_66 : am_cw 66 = Cond.code yX2_mixTricks cX2_mixTricks 7 (Option.some Jvm.ClassFile.FieldType.long) := rfl
theorem cm_66 : am_cw 66 ∈ am_tab := by rw [cw_66]; exact wq_400
theorem nm_67 : am_nm 67 = yX2_mixSides := rfl
theorem cw_67 : am_cw 67 = Cond.code yX2_mixSides cX2_mixSides 7 (Option.some Jvm.ClassFile.FieldType.long) := rfl
theorem cm_67 : am_cw 67 ∈ am_tab := by rw [cw_67]; exact wq_405
theorem nm_68 : am_nm 68 = yX2_mixHands := rfl
theorem cw_68 : am_cw 68 = Cond.code yX2_mixHands cX2_mixHands 8 (Option.some Jvm.ClassFile.FieldType.long) := rfl
theorem cm_68 : am_cw 68 ∈ am_tab := by rw [cw_68]; exact wq_410
theorem nm_69 : am_nm 69 = yX2_isCard := rfl
theorem cw_69 : am_cw 69 = Cond.code yX2_isCard cX2_isCard 1 (Option.some Jvm.ClassFile.FieldType.boolean) := rfl
theorem cm_69 : am_cw 69 ∈ am_tab := by rw [cw_69]; exact wq_96
theorem nm_70 : am_nm 70 = yX2_checkPlayer := rfl
theorem cw_70 : am_cw 70 = Cond.code yX2_checkPlayer cX2_checkPlayer 1 (Option.none : Option Jvm.ClassFile.FieldType) := rfl
theorem cm_70 : am_cw 70 ∈ am_tab := by rw [cw_70]; exact wq_20
theorem nm_71 : am_nm 71 = yX2_checkCard := rfl
theorem cw_71 : am_cw 71 = Cond.code yX2_checkCard cX2_checkCard 1 (Option.none : Option Jvm.ClassFile.FieldType) := rfl
theorem cm_71 : am_cw 71 ∈ am_tab := by rw [cw_71]; exact wq_93
theorem nm_72 : am_nm 72 = yX2_checkBid := rfl
theorem cw_72 : am_cw 72 = Cond.code yX2_checkBid cX2_checkBid 1 (Option.none : Option Jvm.ClassFile.FieldType) := rfl
theorem cm_72 : am_cw 72 ∈ am_tab := by rw [cw_72]; exact wq_153
theorem nm_73 : am_nm 73 = yX2_checkPlayable := rfl
theorem cw_73 : am_cw 73 = Cond.code yX2_checkPlayable cX2_checkPlayable 2 (Option.none : Option Jvm.ClassFile.FieldType) := rfl
theorem cm_73 : am_cw 73 ∈ am_tab := by rw [cw_73]; exact wq_289
theorem nm_74 : am_nm 74 = yX2_isBidAllowed := rfl
theorem cw_74 : am_cw 74 = Cond.code yX2_isBidAllowed cX2_isBidAllowed 2 (Option.some Jvm.ClassFile.FieldType.boolean) := rfl
theorem cm_74 : am_cw 74 ∈ am_tab := by rw [cw_74]; exact wq_159
theorem nm_75 : am_nm 75 = yX2_turnNow := rfl
theorem cw_75 : am_cw 75 = Cond.code yX2_turnNow cX2_turnNow 1 (Option.some Jvm.ClassFile.FieldType.int) := rfl
theorem cm_75 : am_cw 75 ∈ am_tab := by rw [cw_75]; exact wq_249
theorem nm_76 : am_nm 76 = yX2_revokersOf := rfl
theorem cw_76 : am_cw 76 = Cond.code yX2_revokersOf cX2_revokersOf 4 (Option.some Jvm.ClassFile.FieldType.int) := rfl
theorem cm_76 : am_cw 76 ∈ am_tab := by rw [cw_76]; exact wq_268
theorem nm_77 : am_nm 77 = yX2_finishDeal := rfl
theorem cw_77 : am_cw 77 = Cond.code yX2_finishDeal cX2_finishDeal 3 (Option.none : Option Jvm.ClassFile.FieldType) := rfl
theorem cm_77 : am_cw 77 ∈ am_tab := by rw [cw_77]; exact wq_737
theorem nm_78 : am_nm 78 = yX2_payForRevoke := rfl
theorem cw_78 : am_cw 78 = Cond.code yX2_payForRevoke cX2_payForRevoke 3 (Option.none : Option Jvm.ClassFile.FieldType) := rfl
theorem cm_78 : am_cw 78 ∈ am_tab := by rw [cw_78]; exact wq_741
theorem nm_79 : am_nm 79 = yX2_hasBestPlay := rfl
theorem cw_79 : am_cw 79 = Cond.code yX2_hasBestPlay cX2_hasBestPlay 1 (Option.some Jvm.ClassFile.FieldType.boolean) := rfl
theorem cm_79 : am_cw 79 ∈ am_tab := by rw [cw_79]; exact wq_340
theorem nm_80 : am_nm 80 = yX2_bestBehind := rfl
theorem cw_80 : am_cw 80 = Cond.code yX2_bestBehind cX2_bestBehind 3 (Option.some Jvm.ClassFile.FieldType.int) := rfl
theorem cm_80 : am_cw 80 ∈ am_tab := by rw [cw_80]; exact wq_380
theorem nm_81 : am_nm 81 = yX2_mostOfSide0 := rfl
theorem cw_81 : am_cw 81 = Cond.code yX2_mostOfSide0 cX2_mostOfSide0 3 (Option.some Jvm.ClassFile.FieldType.int) := rfl
theorem cm_81 : am_cw 81 ∈ am_tab := by rw [cw_81]; exact wq_352
theorem nm_82 : am_nm 82 = yX2_doesSide0Get := rfl
theorem cw_82 : am_cw 82 = Cond.code yX2_doesSide0Get cX2_doesSide0Get 9 (Option.some Jvm.ClassFile.FieldType.boolean) := rfl
theorem cm_82 : am_cw 82 ∈ am_tab := by rw [cw_82]; exact wq_355
theorem nm_83 : am_nm 83 = yX2_countForSide0 := rfl
theorem cw_83 : am_cw 83 = Cond.code yX2_countForSide0 cX2_countForSide0 1 (Option.some Jvm.ClassFile.FieldType.int) := rfl
theorem cm_83 : am_cw 83 ∈ am_tab := by rw [cw_83]; exact wq_364
theorem nm_84 : am_nm 84 = yX2_sideOf := rfl
theorem cw_84 : am_cw 84 = Cond.code yX2_sideOf cX2_sideOf 1 (Option.some Jvm.ClassFile.FieldType.int) := rfl
theorem cm_84 : am_cw 84 ∈ am_tab := by rw [cw_84]; exact wq_174
theorem nm_85 : am_nm 85 = yX2_nextOf := rfl
theorem cw_85 : am_cw 85 = Cond.code yX2_nextOf cX2_nextOf 1 (Option.some Jvm.ClassFile.FieldType.int) := rfl
theorem cm_85 : am_cw 85 ∈ am_tab := by rw [cw_85]; exact wq_326
theorem nm_86 : am_nm 86 = yX2_contains := rfl
theorem cw_86 : am_cw 86 = Cond.code yX2_contains cX2_contains 2 (Option.some Jvm.ClassFile.FieldType.boolean) := rfl
theorem cm_86 : am_cw 86 ∈ am_tab := by rw [cw_86]; exact wq_104
theorem nm_87 : am_nm 87 = yX2_with := rfl
theorem cw_87 : am_cw 87 = Cond.code yX2_with cX2_with 2 (Option.some Jvm.ClassFile.FieldType.int) := rfl
theorem cm_87 : am_cw 87 ∈ am_tab := by rw [cw_87]; exact wq_320
theorem nm_88 : am_nm 88 = yX2_without := rfl
theorem cw_88 : am_cw 88 = Cond.code yX2_without cX2_without 2 (Option.some Jvm.ClassFile.FieldType.int) := rfl
theorem cm_88 : am_cw 88 ∈ am_tab := by rw [cw_88]; exact wq_323
theorem nm_89 : am_nm 89 = yX2_wholeSuit := rfl
theorem cw_89 : am_cw 89 = Cond.code yX2_wholeSuit cX2_wholeSuit 1 (Option.some Jvm.ClassFile.FieldType.int) := rfl
theorem cm_89 : am_cw 89 ∈ am_tab := by rw [cw_89]; exact wq_127
theorem nm_90 : am_nm 90 = yX2_smallest := rfl
theorem cw_90 : am_cw 90 = Cond.code yX2_smallest cX2_smallest 1 (Option.some Jvm.ClassFile.FieldType.int) := rfl
theorem cm_90 : am_cw 90 ∈ am_tab := by rw [cw_90]; exact wq_143
theorem nm_91 : am_nm 91 = yX2_greatest := rfl
theorem cw_91 : am_cw 91 = Cond.code yX2_greatest cX2_greatest 1 (Option.some Jvm.ClassFile.FieldType.int) := rfl
theorem cm_91 : am_cw 91 ∈ am_tab := by rw [cw_91]; exact wq_136
theorem nm_92 : am_nm 92 = yX3_init := rfl
theorem cw_92 : am_cw 92 = Cond.code yX3_init cX3_init 3 (Option.none : Option Jvm.ClassFile.FieldType) := rfl
theorem cm_92 : am_cw 92 ∈ am_tab := by rw [cw_92]; exact wq_418
theorem nm_93 : am_nm 93 = yX3_draw := rfl
theorem cw_93 : am_cw 93 = Cond.code yX3_draw cX3_draw 3 (Option.some Jvm.ClassFile.FieldType.int) := rfl
theorem cm_93 : am_cw 93 ∈ am_tab := by rw [cw_93]; exact wq_578
theorem nm_94 : am_nm 94 = yX3_plus := rfl
theorem cw_94 : am_cw 94 = Cond.code yX3_plus cX3_plus 3 (Option.some (Jvm.ClassFile.FieldType.array Jvm.ClassFile.FieldType.int)) := rfl
theorem cm_94 : am_cw 94 ∈ am_tab := by rw [cw_94]; exact wq_676
theorem nm_95 : am_nm 95 = yX3_count := rfl
theorem cw_95 : am_cw 95 = Cond.code yX3_count cX3_count 7 (Option.some Jvm.ClassFile.FieldType.int) := rfl
theorem cm_95 : am_cw 95 ∈ am_tab := by rw [cw_95]; exact wq_590
theorem nm_96 : am_nm 96 = yX3_begin := rfl
theorem cw_96 : am_cw 96 = Cond.code yX3_begin cX3_begin 4 (Option.some Jvm.ClassFile.FieldType.boolean) := rfl
theorem cm_96 : am_cw 96 ∈ am_tab := by rw [cw_96]; exact wq_594
theorem nm_97 : am_nm 97 = yX3_deal := rfl
theorem cw_97 : am_cw 97 = Cond.code yX3_deal cX3_deal 7 (Option.some Jvm.ClassFile.FieldType.boolean) := rfl
theorem cm_97 : am_cw 97 ∈ am_tab := by rw [cw_97]; exact wq_611
theorem nm_98 : am_nm 98 = yX3_open := rfl
theorem cw_98 : am_cw 98 = Cond.code yX3_open cX3_open 1 (Option.some Jvm.ClassFile.FieldType.boolean) := rfl
theorem cm_98 : am_cw 98 ∈ am_tab := by rw [cw_98]; exact wq_627
theorem nm_99 : am_nm 99 = yX3_canBid := rfl
theorem cw_99 : am_cw 99 = Cond.code yX3_canBid cX3_canBid 7 (Option.some Jvm.ClassFile.FieldType.boolean) := rfl
theorem cm_99 : am_cw 99 ∈ am_tab := by rw [cw_99]; exact wq_651
theorem nm_100 : am_nm 100 = yX3_turn := rfl
theorem cw_100 : am_cw 100 = Cond.code yX3_turn cX3_turn 1 (Option.some Jvm.ClassFile.FieldType.int) := rfl
theorem cm_100 : am_cw 100 ∈ am_tab := by rw [cw_100]; exact wq_642
theorem nm_101 : am_nm 101 = yX3_bid := rfl
theorem cw_101 : am_cw 101 = Cond.codeWith yX3_bid cX3_bid 4 (Option.some Jvm.ClassFile.FieldType.boolean) [((6 : Nat), (20 : Nat), (51 : Nat), (122 : Nat)), ((21 : Nat), (50 : Nat), (51 : Nat), (122 : Nat))] := rfl
theorem cm_101 : am_cw 101 ∈ am_tab := by rw [cw_101]; exact wq_646
theorem nm_102 : am_nm 102 = yX3_conclude := rfl
theorem cw_102 : am_cw 102 = Cond.code yX3_conclude cX3_conclude 7 (Option.none : Option Jvm.ClassFile.FieldType) := rfl
theorem cm_102 : am_cw 102 ∈ am_tab := by rw [cw_102]; exact wq_681
theorem nm_103 : am_nm 103 = yX3_mustFollow := rfl
theorem cw_103 : am_cw 103 = Cond.code yX3_mustFollow cX3_mustFollow 3 (Option.some Jvm.ClassFile.FieldType.boolean) := rfl
theorem cm_103 : am_cw 103 ∈ am_tab := by rw [cw_103]; exact wq_707
theorem nm_104 : am_nm 104 = yX3_isRight := rfl
theorem cw_104 : am_cw 104 = Cond.code yX3_isRight cX3_isRight 3 (Option.some Jvm.ClassFile.FieldType.boolean) := rfl
theorem cm_104 : am_cw 104 ∈ am_tab := by rw [cw_104]; exact wq_703
theorem nm_105 : am_nm 105 = yX3_taker := rfl
theorem cw_105 : am_cw 105 = Cond.code yX3_taker cX3_taker 7 (Option.some Jvm.ClassFile.FieldType.int) := rfl
theorem cm_105 : am_cw 105 ∈ am_tab := by rw [cw_105]; exact wq_719
theorem nm_106 : am_nm 106 = yX3_any := rfl
theorem cw_106 : am_cw 106 = Cond.code yX3_any cX3_any 6 (Option.some Jvm.ClassFile.FieldType.int) := rfl
theorem cm_106 : am_cw 106 ∈ am_tab := by rw [cw_106]; exact wq_699
theorem nm_107 : am_nm 107 = yX3_play := rfl
theorem cw_107 : am_cw 107 = Cond.code yX3_play cX3_play 3 (Option.some Jvm.ClassFile.FieldType.boolean) := rfl
theorem cm_107 : am_cw 107 ∈ am_tab := by rw [cw_107]; exact wq_711
theorem nm_108 : am_nm 108 = yX3_end := rfl
theorem cw_108 : am_cw 108 = Cond.code yX3_end cX3_end 5 (Option.none : Option Jvm.ClassFile.FieldType) := rfl
theorem cm_108 : am_cw 108 ∈ am_tab := by rw [cw_108]; exact wq_715
theorem nm_109 : am_nm 109 = yX3_worth := rfl
theorem cw_109 : am_cw 109 = Cond.code yX3_worth cX3_worth 4 (Option.some Jvm.ClassFile.FieldType.int) := rfl
theorem cm_109 : am_cw 109 ∈ am_tab := by rw [cw_109]; exact wq_726
theorem nm_110 : am_nm 110 = yX3_back := rfl
theorem cw_110 : am_cw 110 = Cond.code yX3_back cX3_back 4 (Option.some Jvm.ClassFile.FieldType.boolean) := rfl
theorem cm_110 : am_cw 110 ∈ am_tab := by rw [cw_110]; exact wq_690
theorem nm_111 : am_nm 111 = yX3_step := rfl
theorem cw_111 : am_cw 111 = Cond.code yX3_step cX3_step 1 (Option.some Jvm.ClassFile.FieldType.boolean) := rfl
theorem cm_111 : am_cw 111 ∈ am_tab := by rw [cw_111]; exact wq_686
theorem nm_112 : am_nm 112 = yL_below := rfl
theorem cw_112 : am_cw 112 = Cond.code yL_below cL_below 2 (Option.some Jvm.ClassFile.FieldType.int) := rfl
theorem cm_112 : am_cw 112 ∈ am_tab := by rw [cw_112]; exact wq_585
theorem nm_113 : am_nm 113 = yL_cell := rfl
theorem cw_113 : am_cw 113 = Cond.code yL_cell cL_cell 2 (Option.some Jvm.ClassFile.FieldType.int) := rfl
theorem cm_113 : am_cw 113 ∈ am_tab := by rw [cw_113]; exact wq_581
theorem nm_148 : am_nm 148 = yJ6_numberOfLeadingZeros_0f7a4 := rfl
theorem cw_148 : am_cw 148 = Cond.code yJ6_numberOfLeadingZeros_0f7a4 cJ6_numberOfLeadingZeros_0f7a4 2 (Option.some Jvm.ClassFile.FieldType.int) := rfl
theorem cm_148 : am_cw 148 ∈ am_tab := by rw [cw_148]; exact wq_139
theorem nm_149 : am_nm 149 = yJ6_numberOfTrailingZeros_0f7a4 := rfl
theorem cw_149 : am_cw 149 = Cond.code yJ6_numberOfTrailingZeros_0f7a4 cJ6_numberOfTrailingZeros_0f7a4 2 (Option.some Jvm.ClassFile.FieldType.int) := rfl
theorem cm_149 : am_cw 149 ∈ am_tab := by rw [cw_149]; exact wq_146
theorem nm_150 : am_nm 150 = yJ6_bitCount_0f7a4 := rfl
theorem cw_150 : am_cw 150 = Cond.code yJ6_bitCount_0f7a4 cJ6_bitCount_0f7a4 1 (Option.some Jvm.ClassFile.FieldType.int) := rfl
theorem cm_150 : am_cw 150 ∈ am_tab := by rw [cw_150]; exact wq_130
/-- a table switch from 0 on -/
theorem am_sw_out {K : Nat → Prop} {x : Int32} {dd : Nat} : ∀ {ts : List (Int32 × Nat)}, am_sw K x dd ts → (∃ (j : Nat) (v : Int32) (t : Nat), ts[j]? = some (v, t) ∧ x = v ∧ K t) ∨ ((∀ (j : Nat) (v : Int32) (t : Nat), ts[j]? = some (v, t) → ¬ x = v) ∧ K dd)
  | [], h => Or.inr ⟨fun j v t h => by simp at h, h⟩
  | (v, t) :: ts, h => by
    by_cases hv : x = v
    · exact Or.inl ⟨0, v, t, rfl, hv, h.1 hv⟩
    · rcases am_sw_out (h.2 hv) with ⟨j, v', t', a, b, c⟩ | ⟨a, b⟩
      · exact Or.inl ⟨j + 1, v', t', by simpa using a, b, c⟩
      · refine Or.inr ⟨fun j v' t' hj => ?_, b⟩
        cases j with
        | zero =>
          simp at hj
          rw [← hj.1]
          exact hv
        | succ j => exact a j v' t' (by simpa using hj)
theorem am_tsw {p : Program} {l : Launch} {e : Env} {R : Room} {s : State} {m : MethodId} {args : Array Value} {below : List Frame} {meth : Method} {c : Code} {H : Heap} {locs : List Loc} {cells slots : Nat} {Z : State → Prop} {pc : Nat} {ls : Array Slot} {rest : List Value} {cc : ByteArray} (hx : p.tables.exec = Jvm.exec) (hb : c.code = cc) {dflt hi : Int} {offs : Array Int} {len dd : Nat} {x : Int32} {ts : List (Int32 × Nat)} (hdg : decode cc pc = .ok (.tableswitch dflt 0 hi offs, len))
    (h1 : hi.toNat + 1 = ts.length ∧ 0 ≤ hi) (h2 : ∀ j, j < ts.length → (ts[j]?).map (fun q => ((q.1.toInt, q.1), offs[j]?.map (fun o => (pc : Int) + o))) = (ts[j]?).map (fun q => (((j : Int), Int32.ofNat j), some (q.2 : Int)))) (h3 : (pc : Int) + dflt = (dd : Int))
    (k : am_sw (fun t => W p l e R s m args below meth c H locs cells slots Z (F0 m t ls rest)) x dd ts) : W p l e R s m args below meth c H locs cells slots Z (F0 m pc ls (.int x :: rest)) := by
  rcases am_sw_out k with ⟨j, v, t, hj, hv, hk⟩ | ⟨hn, hk⟩
  · have hjl := (List.getElem?_eq_some_iff.mp hj).1
    have hq := h2 j hjl
    rw [hj] at hq
    simp only [Option.map_some, Option.some.injEq, Prod.mk.injEq] at hq
    obtain ⟨⟨ha, -⟩, hb2⟩ := hq
    cases ho : offs[j]? with
    | none => rw [ho] at hb2; cases hb2
    | some o =>
      rw [ho] at hb2
      simp only [Option.map_some, Option.some.injEq] at hb2
      subst hv
      refine lv_tableIn hx hb hdg (by omega) (by omega) (off := o) ?_ hb2 hk
      rw [ha]
      simpa using ho
  · by_cases hr : x.toInt < 0 ∨ hi < x.toInt
    · exact lv_tableOut hx hb hdg hr h3 hk
    · exfalso
      obtain ⟨j, hj⟩ : ∃ j : Nat, x.toInt = j := ⟨x.toInt.toNat, by omega⟩
      have hjl : j < ts.length := by omega
      cases hq : ts[j]? with
      | none => exact absurd (List.getElem?_eq_none_iff.mp hq) (by omega)
      | some q =>
        have h9 := h2 j hjl
        rw [hq] at h9
        simp only [Option.map_some, Option.some.injEq, Prod.mk.injEq] at h9
        refine hn j q.1 q.2 hq ?_
        exact Int32.toInt_inj.mp (by rw [h9.1.1]; exact hj)
