def lw_privs_1 : List (MethodName × Nat) := [(⟨"EnumerativeCoder$Desk", "binomial", "(II)J"⟩, 6), (⟨"EnumerativeCoder", "choose", "(LEnumerativeCoder$Family;)I"⟩, 5), (⟨"EnumerativeCoder$Arrangements", "layOutLetters", "([I)V"⟩, 7), (⟨"EnumerativeCoder$Desk", "arrangements", "(IIII)J"⟩, 6), (⟨"EnumerativeCoder$Desk", "partitions", "(II)I"⟩, 6), (⟨"EnumerativeCoder$Permutations", "layPlain", "(J[I)V"⟩, 4), (⟨"EnumerativeCoder$Permutations", "freePlace", "([II)I"⟩, 4), (⟨"EnumerativeCoder$Permutations", "layLexicographic", "(J[I)V"⟩, 4), (⟨"EnumerativeCoder$Subsets", "layLexicographic", "(J[ILEnumerativeCoder$Desk;)V"⟩, 5), (⟨"EnumerativeCoder$Desk", "trees", "(I)J"⟩, 6), (⟨"EnumerativeCoder$Desk", "wordEnds", "(III)J"⟩, 6), (⟨"EnumerativeCoder$Words", "waysAfter", "(IIIJLEnumerativeCoder$Desk;)J"⟩, 5), (⟨"EnumerativeCoder", "takeDraft", "()Z"⟩, 5), (⟨"EnumerativeCoder", "wordsOf", "(II)LEnumerativeCoder$Family;"⟩, 5), (⟨"EnumerativeCoder", "treesOf", "(I)LEnumerativeCoder$Family;"⟩, 5), (⟨"EnumerativeCoder", "holdsObject", "()Z"⟩, 5)]
def lw_privs_2 : List (MethodName × Nat) := [(⟨"EnumerativeCoder$Permutations", "plainPlace", "([I)J"⟩, 4), (⟨"EnumerativeCoder$Permutations", "lessBefore", "([II)I"⟩, 4), (⟨"EnumerativeCoder$Permutations", "lexicographicPlace", "([I)J"⟩, 4), (⟨"EnumerativeCoder$Subsets", "lexicographicPlace", "([ILEnumerativeCoder$Desk;)J"⟩, 5), (⟨"EnumerativeCoder", "layDown", "(J)Z"⟩, 5), (⟨"EnumerativeCoder$Archive", "hasRoomFor", "(J)Z"⟩, 4), (⟨"EnumerativeCoder$Archive", "append", "(LEnumerativeCoder$Family;J)I"⟩, 4), (⟨"EnumerativeCoder$Archive", "keep", "(ILEnumerativeCoder$Family;J)V"⟩, 4), (⟨"EnumerativeCoder$Archive", "familyAt", "(I)LEnumerativeCoder$Family;"⟩, 4), (⟨"EnumerativeCoder$Archive", "placeAt", "(I)J"⟩, 4), (⟨"EnumerativeCoder$Archive", "dropAll", "()I"⟩, 4), (⟨"EnumerativeCoder$Archive", "packed", "()J"⟩, 4), (⟨"EnumerativeCoder$Archive", "sizeAt", "(I)J"⟩, 4), (⟨"EnumerativeCoder$Archive", "unpack", "(J)I"⟩, 4), (⟨"EnumerativeCoder$Archive", "arrange", "()Z"⟩, 4), (⟨"EnumerativeCoder$Archive", "compareEntries", "(II)I"⟩, 4)]
def lw_privs_3 : List (MethodName × Nat) := [(⟨"EnumerativeCoder$Archive", "exchange", "(II)V"⟩, 4), (⟨"EnumerativeCoderModel", "layParted", "()V"⟩, 17), (⟨"EnumerativeCoderModel", "layClosed", "()V"⟩, 17), (⟨"EnumerativeCoderModel", "select", "(IIIII)I"⟩, 17), (⟨"EnumerativeCoderModel", "turnsTo", "(IIIII)V"⟩, 17), (⟨"EnumerativeCoderModel", "makes", "(J)V"⟩, 17), (⟨"EnumerativeCoderModel", "makesSubset", "(J)V"⟩, 17), (⟨"EnumerativeCoderModel", "choose", "(II)J"⟩, 17), (⟨"EnumerativeCoderModel", "makesPermutation", "(J)V"⟩, 17), (⟨"EnumerativeCoderModel", "insert", "(III)V"⟩, 17), (⟨"EnumerativeCoderModel", "makesWord", "(J)V"⟩, 17), (⟨"EnumerativeCoderModel", "waysOn", "(III)J"⟩, 17), (⟨"EnumerativeCoderModel", "makesTree", "(J)V"⟩, 17), (⟨"EnumerativeCoderModel", "makesPartition", "(J)V"⟩, 17), (⟨"EnumerativeCoderModel", "makesArrangement", "(J)V"⟩, 17), (⟨"EnumerativeCoderModel", "leaveAll", "()V"⟩, 17)]
def lw_privs_4 : List (MethodName × Nat) := [(⟨"EnumerativeCoderModel", "longNow", "()I"⟩, 17), (⟨"EnumerativeCoderModel", "waysWithout", "(I)J"⟩, 17), (⟨"EnumerativeCoderModel", "arranged", "(IIII)J"⟩, 17), (⟨"EnumerativeCoderModel", "stores", "()Z"⟩, 17), (⟨"EnumerativeCoderModel", "manyNow", "()J"⟩, 17), (⟨"EnumerativeCoderModel", "countOf", "(IIIII)J"⟩, 17), (⟨"EnumerativeCoderModel", "isGood", "()Z"⟩, 17), (⟨"EnumerativeCoderModel", "isSubset", "()Z"⟩, 17), (⟨"EnumerativeCoderModel", "isPermutation", "()Z"⟩, 17), (⟨"EnumerativeCoderModel", "isWord", "()Z"⟩, 17), (⟨"EnumerativeCoderModel", "isTree", "()Z"⟩, 17), (⟨"EnumerativeCoderModel", "isPartition", "()Z"⟩, 17), (⟨"EnumerativeCoderModel", "manyIn", "(I)I"⟩, 17), (⟨"EnumerativeCoderModel", "rankNow", "()J"⟩, 17), (⟨"EnumerativeCoderModel", "subsetRank", "()J"⟩, 17), (⟨"EnumerativeCoderModel", "permutationRank", "()J"⟩, 17)]
def lw_privs_5 : List (MethodName × Nat) := [(⟨"EnumerativeCoderModel", "placeAmong", "(I)I"⟩, 17), (⟨"EnumerativeCoderModel", "lessBehind", "(I)I"⟩, 17), (⟨"EnumerativeCoderModel", "wordRank", "()J"⟩, 17), (⟨"EnumerativeCoderModel", "treeRank", "()J"⟩, 17), (⟨"EnumerativeCoderModel", "partitionRank", "()J"⟩, 17), (⟨"EnumerativeCoderModel", "arrangementRank", "()J"⟩, 17), (⟨"EnumerativeCoderModel", "complements", "()Z"⟩, 17), (⟨"EnumerativeCoderModel", "inverts", "()V"⟩, 17), (⟨"EnumerativeCoderModel", "mirrorsWord", "()V"⟩, 17), (⟨"EnumerativeCoderModel", "mirrorsTree", "()V"⟩, 17), (⟨"EnumerativeCoderModel", "conjugates", "()V"⟩, 17), (⟨"EnumerativeCoderModel", "reverses", "()V"⟩, 17), (⟨"EnumerativeCoderModel", "closeOf", "(I)I"⟩, 17), (⟨"EnumerativeCoderModel", "totalNow", "()J"⟩, 17), (⟨"EnumerativeCoderModel", "entryCount", "(I)J"⟩, 17), (⟨"EnumerativeCoderModel", "isBehind", "(I)Z"⟩, 17)]
def lw_privs_6 : List (MethodName × Nat) := [(⟨"EnumerativeCoderModel", "exchange", "(I)V"⟩, 17)]
def lw_privs : List (MethodName × Nat) := lw_privs_1 ++ (lw_privs_2 ++ (lw_privs_3 ++ (lw_privs_4 ++ (lw_privs_5 ++ (lw_privs_6)))))
def lw_tbl : List Cond := k2_sels lw_privs ++ tables_1
def RX0 : String := "EnumerativeCoder$Archive"
def TX0 : u_T := fun k => match k with
  | 0 => ("EnumerativeCoder$Archive", "families", "[LEnumerativeCoder$Family;", true)
  | 1 => ("EnumerativeCoder$Archive", "places", "[J", true)
  | 2 => ("EnumerativeCoder$Archive", "used", "I", false)
  | _ => ("EnumerativeCoder$Archive", "product", "J", false)
def tyX0 : Nat → FieldType := fun k => match k with
  | 0 => .array (.object "EnumerativeCoder$Family")
  | 1 => .array .long
  | 2 => .int
  | _ => .long
abbrev wsX00 : List Cond := u_ws RX0 TX0 4
theorem nmX0 : ∀ a, a < 4 → ∀ b, b < 4 → a ≠ b → (TX0 a).2.1 ≠ (TX0 b).2.1 := by decide +kernel
theorem tyX0_ok : ∀ k, k < 4 → parseFieldDescriptor (TX0 k).2.2.1 = some (tyX0 k) := by decide +kernel
abbrev cX0_init : ByteArray := prog_2_method_1_code
def yX0_init : MethodName := ⟨RX0, "<init>", "()V"⟩
abbrev cX0_hasRoomFor : ByteArray := prog_2_method_2_code
def yX0_hasRoomFor : MethodName := ⟨RX0, "hasRoomFor", "(J)Z"⟩
abbrev cX0_append : ByteArray := prog_2_method_3_code
def yX0_append : MethodName := ⟨RX0, "append", "(LEnumerativeCoder$Family;J)I"⟩
abbrev cX0_keep : ByteArray := prog_2_method_4_code
def yX0_keep : MethodName := ⟨RX0, "keep", "(ILEnumerativeCoder$Family;J)V"⟩
abbrev cX0_familyAt : ByteArray := prog_2_method_5_code
def yX0_familyAt : MethodName := ⟨RX0, "familyAt", "(I)LEnumerativeCoder$Family;"⟩
abbrev cX0_placeAt : ByteArray := prog_2_method_6_code
def yX0_placeAt : MethodName := ⟨RX0, "placeAt", "(I)J"⟩
abbrev cX0_sizeAt : ByteArray := prog_2_method_7_code
def yX0_sizeAt : MethodName := ⟨RX0, "sizeAt", "(I)J"⟩
abbrev cX0_dropAll : ByteArray := prog_2_method_8_code
def yX0_dropAll : MethodName := ⟨RX0, "dropAll", "()I"⟩
abbrev cX0_packed : ByteArray := prog_2_method_9_code
def yX0_packed : MethodName := ⟨RX0, "packed", "()J"⟩
abbrev cX0_unpack : ByteArray := prog_2_method_10_code
def yX0_unpack : MethodName := ⟨RX0, "unpack", "(J)I"⟩
abbrev cX0_arrange : ByteArray := prog_2_method_11_code
def yX0_arrange : MethodName := ⟨RX0, "arrange", "()Z"⟩
abbrev cX0_exchange : ByteArray := prog_2_method_12_code
def yX0_exchange : MethodName := ⟨RX0, "exchange", "(II)V"⟩
abbrev cX0_compareEntries : ByteArray := prog_2_method_13_code
def yX0_compareEntries : MethodName := ⟨RX0, "compareEntries", "(II)I"⟩
def RX1 : String := "EnumerativeCoder$Arrangements"
def TX1 : u_T := fun k => match k with
  | 0 => ("EnumerativeCoder$Family", "number", "I", true)
  | 1 => ("EnumerativeCoder$Family", "width", "I", true)
  | 2 => ("EnumerativeCoder$Family", "size", "J", true)
  | 3 => ("EnumerativeCoder$Arrangements", "zeros", "I", true)
  | 4 => ("EnumerativeCoder$Arrangements", "ones", "I", true)
  | 5 => ("EnumerativeCoder$Arrangements", "twos", "I", true)
  | _ => ("EnumerativeCoder$Arrangements", "threes", "I", true)
def tyX1 : Nat → FieldType := fun k => match k with
  | 0 => .int
  | 1 => .int
  | 2 => .long
  | 3 => .int
  | 4 => .int
  | 5 => .int
  | _ => .int
abbrev wsX10 : List Cond := u_ws RX1 TX1 7
theorem nmX1 : ∀ a, a < 7 → ∀ b, b < 7 → a ≠ b → (TX1 a).2.1 ≠ (TX1 b).2.1 := by decide +kernel
theorem tyX1_ok : ∀ k, k < 7 → parseFieldDescriptor (TX1 k).2.2.1 = some (tyX1 k) := by decide +kernel
abbrev cX1_init : ByteArray := prog_3_method_1_code
def yX1_init : MethodName := ⟨RX1, "<init>", "(IIIIJ)V"⟩
abbrev cX1_setting : ByteArray := prog_3_method_2_code
def yX1_setting : MethodName := ⟨RX1, "setting", "(I)I"⟩
abbrev cX1_layOutLetters : ByteArray := prog_3_method_3_code
def yX1_layOutLetters : MethodName := ⟨RX1, "layOutLetters", "([I)V"⟩
abbrev cX1_accepts : ByteArray := prog_3_method_4_code
def yX1_accepts : MethodName := ⟨RX1, "accepts", "([ILEnumerativeCoder$Desk;)Z"⟩
abbrev cX1_placeOf : ByteArray := prog_3_method_5_code
def yX1_placeOf : MethodName := ⟨RX1, "placeOf", "([ILEnumerativeCoder$Desk;)J"⟩
abbrev cX1_change : ByteArray := prog_3_method_6_code
def yX1_change : MethodName := ⟨RX1, "change", "([III)V"⟩
abbrev cX1_waysAfter : ByteArray := prog_3_method_7_code
def yX1_waysAfter : MethodName := ⟨RX1, "waysAfter", "(ILEnumerativeCoder$Desk;)J"⟩
abbrev cX1_lay : ByteArray := prog_3_method_8_code
def yX1_lay : MethodName := ⟨RX1, "lay", "(J[ILEnumerativeCoder$Desk;)V"⟩
abbrev cX1_turn : ByteArray := prog_3_method_9_code
def yX1_turn : MethodName := ⟨RX1, "turn", "([I[ILEnumerativeCoder$Desk;)V"⟩
def RX2 : String := "EnumerativeCoder$Desk"
def TX2 : u_T := fun k => match k with
  | 0 => ("EnumerativeCoder$Desk", "binomials", "[J", true)
  | 1 => ("EnumerativeCoder$Desk", "partitionCounts", "[I", true)
  | 2 => ("EnumerativeCoder$Desk", "sizes", "[I", true)
  | 3 => ("EnumerativeCoder$Desk", "starts", "[I", true)
  | 4 => ("EnumerativeCoder$Desk", "ranks", "[J", true)
  | _ => ("EnumerativeCoder$Desk", "letters", "[I", true)
def tyX2 : Nat → FieldType := fun k => match k with
  | 0 => .array .long
  | 1 => .array .int
  | 2 => .array .int
  | 3 => .array .int
  | 4 => .array .long
  | _ => .array .int
abbrev wsX20 : List Cond := u_ws RX2 TX2 6
theorem nmX2 : ∀ a, a < 6 → ∀ b, b < 6 → a ≠ b → (TX2 a).2.1 ≠ (TX2 b).2.1 := by decide +kernel
theorem tyX2_ok : ∀ k, k < 6 → parseFieldDescriptor (TX2 k).2.2.1 = some (tyX2 k) := by decide +kernel
abbrev cX2_init : ByteArray := prog_4_method_1_code
def yX2_init : MethodName := ⟨RX2, "<init>", "()V"⟩
abbrev cX2_spot : ByteArray := prog_4_method_2_code
def yX2_spot : MethodName := ⟨RX2, "spot", "(II)I"⟩
abbrev cX2_binomialTriangle : ByteArray := prog_4_method_3_code
def yX2_binomialTriangle : MethodName := ⟨RX2, "binomialTriangle", "()[J"⟩
abbrev cX2_partitionTriangle : ByteArray := prog_4_method_4_code
def yX2_partitionTriangle : MethodName := ⟨RX2, "partitionTriangle", "()[I"⟩
abbrev cX2_binomial : ByteArray := prog_4_method_5_code
def yX2_binomial : MethodName := ⟨RX2, "binomial", "(II)J"⟩
abbrev cX2_partitions : ByteArray := prog_4_method_6_code
def yX2_partitions : MethodName := ⟨RX2, "partitions", "(II)I"⟩
abbrev cX2_wordEnds : ByteArray := prog_4_method_7_code
def yX2_wordEnds : MethodName := ⟨RX2, "wordEnds", "(III)J"⟩
abbrev cX2_trees : ByteArray := prog_4_method_8_code
def yX2_trees : MethodName := ⟨RX2, "trees", "(I)J"⟩
abbrev cX2_arrangements : ByteArray := prog_4_method_9_code
def yX2_arrangements : MethodName := ⟨RX2, "arrangements", "(IIII)J"⟩
def RX3 : String := "EnumerativeCoder$Family"
def TX3 : u_T := fun k => match k with
  | _ => ("", "", "", false)
def tyX3 : Nat → FieldType := fun k => match k with
  | _ => .int
abbrev wsX30 : List Cond := u_ws RX3 TX3 0
theorem nmX3 : ∀ a, a < 0 → ∀ b, b < 0 → a ≠ b → (TX3 a).2.1 ≠ (TX3 b).2.1 := by decide +kernel
theorem tyX3_ok : ∀ k, k < 0 → parseFieldDescriptor (TX3 k).2.2.1 = some (tyX3 k) := by decide +kernel
abbrev cX3_init : ByteArray := prog_5_method_1_code
def yX3_init : MethodName := ⟨RX3, "<init>", "(IIJ)V"⟩
abbrev cX3_turnedFamily : ByteArray := prog_5_method_7_code
def yX3_turnedFamily : MethodName := ⟨RX3, "turnedFamily", "()LEnumerativeCoder$Family;"⟩
def RX4 : String := "EnumerativeCoder$Partitions"
def TX4 : u_T := fun k => match k with
  | 0 => ("EnumerativeCoder$Family", "number", "I", true)
  | 1 => ("EnumerativeCoder$Family", "width", "I", true)
  | 2 => ("EnumerativeCoder$Family", "size", "J", true)
  | _ => ("EnumerativeCoder$Partitions", "greatest", "I", true)
def tyX4 : Nat → FieldType := fun k => match k with
  | 0 => .int
  | 1 => .int
  | 2 => .long
  | _ => .int
abbrev wsX40 : List Cond := u_ws RX4 TX4 4
theorem nmX4 : ∀ a, a < 4 → ∀ b, b < 4 → a ≠ b → (TX4 a).2.1 ≠ (TX4 b).2.1 := by decide +kernel
theorem tyX4_ok : ∀ k, k < 4 → parseFieldDescriptor (TX4 k).2.2.1 = some (tyX4 k) := by decide +kernel
abbrev cX4_init : ByteArray := prog_6_method_1_code
def yX4_init : MethodName := ⟨RX4, "<init>", "(IIJ)V"⟩
abbrev cX4_setting : ByteArray := prog_6_method_2_code
def yX4_setting : MethodName := ⟨RX4, "setting", "(I)I"⟩
abbrev cX4_accepts : ByteArray := prog_6_method_3_code
def yX4_accepts : MethodName := ⟨RX4, "accepts", "([ILEnumerativeCoder$Desk;)Z"⟩
abbrev cX4_placeOf : ByteArray := prog_6_method_4_code
def yX4_placeOf : MethodName := ⟨RX4, "placeOf", "([ILEnumerativeCoder$Desk;)J"⟩
abbrev cX4_lay : ByteArray := prog_6_method_5_code
def yX4_lay : MethodName := ⟨RX4, "lay", "(J[ILEnumerativeCoder$Desk;)V"⟩
abbrev cX4_turn : ByteArray := prog_6_method_6_code
def yX4_turn : MethodName := ⟨RX4, "turn", "([I[ILEnumerativeCoder$Desk;)V"⟩
def RX5 : String := "EnumerativeCoder$Permutations"
def TX5 : u_T := fun k => match k with
  | 0 => ("EnumerativeCoder$Family", "number", "I", true)
  | 1 => ("EnumerativeCoder$Family", "width", "I", true)
  | 2 => ("EnumerativeCoder$Family", "size", "J", true)
  | _ => ("EnumerativeCoder$Permutations", "order", "I", true)
def tyX5 : Nat → FieldType := fun k => match k with
  | 0 => .int
  | 1 => .int
  | 2 => .long
  | _ => .int
abbrev wsX50 : List Cond := u_ws RX5 TX5 4
theorem nmX5 : ∀ a, a < 4 → ∀ b, b < 4 → a ≠ b → (TX5 a).2.1 ≠ (TX5 b).2.1 := by decide +kernel
theorem tyX5_ok : ∀ k, k < 4 → parseFieldDescriptor (TX5 k).2.2.1 = some (tyX5 k) := by decide +kernel
abbrev cX5_init : ByteArray := prog_7_method_1_code
def yX5_init : MethodName := ⟨RX5, "<init>", "(IIJ)V"⟩
abbrev cX5_factorial : ByteArray := prog_7_method_2_code
def yX5_factorial : MethodName := ⟨RX5, "factorial", "(I)J"⟩
abbrev cX5_setting : ByteArray := prog_7_method_3_code
def yX5_setting : MethodName := ⟨RX5, "setting", "(I)I"⟩
abbrev cX5_accepts : ByteArray := prog_7_method_4_code
def yX5_accepts : MethodName := ⟨RX5, "accepts", "([ILEnumerativeCoder$Desk;)Z"⟩
abbrev cX5_placeOf : ByteArray := prog_7_method_5_code
def yX5_placeOf : MethodName := ⟨RX5, "placeOf", "([ILEnumerativeCoder$Desk;)J"⟩
abbrev cX5_lexicographicPlace : ByteArray := prog_7_method_6_code
def yX5_lexicographicPlace : MethodName := ⟨RX5, "lexicographicPlace", "([I)J"⟩
abbrev cX5_plainPlace : ByteArray := prog_7_method_7_code
def yX5_plainPlace : MethodName := ⟨RX5, "plainPlace", "([I)J"⟩
abbrev cX5_lessBefore : ByteArray := prog_7_method_8_code
def yX5_lessBefore : MethodName := ⟨RX5, "lessBefore", "([II)I"⟩
abbrev cX5_plainTurn : ByteArray := prog_7_method_9_code
def yX5_plainTurn : MethodName := ⟨RX5, "plainTurn", "(JII)I"⟩
abbrev cX5_lay : ByteArray := prog_7_method_10_code
def yX5_lay : MethodName := ⟨RX5, "lay", "(J[ILEnumerativeCoder$Desk;)V"⟩
abbrev cX5_layLexicographic : ByteArray := prog_7_method_11_code
def yX5_layLexicographic : MethodName := ⟨RX5, "layLexicographic", "(J[I)V"⟩
abbrev cX5_layPlain : ByteArray := prog_7_method_12_code
def yX5_layPlain : MethodName := ⟨RX5, "layPlain", "(J[I)V"⟩
abbrev cX5_freePlace : ByteArray := prog_7_method_13_code
def yX5_freePlace : MethodName := ⟨RX5, "freePlace", "([II)I"⟩
abbrev cX5_turn : ByteArray := prog_7_method_14_code
def yX5_turn : MethodName := ⟨RX5, "turn", "([I[ILEnumerativeCoder$Desk;)V"⟩
def RX6 : String := "EnumerativeCoder$Subsets"
def TX6 : u_T := fun k => match k with
  | 0 => ("EnumerativeCoder$Family", "number", "I", true)
  | 1 => ("EnumerativeCoder$Family", "width", "I", true)
  | 2 => ("EnumerativeCoder$Family", "size", "J", true)
  | 3 => ("EnumerativeCoder$Subsets", "n", "I", true)
  | _ => ("EnumerativeCoder$Subsets", "order", "I", true)
def tyX6 : Nat → FieldType := fun k => match k with
  | 0 => .int
  | 1 => .int
  | 2 => .long
  | 3 => .int
  | _ => .int
abbrev wsX60 : List Cond := u_ws RX6 TX6 5
theorem nmX6 : ∀ a, a < 5 → ∀ b, b < 5 → a ≠ b → (TX6 a).2.1 ≠ (TX6 b).2.1 := by decide +kernel
theorem tyX6_ok : ∀ k, k < 5 → parseFieldDescriptor (TX6 k).2.2.1 = some (tyX6 k) := by decide +kernel
abbrev cX6_init : ByteArray := prog_8_method_1_code
def yX6_init : MethodName := ⟨RX6, "<init>", "(IIIJ)V"⟩
abbrev cX6_setting : ByteArray := prog_8_method_2_code
def yX6_setting : MethodName := ⟨RX6, "setting", "(I)I"⟩
abbrev cX6_accepts : ByteArray := prog_8_method_3_code
def yX6_accepts : MethodName := ⟨RX6, "accepts", "([ILEnumerativeCoder$Desk;)Z"⟩
abbrev cX6_placeOf : ByteArray := prog_8_method_4_code
def yX6_placeOf : MethodName := ⟨RX6, "placeOf", "([ILEnumerativeCoder$Desk;)J"⟩
abbrev cX6_lexicographicPlace : ByteArray := prog_8_method_5_code
def yX6_lexicographicPlace : MethodName := ⟨RX6, "lexicographicPlace", "([ILEnumerativeCoder$Desk;)J"⟩
abbrev cX6_lay : ByteArray := prog_8_method_6_code
def yX6_lay : MethodName := ⟨RX6, "lay", "(J[ILEnumerativeCoder$Desk;)V"⟩
abbrev cX6_layLexicographic : ByteArray := prog_8_method_7_code
def yX6_layLexicographic : MethodName := ⟨RX6, "layLexicographic", "(J[ILEnumerativeCoder$Desk;)V"⟩
abbrev cX6_turn : ByteArray := prog_8_method_8_code
def yX6_turn : MethodName := ⟨RX6, "turn", "([I[ILEnumerativeCoder$Desk;)V"⟩
abbrev cX6_turnedFamily : ByteArray := prog_8_method_9_code
def yX6_turnedFamily : MethodName := ⟨RX6, "turnedFamily", "()LEnumerativeCoder$Family;"⟩
def RX7 : String := "EnumerativeCoder$Trees"
def TX7 : u_T := fun k => match k with
  | 0 => ("EnumerativeCoder$Family", "number", "I", true)
  | 1 => ("EnumerativeCoder$Family", "width", "I", true)
  | _ => ("EnumerativeCoder$Family", "size", "J", true)
def tyX7 : Nat → FieldType := fun k => match k with
  | 0 => .int
  | 1 => .int
  | _ => .long
abbrev wsX70 : List Cond := u_ws RX7 TX7 3
theorem nmX7 : ∀ a, a < 3 → ∀ b, b < 3 → a ≠ b → (TX7 a).2.1 ≠ (TX7 b).2.1 := by decide +kernel
theorem tyX7_ok : ∀ k, k < 3 → parseFieldDescriptor (TX7 k).2.2.1 = some (tyX7 k) := by decide +kernel
abbrev cX7_init : ByteArray := prog_9_method_1_code
def yX7_init : MethodName := ⟨RX7, "<init>", "(IJ)V"⟩
abbrev cX7_setting : ByteArray := prog_9_method_2_code
def yX7_setting : MethodName := ⟨RX7, "setting", "(I)I"⟩
abbrev cX7_accepts : ByteArray := prog_9_method_3_code
def yX7_accepts : MethodName := ⟨RX7, "accepts", "([ILEnumerativeCoder$Desk;)Z"⟩
abbrev cX7_measure : ByteArray := prog_9_method_4_code
def yX7_measure : MethodName := ⟨RX7, "measure", "([II[I)Z"⟩
abbrev cX7_splitSize : ByteArray := prog_9_method_5_code
def yX7_splitSize : MethodName := ⟨RX7, "splitSize", "([III)V"⟩
abbrev cX7_placeOf : ByteArray := prog_9_method_6_code
def yX7_placeOf : MethodName := ⟨RX7, "placeOf", "([ILEnumerativeCoder$Desk;)J"⟩
abbrev cX7_lay : ByteArray := prog_9_method_7_code
def yX7_lay : MethodName := ⟨RX7, "lay", "(J[ILEnumerativeCoder$Desk;)V"⟩
abbrev cX7_splitRank : ByteArray := prog_9_method_8_code
def yX7_splitRank : MethodName := ⟨RX7, "splitRank", "(LEnumerativeCoder$Desk;IIJ)V"⟩
abbrev cX7_turn : ByteArray := prog_9_method_9_code
def yX7_turn : MethodName := ⟨RX7, "turn", "([I[ILEnumerativeCoder$Desk;)V"⟩
abbrev cX7_spell : ByteArray := prog_9_method_10_code
def yX7_spell : MethodName := ⟨RX7, "spell", "([II[ILEnumerativeCoder$Desk;)V"⟩
def RX8 : String := "EnumerativeCoder$Words"
def TX8 : u_T := fun k => match k with
  | 0 => ("EnumerativeCoder$Family", "number", "I", true)
  | 1 => ("EnumerativeCoder$Family", "width", "I", true)
  | 2 => ("EnumerativeCoder$Family", "size", "J", true)
  | 3 => ("EnumerativeCoder$Words", "pairs", "I", true)
  | _ => ("EnumerativeCoder$Words", "types", "I", true)
def tyX8 : Nat → FieldType := fun k => match k with
  | 0 => .int
  | 1 => .int
  | 2 => .long
  | 3 => .int
  | _ => .int
abbrev wsX80 : List Cond := u_ws RX8 TX8 5
theorem nmX8 : ∀ a, a < 5 → ∀ b, b < 5 → a ≠ b → (TX8 a).2.1 ≠ (TX8 b).2.1 := by decide +kernel
theorem tyX8_ok : ∀ k, k < 5 → parseFieldDescriptor (TX8 k).2.2.1 = some (tyX8 k) := by decide +kernel
abbrev cX8_init : ByteArray := prog_10_method_1_code
def yX8_init : MethodName := ⟨RX8, "<init>", "(IIJ)V"⟩
abbrev cX8_setting : ByteArray := prog_10_method_2_code
def yX8_setting : MethodName := ⟨RX8, "setting", "(I)I"⟩
abbrev cX8_isOpening : ByteArray := prog_10_method_3_code
def yX8_isOpening : MethodName := ⟨RX8, "isOpening", "(I)Z"⟩
abbrev cX8_openAfter : ByteArray := prog_10_method_4_code
def yX8_openAfter : MethodName := ⟨RX8, "openAfter", "(JI)J"⟩
abbrev cX8_depthAfter : ByteArray := prog_10_method_5_code
def yX8_depthAfter : MethodName := ⟨RX8, "depthAfter", "(II)I"⟩
abbrev cX8_mayFollow : ByteArray := prog_10_method_6_code
def yX8_mayFollow : MethodName := ⟨RX8, "mayFollow", "(IIJ)Z"⟩
abbrev cX8_waysAfter : ByteArray := prog_10_method_7_code
def yX8_waysAfter : MethodName := ⟨RX8, "waysAfter", "(IIIJLEnumerativeCoder$Desk;)J"⟩
abbrev cX8_accepts : ByteArray := prog_10_method_8_code
def yX8_accepts : MethodName := ⟨RX8, "accepts", "([ILEnumerativeCoder$Desk;)Z"⟩
abbrev cX8_placeOf : ByteArray := prog_10_method_9_code
def yX8_placeOf : MethodName := ⟨RX8, "placeOf", "([ILEnumerativeCoder$Desk;)J"⟩
abbrev cX8_lay : ByteArray := prog_10_method_10_code
def yX8_lay : MethodName := ⟨RX8, "lay", "(J[ILEnumerativeCoder$Desk;)V"⟩
abbrev cX8_turn : ByteArray := prog_10_method_11_code
def yX8_turn : MethodName := ⟨RX8, "turn", "([I[ILEnumerativeCoder$Desk;)V"⟩
abbrev cX8_grow : ByteArray := prog_10_method_12_code
def yX8_grow : MethodName := ⟨RX8, "grow", "([II[ILEnumerativeCoder$Desk;)V"⟩
def RX9 : String := "EnumerativeCoder"
def TX9 : u_T := fun k => match k with
  | 0 => ("EnumerativeCoder", "buffer", "[I", true)
  | 1 => ("EnumerativeCoder", "draft", "[I", true)
  | 2 => ("EnumerativeCoder", "desk", "LEnumerativeCoder$Desk;", true)
  | 3 => ("EnumerativeCoder", "archive", "LEnumerativeCoder$Archive;", true)
  | _ => ("EnumerativeCoder", "present", "LEnumerativeCoder$Family;", false)
def tyX9 : Nat → FieldType := fun k => match k with
  | 0 => .array .int
  | 1 => .array .int
  | 2 => .object "EnumerativeCoder$Desk"
  | 3 => .object "EnumerativeCoder$Archive"
  | _ => .object "EnumerativeCoder$Family"
abbrev wsX90 : List Cond := u_ws RX9 TX9 5
theorem nmX9 : ∀ a, a < 5 → ∀ b, b < 5 → a ≠ b → (TX9 a).2.1 ≠ (TX9 b).2.1 := by decide +kernel
theorem tyX9_ok : ∀ k, k < 5 → parseFieldDescriptor (TX9 k).2.2.1 = some (tyX9 k) := by decide +kernel
abbrev cX9_init : ByteArray := prog_1_method_1_code
def yX9_init : MethodName := ⟨RX9, "<init>", "()V"⟩
abbrev cX9_selectSubsets : ByteArray := prog_1_method_2_code
def yX9_selectSubsets : MethodName := ⟨RX9, "selectSubsets", "(III)I"⟩
abbrev cX9_selectPermutations : ByteArray := prog_1_method_3_code
def yX9_selectPermutations : MethodName := ⟨RX9, "selectPermutations", "(II)I"⟩
abbrev cX9_selectWords : ByteArray := prog_1_method_4_code
def yX9_selectWords : MethodName := ⟨RX9, "selectWords", "(II)I"⟩
abbrev cX9_selectTrees : ByteArray := prog_1_method_5_code
def yX9_selectTrees : MethodName := ⟨RX9, "selectTrees", "(I)I"⟩
abbrev cX9_selectPartitions : ByteArray := prog_1_method_6_code
def yX9_selectPartitions : MethodName := ⟨RX9, "selectPartitions", "(II)I"⟩
abbrev cX9_selectArrangements : ByteArray := prog_1_method_7_code
def yX9_selectArrangements : MethodName := ⟨RX9, "selectArrangements", "(IIII)I"⟩
abbrev cX9_family : ByteArray := prog_1_method_8_code
def yX9_family : MethodName := ⟨RX9, "family", "()I"⟩
abbrev cX9_parameter : ByteArray := prog_1_method_9_code
def yX9_parameter : MethodName := ⟨RX9, "parameter", "(I)I"⟩
abbrev cX9_length : ByteArray := prog_1_method_10_code
def yX9_length : MethodName := ⟨RX9, "length", "()I"⟩
abbrev cX9_count : ByteArray := prog_1_method_11_code
def yX9_count : MethodName := ⟨RX9, "count", "()J"⟩
abbrev cX9_put : ByteArray := prog_1_method_12_code
def yX9_put : MethodName := ⟨RX9, "put", "(II)I"⟩
abbrev cX9_get : ByteArray := prog_1_method_13_code
def yX9_get : MethodName := ⟨RX9, "get", "(I)I"⟩
abbrev cX9_isObject : ByteArray := prog_1_method_14_code
def yX9_isObject : MethodName := ⟨RX9, "isObject", "()I"⟩
abbrev cX9_rank : ByteArray := prog_1_method_15_code
def yX9_rank : MethodName := ⟨RX9, "rank", "()J"⟩
abbrev cX9_unrank : ByteArray := prog_1_method_16_code
def yX9_unrank : MethodName := ⟨RX9, "unrank", "(J)I"⟩
abbrev cX9_step : ByteArray := prog_1_method_17_code
def yX9_step : MethodName := ⟨RX9, "step", "(I)I"⟩
abbrev cX9_draw : ByteArray := prog_1_method_18_code
def yX9_draw : MethodName := ⟨RX9, "draw", "(J)J"⟩
abbrev cX9_transform : ByteArray := prog_1_method_19_code
def yX9_transform : MethodName := ⟨RX9, "transform", "()I"⟩
abbrev cX9_toWord : ByteArray := prog_1_method_20_code
def yX9_toWord : MethodName := ⟨RX9, "toWord", "()I"⟩
abbrev cX9_toTree : ByteArray := prog_1_method_21_code
def yX9_toTree : MethodName := ⟨RX9, "toTree", "()I"⟩
abbrev cX9_descents : ByteArray := prog_1_method_22_code
def yX9_descents : MethodName := ⟨RX9, "descents", "()I"⟩
abbrev cX9_store : ByteArray := prog_1_method_23_code
def yX9_store : MethodName := ⟨RX9, "store", "()I"⟩
abbrev cX9_fetch : ByteArray := prog_1_method_24_code
def yX9_fetch : MethodName := ⟨RX9, "fetch", "(I)I"⟩
abbrev cX9_clear : ByteArray := prog_1_method_25_code
def yX9_clear : MethodName := ⟨RX9, "clear", "()I"⟩
abbrev cX9_entries : ByteArray := prog_1_method_26_code
def yX9_entries : MethodName := ⟨RX9, "entries", "()I"⟩
abbrev cX9_total : ByteArray := prog_1_method_27_code
def yX9_total : MethodName := ⟨RX9, "total", "()J"⟩
abbrev cX9_code : ByteArray := prog_1_method_28_code
def yX9_code : MethodName := ⟨RX9, "code", "()J"⟩
abbrev cX9_decode : ByteArray := prog_1_method_29_code
def yX9_decode : MethodName := ⟨RX9, "decode", "(J)I"⟩
abbrev cX9_sort : ByteArray := prog_1_method_30_code
def yX9_sort : MethodName := ⟨RX9, "sort", "()I"⟩
abbrev cX9_isNoLetterCount : ByteArray := prog_1_method_31_code
def yX9_isNoLetterCount : MethodName := ⟨RX9, "isNoLetterCount", "(I)Z"⟩
abbrev cX9_wordsOf : ByteArray := prog_1_method_32_code
def yX9_wordsOf : MethodName := ⟨RX9, "wordsOf", "(II)LEnumerativeCoder$Family;"⟩
abbrev cX9_treesOf : ByteArray := prog_1_method_33_code
def yX9_treesOf : MethodName := ⟨RX9, "treesOf", "(I)LEnumerativeCoder$Family;"⟩
abbrev cX9_choose : ByteArray := prog_1_method_34_code
def yX9_choose : MethodName := ⟨RX9, "choose", "(LEnumerativeCoder$Family;)I"⟩
abbrev cX9_holdsObject : ByteArray := prog_1_method_35_code
def yX9_holdsObject : MethodName := ⟨RX9, "holdsObject", "()Z"⟩
abbrev cX9_layDown : ByteArray := prog_1_method_36_code
def yX9_layDown : MethodName := ⟨RX9, "layDown", "(J)Z"⟩
abbrev cX9_takeDraft : ByteArray := prog_1_method_37_code
def yX9_takeDraft : MethodName := ⟨RX9, "takeDraft", "()Z"⟩
abbrev cX9_at : ByteArray := prog_1_method_38_code
def yX9_at : MethodName := ⟨RX9, "at", "([II)I"⟩
abbrev cX9_at_ : ByteArray := prog_1_method_39_code
def yX9_at_ : MethodName := ⟨RX9, "at", "([JI)J"⟩
abbrev cX9_set : ByteArray := prog_1_method_40_code
def yX9_set : MethodName := ⟨RX9, "set", "([III)V"⟩
abbrev cX9_set_ : ByteArray := prog_1_method_41_code
def yX9_set_ : MethodName := ⟨RX9, "set", "([JIJ)V"⟩
abbrev cX9_quotient : ByteArray := prog_1_method_42_code
def yX9_quotient : MethodName := ⟨RX9, "quotient", "(JJ)J"⟩
abbrev cX9_remainder : ByteArray := prog_1_method_43_code
def yX9_remainder : MethodName := ⟨RX9, "remainder", "(JJ)J"⟩
def RX10 : String := "EnumerativeCoderModel"
def TX10 : u_T := fun k => match k with
  | 0 => ("EnumerativeCoderModel", "chosen", "[J", true)
  | 1 => ("EnumerativeCoderModel", "factorial", "[J", true)
  | 2 => ("EnumerativeCoderModel", "catalan", "[J", true)
  | 3 => ("EnumerativeCoderModel", "parted", "[J", true)
  | 4 => ("EnumerativeCoderModel", "closed", "[J", true)
  | 5 => ("EnumerativeCoderModel", "now", "I", false)
  | 6 => ("EnumerativeCoderModel", "of", "[I", true)
  | 7 => ("EnumerativeCoderModel", "buffer", "[I", true)
  | 8 => ("EnumerativeCoderModel", "made", "[I", true)
  | 9 => ("EnumerativeCoderModel", "stackOne", "[I", true)
  | 10 => ("EnumerativeCoderModel", "stackOther", "[I", true)
  | 11 => ("EnumerativeCoderModel", "stackLong", "[J", true)
  | 12 => ("EnumerativeCoderModel", "left", "[I", true)
  | 13 => ("EnumerativeCoderModel", "entryMany", "I", false)
  | 14 => ("EnumerativeCoderModel", "entryFamily", "[I", true)
  | 15 => ("EnumerativeCoderModel", "entryOf", "[I", true)
  | _ => ("EnumerativeCoderModel", "entryRank", "[J", true)
def tyX10 : Nat → FieldType := fun k => match k with
  | 0 => .array .long
  | 1 => .array .long
  | 2 => .array .long
  | 3 => .array .long
  | 4 => .array .long
  | 5 => .int
  | 6 => .array .int
  | 7 => .array .int
  | 8 => .array .int
  | 9 => .array .int
  | 10 => .array .int
  | 11 => .array .long
  | 12 => .array .int
  | 13 => .int
  | 14 => .array .int
  | 15 => .array .int
  | _ => .array .long
abbrev wsX100 : List Cond := u_ws RX10 TX10 17
theorem nmX10 : ∀ a, a < 17 → ∀ b, b < 17 → a ≠ b → (TX10 a).2.1 ≠ (TX10 b).2.1 := by decide +kernel
theorem tyX10_ok : ∀ k, k < 17 → parseFieldDescriptor (TX10 k).2.2.1 = some (tyX10 k) := by decide +kernel
abbrev cX10_init : ByteArray := prog_12_method_1_code
def yX10_init : MethodName := ⟨RX10, "<init>", "()V"⟩
abbrev cX10_within : ByteArray := prog_12_method_2_code
def yX10_within : MethodName := ⟨RX10, "within", "(JJJ)Z"⟩
abbrev cX10_layParted : ByteArray := prog_12_method_3_code
def yX10_layParted : MethodName := ⟨RX10, "layParted", "()V"⟩
abbrev cX10_layClosed : ByteArray := prog_12_method_4_code
def yX10_layClosed : MethodName := ⟨RX10, "layClosed", "()V"⟩
abbrev cX10_choose : ByteArray := prog_12_method_5_code
def yX10_choose : MethodName := ⟨RX10, "choose", "(II)J"⟩
abbrev cX10_waysOn : ByteArray := prog_12_method_6_code
def yX10_waysOn : MethodName := ⟨RX10, "waysOn", "(III)J"⟩
abbrev cX10_arranged : ByteArray := prog_12_method_7_code
def yX10_arranged : MethodName := ⟨RX10, "arranged", "(IIII)J"⟩
abbrev cX10_countOf : ByteArray := prog_12_method_8_code
def yX10_countOf : MethodName := ⟨RX10, "countOf", "(IIIII)J"⟩
abbrev cX10_longNow : ByteArray := prog_12_method_9_code
def yX10_longNow : MethodName := ⟨RX10, "longNow", "()I"⟩
abbrev cX10_manyNow : ByteArray := prog_12_method_10_code
def yX10_manyNow : MethodName := ⟨RX10, "manyNow", "()J"⟩
abbrev cX10_stores : ByteArray := prog_12_method_11_code
def yX10_stores : MethodName := ⟨RX10, "stores", "()Z"⟩
abbrev cX10_turnsTo : ByteArray := prog_12_method_12_code
def yX10_turnsTo : MethodName := ⟨RX10, "turnsTo", "(IIIII)V"⟩
abbrev cX10_select : ByteArray := prog_12_method_13_code
def yX10_select : MethodName := ⟨RX10, "select", "(IIIII)I"⟩
abbrev cX10_selectSubsets : ByteArray := prog_12_method_14_code
def yX10_selectSubsets : MethodName := ⟨RX10, "selectSubsets", "(III)I"⟩
abbrev cX10_selectPermutations : ByteArray := prog_12_method_15_code
def yX10_selectPermutations : MethodName := ⟨RX10, "selectPermutations", "(II)I"⟩
abbrev cX10_selectWords : ByteArray := prog_12_method_16_code
def yX10_selectWords : MethodName := ⟨RX10, "selectWords", "(II)I"⟩
abbrev cX10_selectTrees : ByteArray := prog_12_method_17_code
def yX10_selectTrees : MethodName := ⟨RX10, "selectTrees", "(I)I"⟩
abbrev cX10_selectPartitions : ByteArray := prog_12_method_18_code
def yX10_selectPartitions : MethodName := ⟨RX10, "selectPartitions", "(II)I"⟩
abbrev cX10_selectArrangements : ByteArray := prog_12_method_19_code
def yX10_selectArrangements : MethodName := ⟨RX10, "selectArrangements", "(IIII)I"⟩
abbrev cX10_family : ByteArray := prog_12_method_20_code
def yX10_family : MethodName := ⟨RX10, "family", "()I"⟩
abbrev cX10_parameter : ByteArray := prog_12_method_21_code
def yX10_parameter : MethodName := ⟨RX10, "parameter", "(I)I"⟩
abbrev cX10_length : ByteArray := prog_12_method_22_code
def yX10_length : MethodName := ⟨RX10, "length", "()I"⟩
abbrev cX10_count : ByteArray := prog_12_method_23_code
def yX10_count : MethodName := ⟨RX10, "count", "()J"⟩
abbrev cX10_put : ByteArray := prog_12_method_24_code
def yX10_put : MethodName := ⟨RX10, "put", "(II)I"⟩
abbrev cX10_get : ByteArray := prog_12_method_25_code
def yX10_get : MethodName := ⟨RX10, "get", "(I)I"⟩
abbrev cX10_isSubset : ByteArray := prog_12_method_26_code
def yX10_isSubset : MethodName := ⟨RX10, "isSubset", "()Z"⟩
abbrev cX10_isPermutation : ByteArray := prog_12_method_27_code
def yX10_isPermutation : MethodName := ⟨RX10, "isPermutation", "()Z"⟩
abbrev cX10_isWord : ByteArray := prog_12_method_28_code
def yX10_isWord : MethodName := ⟨RX10, "isWord", "()Z"⟩
abbrev cX10_isTree : ByteArray := prog_12_method_29_code
def yX10_isTree : MethodName := ⟨RX10, "isTree", "()Z"⟩
abbrev cX10_isPartition : ByteArray := prog_12_method_30_code
def yX10_isPartition : MethodName := ⟨RX10, "isPartition", "()Z"⟩
abbrev cX10_manyIn : ByteArray := prog_12_method_31_code
def yX10_manyIn : MethodName := ⟨RX10, "manyIn", "(I)I"⟩
abbrev cX10_isGood : ByteArray := prog_12_method_32_code
def yX10_isGood : MethodName := ⟨RX10, "isGood", "()Z"⟩
abbrev cX10_isObject : ByteArray := prog_12_method_33_code
def yX10_isObject : MethodName := ⟨RX10, "isObject", "()I"⟩
abbrev cX10_subsetRank : ByteArray := prog_12_method_34_code
def yX10_subsetRank : MethodName := ⟨RX10, "subsetRank", "()J"⟩
abbrev cX10_lessBehind : ByteArray := prog_12_method_35_code
def yX10_lessBehind : MethodName := ⟨RX10, "lessBehind", "(I)I"⟩
abbrev cX10_placeAmong : ByteArray := prog_12_method_36_code
def yX10_placeAmong : MethodName := ⟨RX10, "placeAmong", "(I)I"⟩
abbrev cX10_permutationRank : ByteArray := prog_12_method_37_code
def yX10_permutationRank : MethodName := ⟨RX10, "permutationRank", "()J"⟩
abbrev cX10_wordRank : ByteArray := prog_12_method_38_code
def yX10_wordRank : MethodName := ⟨RX10, "wordRank", "()J"⟩
abbrev cX10_treeRank : ByteArray := prog_12_method_39_code
def yX10_treeRank : MethodName := ⟨RX10, "treeRank", "()J"⟩
abbrev cX10_partitionRank : ByteArray := prog_12_method_40_code
def yX10_partitionRank : MethodName := ⟨RX10, "partitionRank", "()J"⟩
abbrev cX10_waysWithout : ByteArray := prog_12_method_41_code
def yX10_waysWithout : MethodName := ⟨RX10, "waysWithout", "(I)J"⟩
abbrev cX10_leaveAll : ByteArray := prog_12_method_42_code
def yX10_leaveAll : MethodName := ⟨RX10, "leaveAll", "()V"⟩
abbrev cX10_arrangementRank : ByteArray := prog_12_method_43_code
def yX10_arrangementRank : MethodName := ⟨RX10, "arrangementRank", "()J"⟩
abbrev cX10_rankNow : ByteArray := prog_12_method_44_code
def yX10_rankNow : MethodName := ⟨RX10, "rankNow", "()J"⟩
abbrev cX10_rank : ByteArray := prog_12_method_45_code
def yX10_rank : MethodName := ⟨RX10, "rank", "()J"⟩
abbrev cX10_makesSubset : ByteArray := prog_12_method_46_code
def yX10_makesSubset : MethodName := ⟨RX10, "makesSubset", "(J)V"⟩
abbrev cX10_insert : ByteArray := prog_12_method_47_code
def yX10_insert : MethodName := ⟨RX10, "insert", "(III)V"⟩
abbrev cX10_makesPermutation : ByteArray := prog_12_method_48_code
def yX10_makesPermutation : MethodName := ⟨RX10, "makesPermutation", "(J)V"⟩
abbrev cX10_makesWord : ByteArray := prog_12_method_49_code
def yX10_makesWord : MethodName := ⟨RX10, "makesWord", "(J)V"⟩
abbrev cX10_makesTree : ByteArray := prog_12_method_50_code
def yX10_makesTree : MethodName := ⟨RX10, "makesTree", "(J)V"⟩
abbrev cX10_makesPartition : ByteArray := prog_12_method_51_code
def yX10_makesPartition : MethodName := ⟨RX10, "makesPartition", "(J)V"⟩
abbrev cX10_makesArrangement : ByteArray := prog_12_method_52_code
def yX10_makesArrangement : MethodName := ⟨RX10, "makesArrangement", "(J)V"⟩
abbrev cX10_makes : ByteArray := prog_12_method_53_code
def yX10_makes : MethodName := ⟨RX10, "makes", "(J)V"⟩
abbrev cX10_unrank : ByteArray := prog_12_method_54_code
def yX10_unrank : MethodName := ⟨RX10, "unrank", "(J)I"⟩
abbrev cX10_step : ByteArray := prog_12_method_55_code
def yX10_step : MethodName := ⟨RX10, "step", "(I)I"⟩
abbrev cX10_draw : ByteArray := prog_12_method_56_code
def yX10_draw : MethodName := ⟨RX10, "draw", "(J)J"⟩
abbrev cX10_complements : ByteArray := prog_12_method_57_code
def yX10_complements : MethodName := ⟨RX10, "complements", "()Z"⟩
abbrev cX10_inverts : ByteArray := prog_12_method_58_code
def yX10_inverts : MethodName := ⟨RX10, "inverts", "()V"⟩
abbrev cX10_mirrorsWord : ByteArray := prog_12_method_59_code
def yX10_mirrorsWord : MethodName := ⟨RX10, "mirrorsWord", "()V"⟩
abbrev cX10_mirrorsTree : ByteArray := prog_12_method_60_code
def yX10_mirrorsTree : MethodName := ⟨RX10, "mirrorsTree", "()V"⟩
abbrev cX10_conjugates : ByteArray := prog_12_method_61_code
def yX10_conjugates : MethodName := ⟨RX10, "conjugates", "()V"⟩
abbrev cX10_reverses : ByteArray := prog_12_method_62_code
def yX10_reverses : MethodName := ⟨RX10, "reverses", "()V"⟩
abbrev cX10_transform : ByteArray := prog_12_method_63_code
def yX10_transform : MethodName := ⟨RX10, "transform", "()I"⟩
abbrev cX10_toWord : ByteArray := prog_12_method_64_code
def yX10_toWord : MethodName := ⟨RX10, "toWord", "()I"⟩
abbrev cX10_closeOf : ByteArray := prog_12_method_65_code
def yX10_closeOf : MethodName := ⟨RX10, "closeOf", "(I)I"⟩
abbrev cX10_toTree : ByteArray := prog_12_method_66_code
def yX10_toTree : MethodName := ⟨RX10, "toTree", "()I"⟩
abbrev cX10_descents : ByteArray := prog_12_method_67_code
def yX10_descents : MethodName := ⟨RX10, "descents", "()I"⟩
abbrev cX10_entryCount : ByteArray := prog_12_method_68_code
def yX10_entryCount : MethodName := ⟨RX10, "entryCount", "(I)J"⟩
abbrev cX10_totalNow : ByteArray := prog_12_method_69_code
def yX10_totalNow : MethodName := ⟨RX10, "totalNow", "()J"⟩
abbrev cX10_store : ByteArray := prog_12_method_70_code
def yX10_store : MethodName := ⟨RX10, "store", "()I"⟩
abbrev cX10_fetch : ByteArray := prog_12_method_71_code
def yX10_fetch : MethodName := ⟨RX10, "fetch", "(I)I"⟩
abbrev cX10_clear : ByteArray := prog_12_method_72_code
def yX10_clear : MethodName := ⟨RX10, "clear", "()I"⟩
abbrev cX10_entries : ByteArray := prog_12_method_73_code
def yX10_entries : MethodName := ⟨RX10, "entries", "()I"⟩
abbrev cX10_total : ByteArray := prog_12_method_74_code
def yX10_total : MethodName := ⟨RX10, "total", "()J"⟩
abbrev cX10_code : ByteArray := prog_12_method_75_code
def yX10_code : MethodName := ⟨RX10, "code", "()J"⟩
abbrev cX10_decode : ByteArray := prog_12_method_76_code
def yX10_decode : MethodName := ⟨RX10, "decode", "(J)I"⟩
abbrev cX10_isBehind : ByteArray := prog_12_method_77_code
def yX10_isBehind : MethodName := ⟨RX10, "isBehind", "(I)Z"⟩
abbrev cX10_exchange : ByteArray := prog_12_method_78_code
def yX10_exchange : MethodName := ⟨RX10, "exchange", "(I)V"⟩
abbrev cX10_sort : ByteArray := prog_12_method_79_code
def yX10_sort : MethodName := ⟨RX10, "sort", "()I"⟩
def RJ6 : String := "java/lang/Integer"
def TJ6 : u_T := fun k => match k with
  | _ => ("", "", "", false)
def tyJ6 : Nat → FieldType := fun k => match k with
  | _ => .int
abbrev wsJ60 : List Cond := u_ws RJ6 TJ6 0
theorem nmJ6 : ∀ a, a < 0 → ∀ b, b < 0 → a ≠ b → (TJ6 a).2.1 ≠ (TJ6 b).2.1 := by decide +kernel
theorem tyJ6_ok : ∀ k, k < 0 → parseFieldDescriptor (TJ6 k).2.2.1 = some (tyJ6 k) := by decide +kernel
abbrev cJ6_compare_7cf53 : ByteArray := prog_13_method_40_code
def yJ6_compare_7cf53 : MethodName := ⟨RJ6, "compare", "(II)I"⟩
def RJ13 : String := "java/lang/Long"
def TJ13 : u_T := fun k => match k with
  | _ => ("", "", "", false)
def tyJ13 : Nat → FieldType := fun k => match k with
  | _ => .int
abbrev wsJ130 : List Cond := u_ws RJ13 TJ13 0
theorem nmJ13 : ∀ a, a < 0 → ∀ b, b < 0 → a ≠ b → (TJ13 a).2.1 ≠ (TJ13 b).2.1 := by decide +kernel
theorem tyJ13_ok : ∀ k, k < 0 → parseFieldDescriptor (TJ13 k).2.2.1 = some (tyJ13 k) := by decide +kernel
abbrev cJ13_compare_74951 : ByteArray := prog_14_method_42_code
def yJ13_compare_74951 : MethodName := ⟨RJ13, "compare", "(JJ)I"⟩
def RJ9 : String := "java/lang/Math"
def TJ9 : u_T := fun k => match k with
  | _ => ("", "", "", false)
def tyJ9 : Nat → FieldType := fun k => match k with
  | _ => .int
abbrev wsJ90 : List Cond := u_ws RJ9 TJ9 0
theorem nmJ9 : ∀ a, a < 0 → ∀ b, b < 0 → a ≠ b → (TJ9 a).2.1 ≠ (TJ9 b).2.1 := by decide +kernel
theorem tyJ9_ok : ∀ k, k < 0 → parseFieldDescriptor (TJ9 k).2.2.1 = some (tyJ9 k) := by decide +kernel
abbrev cJ9_min_7cf53 : ByteArray := prog_15_method_69_code
def yJ9_min_7cf53 : MethodName := ⟨RJ9, "min", "(II)I"⟩
def RL : String := "EnumerativeCoderLaw"
abbrev cL_law : ByteArray := code
def yL_law : MethodName := ⟨RL, "law", "([I)Z"⟩
abbrev vwCl : List vw_C := [(RX0, TX0, 4), (RX1, TX1, 7), (RX2, TX2, 6), (RX4, TX4, 4), (RX5, TX5, 4), (RX6, TX6, 5), (RX7, TX7, 3), (RX8, TX8, 5), (RX9, TX9, 5), (RX10, TX10, 17)]
/-! ===== the walk's own rows: one word list for all methods, contracts over a written world RW, a read world RO and a pool PL ===== -/
def rk_c : List Cond := lw_tbl.filter goodWord
def rk_isN : Cond → Bool
  | .methodLinkNest _ _ _ _ => true
  | .fieldLinkNest _ _ _ _ _ _ => true
  | .castable _ _ => true
  | .declares _ => true
  | _ => false
def rk_NW : List Cond := tables_1.filter rk_isN
abbrev rk_w (y : MethodName) (cc : ByteArray) (maxL : Nat) (ret : Option FieldType) : List Cond := Cond.code y cc maxL ret :: rk_c
theorem rk_in {w : Cond} (h : w ∈ tables_1) (g : goodWord w = true) : w ∈ rk_c := List.mem_filter.mpr ⟨List.mem_append_right _ h, g⟩
theorem rk_inP {w : Cond} (h : w ∈ k2_sels lw_privs) (g : goodWord w = true) : w ∈ rk_c := List.mem_filter.mpr ⟨List.mem_append_left _ h, g⟩
theorem rk_inN {w : Cond} (h : w ∈ tables_1) (g : rk_isN w = true) : w ∈ rk_NW := List.mem_filter.mpr ⟨h, g⟩
theorem rk_t1 {w : Cond} (h : w ∈ tables_1_1) : w ∈ tables_1 := List.mem_append_left _ h
theorem rk_t2 {w : Cond} (h : w ∈ tables_1_2) : w ∈ tables_1 := List.mem_append_right _ (List.mem_append_left _ h)
theorem rk_t3 {w : Cond} (h : w ∈ tables_1_3) : w ∈ tables_1 := List.mem_append_right _ (List.mem_append_right _ (List.mem_append_left _ h))
theorem rk_t4 {w : Cond} (h : w ∈ tables_1_4) : w ∈ tables_1 := List.mem_append_right _ (List.mem_append_right _ (List.mem_append_right _ (List.mem_append_left _ h)))
theorem rk_t5 {w : Cond} (h : w ∈ tables_1_5) : w ∈ tables_1 := List.mem_append_right _ (List.mem_append_right _ (List.mem_append_right _ (List.mem_append_right _ h)))
theorem rk_goodc {w : Cond} (h : w ∈ rk_c) : w ∈ rk_c ∧ ((w.onTables && w.keeps) = true ∨ ∃ ty, w = .arrayClass ty) := ⟨h, good_of_word (List.mem_filter.mp h).2⟩
theorem rk_gw {y : MethodName} {cc : ByteArray} {maxL : Nat} {ret : Option FieldType} (h5 : Cond.code y cc maxL ret ∈ rk_c) : GoodIn rk_c (rk_w y cc maxL ret) := fun w h => by
  rcases List.mem_cons.mp h with rfl | h
  · exact rk_goodc h5
  · exact rk_goodc h
theorem rk_gV {own C : String} {idx : Nat} {y : MethodName} {cc : ByteArray} {maxL : Nat} {ret : Option FieldType} (h1 : Cond.methodLink own idx y ∈ rk_c) (h2 : Cond.instanceMethod y ∈ rk_c) (h3 : Cond.selects C y y ∈ rk_c) (h4 : Cond.initialized C ∈ rk_c) (h5 : Cond.code y cc maxL ret ∈ rk_c) : GoodIn rk_c (wsV own idx C y (rk_w y cc maxL ret)) := fun w h => by
  rcases List.mem_append.mp h with h | h
  · simp only [List.mem_cons, List.not_mem_nil, or_false] at h
    rcases h with rfl | rfl | rfl | rfl
    · exact rk_goodc h1
    · exact rk_goodc h2
    · exact rk_goodc h3
    · exact rk_goodc h4
  · exact rk_gw h5 w h
theorem rk_gS {own : String} {idx : Nat} {y : MethodName} {cc : ByteArray} {maxL : Nat} {ret : Option FieldType} (h1 : Cond.methodLink own idx y ∈ rk_c) (h2 : Cond.static y ∈ rk_c) (h3 : Cond.initialized own ∈ rk_c) (h5 : Cond.code y cc maxL ret ∈ rk_c) : GoodIn rk_c (wsS own idx y (rk_w y cc maxL ret)) := fun w h => by
  rcases List.mem_append.mp h with h | h
  · simp only [List.mem_cons, List.not_mem_nil, or_false] at h
    rcases h with rfl | rfl | rfl
    · exact rk_goodc h1
    · exact rk_goodc h2
    · exact rk_goodc h3
  · exact rk_gw h5 w h
theorem rk_gVS {own : String} {idx : Nat} {y : MethodName} {cc : ByteArray} {maxL : Nat} {ret : Option FieldType} (h1 : Cond.methodLink own idx y ∈ rk_c) (h2 : Cond.static y ∈ rk_c) (h3 : Cond.initialized y.cls ∈ rk_c) (h5 : Cond.code y cc maxL ret ∈ rk_c) : GoodIn rk_c (va_wsS own idx y (rk_w y cc maxL ret)) := fun w h => by
  rcases List.mem_append.mp h with h | h
  · simp only [List.mem_cons, List.not_mem_nil, or_false] at h
    rcases h with rfl | rfl | rfl
    · exact rk_goodc h1
    · exact rk_goodc h2
    · exact rk_goodc h3
  · exact rk_gw h5 w h
theorem rk_gU {own C owner : String} {idx : Nat} {x y : MethodName} {cc : ByteArray} {maxL : Nat} {ret : Option FieldType} (h1 : Cond.methodLink own idx x ∈ rk_c) (h2 : Cond.sameMethod x.cls owner x.name x.desc ∈ rk_c) (h3 : Cond.selects C x y ∈ rk_c) (h4 : Cond.instanceMethod y ∈ rk_c) (h6 : Cond.initialized y.cls ∈ rk_c) (h5 : Cond.code y cc maxL ret ∈ rk_c) : GoodIn rk_c (va_wsU own idx C owner x y (rk_w y cc maxL ret)) := fun w h => by
  rcases List.mem_append.mp h with h | h
  · simp only [List.mem_cons, List.not_mem_nil, or_false] at h
    rcases h with rfl | rfl | rfl | rfl | rfl
    · exact rk_goodc h1
    · exact rk_goodc h2
    · exact rk_goodc h3
    · exact rk_goodc h4
    · exact rk_goodc h6
  · exact rk_gw h5 w h
/-- what the tables say, as a fact of a state -/
def rk_V (D : va_G) (TY : List (ClassId × FieldType)) (U : State) : Prop := va_K D vwCl TY U ∧ ∀ w ∈ rk_NW, va_Nw w U
theorem rk_isN_tab {w : Cond} (h : rk_isN w = true) : w.onTables = true := by
  cases w <;> first | rfl | simp [rk_isN] at h
theorem rk_isN_warm {w : Cond} (h : rk_isN w = true) {s U : State} (hW : s.WarmedH U.vm) (hZ : va_Nw w s) : va_Nw w U := by
  cases w with
  | methodLinkNest a i x h => exact va_Nw.warmM hW hZ
  | fieldLinkNest a i b n d h => exact va_Nw.warmF hW hZ
  | castable a b => exact va_Nw.warmC hW hZ
  | declares x => exact va_Nw.warmD hW hZ
  | _ => simp [rk_isN] at h
theorem rk_V.warm {D : va_G} {TY : List (ClassId × FieldType)} {s U : State} (hW : s.WarmedH U.vm) (h : rk_V D TY s) : rk_V D TY U :=
  ⟨va_K.moved hW.alike h.1, fun w hw => rk_isN_warm (List.mem_filter.mp hw).2 hW (h.2 w hw)⟩
theorem rk_V.same {D : va_G} {TY : List (ClassId × FieldType)} {s U : State} (e : s.vm = U.vm) (h : rk_V D TY s) : rk_V D TY U :=
  ⟨va_K.moved (by rw [← e]; exact Vm.Alike.refl s.vm) h.1, fun w hw => va_Nw.same (rk_isN_tab (List.mem_filter.mp hw).2) e (h.2 w hw)⟩
abbrev rk_TY (cI cJ cO : ClassId) : List (ClassId × FieldType) := [(cI, .int), (cJ, .long), (cO, .object "EnumerativeCoder$Family")]
def rk_ap (wc rc : va_W) : Prop := ∀ (k : Nat) (q : Nat × va_E), rc[k]? = some q → ∀ (j : Nat) (p : Nat × va_E), wc[j]? = some p → p.1 ≠ q.1
def rk_B (D : va_G) (TY : List (ClassId × FieldType)) (RW RO PL : va_W) (sz : Nat) : State → Prop := fun U => U.heap.size = sz ∧ va_P D vwCl RW U.heap ∧ va_D (fun _ => True) RW ∧ va_P D vwCl RO U.heap ∧ rk_ap RW RO ∧ va_P D vwCl PL U.heap ∧ rk_ap RW PL ∧ rk_V D TY U
theorem rk_keep {D : va_G} {cl : List vw_C} {ro : va_W} {A : Nat → Prop} {H0 H : Heap} {locs : List Loc} (h : va_P D cl ro H0) (hn : ∀ (k : Nat) (q : Nat × va_E), ro[k]? = some q → ¬ A q.1) (hS : va_S A H0 H locs) : va_P D cl ro H :=
  h.kept (fun k q hk => hS.2.1 q.1 ((h k q hk).lt) (hn k q hk))
theorem rk_apn {wc rc : va_W} {sz : Nat} (h : rk_ap wc rc) (hl : ∀ (k : Nat) (q : Nat × va_E), rc[k]? = some q → q.1 < sz) : ∀ (k : Nat) (q : Nat × va_E), rc[k]? = some q → ¬ va_A wc sz q.1 := by
  intro k q hk hA
  rcases hA with ⟨j, e, hj⟩ | hA
  · exact h k q hk j _ hj rfl
  · have := hl k q hk; omega
theorem rk_if {α : Type} {c : Prop} [Decidable c] {a b x : Option α} (hc : c) (h : (if c then a else b) = x) : a = x := by rw [if_pos hc] at h; exact h
theorem rk_nif {α : Type} {c : Prop} [Decidable c] {a b x : Option α} (hc : ¬ c) (h : (if c then a else b) = x) : b = x := by rw [if_neg hc] at h; exact h
theorem rk_nnif {α : Type} {c : Prop} [Decidable c] {a b x : Option α} (hc : c) (h : (if ¬ c then a else b) = x) : b = x := by rw [if_neg (fun z => z hc)] at h; exact h
theorem rk_gd {α : Type} {c : Prop} [Decidable c] {a : Option α} {x : α} (h : (if c then none else a) = some x) : ¬ c ∧ a = some x := by
  by_cases hc : c
  · rw [if_pos hc] at h; cases h
  · rw [if_neg hc] at h; exact ⟨hc, h⟩
theorem rk_gp {α : Type} {c : Prop} [Decidable c] {a : Option α} {x : α} (h : (if c then a else none) = some x) : c ∧ a = some x := by
  by_cases hc : c
  · rw [if_pos hc] at h; exact ⟨hc, h⟩
  · rw [if_neg hc] at h; cases h
theorem rk_bd {α β : Type} {a : Option α} {f : α → Option β} {x : β} (h : a.bind f = some x) : ∃ y, a = some y ∧ f y = some x := Option.bind_eq_some_iff.mp h
def FU : Nat := 4000
def rk_it1 {A ρ : Type} (f : (A → Option ρ) → A → Option ρ) : Nat → A → Option ρ
  | 0 => fun _ => none
  | n + 1 => f (rk_it1 f n)
def rk_it2 {A B ρ : Type} (f : (A → B → Option ρ) → A → B → Option ρ) : Nat → A → B → Option ρ
  | 0 => fun _ _ => none
  | n + 1 => f (rk_it2 f n)
def rk_it3 {A B C ρ : Type} (f : (A → B → C → Option ρ) → A → B → C → Option ρ) : Nat → A → B → C → Option ρ
  | 0 => fun _ _ _ => none
  | n + 1 => f (rk_it3 f n)
def rk_it4 {A B C D ρ : Type} (f : (A → B → C → D → Option ρ) → A → B → C → D → Option ρ) : Nat → A → B → C → D → Option ρ
  | 0 => fun _ _ _ _ => none
  | n + 1 => f (rk_it4 f n)
def rk_it5 {A B C D E ρ : Type} (f : (A → B → C → D → E → Option ρ) → A → B → C → D → E → Option ρ) : Nat → A → B → C → D → E → Option ρ
  | 0 => fun _ _ _ _ _ => none
  | n + 1 => f (rk_it5 f n)
def rk_it6 {A B C D E F ρ : Type} (f : (A → B → C → D → E → F → Option ρ) → A → B → C → D → E → F → Option ρ) : Nat → A → B → C → D → E → F → Option ρ
  | 0 => fun _ _ _ _ _ _ => none
  | n + 1 => f (rk_it6 f n)
def rk_it7 {A B C D E F G ρ : Type} (f : (A → B → C → D → E → F → G → Option ρ) → A → B → C → D → E → F → G → Option ρ) : Nat → A → B → C → D → E → F → G → Option ρ
  | 0 => fun _ _ _ _ _ _ _ => none
  | n + 1 => f (rk_it7 f n)
def rk_it8 {A B C D E F G I ρ : Type} (f : (A → B → C → D → E → F → G → I → Option ρ) → A → B → C → D → E → F → G → I → Option ρ) : Nat → A → B → C → D → E → F → G → I → Option ρ
  | 0 => fun _ _ _ _ _ _ _ _ => none
  | n + 1 => f (rk_it8 f n)
def rk_Qi (v : Int32) (D : va_G) (w1 wc : va_W) (sz : Nat) : Array Value → State → Outcome → State → Prop := va_Qi (fun q (_ : Unit) => q = v) (fun _ t => va_P D vwCl w1 t.heap ∧ va_D (va_A wc sz) w1) (va_A wc sz)
def rk_Ql (v : Int64) (D : va_G) (w1 wc : va_W) (sz : Nat) : Array Value → State → Outcome → State → Prop := va_Ql (fun q (_ : Unit) => q = v) (fun _ t => va_P D vwCl w1 t.heap ∧ va_D (va_A wc sz) w1) (va_A wc sz)
def rk_Qv (D : va_G) (w1 wc : va_W) (sz : Nat) : Array Value → State → Outcome → State → Prop := va_Qv (fun (_ : Unit) => True) (fun _ t => va_P D vwCl w1 t.heap ∧ va_D (va_A wc sz) w1) (va_A wc sz)
def rk_Qq (v : Option Nat) (D : va_G) (w1 wc : va_W) (sz : Nat) : Array Value → State → Outcome → State → Prop := va_Qq (fun q (_ : Unit) => q = v) (fun _ t => va_P D vwCl w1 t.heap ∧ va_D (va_A wc sz) w1) (va_A wc sz)
def rk_Qr (D : va_G) (w1 : Nat → va_W) (wc : va_W) (sz : Nat) : Array Value → State → Outcome → State → Prop := va_Qr (fun (_ : Unit) => True) (fun _ a t => va_P D vwCl (w1 a) t.heap ∧ va_D (va_A wc sz) (w1 a)) (va_A wc sz)
/-! ===== the walk's own rows, second: entry, return, calls ===== -/
theorem rk_met {l : Launch} {y : MethodName} {cc : ByteArray} {maxL : Nat} {ret : Option FieldType} {rm : Room} {D : va_G} {TY : List (ClassId × FieldType)} {RW RO PL : va_W} {av : List Value} {sz mc ms : Nat} {Qc : Array Value → State → Outcome → State → Prop} (hy : plainName y.cls = true) (hlen : (lg_sl av).length ≤ maxL)
    (body : ∀ (p : Program) (e : Env) (s : State) (m : MethodId) (args : Array Value) (below : List Frame) (meth : Method) (c : Code) (A : Nat → Prop) (ls : Array Slot), A = va_A RW sz → meth.sig.returnType = ret → meth.locks = false → meth.name = y.name → CallFix p m c cc maxL s args rk_c y.cls → va_P D vwCl RW s.heap → va_D A RW → (∀ q : Nat, s.heap.size ≤ q → A q) → rk_V D TY s → va_P D vwCl RO s.heap → (∀ (k : Nat) (q : Nat × va_E), RO[k]? = some q → ¬ A q.1) → va_P D vwCl PL s.heap → (∀ (k : Nat) (q : Nat × va_E), PL[k]? = some q → ¬ A q.1) → lv_has ls maxL (lv_args 0 av) →
      W p l e rm s m args below meth c s.heap [] 0 0 (MQ below Qc args s mc ms (va_A RW sz)) (F0 m 0 ls [])) :
    Met l y (rk_w y cc maxL ret) rm (va_Pc av (rk_B D TY RW RO PL sz)) Qc mc ms (va_A RW sz) := by
  refine Met.ofW (cc := cc) (maxL := maxL) (ret := ret) hy rfl ?_
  intro p e s m args below meth c s₁ B hml hv
  obtain ⟨rfl, hsz, hP, hD0, hR, hap, hPL, hpl, hV⟩ := hv
  have hts := atoms_spec (ws := rk_w y cc maxL ret) B.pre
  have hown := findClass_of_methodNamed B.named
  have hl := lv_entry av hlen
  rw [lg_entry_eq]
  subst hsz
  exact body p e s m _ below meth c _ _ rfl B.returns B.notSynchronized (name_of_methodNamed B.named B.method).1 ⟨B.exec, B.bytes, hml, hown, fun w h => hts w (List.mem_cons_of_mem _ h)⟩ hP hD0.self (fun q h => Or.inr h) hV hR (rk_apn hap (fun k q hk => (hR k q hk).lt)) hPL (rk_apn hpl (fun k q hk => (hPL k q hk).lt)) hl
section RKM
variable {l : Launch} {y : MethodName} {cc : ByteArray} {maxL : Nat} {rm : Room} {D : va_G} {TY : List (ClassId × FieldType)} {RW RO PL : va_W} {av : List Value} {sz mc ms : Nat} {X : Type} {g : Option X} {x0 : X}
theorem rk_meti (hg : g = some x0) (v : X → Int32) (w1 : X → va_W) (hy : plainName y.cls = true) (hlen : (lg_sl av).length ≤ maxL)
    (body : ∀ (p : Program) (e : Env) (s : State) (m : MethodId) (args : Array Value) (below : List Frame) (meth : Method) (c : Code) (A : Nat → Prop) (ls : Array Slot) (Q : State → Prop), (∀ (x : X) (H : Heap) (locs : List Loc) (pc : Nat) (ls : Array Slot), some x = some x0 → decode cc pc = .ok (.ireturn, 1) → va_P D vwCl (w1 x) H → va_D A (w1 x) → va_S A s.heap H locs → W p l e rm s m args below meth c H locs mc ms Q (F0 m pc ls [.int (v x)])) → meth.name = y.name → CallFix p m c cc maxL s args rk_c y.cls → va_P D vwCl RW s.heap → va_D A RW → (∀ q : Nat, s.heap.size ≤ q → A q) → rk_V D TY s → va_P D vwCl RO s.heap → (∀ (k : Nat) (q : Nat × va_E), RO[k]? = some q → ¬ A q.1) → va_P D vwCl PL s.heap → (∀ (k : Nat) (q : Nat × va_E), PL[k]? = some q → ¬ A q.1) → lv_has ls maxL (lv_args 0 av) → g = some x0 → va_S A s.heap s.heap [] →
      W p l e rm s m args below meth c s.heap [] 0 0 Q (F0 m 0 ls [])) :
    Met l y (rk_w y cc maxL (some .int)) rm (va_Pc av (rk_B D TY RW RO PL sz)) (rk_Qi (v x0) D (w1 x0) RW sz) mc ms (va_A RW sz) := by
  refine rk_met hy hlen ?_
  intro p e s m args below meth c A ls hAe hr hlocks hname hF hP hD hA hV hR hn hPL hnl hl
  refine body p e s m args below meth c A ls _ ?_ hname hF hP hD hA hV hR hn hPL hnl hl hg va_S.rf
  intro x H locs pc ls hx hdg hP hD hS
  cases hx
  subst hAe
  exact W.iret hF.1 hF.2.1 hr (fun t ht hW => ⟨⟨_, (), rfl, rfl, by rw [ht]; exact hP, hD⟩, hS.F ht⟩) hS.2.2 hdg hlocks
theorem rk_metz (hg : g = some x0) (v : X → Int32) (w1 : X → va_W) (hy : plainName y.cls = true) (hlen : (lg_sl av).length ≤ maxL)
    (body : ∀ (p : Program) (e : Env) (s : State) (m : MethodId) (args : Array Value) (below : List Frame) (meth : Method) (c : Code) (A : Nat → Prop) (ls : Array Slot) (Q : State → Prop), (∀ (x : X) (H : Heap) (locs : List Loc) (pc : Nat) (ls : Array Slot), some x = some x0 → narrow .boolean (.int (v x)) = .int (v x) → decode cc pc = .ok (.ireturn, 1) → va_P D vwCl (w1 x) H → va_D A (w1 x) → va_S A s.heap H locs → W p l e rm s m args below meth c H locs mc ms Q (F0 m pc ls [.int (v x)])) → meth.name = y.name → CallFix p m c cc maxL s args rk_c y.cls → va_P D vwCl RW s.heap → va_D A RW → (∀ q : Nat, s.heap.size ≤ q → A q) → rk_V D TY s → va_P D vwCl RO s.heap → (∀ (k : Nat) (q : Nat × va_E), RO[k]? = some q → ¬ A q.1) → va_P D vwCl PL s.heap → (∀ (k : Nat) (q : Nat × va_E), PL[k]? = some q → ¬ A q.1) → lv_has ls maxL (lv_args 0 av) → g = some x0 → va_S A s.heap s.heap [] →
      W p l e rm s m args below meth c s.heap [] 0 0 Q (F0 m 0 ls [])) :
    Met l y (rk_w y cc maxL (some .boolean)) rm (va_Pc av (rk_B D TY RW RO PL sz)) (rk_Qi (v x0) D (w1 x0) RW sz) mc ms (va_A RW sz) := by
  refine rk_met hy hlen ?_
  intro p e s m args below meth c A ls hAe hr hlocks hname hF hP hD hA hV hR hn hPL hnl hl
  refine body p e s m args below meth c A ls _ ?_ hname hF hP hD hA hV hR hn hPL hnl hl hg va_S.rf
  intro x H locs pc ls hx hz hdg hP hD hS
  cases hx
  subst hAe
  exact W.zret hF.1 hF.2.1 hr hz (fun t ht hW => ⟨⟨_, (), rfl, rfl, by rw [ht]; exact hP, hD⟩, hS.F ht⟩) hS.2.2 hdg hlocks
theorem rk_metl (hg : g = some x0) (v : X → Int64) (w1 : X → va_W) (hy : plainName y.cls = true) (hlen : (lg_sl av).length ≤ maxL)
    (body : ∀ (p : Program) (e : Env) (s : State) (m : MethodId) (args : Array Value) (below : List Frame) (meth : Method) (c : Code) (A : Nat → Prop) (ls : Array Slot) (Q : State → Prop), (∀ (x : X) (H : Heap) (locs : List Loc) (pc : Nat) (ls : Array Slot), some x = some x0 → decode cc pc = .ok (.lreturn, 1) → va_P D vwCl (w1 x) H → va_D A (w1 x) → va_S A s.heap H locs → W p l e rm s m args below meth c H locs mc ms Q (F0 m pc ls [.long (v x)])) → meth.name = y.name → CallFix p m c cc maxL s args rk_c y.cls → va_P D vwCl RW s.heap → va_D A RW → (∀ q : Nat, s.heap.size ≤ q → A q) → rk_V D TY s → va_P D vwCl RO s.heap → (∀ (k : Nat) (q : Nat × va_E), RO[k]? = some q → ¬ A q.1) → va_P D vwCl PL s.heap → (∀ (k : Nat) (q : Nat × va_E), PL[k]? = some q → ¬ A q.1) → lv_has ls maxL (lv_args 0 av) → g = some x0 → va_S A s.heap s.heap [] →
      W p l e rm s m args below meth c s.heap [] 0 0 Q (F0 m 0 ls [])) :
    Met l y (rk_w y cc maxL (some .long)) rm (va_Pc av (rk_B D TY RW RO PL sz)) (rk_Ql (v x0) D (w1 x0) RW sz) mc ms (va_A RW sz) := by
  refine rk_met hy hlen ?_
  intro p e s m args below meth c A ls hAe hr hlocks hname hF hP hD hA hV hR hn hPL hnl hl
  refine body p e s m args below meth c A ls _ ?_ hname hF hP hD hA hV hR hn hPL hnl hl hg va_S.rf
  intro x H locs pc ls hx hdg hP hD hS
  cases hx
  subst hAe
  exact W.lret hF.1 hF.2.1 hr (fun t ht hW => ⟨⟨_, (), rfl, rfl, by rw [ht]; exact hP, hD⟩, hS.F ht⟩) hS.2.2 hdg hlocks
theorem rk_metv (hg : g = some x0) (w1 : X → va_W) (hy : plainName y.cls = true) (hlen : (lg_sl av).length ≤ maxL)
    (body : ∀ (p : Program) (e : Env) (s : State) (m : MethodId) (args : Array Value) (below : List Frame) (meth : Method) (c : Code) (A : Nat → Prop) (ls : Array Slot) (Q : State → Prop), (∀ (x : X) (H : Heap) (locs : List Loc) (pc : Nat) (ls : Array Slot), some x = some x0 → decode cc pc = .ok (.return_, 1) → va_P D vwCl (w1 x) H → va_D A (w1 x) → va_S A s.heap H locs → W p l e rm s m args below meth c H locs mc ms Q (F0 m pc ls [])) → meth.name = y.name → CallFix p m c cc maxL s args rk_c y.cls → va_P D vwCl RW s.heap → va_D A RW → (∀ q : Nat, s.heap.size ≤ q → A q) → rk_V D TY s → va_P D vwCl RO s.heap → (∀ (k : Nat) (q : Nat × va_E), RO[k]? = some q → ¬ A q.1) → va_P D vwCl PL s.heap → (∀ (k : Nat) (q : Nat × va_E), PL[k]? = some q → ¬ A q.1) → lv_has ls maxL (lv_args 0 av) → g = some x0 → va_S A s.heap s.heap [] →
      W p l e rm s m args below meth c s.heap [] 0 0 Q (F0 m 0 ls [])) :
    Met l y (rk_w y cc maxL none) rm (va_Pc av (rk_B D TY RW RO PL sz)) (rk_Qv D (w1 x0) RW sz) mc ms (va_A RW sz) := by
  refine rk_met hy hlen ?_
  intro p e s m args below meth c A ls hAe hr hlocks hname hF hP hD hA hV hR hn hPL hnl hl
  refine body p e s m args below meth c A ls _ ?_ hname hF hP hD hA hV hR hn hPL hnl hl hg va_S.rf
  intro x H locs pc ls hx hdg hP hD hS
  cases hx
  subst hAe
  exact W.vret hF.1 hF.2.1 hr (fun t ht hW => ⟨⟨(), rfl, trivial, by rw [ht]; exact hP, hD⟩, hS.F ht⟩) hS.2.2 hdg hlocks
theorem rk_metq {C : String} (hg : g = some x0) (v : X → Option Nat) (w1 : X → va_W) (hy : plainName y.cls = true) (hlen : (lg_sl av).length ≤ maxL)
    (body : ∀ (p : Program) (e : Env) (s : State) (m : MethodId) (args : Array Value) (below : List Frame) (meth : Method) (c : Code) (A : Nat → Prop) (ls : Array Slot) (Q : State → Prop), (∀ (x : X) (H : Heap) (locs : List Loc) (pc : Nat) (ls : Array Slot), some x = some x0 → decode cc pc = .ok (.areturn, 1) → va_P D vwCl (w1 x) H → va_D A (w1 x) → va_S A s.heap H locs → W p l e rm s m args below meth c H locs mc ms Q (F0 m pc ls [va_rf (v x)])) → meth.name = y.name → CallFix p m c cc maxL s args rk_c y.cls → va_P D vwCl RW s.heap → va_D A RW → (∀ q : Nat, s.heap.size ≤ q → A q) → rk_V D TY s → va_P D vwCl RO s.heap → (∀ (k : Nat) (q : Nat × va_E), RO[k]? = some q → ¬ A q.1) → va_P D vwCl PL s.heap → (∀ (k : Nat) (q : Nat × va_E), PL[k]? = some q → ¬ A q.1) → lv_has ls maxL (lv_args 0 av) → g = some x0 → va_S A s.heap s.heap [] →
      W p l e rm s m args below meth c s.heap [] 0 0 Q (F0 m 0 ls [])) :
    Met l y (rk_w y cc maxL (some (.object C))) rm (va_Pc av (rk_B D TY RW RO PL sz)) (rk_Qq (v x0) D (w1 x0) RW sz) mc ms (va_A RW sz) := by
  refine rk_met hy hlen ?_
  intro p e s m args below meth c A ls hAe hr hlocks hname hF hP hD hA hV hR hn hPL hnl hl
  refine body p e s m args below meth c A ls _ ?_ hname hF hP hD hA hV hR hn hPL hnl hl hg va_S.rf
  intro x H locs pc ls hx hdg hP hD hS
  cases hx
  subst hAe
  exact W.aret hF.1 hF.2.1 hr (Or.inl ⟨_, rfl⟩) (va_rf_or _) (fun t ht hW => ⟨⟨_, (), rfl, rfl, by rw [ht]; exact hP, hD⟩, hS.F ht⟩) hS.2.2 hdg hlocks
theorem rk_metr {rt : FieldType} (hrt : (∃ n, rt = .object n) ∨ ∃ t, rt = .array t) (hg : g = some x0) (w1 : X → Nat → va_W) (hy : plainName y.cls = true) (hlen : (lg_sl av).length ≤ maxL)
    (body : ∀ (p : Program) (e : Env) (s : State) (m : MethodId) (args : Array Value) (below : List Frame) (meth : Method) (c : Code) (A : Nat → Prop) (ls : Array Slot) (Q : State → Prop), (∀ (x : X) (a : Nat) (H : Heap) (locs : List Loc) (pc : Nat) (ls : Array Slot), some x = some x0 → decode cc pc = .ok (.areturn, 1) → va_P D vwCl (w1 x a) H → va_D A (w1 x a) → va_S A s.heap H locs → W p l e rm s m args below meth c H locs mc ms Q (F0 m pc ls [.ref a])) → meth.name = y.name → CallFix p m c cc maxL s args rk_c y.cls → va_P D vwCl RW s.heap → va_D A RW → (∀ q : Nat, s.heap.size ≤ q → A q) → rk_V D TY s → va_P D vwCl RO s.heap → (∀ (k : Nat) (q : Nat × va_E), RO[k]? = some q → ¬ A q.1) → va_P D vwCl PL s.heap → (∀ (k : Nat) (q : Nat × va_E), PL[k]? = some q → ¬ A q.1) → lv_has ls maxL (lv_args 0 av) → g = some x0 → va_S A s.heap s.heap [] →
      W p l e rm s m args below meth c s.heap [] 0 0 Q (F0 m 0 ls [])) :
    Met l y (rk_w y cc maxL (some rt)) rm (va_Pc av (rk_B D TY RW RO PL sz)) (rk_Qr D (w1 x0) RW sz) mc ms (va_A RW sz) := by
  refine rk_met hy hlen ?_
  intro p e s m args below meth c A ls hAe hr hlocks hname hF hP hD hA hV hR hn hPL hnl hl
  refine body p e s m args below meth c A ls _ ?_ hname hF hP hD hA hV hR hn hPL hnl hl hg va_S.rf
  intro x a H locs pc ls hx hdg hP hD hS
  cases hx
  subst hAe
  exact W.aret hF.1 hF.2.1 hr hrt (Or.inr ⟨a, rfl⟩) (fun t ht hW => ⟨⟨(), a, rfl, trivial, by rw [ht]; exact hP, hD⟩, hS.F ht⟩) hS.2.2 hdg hlocks
end RKM
section RKC
variable {p : Program} {l : Launch} {e : Env} {R : Room} {s : State} {m : MethodId} {args : Array Value} {below : List Frame} {meth : Method} {c : Code} {H H0 : Heap} {locs : List Loc} {cells slots : Nat} {Q : State → Prop} {D : va_G} {TY : List (ClassId × FieldType)} {ws ro PL wc rc wr w1 : va_W} {A : Nat → Prop} {av : List Value} {pc mc ms : Nat} {ls : Array Slot} {st0 rest : List Value} {a : Array Value}
theorem rk_blind {RW RO : va_W} {sz : Nat} : FrameBlind (va_Pc av (rk_B D TY RW RO PL sz)) := fun a U g mk q => by
  obtain ⟨q0, q1, q2, q3, q4, q5, q6, q7, q8⟩ := q
  exact ⟨q0, q1, q2, q3, q4, q5, q6, q7, rk_V.same (s := U) rfl q8⟩
theorem rk_preS (hP : va_P D vwCl ws H) (hD : va_D A ws) (hS : va_S A H0 H locs) (hR : va_P D vwCl ro H) (hn : ∀ (k : Nat) (q : Nat × va_E), ro[k]? = some q → ¬ A q.1) (hPL : va_P D vwCl PL H0) (hnl : ∀ (k : Nat) (q : Nat × va_E), PL[k]? = some q → ¬ A q.1) (hV : rk_V D TY s) (isC : List Nat) (src : List (Bool × Nat)) (hC : isC.map (fun i => ws[i]?) = wc.map some) (hnd : va_nd isC = true) (hsrc : src.map (fun x => if x.1 = true then ws[x.2]? else ro[x.2]?) = rc.map some) (hdis : (src.all fun x => !x.1 || !isC.contains x.2) = true) : PreS s H (va_Pc av (rk_B D TY wc rc PL H.size)) av := by
  refine ⟨rk_blind, fun U hU hW => ?_⟩
  have hwc : va_P D vwCl wc H := by
    intro k q hk
    have h1 : (isC.map (fun i => ws[i]?))[k]? = some (some q) := by rw [hC, List.getElem?_map, hk]; rfl
    rw [List.getElem?_map] at h1
    cases hi : isC[k]? with
    | none => rw [hi] at h1; cases h1
    | some i => rw [hi] at h1; exact hP i q (Option.some.inj h1)
  have key : ∀ (k : Nat) (q : Nat × va_E), rc[k]? = some q → va_at D vwCl q H ∧ ∀ (j : Nat) (p : Nat × va_E), wc[j]? = some p → p.1 ≠ q.1 := by
    intro k q hk
    have h1 : (src.map (fun x => if x.1 = true then ws[x.2]? else ro[x.2]?))[k]? = some (some q) := by rw [hsrc, List.getElem?_map, hk]; rfl
    rw [List.getElem?_map] at h1
    cases hi : src[k]? with
    | none => rw [hi] at h1; cases h1
    | some x =>
      rw [hi] at h1
      have h2 : (if x.1 = true then ws[x.2]? else ro[x.2]?) = some q := Option.some.inj h1
      have hmem : x ∈ src := List.mem_of_getElem? hi
      by_cases hx : x.1 = true
      · rw [if_pos hx] at h2
        refine ⟨hP _ q h2, fun j p hj e => ?_⟩
        have h3 : (isC.map (fun i => ws[i]?))[j]? = some (some p) := by rw [hC, List.getElem?_map, hj]; rfl
        rw [List.getElem?_map] at h3
        cases hc : isC[j]? with
        | none => rw [hc] at h3; cases h3
        | some i =>
          rw [hc] at h3
          have h4 := hD.1 i x.2 p q (Option.some.inj h3) h2 e
          have h5 := List.all_eq_true.mp hdis x hmem
          rw [hx] at h5
          have h6 : x.2 ∈ isC := h4 ▸ List.mem_of_getElem? hc
          simp [h6] at h5
      · rw [if_neg hx] at h2
        refine ⟨hR _ q h2, fun j p hj e => ?_⟩
        have h3 : (isC.map (fun i => ws[i]?))[j]? = some (some p) := by rw [hC, List.getElem?_map, hj]; rfl
        rw [List.getElem?_map] at h3
        cases hc : isC[j]? with
        | none => rw [hc] at h3; cases h3
        | some i =>
          rw [hc] at h3
          exact hn _ q h2 (e ▸ hD.2 i p (Option.some.inj h3))
  have hDc : va_D (fun _ => True) wc := (hD.sub isC hnd hC).weaken (fun _ _ _ _ => trivial)
  refine ⟨rfl, by rw [hU], by rw [hU]; exact hwc, hDc, by rw [hU]; exact fun k q hk => (key k q hk).1, fun k q hk j p hj => (key k q hk).2 j p hj, by rw [hU]; exact rk_keep hPL hnl hS, fun k q hk j p hj e => ?_, hV.warm hW⟩
  have h3 : (isC.map (fun i => ws[i]?))[j]? = some (some p) := by rw [hC, List.getElem?_map, hj]; rfl
  rw [List.getElem?_map] at h3
  cases hc : isC[j]? with
  | none => rw [hc] at h3; cases h3
  | some i =>
    rw [hc] at h3
    exact hnl _ q hk (e ▸ hD.2 i p (Option.some.inj h3))
theorem rk_preV {C : String} {b : Nat} (hrv : ∃ cell : Cell, H[b]? = some cell ∧ cell.vm.isStatics = false ∧ s.vm.findClass C = some cell.cls) (h : PreS s H (va_Pc (.ref b :: av) (rk_B D TY wc rc PL H.size)) (.ref b :: av)) : PreV s H C b (va_Pc (.ref b :: av) (rk_B D TY wc rc PL H.size)) av := ⟨h.1, hrv, h.2⟩
theorem rk_i {v : Int32} (hr : va_Run p l e R s m args below meth c H locs cells slots mc ms (F0 m pc ls st0) rest (rk_Qi v D w1 wc H.size a) (va_A wc H.size)) (hP : va_P D vwCl ws H) (hD : va_D A ws) (hS : va_S A H0 H locs) (hA : ∀ q : Nat, H0.size ≤ q → A q) (hR0 : va_P D vwCl ro H0) (hn : ∀ (k : Nat) (q : Nat × va_E), ro[k]? = some q → ¬ A q.1) (isC isR : List Nat) (hC : isC.map (fun i => ws[i]?) = wc.map some) (hr2 : isR.map (fun i => ws[i]?) = wr.map some) (hnd : va_nd isR = true) (hdis : ∀ i ∈ isR, i ∉ isC)
    (kk : ∀ (H1 : Heap) (locs1 : List Loc), va_P D vwCl (wr ++ w1) H1 → va_D A (wr ++ w1) → va_S A H0 H1 locs1 → va_P D vwCl ro H1 → W p l e R s m args below meth c H1 locs1 (cells + mc) (slots + ms) Q (F0 m (pc + 3) ls (.int v :: rest))) : W p l e R s m args below meth c H locs cells slots Q (F0 m pc ls st0) := by
  have hFc := va_free hD hS hA isC hC
  refine va_calli hr hS (fun q _ h => hFc q h) hFc (fun r u t H1 locs ht hvm hw hB hz1 hk1 hS => ?_)
  obtain ⟨hP1, hD1⟩ := hB
  rw [ht] at hP1
  subst hw
  obtain ⟨hP, hD⟩ := va_join hP hD isC isR hC hr2 hnd hdis hk1 hFc hP1 hD1
  exact kk H1 locs hP hD hS (rk_keep hR0 hn hS)
theorem rk_l {v : Int64} (hr : va_Run p l e R s m args below meth c H locs cells slots mc ms (F0 m pc ls st0) rest (rk_Ql v D w1 wc H.size a) (va_A wc H.size)) (hP : va_P D vwCl ws H) (hD : va_D A ws) (hS : va_S A H0 H locs) (hA : ∀ q : Nat, H0.size ≤ q → A q) (hR0 : va_P D vwCl ro H0) (hn : ∀ (k : Nat) (q : Nat × va_E), ro[k]? = some q → ¬ A q.1) (isC isR : List Nat) (hC : isC.map (fun i => ws[i]?) = wc.map some) (hr2 : isR.map (fun i => ws[i]?) = wr.map some) (hnd : va_nd isR = true) (hdis : ∀ i ∈ isR, i ∉ isC)
    (kk : ∀ (H1 : Heap) (locs1 : List Loc), va_P D vwCl (wr ++ w1) H1 → va_D A (wr ++ w1) → va_S A H0 H1 locs1 → va_P D vwCl ro H1 → W p l e R s m args below meth c H1 locs1 (cells + mc) (slots + ms) Q (F0 m (pc + 3) ls (.long v :: rest))) : W p l e R s m args below meth c H locs cells slots Q (F0 m pc ls st0) := by
  have hFc := va_free hD hS hA isC hC
  refine va_calll hr hS (fun q _ h => hFc q h) hFc (fun r u t H1 locs ht hvm hw hB hz1 hk1 hS => ?_)
  obtain ⟨hP1, hD1⟩ := hB
  rw [ht] at hP1
  subst hw
  obtain ⟨hP, hD⟩ := va_join hP hD isC isR hC hr2 hnd hdis hk1 hFc hP1 hD1
  exact kk H1 locs hP hD hS (rk_keep hR0 hn hS)
theorem rk_q {v : Option Nat} (hr : va_Run p l e R s m args below meth c H locs cells slots mc ms (F0 m pc ls st0) rest (rk_Qq v D w1 wc H.size a) (va_A wc H.size)) (hP : va_P D vwCl ws H) (hD : va_D A ws) (hS : va_S A H0 H locs) (hA : ∀ q : Nat, H0.size ≤ q → A q) (hR0 : va_P D vwCl ro H0) (hn : ∀ (k : Nat) (q : Nat × va_E), ro[k]? = some q → ¬ A q.1) (isC isR : List Nat) (hC : isC.map (fun i => ws[i]?) = wc.map some) (hr2 : isR.map (fun i => ws[i]?) = wr.map some) (hnd : va_nd isR = true) (hdis : ∀ i ∈ isR, i ∉ isC)
    (kk : ∀ (H1 : Heap) (locs1 : List Loc), va_P D vwCl (wr ++ w1) H1 → va_D A (wr ++ w1) → va_S A H0 H1 locs1 → va_P D vwCl ro H1 → W p l e R s m args below meth c H1 locs1 (cells + mc) (slots + ms) Q (F0 m (pc + 3) ls (va_rf v :: rest))) : W p l e R s m args below meth c H locs cells slots Q (F0 m pc ls st0) := by
  have hFc := va_free hD hS hA isC hC
  refine va_callq hr hS (fun q _ h => hFc q h) hFc (fun r u t H1 locs ht hvm hw hB hz1 hk1 hS => ?_)
  obtain ⟨hP1, hD1⟩ := hB
  rw [ht] at hP1
  subst hw
  obtain ⟨hP, hD⟩ := va_join hP hD isC isR hC hr2 hnd hdis hk1 hFc hP1 hD1
  exact kk H1 locs hP hD hS (rk_keep hR0 hn hS)
theorem rk_v (hr : va_Run p l e R s m args below meth c H locs cells slots mc ms (F0 m pc ls st0) rest (rk_Qv D w1 wc H.size a) (va_A wc H.size)) (hP : va_P D vwCl ws H) (hD : va_D A ws) (hS : va_S A H0 H locs) (hA : ∀ q : Nat, H0.size ≤ q → A q) (hR0 : va_P D vwCl ro H0) (hn : ∀ (k : Nat) (q : Nat × va_E), ro[k]? = some q → ¬ A q.1) (isC isR : List Nat) (hC : isC.map (fun i => ws[i]?) = wc.map some) (hr2 : isR.map (fun i => ws[i]?) = wr.map some) (hnd : va_nd isR = true) (hdis : ∀ i ∈ isR, i ∉ isC)
    (kk : ∀ (H1 : Heap) (locs1 : List Loc), va_P D vwCl (wr ++ w1) H1 → va_D A (wr ++ w1) → va_S A H0 H1 locs1 → va_P D vwCl ro H1 → W p l e R s m args below meth c H1 locs1 (cells + mc) (slots + ms) Q (F0 m (pc + 3) ls rest)) : W p l e R s m args below meth c H locs cells slots Q (F0 m pc ls st0) := by
  have hFc := va_free hD hS hA isC hC
  refine va_callv hr hS (fun q _ h => hFc q h) hFc (fun u t H1 locs ht hvm hw hB hz1 hk1 hS => ?_)
  obtain ⟨hP1, hD1⟩ := hB
  rw [ht] at hP1
  obtain ⟨hP, hD⟩ := va_join hP hD isC isR hC hr2 hnd hdis hk1 hFc hP1 hD1
  exact kk H1 locs hP hD hS (rk_keep hR0 hn hS)
theorem rk_r {w1 : Nat → va_W} (hr : va_Run p l e R s m args below meth c H locs cells slots mc ms (F0 m pc ls st0) rest (rk_Qr D w1 wc H.size a) (va_A wc H.size)) (hP : va_P D vwCl ws H) (hD : va_D A ws) (hS : va_S A H0 H locs) (hA : ∀ q : Nat, H0.size ≤ q → A q) (hR0 : va_P D vwCl ro H0) (hn : ∀ (k : Nat) (q : Nat × va_E), ro[k]? = some q → ¬ A q.1) (isC isR : List Nat) (hC : isC.map (fun i => ws[i]?) = wc.map some) (hr2 : isR.map (fun i => ws[i]?) = wr.map some) (hnd : va_nd isR = true) (hdis : ∀ i ∈ isR, i ∉ isC)
    (kk : ∀ (b : Nat) (H1 : Heap) (locs1 : List Loc), va_P D vwCl (wr ++ w1 b) H1 → va_D A (wr ++ w1 b) → va_S A H0 H1 locs1 → va_P D vwCl ro H1 → W p l e R s m args below meth c H1 locs1 (cells + mc) (slots + ms) Q (F0 m (pc + 3) ls (.ref b :: rest))) : W p l e R s m args below meth c H locs cells slots Q (F0 m pc ls st0) := by
  have hFc := va_free hD hS hA isC hC
  refine va_callr hr hS (fun q _ h => hFc q h) hFc (fun u b t H1 locs ht hvm hw hB hz1 hk1 hS => ?_)
  obtain ⟨hP1, hD1⟩ := hB
  rw [ht] at hP1
  obtain ⟨hP, hD⟩ := va_join hP hD isC isR hC hr2 hnd hdis hk1 hFc hP1 hD1
  exact kk b H1 locs hP hD hS (rk_keep hR0 hn hS)
variable {cc : ByteArray}
theorem rk_lceq (hexec : p.tables.exec = Jvm.exec) (hb : c.code = cc) {x y : Int64} {off : Int} {tgt : Nat} (h1 : decode cc pc = .ok (.lcmp, 1)) (hdg : decode cc (pc + 1) = .ok (.ifCond .eq off, 3)) (ht : ((pc + 1 : Nat) : Int) + off = (tgt : Int))
    (kt : x = y → W p l e R s m args below meth c H locs cells slots Q (F0 m tgt ls rest)) (kf : ¬ x = y → W p l e R s m args below meth c H locs cells slots Q (F0 m (pc + 4) ls rest)) : W p l e R s m args below meth c H locs cells slots Q (F0 m pc ls (.long y :: .long x :: rest)) :=
  W.lcmp hexec hb h1 (lv_if_eq hexec hb hdg ht (fun h => kt ((lg_cmp_eq x y).mp h)) (fun h => kf (fun h' => h ((lg_cmp_eq x y).mpr h'))))
theorem rk_lcne (hexec : p.tables.exec = Jvm.exec) (hb : c.code = cc) {x y : Int64} {off : Int} {tgt : Nat} (h1 : decode cc pc = .ok (.lcmp, 1)) (hdg : decode cc (pc + 1) = .ok (.ifCond .ne off, 3)) (ht : ((pc + 1 : Nat) : Int) + off = (tgt : Int))
    (kt : ¬ x = y → W p l e R s m args below meth c H locs cells slots Q (F0 m tgt ls rest)) (kf : x = y → W p l e R s m args below meth c H locs cells slots Q (F0 m (pc + 4) ls rest)) : W p l e R s m args below meth c H locs cells slots Q (F0 m pc ls (.long y :: .long x :: rest)) :=
  W.lcmp hexec hb h1 (lv_if_ne hexec hb hdg ht (fun h => kt (fun h' => h ((lg_cmp_eq x y).mpr h'))) (fun h => kf ((lg_cmp_eq x y).mp h)))
theorem rk_lclt (hexec : p.tables.exec = Jvm.exec) (hb : c.code = cc) {x y : Int64} {off : Int} {tgt : Nat} (h1 : decode cc pc = .ok (.lcmp, 1)) (hdg : decode cc (pc + 1) = .ok (.ifCond .lt off, 3)) (ht : ((pc + 1 : Nat) : Int) + off = (tgt : Int))
    (kt : x < y → W p l e R s m args below meth c H locs cells slots Q (F0 m tgt ls rest)) (kf : ¬ x < y → W p l e R s m args below meth c H locs cells slots Q (F0 m (pc + 4) ls rest)) : W p l e R s m args below meth c H locs cells slots Q (F0 m pc ls (.long y :: .long x :: rest)) :=
  W.lcmp hexec hb h1 (lv_if_lt hexec hb hdg ht (fun h => kt ((lg_cmp_lt x y).mp h)) (fun h => kf (fun h' => h ((lg_cmp_lt x y).mpr h'))))
theorem rk_lcge (hexec : p.tables.exec = Jvm.exec) (hb : c.code = cc) {x y : Int64} {off : Int} {tgt : Nat} (h1 : decode cc pc = .ok (.lcmp, 1)) (hdg : decode cc (pc + 1) = .ok (.ifCond .ge off, 3)) (ht : ((pc + 1 : Nat) : Int) + off = (tgt : Int))
    (kt : y ≤ x → W p l e R s m args below meth c H locs cells slots Q (F0 m tgt ls rest)) (kf : ¬ y ≤ x → W p l e R s m args below meth c H locs cells slots Q (F0 m (pc + 4) ls rest)) : W p l e R s m args below meth c H locs cells slots Q (F0 m pc ls (.long y :: .long x :: rest)) :=
  W.lcmp hexec hb h1 (lv_if_ge hexec hb hdg ht (fun h => kt ((lg_cmp_ge x y).mp h)) (fun h => kf (fun h' => h ((lg_cmp_ge x y).mpr h'))))
theorem rk_lcgt (hexec : p.tables.exec = Jvm.exec) (hb : c.code = cc) {x y : Int64} {off : Int} {tgt : Nat} (h1 : decode cc pc = .ok (.lcmp, 1)) (hdg : decode cc (pc + 1) = .ok (.ifCond .gt off, 3)) (ht : ((pc + 1 : Nat) : Int) + off = (tgt : Int))
    (kt : y < x → W p l e R s m args below meth c H locs cells slots Q (F0 m tgt ls rest)) (kf : ¬ y < x → W p l e R s m args below meth c H locs cells slots Q (F0 m (pc + 4) ls rest)) : W p l e R s m args below meth c H locs cells slots Q (F0 m pc ls (.long y :: .long x :: rest)) :=
  W.lcmp hexec hb h1 (lv_if_gt hexec hb hdg ht (fun h => kt ((lg_cmp_gt x y).mp h)) (fun h => kf (fun h' => h ((lg_cmp_gt x y).mpr h'))))
theorem rk_lcle (hexec : p.tables.exec = Jvm.exec) (hb : c.code = cc) {x y : Int64} {off : Int} {tgt : Nat} (h1 : decode cc pc = .ok (.lcmp, 1)) (hdg : decode cc (pc + 1) = .ok (.ifCond .le off, 3)) (ht : ((pc + 1 : Nat) : Int) + off = (tgt : Int))
    (kt : x ≤ y → W p l e R s m args below meth c H locs cells slots Q (F0 m tgt ls rest)) (kf : ¬ x ≤ y → W p l e R s m args below meth c H locs cells slots Q (F0 m (pc + 4) ls rest)) : W p l e R s m args below meth c H locs cells slots Q (F0 m pc ls (.long y :: .long x :: rest)) :=
  W.lcmp hexec hb h1 (lv_if_le hexec hb hdg ht (fun h => kt ((lg_cmp_le x y).mp h)) (fun h => kf (fun h' => h ((lg_cmp_le x y).mpr h'))))
end RKC
