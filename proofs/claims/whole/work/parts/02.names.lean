def RX0 : String := "ClayDisc$Big"
def TX0 : u_T := fun k => match k with
  | 0 => ("ClayDisc$Big", "limbs", "[J", true)
  | _ => ("ClayDisc$Big", "used", "I", false)
def tyX0 : Nat → FieldType := fun k => match k with
  | 0 => .array .long
  | _ => .int
abbrev wsX00 : List Cond := u_ws RX0 TX0 2
theorem nmX0 : ∀ a, a < 2 → ∀ b, b < 2 → a ≠ b → (TX0 a).2.1 ≠ (TX0 b).2.1 := by decide +kernel
theorem tyX0_ok : ∀ k, k < 2 → parseFieldDescriptor (TX0 k).2.2.1 = some (tyX0 k) := by decide +kernel
abbrev cX0_init : ByteArray := prog_2_method_1_code
def yX0_init : MethodName := ⟨RX0, "<init>", "()V"⟩
abbrev cX0_become : ByteArray := prog_2_method_2_code
def yX0_become : MethodName := ⟨RX0, "become", "(I)V"⟩
abbrev cX0_times : ByteArray := prog_2_method_3_code
def yX0_times : MethodName := ⟨RX0, "times", "(I)V"⟩
abbrev cX0_timesPower : ByteArray := prog_2_method_4_code
def yX0_timesPower : MethodName := ⟨RX0, "timesPower", "(II)V"⟩
abbrev cX0_against : ByteArray := prog_2_method_5_code
def yX0_against : MethodName := ⟨RX0, "against", "(LClayDisc$Big;)I"⟩
abbrev cX0_limbAt : ByteArray := prog_2_method_6_code
def yX0_limbAt : MethodName := ⟨RX0, "limbAt", "(I)J"⟩
def RX1 : String := "ClayDisc$Claims"
def TX1 : u_T := fun k => match k with
  | 0 => ("ClayDisc$Claims", "said", "[[I", true)
  | 1 => ("ClayDisc$Claims", "size", "I", false)
  | 2 => ("ClayDisc$Claims", "pairs", "[I", true)
  | 3 => ("ClayDisc$Claims", "depths", "[I", true)
  | 4 => ("ClayDisc$Claims", "yes", "[I", true)
  | 5 => ("ClayDisc$Claims", "no", "[I", true)
  | _ => ("ClayDisc$Claims", "pairCount", "I", false)
def tyX1 : Nat → FieldType := fun k => match k with
  | 0 => .array (.array .int)
  | 1 => .int
  | 2 => .array .int
  | 3 => .array .int
  | 4 => .array .int
  | 5 => .array .int
  | _ => .int
abbrev wsX10 : List Cond := u_ws RX1 TX1 7
theorem nmX1 : ∀ a, a < 7 → ∀ b, b < 7 → a ≠ b → (TX1 a).2.1 ≠ (TX1 b).2.1 := by decide +kernel
theorem tyX1_ok : ∀ k, k < 7 → parseFieldDescriptor (TX1 k).2.2.1 = some (tyX1 k) := by decide +kernel
abbrev cX1_init : ByteArray := prog_3_method_1_code
def yX1_init : MethodName := ⟨RX1, "<init>", "()V"⟩
abbrev cX1_has : ByteArray := prog_3_method_2_code
def yX1_has : MethodName := ⟨RX1, "has", "(I)Z"⟩
abbrev cX1_add : ByteArray := prog_3_method_3_code
def yX1_add : MethodName := ⟨RX1, "add", "()I"⟩
abbrev cX1_saying : ByteArray := prog_3_method_4_code
def yX1_saying : MethodName := ⟨RX1, "saying", "(II)I"⟩
abbrev cX1_standing : ByteArray := prog_3_method_5_code
def yX1_standing : MethodName := ⟨RX1, "standing", "([I)I"⟩
abbrev cX1_listPairs : ByteArray := prog_3_method_6_code
def yX1_listPairs : MethodName := ⟨RX1, "listPairs", "(II)V"⟩
abbrev cX1_parting : ByteArray := prog_3_method_7_code
def yX1_parting : MethodName := ⟨RX1, "parting", "(II)I"⟩
abbrev cX1_partedBy : ByteArray := prog_3_method_8_code
def yX1_partedBy : MethodName := ⟨RX1, "partedBy", "(I)Z"⟩
abbrev cX1_depth : ByteArray := prog_3_method_9_code
def yX1_depth : MethodName := ⟨RX1, "depth", "(II)I"⟩
abbrev cX1_depthOf : ByteArray := prog_3_method_10_code
def yX1_depthOf : MethodName := ⟨RX1, "depthOf", "(I)I"⟩
def RX2 : String := "ClayDisc$Disc"
def TX2 : u_T := fun k => match k with
  | 0 => ("ClayDisc$Disc", "kinds", "[I", true)
  | 1 => ("ClayDisc$Disc", "groupOf", "[I", true)
  | 2 => ("ClayDisc$Disc", "start", "[I", true)
  | 3 => ("ClayDisc$Disc", "groups", "I", false)
  | _ => ("ClayDisc$Disc", "places", "I", false)
def tyX2 : Nat → FieldType := fun k => match k with
  | 0 => .array .int
  | 1 => .array .int
  | 2 => .array .int
  | 3 => .int
  | _ => .int
abbrev wsX20 : List Cond := u_ws RX2 TX2 5
theorem nmX2 : ∀ a, a < 5 → ∀ b, b < 5 → a ≠ b → (TX2 a).2.1 ≠ (TX2 b).2.1 := by decide +kernel
theorem tyX2_ok : ∀ k, k < 5 → parseFieldDescriptor (TX2 k).2.2.1 = some (tyX2 k) := by decide +kernel
abbrev cX2_init : ByteArray := prog_4_method_1_code
def yX2_init : MethodName := ⟨RX2, "<init>", "()V"⟩
abbrev cX2_fill : ByteArray := prog_4_method_2_code
def yX2_fill : MethodName := ⟨RX2, "fill", "(LClayDisc$Text;)V"⟩
abbrev cX2_take : ByteArray := prog_4_method_3_code
def yX2_take : MethodName := ⟨RX2, "take", "(LClayDisc$Disc;)V"⟩
abbrev cX2_lengthOf : ByteArray := prog_4_method_4_code
def yX2_lengthOf : MethodName := ⟨RX2, "lengthOf", "(I)I"⟩
abbrev cX2_hide : ByteArray := prog_4_method_5_code
def yX2_hide : MethodName := ⟨RX2, "hide", "(I)V"⟩
abbrev cX2_kindBits : ByteArray := prog_4_method_6_code
def yX2_kindBits : MethodName := ⟨RX2, "kindBits", "()I"⟩
abbrev cX2_countKinds : ByteArray := prog_4_method_7_code
def yX2_countKinds : MethodName := ⟨RX2, "countKinds", "([I)V"⟩
abbrev cX2_clear : ByteArray := prog_4_method_8_code
def yX2_clear : MethodName := ⟨RX2, "clear", "(II)Z"⟩
abbrev cX2_sameSigns : ByteArray := prog_4_method_9_code
def yX2_sameSigns : MethodName := ⟨RX2, "sameSigns", "(III)Z"⟩
def RX3 : String := "ClayDisc$Orders"
def TX3 : u_T := fun k => match k with
  | 0 => ("ClayDisc$Orders", "ways", "[J", true)
  | 1 => ("ClayDisc$Orders", "needed", "[I", true)
  | _ => ("ClayDisc$Orders", "places", "I", false)
def tyX3 : Nat → FieldType := fun k => match k with
  | 0 => .array .long
  | 1 => .array .int
  | _ => .int
abbrev wsX30 : List Cond := u_ws RX3 TX3 3
theorem nmX3 : ∀ a, a < 3 → ∀ b, b < 3 → a ≠ b → (TX3 a).2.1 ≠ (TX3 b).2.1 := by decide +kernel
theorem tyX3_ok : ∀ k, k < 3 → parseFieldDescriptor (TX3 k).2.2.1 = some (tyX3 k) := by decide +kernel
abbrev cX3_init : ByteArray := prog_5_method_1_code
def yX3_init : MethodName := ⟨RX3, "<init>", "()V"⟩
abbrev cX3_open : ByteArray := prog_5_method_2_code
def yX3_open : MethodName := ⟨RX3, "\x6fpen", "(ILClayDisc$Overs;)V"⟩
abbrev cX3_bind : ByteArray := prog_5_method_3_code
def yX3_bind : MethodName := ⟨RX3, "bind", "(II)V"⟩
abbrev cX3_number : ByteArray := prog_5_method_4_code
def yX3_number : MethodName := ⟨RX3, "number", "()J"⟩
abbrev cX3_grow : ByteArray := prog_5_method_5_code
def yX3_grow : MethodName := ⟨RX3, "grow", "(I)V"⟩
def RX4 : String := "ClayDisc$Overs"
def TX4 : u_T := fun k => match k with
  | 0 => ("ClayDisc$Overs", "behind", "[I", true)
  | 1 => ("ClayDisc$Overs", "before", "[I", true)
  | _ => ("ClayDisc$Overs", "size", "I", false)
def tyX4 : Nat → FieldType := fun k => match k with
  | 0 => .array .int
  | 1 => .array .int
  | _ => .int
abbrev wsX40 : List Cond := u_ws RX4 TX4 3
theorem nmX4 : ∀ a, a < 3 → ∀ b, b < 3 → a ≠ b → (TX4 a).2.1 ≠ (TX4 b).2.1 := by decide +kernel
theorem tyX4_ok : ∀ k, k < 3 → parseFieldDescriptor (TX4 k).2.2.1 = some (tyX4 k) := by decide +kernel
abbrev cX4_init : ByteArray := prog_6_method_1_code
def yX4_init : MethodName := ⟨RX4, "<init>", "()V"⟩
abbrev cX4_has : ByteArray := prog_6_method_2_code
def yX4_has : MethodName := ⟨RX4, "has", "(II)Z"⟩
abbrev cX4_add : ByteArray := prog_6_method_3_code
def yX4_add : MethodName := ⟨RX4, "add", "(II)I"⟩
abbrev cX4_take : ByteArray := prog_6_method_4_code
def yX4_take : MethodName := ⟨RX4, "take", "(LClayDisc$Overs;)V"⟩
abbrev cX4_all : ByteArray := prog_6_method_5_code
def yX4_all : MethodName := ⟨RX4, "all", "()I"⟩
abbrev cX4_ringFree : ByteArray := prog_6_method_6_code
def yX4_ringFree : MethodName := ⟨RX4, "ringFree", "(I)Z"⟩
abbrev cX4_peel : ByteArray := prog_6_method_7_code
def yX4_peel : MethodName := ⟨RX4, "peel", "(I)I"⟩
def RX5 : String := "ClayDisc$Reader"
def TX5 : u_T := fun k => match k with
  | 0 => ("ClayDisc$Reader", "sorted", "[J", true)
  | 1 => ("ClayDisc$Reader", "steps", "I", false)
  | 2 => ("ClayDisc$Reader", "found", "I", false)
  | 3 => ("ClayDisc$Reader", "held", "I", false)
  | 4 => ("ClayDisc$Reader", "wordBits", "I", false)
  | 5 => ("ClayDisc$Reader", "least", "J", false)
  | 6 => ("ClayDisc$Reader", "ways", "LClayDisc$Ways;", true)
  | 7 => ("ClayDisc$Reader", "tally", "[I", true)
  | 8 => ("ClayDisc$Reader", "chosen", "[I", true)
  | 9 => ("ClayDisc$Reader", "levels", "I", false)
  | 10 => ("ClayDisc$Reader", "mode", "I", false)
  | _ => ("ClayDisc$Reader", "detail", "I", false)
def tyX5 : Nat → FieldType := fun k => match k with
  | 0 => .array .long
  | 1 => .int
  | 2 => .int
  | 3 => .int
  | 4 => .int
  | 5 => .long
  | 6 => .object "ClayDisc$Ways"
  | 7 => .array .int
  | 8 => .array .int
  | 9 => .int
  | 10 => .int
  | _ => .int
abbrev wsX50 : List Cond := u_ws RX5 TX5 12
theorem nmX5 : ∀ a, a < 12 → ∀ b, b < 12 → a ≠ b → (TX5 a).2.1 ≠ (TX5 b).2.1 := by decide +kernel
theorem tyX5_ok : ∀ k, k < 12 → parseFieldDescriptor (TX5 k).2.2.1 = some (tyX5 k) := by decide +kernel
abbrev cX5_init : ByteArray := prog_7_method_1_code
def yX5_init : MethodName := ⟨RX5, "<init>", "(LClayDisc$Ways;)V"⟩
abbrev cX5_run : ByteArray := prog_7_method_2_code
def yX5_run : MethodName := ⟨RX5, "run", "(III)V"⟩
abbrev cX5_tooMany : ByteArray := prog_7_method_3_code
def yX5_tooMany : MethodName := ⟨RX5, "tooMany", "()Z"⟩
abbrev cX5_lettersOf : ByteArray := prog_7_method_4_code
def yX5_lettersOf : MethodName := ⟨RX5, "lettersOf", "(I)I"⟩
abbrev cX5_worstOf : ByteArray := prog_7_method_5_code
def yX5_worstOf : MethodName := ⟨RX5, "worstOf", "(I)I"⟩
abbrev cX5_walk : ByteArray := prog_7_method_6_code
def yX5_walk : MethodName := ⟨RX5, "walk", "(IJI)V"⟩
abbrev cX5_take : ByteArray := prog_7_method_7_code
def yX5_take : MethodName := ⟨RX5, "take", "(J)V"⟩
abbrev cX5_tallyLetters : ByteArray := prog_7_method_8_code
def yX5_tallyLetters : MethodName := ⟨RX5, "tallyLetters", "(J)V"⟩
abbrev cX5_sortIn : ByteArray := prog_7_method_9_code
def yX5_sortIn : MethodName := ⟨RX5, "sortIn", "(J)V"⟩
def RX6 : String := "ClayDisc$Row"
def TX6 : u_T := fun k => match k with
  | 0 => ("ClayDisc$Row", "values", "[J", true)
  | _ => ("ClayDisc$Row", "size", "I", false)
def tyX6 : Nat → FieldType := fun k => match k with
  | 0 => .array .long
  | _ => .int
abbrev wsX60 : List Cond := u_ws RX6 TX6 2
theorem nmX6 : ∀ a, a < 2 → ∀ b, b < 2 → a ≠ b → (TX6 a).2.1 ≠ (TX6 b).2.1 := by decide +kernel
theorem tyX6_ok : ∀ k, k < 2 → parseFieldDescriptor (TX6 k).2.2.1 = some (tyX6 k) := by decide +kernel
abbrev cX6_init : ByteArray := prog_8_method_1_code
def yX6_init : MethodName := ⟨RX6, "<init>", "()V"⟩
abbrev cX6_put : ByteArray := prog_8_method_2_code
def yX6_put : MethodName := ⟨RX6, "put", "(J)V"⟩
abbrev cX6_tell : ByteArray := prog_8_method_3_code
def yX6_tell : MethodName := ⟨RX6, "tell", "(J)V"⟩
abbrev cX6_tell_ : ByteArray := prog_8_method_4_code
def yX6_tell_ : MethodName := ⟨RX6, "tell", "(JJ)V"⟩
abbrev cX6_tellFraction : ByteArray := prog_8_method_5_code
def yX6_tellFraction : MethodName := ⟨RX6, "tellFraction", "(JJ)V"⟩
abbrev cX6_take : ByteArray := prog_8_method_6_code
def yX6_take : MethodName := ⟨RX6, "take", "(LClayDisc$Row;)V"⟩
abbrev cX6_commonDivisor : ByteArray := prog_8_method_7_code
def yX6_commonDivisor : MethodName := ⟨RX6, "commonDivisor", "(JJ)J"⟩
def RX7 : String := "ClayDisc$Text"
def TX7 : u_T := fun k => match k with
  | 0 => ("ClayDisc$Text", "signs", "[I", true)
  | _ => ("ClayDisc$Text", "size", "I", false)
def tyX7 : Nat → FieldType := fun k => match k with
  | 0 => .array .int
  | _ => .int
abbrev wsX70 : List Cond := u_ws RX7 TX7 2
theorem nmX7 : ∀ a, a < 2 → ∀ b, b < 2 → a ≠ b → (TX7 a).2.1 ≠ (TX7 b).2.1 := by decide +kernel
theorem tyX7_ok : ∀ k, k < 2 → parseFieldDescriptor (TX7 k).2.2.1 = some (tyX7 k) := by decide +kernel
abbrev cX7_init : ByteArray := prog_9_method_1_code
def yX7_init : MethodName := ⟨RX7, "<init>", "()V"⟩
abbrev cX7_push : ByteArray := prog_9_method_2_code
def yX7_push : MethodName := ⟨RX7, "push", "(I)V"⟩
abbrev cX7_faultAsDisc : ByteArray := prog_9_method_3_code
def yX7_faultAsDisc : MethodName := ⟨RX7, "faultAsDisc", "()I"⟩
abbrev cX7_faultAsWord : ByteArray := prog_9_method_4_code
def yX7_faultAsWord : MethodName := ⟨RX7, "faultAsWord", "()I"⟩
abbrev cX7_faultAsLaxness : ByteArray := prog_9_method_5_code
def yX7_faultAsLaxness : MethodName := ⟨RX7, "faultAsLaxness", "()I"⟩
abbrev cX7_fitsLaxness : ByteArray := prog_9_method_6_code
def yX7_fitsLaxness : MethodName := ⟨RX7, "fitsLaxness", "(II)Z"⟩
abbrev cX7_kindOf : ByteArray := prog_9_method_7_code
def yX7_kindOf : MethodName := ⟨RX7, "kindOf", "(I)I"⟩
def RX8 : String := "ClayDisc$Told"
def TX8 : u_T := fun k => match k with
  | 0 => ("ClayDisc$Told", "disc", "LClayDisc$Disc;", true)
  | 1 => ("ClayDisc$Told", "overs", "LClayDisc$Overs;", true)
  | 2 => ("ClayDisc$Told", "finds", "[I", true)
  | 3 => ("ClayDisc$Told", "homes", "I", false)
  | 4 => ("ClayDisc$Told", "drops", "I", false)
  | _ => ("ClayDisc$Told", "back", "Z", false)
def tyX8 : Nat → FieldType := fun k => match k with
  | 0 => .object "ClayDisc$Disc"
  | 1 => .object "ClayDisc$Overs"
  | 2 => .array .int
  | 3 => .int
  | 4 => .int
  | _ => .boolean
abbrev wsX80 : List Cond := u_ws RX8 TX8 6
theorem nmX8 : ∀ a, a < 6 → ∀ b, b < 6 → a ≠ b → (TX8 a).2.1 ≠ (TX8 b).2.1 := by decide +kernel
theorem tyX8_ok : ∀ k, k < 6 → parseFieldDescriptor (TX8 k).2.2.1 = some (tyX8 k) := by decide +kernel
abbrev cX8_init : ByteArray := prog_10_method_1_code
def yX8_init : MethodName := ⟨RX8, "<init>", "()V"⟩
abbrev cX8_take : ByteArray := prog_10_method_2_code
def yX8_take : MethodName := ⟨RX8, "take", "(LClayDisc$Told;)V"⟩
def RX9 : String := "ClayDisc$Tongue"
def TX9 : u_T := fun k => match k with
  | 0 => ("ClayDisc$Tongue", "letterAt", "[[I", true)
  | 1 => ("ClayDisc$Tongue", "lengths", "[I", true)
  | _ => ("ClayDisc$Tongue", "size", "I", false)
def tyX9 : Nat → FieldType := fun k => match k with
  | 0 => .array (.array .int)
  | 1 => .array .int
  | _ => .int
abbrev wsX90 : List Cond := u_ws RX9 TX9 3
theorem nmX9 : ∀ a, a < 3 → ∀ b, b < 3 → a ≠ b → (TX9 a).2.1 ≠ (TX9 b).2.1 := by decide +kernel
theorem tyX9_ok : ∀ k, k < 3 → parseFieldDescriptor (TX9 k).2.2.1 = some (tyX9 k) := by decide +kernel
abbrev cX9_init : ByteArray := prog_11_method_1_code
def yX9_init : MethodName := ⟨RX9, "<init>", "()V"⟩
abbrev cX9_has : ByteArray := prog_11_method_2_code
def yX9_has : MethodName := ⟨RX9, "has", "(LClayDisc$Text;)Z"⟩
abbrev cX9_isWord : ByteArray := prog_11_method_3_code
def yX9_isWord : MethodName := ⟨RX9, "isWord", "(ILClayDisc$Text;)Z"⟩
abbrev cX9_add : ByteArray := prog_11_method_4_code
def yX9_add : MethodName := ⟨RX9, "add", "(LClayDisc$Text;)I"⟩
def RX10 : String := "ClayDisc$Ways"
def TX10 : u_T := fun k => match k with
  | 0 => ("ClayDisc$Ways", "codes", "[[J", true)
  | 1 => ("ClayDisc$Ways", "sums", "[[I", true)
  | 2 => ("ClayDisc$Ways", "words", "[[I", true)
  | 3 => ("ClayDisc$Ways", "choices", "[I", true)
  | 4 => ("ClayDisc$Ways", "asked", "[J", true)
  | 5 => ("ClayDisc$Ways", "size", "I", false)
  | 6 => ("ClayDisc$Ways", "known", "J", false)
  | 7 => ("ClayDisc$Ways", "spread", "I", false)
  | 8 => ("ClayDisc$Ways", "drops", "I", false)
  | _ => ("ClayDisc$Ways", "back", "Z", false)
def tyX10 : Nat → FieldType := fun k => match k with
  | 0 => .array (.array .long)
  | 1 => .array (.array .int)
  | 2 => .array (.array .int)
  | 3 => .array .int
  | 4 => .array .long
  | 5 => .int
  | 6 => .long
  | 7 => .int
  | 8 => .int
  | _ => .boolean
abbrev wsX100 : List Cond := u_ws RX10 TX10 10
theorem nmX10 : ∀ a, a < 10 → ∀ b, b < 10 → a ≠ b → (TX10 a).2.1 ≠ (TX10 b).2.1 := by decide +kernel
theorem tyX10_ok : ∀ k, k < 10 → parseFieldDescriptor (TX10 k).2.2.1 = some (tyX10 k) := by decide +kernel
abbrev cX10_init : ByteArray := prog_12_method_1_code
def yX10_init : MethodName := ⟨RX10, "<init>", "()V"⟩
abbrev cX10_open : ByteArray := prog_12_method_2_code
def yX10_open : MethodName := ⟨RX10, "\x6fpen", "(IIZ)V"⟩
abbrev cX10_add : ByteArray := prog_12_method_3_code
def yX10_add : MethodName := ⟨RX10, "add", "(LClayDisc$Disc;LClayDisc$Tongue;)V"⟩
abbrev cX10_maskOf : ByteArray := prog_12_method_4_code
def yX10_maskOf : MethodName := ⟨RX10, "maskOf", "(LClayDisc$Disc;I)J"⟩
abbrev cX10_spelt : ByteArray := prog_12_method_5_code
def yX10_spelt : MethodName := ⟨RX10, "spelt", "(LClayDisc$Disc;ILClayDisc$Tongue;I)J"⟩
abbrev cX10_addWay : ByteArray := prog_12_method_6_code
def yX10_addWay : MethodName := ⟨RX10, "addWay", "(JI)V"⟩
abbrev cX10_letterSums : ByteArray := prog_12_method_7_code
def yX10_letterSums : MethodName := ⟨RX10, "letterSums", "(J)I"⟩
abbrev cX10_crowded : ByteArray := prog_12_method_8_code
def yX10_crowded : MethodName := ⟨RX10, "crowded", "(I)Z"⟩
def RX11 : String := "ClayDisc"
def TX11 : u_T := fun k => match k with
  | 0 => ("ClayDisc", "text", "LClayDisc$Text;", true)
  | 1 => ("ClayDisc", "told", "LClayDisc$Told;", true)
  | 2 => ("ClayDisc", "kept", "[LClayDisc$Told;", true)
  | 3 => ("ClayDisc", "filled", "[Z", true)
  | 4 => ("ClayDisc", "lexicon", "[LClayDisc$Tongue;", true)
  | 5 => ("ClayDisc", "numbers", "LClayDisc$Row;", true)
  | 6 => ("ClayDisc", "draft", "LClayDisc$Row;", true)
  | 7 => ("ClayDisc", "spare", "LClayDisc$Disc;", true)
  | 8 => ("ClayDisc", "ways", "LClayDisc$Ways;", true)
  | 9 => ("ClayDisc", "reader", "LClayDisc$Reader;", true)
  | 10 => ("ClayDisc", "table", "LClayDisc$Orders;", true)
  | 11 => ("ClayDisc", "claims", "LClayDisc$Claims;", true)
  | 12 => ("ClayDisc", "left", "LClayDisc$Big;", true)
  | 13 => ("ClayDisc", "right", "LClayDisc$Big;", true)
  | 14 => ("ClayDisc", "often", "[I", true)
  | 15 => ("ClayDisc", "random", "I", false)
  | _ => ("ClayDisc", "latestSteps", "I", false)
def tyX11 : Nat → FieldType := fun k => match k with
  | 0 => .object "ClayDisc$Text"
  | 1 => .object "ClayDisc$Told"
  | 2 => .array (.object "ClayDisc$Told")
  | 3 => .array .boolean
  | 4 => .array (.object "ClayDisc$Tongue")
  | 5 => .object "ClayDisc$Row"
  | 6 => .object "ClayDisc$Row"
  | 7 => .object "ClayDisc$Disc"
  | 8 => .object "ClayDisc$Ways"
  | 9 => .object "ClayDisc$Reader"
  | 10 => .object "ClayDisc$Orders"
  | 11 => .object "ClayDisc$Claims"
  | 12 => .object "ClayDisc$Big"
  | 13 => .object "ClayDisc$Big"
  | 14 => .array .int
  | 15 => .int
  | _ => .int
abbrev wsX110 : List Cond := u_ws RX11 TX11 17
theorem nmX11 : ∀ a, a < 17 → ∀ b, b < 17 → a ≠ b → (TX11 a).2.1 ≠ (TX11 b).2.1 := by decide +kernel
theorem tyX11_ok : ∀ k, k < 17 → parseFieldDescriptor (TX11 k).2.2.1 = some (tyX11 k) := by decide +kernel
abbrev cX11_init : ByteArray := prog_1_method_1_code
def yX11_init : MethodName := ⟨RX11, "<init>", "()V"⟩
abbrev cX11_sign : ByteArray := prog_1_method_2_code
def yX11_sign : MethodName := ⟨RX11, "sign", "(I)I"⟩
abbrev cX11_end : ByteArray := prog_1_method_3_code
def yX11_end : MethodName := ⟨RX11, "end", "(I)Z"⟩
abbrev cX11_disc : ByteArray := prog_1_method_4_code
def yX11_disc : MethodName := ⟨RX11, "disc", "()I"⟩
abbrev cX11_word : ByteArray := prog_1_method_5_code
def yX11_word : MethodName := ⟨RX11, "word", "(I)I"⟩
abbrev cX11_learn : ByteArray := prog_1_method_6_code
def yX11_learn : MethodName := ⟨RX11, "learn", "(LClayDisc$Tongue;)I"⟩
abbrev cX11_laxness : ByteArray := prog_1_method_7_code
def yX11_laxness : MethodName := ⟨RX11, "laxness", "()I"⟩
abbrev cX11_forget : ByteArray := prog_1_method_8_code
def yX11_forget : MethodName := ⟨RX11, "forget", "(I)I"⟩
abbrev cX11_at : ByteArray := prog_1_method_9_code
def yX11_at : MethodName := ⟨RX11, "at", "(I)I"⟩
abbrev cX11_isTongue : ByteArray := prog_1_method_10_code
def yX11_isTongue : MethodName := ⟨RX11, "isTongue", "(I)Z"⟩
abbrev cX11_isPlace : ByteArray := prog_1_method_11_code
def yX11_isPlace : MethodName := ⟨RX11, "isPlace", "(I)Z"⟩
abbrev cX11_readings : ByteArray := prog_1_method_12_code
def yX11_readings : MethodName := ⟨RX11, "readings", "(I)I"⟩
abbrev cX11_reading : ByteArray := prog_1_method_13_code
def yX11_reading : MethodName := ⟨RX11, "reading", "(II)I"⟩
abbrev cX11_sure : ByteArray := prog_1_method_14_code
def yX11_sure : MethodName := ⟨RX11, "sure", "(I)I"⟩
abbrev cX11_letters : ByteArray := prog_1_method_15_code
def yX11_letters : MethodName := ⟨RX11, "letters", "(II)I"⟩
abbrev cX11_means : ByteArray := prog_1_method_16_code
def yX11_means : MethodName := ⟨RX11, "means", "(II)I"⟩
abbrev cX11_tongues : ByteArray := prog_1_method_17_code
def yX11_tongues : MethodName := ⟨RX11, "tongues", "()I"⟩
abbrev cX11_lax : ByteArray := prog_1_method_18_code
def yX11_lax : MethodName := ⟨RX11, "lax", "(I)I"⟩
abbrev cX11_need : ByteArray := prog_1_method_19_code
def yX11_need : MethodName := ⟨RX11, "need", "(I)I"⟩
abbrev cX11_second : ByteArray := prog_1_method_20_code
def yX11_second : MethodName := ⟨RX11, "second", "(I)I"⟩
abbrev cX11_chance : ByteArray := prog_1_method_21_code
def yX11_chance : MethodName := ⟨RX11, "chance", "(II)I"⟩
abbrev cX11_next : ByteArray := prog_1_method_22_code
def yX11_next : MethodName := ⟨RX11, "next", "(I)I"⟩
abbrev cX11_blind : ByteArray := prog_1_method_23_code
def yX11_blind : MethodName := ⟨RX11, "blind", "(II)I"⟩
abbrev cX11_cannotRead : ByteArray := prog_1_method_24_code
def yX11_cannotRead : MethodName := ⟨RX11, "cannotRead", "(I)Z"⟩
abbrev cX11_read : ByteArray := prog_1_method_25_code
def yX11_read : MethodName := ⟨RX11, "read", "(LClayDisc$Disc;III)V"⟩
abbrev cX11_tellLetters : ByteArray := prog_1_method_26_code
def yX11_tellLetters : MethodName := ⟨RX11, "tellLetters", "(J)V"⟩
abbrev cX11_shuffle : ByteArray := prog_1_method_27_code
def yX11_shuffle : MethodName := ⟨RX11, "shuffle", "(LClayDisc$Disc;)V"⟩
abbrev cX11_draw : ByteArray := prog_1_method_28_code
def yX11_draw : MethodName := ⟨RX11, "draw", "(I)I"⟩
abbrev cX11_shiftOf : ByteArray := prog_1_method_29_code
def yX11_shiftOf : MethodName := ⟨RX11, "shiftOf", "(I)I"⟩
abbrev cX11_letterIn : ByteArray := prog_1_method_30_code
def yX11_letterIn : MethodName := ⟨RX11, "letterIn", "(JI)I"⟩
abbrev cX11_over : ByteArray := prog_1_method_31_code
def yX11_over : MethodName := ⟨RX11, "over", "(II)I"⟩
abbrev cX11_orders : ByteArray := prog_1_method_32_code
def yX11_orders : MethodName := ⟨RX11, "orders", "()I"⟩
abbrev cX11_ahead : ByteArray := prog_1_method_33_code
def yX11_ahead : MethodName := ⟨RX11, "ahead", "(II)I"⟩
abbrev cX11_ends : ByteArray := prog_1_method_34_code
def yX11_ends : MethodName := ⟨RX11, "ends", "(I)I"⟩
abbrev cX11_way : ByteArray := prog_1_method_35_code
def yX11_way : MethodName := ⟨RX11, "way", "()I"⟩
abbrev cX11_lot : ByteArray := prog_1_method_36_code
def yX11_lot : MethodName := ⟨RX11, "lot", "()I"⟩
abbrev cX11_mend : ByteArray := prog_1_method_37_code
def yX11_mend : MethodName := ⟨RX11, "mend", "()I"⟩
abbrev cX11_cannotOrder : ByteArray := prog_1_method_38_code
def yX11_cannotOrder : MethodName := ⟨RX11, "cannotOrder", "()Z"⟩
abbrev cX11_neighbours : ByteArray := prog_1_method_39_code
def yX11_neighbours : MethodName := ⟨RX11, "neighbours", "(Z)I"⟩
abbrev cX11_choose : ByteArray := prog_1_method_40_code
def yX11_choose : MethodName := ⟨RX11, "choose", "(II)J"⟩
abbrev cX11_kinds : ByteArray := prog_1_method_41_code
def yX11_kinds : MethodName := ⟨RX11, "kinds", "()I"⟩
abbrev cX11_many : ByteArray := prog_1_method_42_code
def yX11_many : MethodName := ⟨RX11, "many", "()I"⟩
abbrev cX11_script : ByteArray := prog_1_method_43_code
def yX11_script : MethodName := ⟨RX11, "script", "(II)I"⟩
abbrev cX11_oneIsTooSmall : ByteArray := prog_1_method_44_code
def yX11_oneIsTooSmall : MethodName := ⟨RX11, "oneIsTooSmall", "(III)I"⟩
abbrev cX11_like : ByteArray := prog_1_method_45_code
def yX11_like : MethodName := ⟨RX11, "like", "()I"⟩
abbrev cX11_repeat : ByteArray := prog_1_method_46_code
def yX11_repeat : MethodName := ⟨RX11, "repeat", "()I"⟩
abbrev cX11_rhyme : ByteArray := prog_1_method_47_code
def yX11_rhyme : MethodName := ⟨RX11, "rhyme", "(II)I"⟩
abbrev cX11_rhymes : ByteArray := prog_1_method_48_code
def yX11_rhymes : MethodName := ⟨RX11, "rhymes", "(IIII)Z"⟩
abbrev cX11_axe : ByteArray := prog_1_method_49_code
def yX11_axe : MethodName := ⟨RX11, "axe", "(IIII)I"⟩
abbrev cX11_unlikeKinds : ByteArray := prog_1_method_50_code
def yX11_unlikeKinds : MethodName := ⟨RX11, "unlikeKinds", "()I"⟩
abbrev cX11_seenSigns : ByteArray := prog_1_method_51_code
def yX11_seenSigns : MethodName := ⟨RX11, "seenSigns", "()I"⟩
abbrev cX11_likelier : ByteArray := prog_1_method_52_code
def yX11_likelier : MethodName := ⟨RX11, "likelier", "(III)I"⟩
abbrev cX11_shareToPower : ByteArray := prog_1_method_53_code
def yX11_shareToPower : MethodName := ⟨RX11, "shareToPower", "(I)J"⟩
abbrev cX11_claim : ByteArray := prog_1_method_54_code
def yX11_claim : MethodName := ⟨RX11, "claim", "()I"⟩
abbrev cX11_says : ByteArray := prog_1_method_55_code
def yX11_says : MethodName := ⟨RX11, "says", "(III)I"⟩
abbrev cX11_sheet : ByteArray := prog_1_method_56_code
def yX11_sheet : MethodName := ⟨RX11, "sheet", "(IIIII)I"⟩
abbrev cX11_narrowed : ByteArray := prog_1_method_57_code
def yX11_narrowed : MethodName := ⟨RX11, "narrowed", "(II)I"⟩
abbrev cX11_find : ByteArray := prog_1_method_58_code
def yX11_find : MethodName := ⟨RX11, "find", "(II)I"⟩
abbrev cX11_stand : ByteArray := prog_1_method_59_code
def yX11_stand : MethodName := ⟨RX11, "stand", "()I"⟩
abbrev cX11_risks : ByteArray := prog_1_method_60_code
def yX11_risks : MethodName := ⟨RX11, "risks", "(I)I"⟩
abbrev cX11_idle : ByteArray := prog_1_method_61_code
def yX11_idle : MethodName := ⟨RX11, "idle", "()I"⟩
abbrev cX11_seek : ByteArray := prog_1_method_62_code
def yX11_seek : MethodName := ⟨RX11, "seek", "()I"⟩
abbrev cX11_part : ByteArray := prog_1_method_63_code
def yX11_part : MethodName := ⟨RX11, "part", "()I"⟩
abbrev cX11_plan : ByteArray := prog_1_method_64_code
def yX11_plan : MethodName := ⟨RX11, "plan", "()I"⟩
abbrev cX11_isFind : ByteArray := prog_1_method_65_code
def yX11_isFind : MethodName := ⟨RX11, "isFind", "(I)Z"⟩
abbrev cX11_unknownFinds : ByteArray := prog_1_method_66_code
def yX11_unknownFinds : MethodName := ⟨RX11, "unknownFinds", "()I"⟩
abbrev cX11_seed : ByteArray := prog_1_method_67_code
def yX11_seed : MethodName := ⟨RX11, "seed", "(I)I"⟩
abbrev cX11_keep : ByteArray := prog_1_method_68_code
def yX11_keep : MethodName := ⟨RX11, "keep", "(I)Z"⟩
abbrev cX11_again : ByteArray := prog_1_method_69_code
def yX11_again : MethodName := ⟨RX11, "again", "(I)Z"⟩
abbrev cX11_count : ByteArray := prog_1_method_70_code
def yX11_count : MethodName := ⟨RX11, "count", "(I)I"⟩
abbrev cX11_row : ByteArray := prog_1_method_71_code
def yX11_row : MethodName := ⟨RX11, "row", "(I)J"⟩
def RX12 : String := "ClayDiscModel"
def TX12 : u_T := fun k => match k with
  | 0 => ("ClayDiscModel", "thrown", "I", false)
  | 1 => ("ClayDiscModel", "rows", "I", false)
  | 2 => ("ClayDiscModel", "row", "[J", true)
  | 3 => ("ClayDiscModel", "tape", "[I", true)
  | 4 => ("ClayDiscModel", "taped", "I", false)
  | 5 => ("ClayDiscModel", "at", "I", false)
  | 6 => ("ClayDiscModel", "to", "I", false)
  | 7 => ("ClayDiscModel", "readGroups", "I", false)
  | 8 => ("ClayDiscModel", "readPlaces", "I", false)
  | 9 => ("ClayDiscModel", "readLong", "[I", true)
  | 10 => ("ClayDiscModel", "readSign", "[I", true)
  | 11 => ("ClayDiscModel", "groups", "I", false)
  | 12 => ("ClayDiscModel", "places", "I", false)
  | 13 => ("ClayDiscModel", "groupLong", "[I", true)
  | 14 => ("ClayDiscModel", "signs", "[I", true)
  | 15 => ("ClayDiscModel", "overs", "I", false)
  | 16 => ("ClayDiscModel", "overBehind", "[I", true)
  | 17 => ("ClayDiscModel", "overAhead", "[I", true)
  | 18 => ("ClayDiscModel", "words", "[I", true)
  | 19 => ("ClayDiscModel", "wordLong", "[I", true)
  | 20 => ("ClayDiscModel", "wordLetter", "[I", true)
  | 21 => ("ClayDiscModel", "homes", "I", false)
  | 22 => ("ClayDiscModel", "drops", "I", false)
  | 23 => ("ClayDiscModel", "back", "Z", false)
  | 24 => ("ClayDiscModel", "searched", "I", false)
  | 25 => ("ClayDiscModel", "searchLong", "[I", true)
  | 26 => ("ClayDiscModel", "searchSign", "[I", true)
  | 27 => ("ClayDiscModel", "ways", "[J", true)
  | 28 => ("ClayDiscModel", "wayFrom", "[I", true)
  | 29 => ("ClayDiscModel", "levelEnd", "[I", true)
  | 30 => ("ClayDiscModel", "wayMany", "I", false)
  | 31 => ("ClayDiscModel", "found", "[J", true)
  | 32 => ("ClayDiscModel", "foundMany", "I", false)
  | 33 => ("ClayDiscModel", "latestSteps", "I", false)
  | 34 => ("ClayDiscModel", "counted", "[I", true)
  | 35 => ("ClayDiscModel", "firsts", "[I", true)
  | 36 => ("ClayDiscModel", "isHeld", "[Z", true)
  | 37 => ("ClayDiscModel", "random", "I", false)
  | 38 => ("ClayDiscModel", "drawn", "[I", true)
  | 39 => ("ClayDiscModel", "pressed", "[J", true)
  | 40 => ("ClayDiscModel", "waits", "[I", true)
  | 41 => ("ClayDiscModel", "often", "[I", true)
  | 42 => ("ClayDiscModel", "seen", "I", false)
  | 43 => ("ClayDiscModel", "unlike", "I", false)
  | 44 => ("ClayDiscModel", "great", "[I", true)
  | 45 => ("ClayDiscModel", "greater", "[I", true)
  | 46 => ("ClayDiscModel", "claims", "I", false)
  | 47 => ("ClayDiscModel", "saysOf", "[I", true)
  | 48 => ("ClayDiscModel", "finds", "[I", true)
  | 49 => ("ClayDiscModel", "asked", "I", false)
  | 50 => ("ClayDiscModel", "askedFind", "[I", true)
  | 51 => ("ClayDiscModel", "needed", "[I", true)
  | 52 => ("ClayDiscModel", "firstStand", "I", false)
  | 53 => ("ClayDiscModel", "isKept", "[Z", true)
  | 54 => ("ClayDiscModel", "kept", "[I", true)
  | _ => ("ClayDiscModel", "noted", "I", false)
def tyX12 : Nat → FieldType := fun k => match k with
  | 0 => .int
  | 1 => .int
  | 2 => .array .long
  | 3 => .array .int
  | 4 => .int
  | 5 => .int
  | 6 => .int
  | 7 => .int
  | 8 => .int
  | 9 => .array .int
  | 10 => .array .int
  | 11 => .int
  | 12 => .int
  | 13 => .array .int
  | 14 => .array .int
  | 15 => .int
  | 16 => .array .int
  | 17 => .array .int
  | 18 => .array .int
  | 19 => .array .int
  | 20 => .array .int
  | 21 => .int
  | 22 => .int
  | 23 => .boolean
  | 24 => .int
  | 25 => .array .int
  | 26 => .array .int
  | 27 => .array .long
  | 28 => .array .int
  | 29 => .array .int
  | 30 => .int
  | 31 => .array .long
  | 32 => .int
  | 33 => .int
  | 34 => .array .int
  | 35 => .array .int
  | 36 => .array .boolean
  | 37 => .int
  | 38 => .array .int
  | 39 => .array .long
  | 40 => .array .int
  | 41 => .array .int
  | 42 => .int
  | 43 => .int
  | 44 => .array .int
  | 45 => .array .int
  | 46 => .int
  | 47 => .array .int
  | 48 => .array .int
  | 49 => .int
  | 50 => .array .int
  | 51 => .array .int
  | 52 => .int
  | 53 => .array .boolean
  | 54 => .array .int
  | _ => .int
abbrev wsX120 : List Cond := u_ws RX12 TX12 56
theorem nmX12 : ∀ a, a < 56 → ∀ b, b < 56 → a ≠ b → (TX12 a).2.1 ≠ (TX12 b).2.1 := by decide +kernel
theorem tyX12_ok : ∀ k, k < 56 → parseFieldDescriptor (TX12 k).2.2.1 = some (tyX12 k) := by decide +kernel
abbrev cX12_thrown : ByteArray := prog_14_method_1_code
def yX12_thrown : MethodName := ⟨RX12, "thrown", "()I"⟩
abbrev cX12_in : ByteArray := prog_14_method_2_code
def yX12_in : MethodName := ⟨RX12, "in", "(JJJ)Z"⟩
abbrev cX12_has : ByteArray := prog_14_method_3_code
def yX12_has : MethodName := ⟨RX12, "has", "(II)Z"⟩
abbrev cX12_flag : ByteArray := prog_14_method_4_code
def yX12_flag : MethodName := ⟨RX12, "flag", "(Z)I"⟩
abbrev cX12_refuse : ByteArray := prog_14_method_5_code
def yX12_refuse : MethodName := ⟨RX12, "refuse", "()I"⟩
abbrev cX12_enters : ByteArray := prog_14_method_6_code
def yX12_enters : MethodName := ⟨RX12, "enters", "(J)V"⟩
abbrev cX12_common : ByteArray := prog_14_method_7_code
def yX12_common : MethodName := ⟨RX12, "common", "(JJ)J"⟩
abbrev cX12_entersFraction : ByteArray := prog_14_method_8_code
def yX12_entersFraction : MethodName := ⟨RX12, "entersFraction", "(JJ)V"⟩
abbrev cX12_sign : ByteArray := prog_14_method_9_code
def yX12_sign : MethodName := ⟨RX12, "sign", "(I)I"⟩
abbrev cX12_end : ByteArray := prog_14_method_10_code
def yX12_end : MethodName := ⟨RX12, "end", "(I)Z"⟩
abbrev cX12_begins : ByteArray := prog_14_method_11_code
def yX12_begins : MethodName := ⟨RX12, "begins", "(I)I"⟩
abbrev cX12_signAt : ByteArray := prog_14_method_12_code
def yX12_signAt : MethodName := ⟨RX12, "signAt", "()I"⟩
abbrev cX12_reads : ByteArray := prog_14_method_13_code
def yX12_reads : MethodName := ⟨RX12, "reads", "(I)I"⟩
abbrev cX12_disc : ByteArray := prog_14_method_14_code
def yX12_disc : MethodName := ⟨RX12, "disc", "()I"⟩
abbrev cX12_at : ByteArray := prog_14_method_15_code
def yX12_at : MethodName := ⟨RX12, "at", "(I)I"⟩
abbrev cX12_isTongue : ByteArray := prog_14_method_16_code
def yX12_isTongue : MethodName := ⟨RX12, "isTongue", "(I)Z"⟩
abbrev cX12_word : ByteArray := prog_14_method_17_code
def yX12_word : MethodName := ⟨RX12, "word", "(I)I"⟩
abbrev cX12_letterThen : ByteArray := prog_14_method_18_code
def yX12_letterThen : MethodName := ⟨RX12, "letterThen", "(CII)I"⟩
abbrev cX12_laxness : ByteArray := prog_14_method_19_code
def yX12_laxness : MethodName := ⟨RX12, "laxness", "()I"⟩
abbrev cX12_forget : ByteArray := prog_14_method_20_code
def yX12_forget : MethodName := ⟨RX12, "forget", "(I)I"⟩
abbrev cX12_letterOf : ByteArray := prog_14_method_21_code
def yX12_letterOf : MethodName := ⟨RX12, "letterOf", "(JI)I"⟩
abbrev cX12_withLetter : ByteArray := prog_14_method_22_code
def yX12_withLetter : MethodName := ⟨RX12, "withLetter", "(JII)J"⟩
abbrev cX12_takesDisc : ByteArray := prog_14_method_23_code
def yX12_takesDisc : MethodName := ⟨RX12, "takesDisc", "(I)V"⟩
abbrev cX12_fits : ByteArray := prog_14_method_24_code
def yX12_fits : MethodName := ⟨RX12, "fits", "(JIII)J"⟩
abbrev cX12_mayBe : ByteArray := prog_14_method_25_code
def yX12_mayBe : MethodName := ⟨RX12, "mayBe", "(II)Z"⟩
abbrev cX12_goesOn : ByteArray := prog_14_method_26_code
def yX12_goesOn : MethodName := ⟨RX12, "goesOn", "(IIII)Z"⟩
abbrev cX12_searches : ByteArray := prog_14_method_27_code
def yX12_searches : MethodName := ⟨RX12, "searches", "(I)Z"⟩
abbrev cX12_levelBegin : ByteArray := prog_14_method_28_code
def yX12_levelBegin : MethodName := ⟨RX12, "levelBegin", "(I)I"⟩
abbrev cX12_sorts : ByteArray := prog_14_method_29_code
def yX12_sorts : MethodName := ⟨RX12, "sorts", "()V"⟩
abbrev cX12_sinks : ByteArray := prog_14_method_30_code
def yX12_sinks : MethodName := ⟨RX12, "sinks", "(II)V"⟩
abbrev cX12_isAsked : ByteArray := prog_14_method_31_code
def yX12_isAsked : MethodName := ⟨RX12, "isAsked", "(I)Z"⟩
abbrev cX12_all : ByteArray := prog_14_method_32_code
def yX12_all : MethodName := ⟨RX12, "all", "(I)Z"⟩
abbrev cX12_entersReading : ByteArray := prog_14_method_33_code
def yX12_entersReading : MethodName := ⟨RX12, "entersReading", "(J)V"⟩
abbrev cX12_readings : ByteArray := prog_14_method_34_code
def yX12_readings : MethodName := ⟨RX12, "readings", "(I)I"⟩
abbrev cX12_reading : ByteArray := prog_14_method_35_code
def yX12_reading : MethodName := ⟨RX12, "reading", "(II)I"⟩
abbrev cX12_hasKind : ByteArray := prog_14_method_36_code
def yX12_hasKind : MethodName := ⟨RX12, "hasKind", "(I)Z"⟩
abbrev cX12_sure : ByteArray := prog_14_method_37_code
def yX12_sure : MethodName := ⟨RX12, "sure", "(I)I"⟩
abbrev cX12_letters : ByteArray := prog_14_method_38_code
def yX12_letters : MethodName := ⟨RX12, "letters", "(II)I"⟩
abbrev cX12_means : ByteArray := prog_14_method_39_code
def yX12_means : MethodName := ⟨RX12, "means", "(II)I"⟩
abbrev cX12_tongues : ByteArray := prog_14_method_40_code
def yX12_tongues : MethodName := ⟨RX12, "tongues", "()I"⟩
abbrev cX12_lax : ByteArray := prog_14_method_41_code
def yX12_lax : MethodName := ⟨RX12, "lax", "(I)I"⟩
abbrev cX12_need : ByteArray := prog_14_method_42_code
def yX12_need : MethodName := ⟨RX12, "need", "(I)I"⟩
abbrev cX12_second : ByteArray := prog_14_method_43_code
def yX12_second : MethodName := ⟨RX12, "second", "(I)I"⟩
abbrev cX12_draws : ByteArray := prog_14_method_44_code
def yX12_draws : MethodName := ⟨RX12, "draws", "(I)I"⟩
abbrev cX12_chance : ByteArray := prog_14_method_45_code
def yX12_chance : MethodName := ⟨RX12, "chance", "(II)I"⟩
abbrev cX12_next : ByteArray := prog_14_method_46_code
def yX12_next : MethodName := ⟨RX12, "next", "(I)I"⟩
abbrev cX12_blind : ByteArray := prog_14_method_47_code
def yX12_blind : MethodName := ⟨RX12, "blind", "(II)I"⟩
abbrev cX12_over : ByteArray := prog_14_method_48_code
def yX12_over : MethodName := ⟨RX12, "over", "(II)I"⟩
abbrev cX12_ordersOf : ByteArray := prog_14_method_49_code
def yX12_ordersOf : MethodName := ⟨RX12, "ordersOf", "(III)J"⟩
abbrev cX12_mayCome : ByteArray := prog_14_method_50_code
def yX12_mayCome : MethodName := ⟨RX12, "mayCome", "(IIIII)Z"⟩
abbrev cX12_isOrdered : ByteArray := prog_14_method_51_code
def yX12_isOrdered : MethodName := ⟨RX12, "isOrdered", "()Z"⟩
abbrev cX12_orders : ByteArray := prog_14_method_52_code
def yX12_orders : MethodName := ⟨RX12, "orders", "()I"⟩
abbrev cX12_ahead : ByteArray := prog_14_method_53_code
def yX12_ahead : MethodName := ⟨RX12, "ahead", "(II)I"⟩
abbrev cX12_ends : ByteArray := prog_14_method_54_code
def yX12_ends : MethodName := ⟨RX12, "ends", "(I)I"⟩
abbrev cX12_groupOf : ByteArray := prog_14_method_55_code
def yX12_groupOf : MethodName := ⟨RX12, "groupOf", "(I)I"⟩
abbrev cX12_neighbours : ByteArray := prog_14_method_56_code
def yX12_neighbours : MethodName := ⟨RX12, "neighbours", "(I)I"⟩
abbrev cX12_way : ByteArray := prog_14_method_57_code
def yX12_way : MethodName := ⟨RX12, "way", "()I"⟩
abbrev cX12_lot : ByteArray := prog_14_method_58_code
def yX12_lot : MethodName := ⟨RX12, "lot", "()I"⟩
abbrev cX12_isClear : ByteArray := prog_14_method_59_code
def yX12_isClear : MethodName := ⟨RX12, "isClear", "(I)Z"⟩
abbrev cX12_mend : ByteArray := prog_14_method_60_code
def yX12_mend : MethodName := ⟨RX12, "mend", "()I"⟩
abbrev cX12_counts : ByteArray := prog_14_method_61_code
def yX12_counts : MethodName := ⟨RX12, "counts", "()V"⟩
abbrev cX12_kinds : ByteArray := prog_14_method_62_code
def yX12_kinds : MethodName := ⟨RX12, "kinds", "()I"⟩
abbrev cX12_one : ByteArray := prog_14_method_63_code
def yX12_one : MethodName := ⟨RX12, "one", "([I)V"⟩
abbrev cX12_times : ByteArray := prog_14_method_64_code
def yX12_times : MethodName := ⟨RX12, "times", "([II)V"⟩
abbrev cX12_compares : ByteArray := prog_14_method_65_code
def yX12_compares : MethodName := ⟨RX12, "compares", "([I[I)I"⟩
abbrev cX12_weighs : ByteArray := prog_14_method_66_code
def yX12_weighs : MethodName := ⟨RX12, "weighs", "([III)V"⟩
abbrev cX12_likelier : ByteArray := prog_14_method_67_code
def yX12_likelier : MethodName := ⟨RX12, "likelier", "(II)I"⟩
abbrev cX12_many : ByteArray := prog_14_method_68_code
def yX12_many : MethodName := ⟨RX12, "many", "()I"⟩
abbrev cX12_script : ByteArray := prog_14_method_69_code
def yX12_script : MethodName := ⟨RX12, "script", "(II)I"⟩
abbrev cX12_like : ByteArray := prog_14_method_70_code
def yX12_like : MethodName := ⟨RX12, "like", "()I"⟩
abbrev cX12_groupBegin : ByteArray := prog_14_method_71_code
def yX12_groupBegin : MethodName := ⟨RX12, "groupBegin", "(I)I"⟩
abbrev cX12_areAlike : ByteArray := prog_14_method_72_code
def yX12_areAlike : MethodName := ⟨RX12, "areAlike", "(III)Z"⟩
abbrev cX12_isWhole : ByteArray := prog_14_method_73_code
def yX12_isWhole : MethodName := ⟨RX12, "isWhole", "(I)Z"⟩
abbrev cX12_millionths : ByteArray := prog_14_method_74_code
def yX12_millionths : MethodName := ⟨RX12, "millionths", "(III)I"⟩
abbrev cX12_repeat : ByteArray := prog_14_method_75_code
def yX12_repeat : MethodName := ⟨RX12, "repeat", "()I"⟩
abbrev cX12_rhyme : ByteArray := prog_14_method_76_code
def yX12_rhyme : MethodName := ⟨RX12, "rhyme", "(II)I"⟩
abbrev cX12_choices : ByteArray := prog_14_method_77_code
def yX12_choices : MethodName := ⟨RX12, "choices", "(II)J"⟩
abbrev cX12_axe : ByteArray := prog_14_method_78_code
def yX12_axe : MethodName := ⟨RX12, "axe", "(IIII)I"⟩
abbrev cX12_claim : ByteArray := prog_14_method_79_code
def yX12_claim : MethodName := ⟨RX12, "claim", "()I"⟩
abbrev cX12_isClaim : ByteArray := prog_14_method_80_code
def yX12_isClaim : MethodName := ⟨RX12, "isClaim", "(I)Z"⟩
abbrev cX12_says : ByteArray := prog_14_method_81_code
def yX12_says : MethodName := ⟨RX12, "says", "(III)I"⟩
abbrev cX12_sheet : ByteArray := prog_14_method_82_code
def yX12_sheet : MethodName := ⟨RX12, "sheet", "(IIIII)I"⟩
abbrev cX12_find : ByteArray := prog_14_method_83_code
def yX12_find : MethodName := ⟨RX12, "find", "(II)I"⟩
abbrev cX12_standing : ByteArray := prog_14_method_84_code
def yX12_standing : MethodName := ⟨RX12, "standing", "()I"⟩
abbrev cX12_stand : ByteArray := prog_14_method_85_code
def yX12_stand : MethodName := ⟨RX12, "stand", "()I"⟩
abbrev cX12_risks : ByteArray := prog_14_method_86_code
def yX12_risks : MethodName := ⟨RX12, "risks", "(I)I"⟩
abbrev cX12_idle : ByteArray := prog_14_method_87_code
def yX12_idle : MethodName := ⟨RX12, "idle", "()I"⟩
abbrev cX12_leftOf : ByteArray := prog_14_method_88_code
def yX12_leftOf : MethodName := ⟨RX12, "leftOf", "(III)I"⟩
abbrev cX12_seek : ByteArray := prog_14_method_89_code
def yX12_seek : MethodName := ⟨RX12, "seek", "()I"⟩
abbrev cX12_parts : ByteArray := prog_14_method_90_code
def yX12_parts : MethodName := ⟨RX12, "parts", "(III)Z"⟩
abbrev cX12_unknown : ByteArray := prog_14_method_91_code
def yX12_unknown : MethodName := ⟨RX12, "unknown", "()I"⟩
abbrev cX12_partsPairs : ByteArray := prog_14_method_92_code
def yX12_partsPairs : MethodName := ⟨RX12, "partsPairs", "(IIZ)Z"⟩
abbrev cX12_part : ByteArray := prog_14_method_93_code
def yX12_part : MethodName := ⟨RX12, "part", "()I"⟩
abbrev cX12_plans : ByteArray := prog_14_method_94_code
def yX12_plans : MethodName := ⟨RX12, "plans", "(I)I"⟩
abbrev cX12_plan : ByteArray := prog_14_method_95_code
def yX12_plan : MethodName := ⟨RX12, "plan", "()I"⟩
abbrev cX12_seed : ByteArray := prog_14_method_96_code
def yX12_seed : MethodName := ⟨RX12, "seed", "(I)I"⟩
abbrev cX12_passing : ByteArray := prog_14_method_97_code
def yX12_passing : MethodName := ⟨RX12, "passing", "(IIZ)I"⟩
abbrev cX12_passes : ByteArray := prog_14_method_98_code
def yX12_passes : MethodName := ⟨RX12, "passes", "(IZ)V"⟩
abbrev cX12_keep : ByteArray := prog_14_method_99_code
def yX12_keep : MethodName := ⟨RX12, "keep", "(I)Z"⟩
abbrev cX12_again : ByteArray := prog_14_method_100_code
def yX12_again : MethodName := ⟨RX12, "again", "(I)Z"⟩
abbrev cX12_count : ByteArray := prog_14_method_101_code
def yX12_count : MethodName := ⟨RX12, "count", "(I)I"⟩
abbrev cX12_init : ByteArray := prog_14_method_102_code
def yX12_init : MethodName := ⟨RX12, "<init>", "()V"⟩
abbrev cX12_row : ByteArray := prog_14_method_103_code
def yX12_row : MethodName := ⟨RX12, "row", "(I)J"⟩
def RJx145de : String := "java/io/Serializable"
def TJx145de : u_T := fun k => match k with
  | _ => ("", "", "", false)
def tyJx145de : Nat → FieldType := fun k => match k with
  | _ => .int
abbrev wsJx145de0 : List Cond := u_ws RJx145de TJx145de 0
theorem nmJx145de : ∀ a, a < 0 → ∀ b, b < 0 → a ≠ b → (TJx145de a).2.1 ≠ (TJx145de b).2.1 := by decide +kernel
theorem tyJx145de_ok : ∀ k, k < 0 → parseFieldDescriptor (TJx145de k).2.2.1 = some (tyJx145de k) := by decide +kernel
def RJ6 : String := "java/lang/Integer"
def TJ6 : u_T := fun k => match k with
  | _ => ("", "", "", false)
def tyJ6 : Nat → FieldType := fun k => match k with
  | _ => .int
abbrev wsJ60 : List Cond := u_ws RJ6 TJ6 0
theorem nmJ6 : ∀ a, a < 0 → ∀ b, b < 0 → a ≠ b → (TJ6 a).2.1 ≠ (TJ6 b).2.1 := by decide +kernel
theorem tyJ6_ok : ∀ k, k < 0 → parseFieldDescriptor (TJ6 k).2.2.1 = some (tyJ6 k) := by decide +kernel
abbrev cJ6_bitCount_0f7a4 : ByteArray := prog_17_method_49_code
def yJ6_bitCount_0f7a4 : MethodName := ⟨RJ6, "bitCount", "(I)I"⟩
def RJ13 : String := "java/lang/Long"
def TJ13 : u_T := fun k => match k with
  | _ => ("", "", "", false)
def tyJ13 : Nat → FieldType := fun k => match k with
  | _ => .int
abbrev wsJ130 : List Cond := u_ws RJ13 TJ13 0
theorem nmJ13 : ∀ a, a < 0 → ∀ b, b < 0 → a ≠ b → (TJ13 a).2.1 ≠ (TJ13 b).2.1 := by decide +kernel
theorem tyJ13_ok : ∀ k, k < 0 → parseFieldDescriptor (TJ13 k).2.2.1 = some (tyJ13 k) := by decide +kernel
abbrev cJ13_compare_74951 : ByteArray := prog_18_method_42_code
def yJ13_compare_74951 : MethodName := ⟨RJ13, "compare", "(JJ)I"⟩
def RJ9 : String := "java/lang/Math"
def TJ9 : u_T := fun k => match k with
  | _ => ("", "", "", false)
def tyJ9 : Nat → FieldType := fun k => match k with
  | _ => .int
abbrev wsJ90 : List Cond := u_ws RJ9 TJ9 0
theorem nmJ9 : ∀ a, a < 0 → ∀ b, b < 0 → a ≠ b → (TJ9 a).2.1 ≠ (TJ9 b).2.1 := by decide +kernel
theorem tyJ9_ok : ∀ k, k < 0 → parseFieldDescriptor (TJ9 k).2.2.1 = some (tyJ9 k) := by decide +kernel
abbrev cJ9_floorMod_7cf53 : ByteArray := prog_19_method_50_code
def yJ9_floorMod_7cf53 : MethodName := ⟨RJ9, "floorMod", "(II)I"⟩
abbrev cJ9_max_7cf53 : ByteArray := prog_19_method_65_code
def yJ9_max_7cf53 : MethodName := ⟨RJ9, "max", "(II)I"⟩
abbrev cJ9_min_7cf53 : ByteArray := prog_19_method_69_code
def yJ9_min_7cf53 : MethodName := ⟨RJ9, "min", "(II)I"⟩
def RL : String := "ClayDiscLaw"
abbrev cL_at : ByteArray := method_3_code
def yL_at : MethodName := ⟨RL, "at", "(LClayDisc;I[J)I"⟩
abbrev cL_row : ByteArray := method_4_code
def yL_row : MethodName := ⟨RL, "row", "(LClayDisc;I[J)I"⟩
abbrev cL_law : ByteArray := code
def yL_law : MethodName := ⟨RL, "law", "([I)Z"⟩
abbrev vwCl : List vw_C := [(RX0, TX0, 2), (RX1, TX1, 7), (RX2, TX2, 5), (RX3, TX3, 3), (RX4, TX4, 3), (RX5, TX5, 12), (RX6, TX6, 2), (RX7, TX7, 2), (RX8, TX8, 6), (RX9, TX9, 3), (RX10, TX10, 10), (RX11, TX11, 17), (RX12, TX12, 56)]
/-- a class of vwCl by its number; its fields' types -/
def sCl (n : Nat) : vw_C := vwCl.getD n ("", fun _ => ("", "", "", false), 0)
def sTy (n : Nat) : Nat → FieldType := match n with
  | 0 => tyX0
  | 1 => tyX1
  | 2 => tyX2
  | 3 => tyX3
  | 4 => tyX4
  | 5 => tyX5
  | 6 => tyX6
  | 7 => tyX7
  | 8 => tyX8
  | 9 => tyX9
  | 10 => tyX10
  | 11 => tyX11
  | _ => tyX12
def sShL : List (Nat × Nat × List Nat) := [
  (0, 11, [1, 3, 12, 40, 41, 134, 136, 138, 142, 220, 224, 227, 243, 245, 247, 0, 0]),
  (0, 7, [2, 0]),
  (1, 80, []),
  (0, 8, [4, 8, 11, 0, 0, 0]),
  (0, 2, [5, 6, 7, 0, 0]),
  (1, 60, []),
  (1, 60, []),
  (1, 13, []),
  (0, 4, [9, 10, 0]),
  (1, 12, []),
  (1, 12, []),
  (1, 12, []),
  (4, 3, [13, 22, 31]),
  (0, 8, [14, 18, 21, 0, 0, 0]),
  (0, 2, [15, 16, 17, 0, 0]),
  (1, 60, []),
  (1, 60, []),
  (1, 13, []),
  (0, 4, [19, 20, 0]),
  (1, 12, []),
  (1, 12, []),
  (1, 12, []),
  (0, 8, [23, 27, 30, 0, 0, 0]),
  (0, 2, [24, 25, 26, 0, 0]),
  (1, 60, []),
  (1, 60, []),
  (1, 13, []),
  (0, 4, [28, 29, 0]),
  (1, 12, []),
  (1, 12, []),
  (1, 12, []),
  (0, 8, [32, 36, 39, 0, 0, 0]),
  (0, 2, [33, 34, 35, 0, 0]),
  (1, 60, []),
  (1, 60, []),
  (1, 13, []),
  (0, 4, [37, 38, 0]),
  (1, 12, []),
  (1, 12, []),
  (1, 12, []),
  (2, 3, []),
  (5, 4, [42, 65, 88, 111]),
  (0, 9, [43, 64, 0]),
  (6, 20, [44, 45, 46, 47, 48, 49, 50, 51, 52, 53, 54, 55, 56, 57, 58, 59, 60, 61, 62, 63]),
  (1, 6, []),
  (1, 6, []),
  (1, 6, []),
  (1, 6, []),
  (1, 6, []),
  (1, 6, []),
  (1, 6, []),
  (1, 6, []),
  (1, 6, []),
  (1, 6, []),
  (1, 6, []),
  (1, 6, []),
  (1, 6, []),
  (1, 6, []),
  (1, 6, []),
  (1, 6, []),
  (1, 6, []),
  (1, 6, []),
  (1, 6, []),
  (1, 6, []),
  (1, 20, []),
  (0, 9, [66, 87, 0]),
  (6, 20, [67, 68, 69, 70, 71, 72, 73, 74, 75, 76, 77, 78, 79, 80, 81, 82, 83, 84, 85, 86]),
  (1, 6, []),
  (1, 6, []),
  (1, 6, []),
  (1, 6, []),
  (1, 6, []),
  (1, 6, []),
  (1, 6, []),
  (1, 6, []),
  (1, 6, []),
  (1, 6, []),
  (1, 6, []),
  (1, 6, []),
  (1, 6, []),
  (1, 6, []),
  (1, 6, []),
  (1, 6, []),
  (1, 6, []),
  (1, 6, []),
  (1, 6, []),
  (1, 6, []),
  (1, 20, []),
  (0, 9, [89, 110, 0]),
  (6, 20, [90, 91, 92, 93, 94, 95, 96, 97, 98, 99, 100, 101, 102, 103, 104, 105, 106, 107, 108, 109]),
  (1, 6, []),
  (1, 6, []),
  (1, 6, []),
  (1, 6, []),
  (1, 6, []),
  (1, 6, []),
  (1, 6, []),
  (1, 6, []),
  (1, 6, []),
  (1, 6, []),
  (1, 6, []),
  (1, 6, []),
  (1, 6, []),
  (1, 6, []),
  (1, 6, []),
  (1, 6, []),
  (1, 6, []),
  (1, 6, []),
  (1, 6, []),
  (1, 6, []),
  (1, 20, []),
  (0, 9, [112, 133, 0]),
  (6, 20, [113, 114, 115, 116, 117, 118, 119, 120, 121, 122, 123, 124, 125, 126, 127, 128, 129, 130, 131, 132]),
  (1, 6, []),
  (1, 6, []),
  (1, 6, []),
  (1, 6, []),
  (1, 6, []),
  (1, 6, []),
  (1, 6, []),
  (1, 6, []),
  (1, 6, []),
  (1, 6, []),
  (1, 6, []),
  (1, 6, []),
  (1, 6, []),
  (1, 6, []),
  (1, 6, []),
  (1, 6, []),
  (1, 6, []),
  (1, 6, []),
  (1, 6, []),
  (1, 6, []),
  (1, 20, []),
  (0, 6, [135, 0]),
  (3, 13, []),
  (0, 6, [137, 0]),
  (3, 13, []),
  (0, 2, [139, 140, 141, 0, 0]),
  (1, 60, []),
  (1, 60, []),
  (1, 13, []),
  (0, 10, [143, 168, 193, 218, 219, 0, 0, 0, 0, 0]),
  (7, 24, [144, 145, 146, 147, 148, 149, 150, 151, 152, 153, 154, 155, 156, 157, 158, 159, 160, 161, 162, 163, 164, 165, 166, 167]),
  (3, 20, []),
  (3, 20, []),
  (3, 20, []),
  (3, 20, []),
  (3, 20, []),
  (3, 20, []),
  (3, 20, []),
  (3, 20, []),
  (3, 20, []),
  (3, 20, []),
  (3, 20, []),
  (3, 20, []),
  (3, 20, []),
  (3, 20, []),
  (3, 20, []),
  (3, 20, []),
  (3, 20, []),
  (3, 20, []),
  (3, 20, []),
  (3, 20, []),
  (3, 20, []),
  (3, 20, []),
  (3, 20, []),
  (3, 20, []),
  (6, 24, [169, 170, 171, 172, 173, 174, 175, 176, 177, 178, 179, 180, 181, 182, 183, 184, 185, 186, 187, 188, 189, 190, 191, 192]),
  (1, 20, []),
  (1, 20, []),
  (1, 20, []),
  (1, 20, []),
  (1, 20, []),
  (1, 20, []),
  (1, 20, []),
  (1, 20, []),
  (1, 20, []),
  (1, 20, []),
  (1, 20, []),
  (1, 20, []),
  (1, 20, []),
  (1, 20, []),
  (1, 20, []),
  (1, 20, []),
  (1, 20, []),
  (1, 20, []),
  (1, 20, []),
  (1, 20, []),
  (1, 20, []),
  (1, 20, []),
  (1, 20, []),
  (1, 20, []),
  (6, 24, [194, 195, 196, 197, 198, 199, 200, 201, 202, 203, 204, 205, 206, 207, 208, 209, 210, 211, 212, 213, 214, 215, 216, 217]),
  (1, 20, []),
  (1, 20, []),
  (1, 20, []),
  (1, 20, []),
  (1, 20, []),
  (1, 20, []),
  (1, 20, []),
  (1, 20, []),
  (1, 20, []),
  (1, 20, []),
  (1, 20, []),
  (1, 20, []),
  (1, 20, []),
  (1, 20, []),
  (1, 20, []),
  (1, 20, []),
  (1, 20, []),
  (1, 20, []),
  (1, 20, []),
  (1, 20, []),
  (1, 20, []),
  (1, 20, []),
  (1, 20, []),
  (1, 20, []),
  (1, 24, []),
  (3, 24, []),
  (0, 5, [221, 0, 0, 0, 0, 0, 142, 222, 223, 0, 0, 0]),
  (3, 200, []),
  (1, 96, []),
  (1, 24, []),
  (0, 3, [225, 226, 0]),
  (3, 16384, []),
  (1, 14, []),
  (0, 1, [228, 0, 239, 240, 241, 242, 0]),
  (6, 10, [229, 230, 231, 232, 233, 234, 235, 236, 237, 238]),
  (1, 12, []),
  (1, 12, []),
  (1, 12, []),
  (1, 12, []),
  (1, 12, []),
  (1, 12, []),
  (1, 12, []),
  (1, 12, []),
  (1, 12, []),
  (1, 12, []),
  (1, 100, []),
  (1, 1024, []),
  (1, 12, []),
  (1, 12, []),
  (0, 0, [244, 0]),
  (3, 16, []),
  (0, 0, [246, 0]),
  (3, 16, []),
  (1, 13, []),
  (0, 12, [0, 0, 249, 250, 0, 0, 0, 0, 0, 251, 252, 0, 0, 253, 254, 0, 255, 256, 257, 258, 259, 0, 0, 0, 0, 260, 261, 262, 263, 264, 0, 265, 0, 0, 266, 267, 268, 0, 269, 270, 271, 272, 0, 0, 273, 274, 0, 275, 276, 0, 277, 278, 0, 279, 280, 0]),
  (3, 64, []),
  (1, 80, []),
  (1, 24, []),
  (1, 80, []),
  (1, 24, []),
  (1, 80, []),
  (1, 12, []),
  (1, 12, []),
  (1, 4, []),
  (1, 80, []),
  (1, 480, []),
  (1, 24, []),
  (1, 160, []),
  (3, 20002, []),
  (1, 20002, []),
  (1, 25, []),
  (3, 20000, []),
  (1, 4, []),
  (1, 12, []),
  (2, 20002, []),
  (1, 12, []),
  (3, 16384, []),
  (1, 80, []),
  (1, 13, []),
  (1, 65, []),
  (1, 65, []),
  (1, 120, []),
  (1, 12, []),
  (1, 8, []),
  (1, 6561, []),
  (2, 3, []),
  (1, 600, []),
  (3, 1, [])]
def sLen : Nat := 282
def lw_good : List Cond := lw_tbl.filter goodWord
theorem lw_in {w : Cond} (h : w ∈ lw_tbl) (g : goodWord w = true) : w ∈ lw_good := List.mem_filter.mpr ⟨h, g⟩
theorem lw_ix {w : Cond} (i : Nat) (h : tables_1[i]? = some w) (g : goodWord w = true) : w ∈ lw_good := lw_in (List.mem_append_right _ (List.mem_of_getElem? h)) g
theorem lw_i1 {w : Cond} (i : Nat) (h : tables_1_1[i]? = some w) (g : goodWord w = true) : w ∈ lw_good := lw_in (List.mem_append_right _ (List.mem_append_left _ (List.mem_of_getElem? h))) g
theorem lw_i2 {w : Cond} (i : Nat) (h : tables_1_2[i]? = some w) (g : goodWord w = true) : w ∈ lw_good := lw_in (List.mem_append_right _ (List.mem_append_right _ (List.mem_append_left _ (List.mem_of_getElem? h)))) g
theorem lw_i3 {w : Cond} (i : Nat) (h : tables_1_3[i]? = some w) (g : goodWord w = true) : w ∈ lw_good := lw_in (List.mem_append_right _ (List.mem_append_right _ (List.mem_append_right _ (List.mem_append_left _ (List.mem_of_getElem? h))))) g
theorem lw_i4 {w : Cond} (i : Nat) (h : tables_1_4[i]? = some w) (g : goodWord w = true) : w ∈ lw_good := lw_in (List.mem_append_right _ (List.mem_append_right _ (List.mem_append_right _ (List.mem_append_right _ (List.mem_append_left _ (List.mem_of_getElem? h)))))) g
theorem lw_i5 {w : Cond} (i : Nat) (h : tables_1_5[i]? = some w) (g : goodWord w = true) : w ∈ lw_good := lw_in (List.mem_append_right _ (List.mem_append_right _ (List.mem_append_right _ (List.mem_append_right _ (List.mem_append_right _ (List.mem_append_left _ (List.mem_of_getElem? h))))))) g
theorem lw_i6 {w : Cond} (i : Nat) (h : tables_1_6[i]? = some w) (g : goodWord w = true) : w ∈ lw_good := lw_in (List.mem_append_right _ (List.mem_append_right _ (List.mem_append_right _ (List.mem_append_right _ (List.mem_append_right _ (List.mem_append_right _ (List.mem_append_left _ (List.mem_of_getElem? h)))))))) g
theorem lw_i7 {w : Cond} (i : Nat) (h : tables_1_7[i]? = some w) (g : goodWord w = true) : w ∈ lw_good := lw_in (List.mem_append_right _ (List.mem_append_right _ (List.mem_append_right _ (List.mem_append_right _ (List.mem_append_right _ (List.mem_append_right _ (List.mem_append_right _ ((List.mem_of_getElem? h))))))))) g
theorem sCl_ws : ∀ n, n < 13 → ∀ w ∈ u_ws (sCl n).1 (sCl n).2.1 (sCl n).2.2, w ∈ lw_good := by
  have h : ((List.range 13).all fun n => (u_ws (sCl n).1 (sCl n).2.1 (sCl n).2.2).all fun w => decide (w ∈ tables_1) && goodWord w) = true := by decide +kernel
  intro n hn w hw
  have h1 := List.all_eq_true.mp (List.all_eq_true.mp h n (List.mem_range.mpr hn)) w hw
  simp only [Bool.and_eq_true, decide_eq_true_eq] at h1
  exact lw_in (List.mem_append_right _ h1.1) h1.2
theorem sCl_ty : ∀ n, n < 13 → ∀ k, k < (sCl n).2.2 → parseFieldDescriptor ((sCl n).2.1 k).2.2.1 = some (sTy n k) := by decide +kernel
theorem sCl_nm : ∀ n, n < 13 → ∀ a, a < (sCl n).2.2 → ∀ b, b < (sCl n).2.2 → a ≠ b → ((sCl n).2.1 a).2.1 ≠ ((sCl n).2.1 b).2.1 := by decide +kernel
theorem sCl_get : ∀ n, n < 13 → vwCl[n]? = some (sCl n) := by
  intro n hn
  have h : n < vwCl.length := hn
  simp [sCl, List.getD, List.getElem?_eq_getElem h]
