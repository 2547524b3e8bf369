/-! ===== BEGIN words of one list among another's, by their places ===== -/
theorem goodIn_r {big : List Cond} (ws : List Cond) (ps : List Nat) (hp : ws = ps.filterMap (fun i => big[i]?)) (h : ws.all goodWord = true) : GoodIn big ws := by
  intro w hw
  have h1 := List.all_eq_true.mp h w hw
  rw [hp] at hw
  obtain ⟨i, -, hi⟩ := List.mem_filterMap.mp hw
  have hm : w ∈ big := by first | exact List.mem_of_getElem? hi | exact List.getElem?_mem hi
  exact ⟨hm, good_of_word h1⟩
theorem goodIn_app {big a b : List Cond} (ha : GoodIn big a) (hb : GoodIn big b) : GoodIn big (a ++ b) := fun w h => (List.mem_append.mp h).elim (ha w) (hb w)
theorem goodIn_ca {big a b : List Cond} {c : Cond} (ha : GoodIn big (c :: a)) (hb : GoodIn big b) : GoodIn big (c :: (a ++ b)) := fun w h => (List.mem_cons.mp h).elim (fun e => ha w (List.mem_cons.mpr (Or.inl e))) (fun h => (List.mem_append.mp h).elim (fun h => ha w (List.mem_cons.mpr (Or.inr h))) (hb w))
theorem goodIn_sub {big ws : List Cond} (hm : ∀ w ∈ ws, w ∈ big) (h : ws.all goodWord = true) : GoodIn big ws := fun w hw => ⟨hm w hw, good_of_word (List.all_eq_true.mp h w hw)⟩
/-! ===== END ===== -/

/-! ===== BEGIN printed: names, fields, word lists, decode rows ===== -/
def RX0 : String := "ModEngine$Limbs"
def TX0 : u_T := fun k => match k with
  | _ => ("", "", "", false)
def tyX0 : Nat → FieldType := fun k => match k with
  | _ => .int
abbrev wsX00 : List Cond := u_ws RX0 TX0 0
theorem nmX0 : ∀ a, a < 0 → ∀ b, b < 0 → a ≠ b → (TX0 a).2.1 ≠ (TX0 b).2.1 := by decide +kernel
theorem tyX0_ok : ∀ k, k < 0 → parseFieldDescriptor (TX0 k).2.2.1 = some (tyX0 k) := by decide +kernel
abbrev cX0_copy : ByteArray := prog_2_method_2_code
def yX0_copy : MethodName := ⟨RX0, "copy", "([I[II)V"⟩
abbrev cX0_swap : ByteArray := prog_2_method_3_code
def yX0_swap : MethodName := ⟨RX0, "swap", "([I[II)V"⟩
abbrev cX0_setSmall : ByteArray := prog_2_method_4_code
def yX0_setSmall : MethodName := ⟨RX0, "setSmall", "([III)V"⟩
abbrev cX0_isSmall : ByteArray := prog_2_method_5_code
def yX0_isSmall : MethodName := ⟨RX0, "isSmall", "([III)Z"⟩
abbrev cX0_isOdd : ByteArray := prog_2_method_6_code
def yX0_isOdd : MethodName := ⟨RX0, "isOdd", "([I)Z"⟩
abbrev cX0_isBitSet : ByteArray := prog_2_method_7_code
def yX0_isBitSet : MethodName := ⟨RX0, "isBitSet", "([II)Z"⟩
abbrev cX0_highestBit : ByteArray := prog_2_method_8_code
def yX0_highestBit : MethodName := ⟨RX0, "highestBit", "([II)I"⟩
abbrev cX0_order : ByteArray := prog_2_method_9_code
def yX0_order : MethodName := ⟨RX0, "order", "([I[II)I"⟩
abbrev cX0_add : ByteArray := prog_2_method_10_code
def yX0_add : MethodName := ⟨RX0, "add", "([I[I[II)J"⟩
abbrev cX0_subtract : ByteArray := prog_2_method_11_code
def yX0_subtract : MethodName := ⟨RX0, "subtract", "([I[I[II)Z"⟩
abbrev cX0_addMultiple : ByteArray := prog_2_method_12_code
def yX0_addMultiple : MethodName := ⟨RX0, "addMultiple", "([I[III)J"⟩
abbrev cX0_dropLimb : ByteArray := prog_2_method_13_code
def yX0_dropLimb : MethodName := ⟨RX0, "dropLimb", "([IJI)J"⟩
abbrev cX0_halve : ByteArray := prog_2_method_14_code
def yX0_halve : MethodName := ⟨RX0, "halve", "([IJI)V"⟩
def RX1 : String := "ModEngine$Ring"
def TX1 : u_T := fun k => match k with
  | 0 => ("ModEngine$Ring", "modulus", "[I", true)
  | 1 => ("ModEngine$Ring", "k", "I", true)
  | 2 => ("ModEngine$Ring", "bits", "I", true)
  | 3 => ("ModEngine$Ring", "one", "[I", true)
  | 4 => ("ModEngine$Ring", "unit", "[I", true)
  | 5 => ("ModEngine$Ring", "rSquared", "[I", true)
  | 6 => ("ModEngine$Ring", "running", "[I", true)
  | 7 => ("ModEngine$Ring", "left", "[I", true)
  | 8 => ("ModEngine$Ring", "right", "[I", true)
  | 9 => ("ModEngine$Ring", "leftShare", "[I", true)
  | 10 => ("ModEngine$Ring", "rightShare", "[I", true)
  | _ => ("ModEngine$Ring", "minusInverse", "I", false)
def tyX1 : Nat → FieldType := fun k => match k with
  | 0 => .array .int
  | 1 => .int
  | 2 => .int
  | 3 => .array .int
  | 4 => .array .int
  | 5 => .array .int
  | 6 => .array .int
  | 7 => .array .int
  | 8 => .array .int
  | 9 => .array .int
  | 10 => .array .int
  | _ => .int
abbrev wsX10 : List Cond := u_ws RX1 TX1 12
theorem nmX1 : ∀ a, a < 12 → ∀ b, b < 12 → a ≠ b → (TX1 a).2.1 ≠ (TX1 b).2.1 := by decide +kernel
theorem tyX1_ok : ∀ k, k < 12 → parseFieldDescriptor (TX1 k).2.2.1 = some (tyX1 k) := by decide +kernel
abbrev cX1_init : ByteArray := prog_3_method_1_code
def yX1_init : MethodName := ⟨RX1, "<init>", "(I)V"⟩
abbrev cX1_hasFitModulus : ByteArray := prog_3_method_2_code
def yX1_hasFitModulus : MethodName := ⟨RX1, "hasFitModulus", "()Z"⟩
abbrev cX1_prepare : ByteArray := prog_3_method_3_code
def yX1_prepare : MethodName := ⟨RX1, "prepare", "()V"⟩
abbrev cX1_residue : ByteArray := prog_3_method_4_code
def yX1_residue : MethodName := ⟨RX1, "residue", "([I[I)V"⟩
abbrev cX1_sum : ByteArray := prog_3_method_5_code
def yX1_sum : MethodName := ⟨RX1, "sum", "([I[I[I)V"⟩
abbrev cX1_difference : ByteArray := prog_3_method_6_code
def yX1_difference : MethodName := ⟨RX1, "difference", "([I[I[I)V"⟩
abbrev cX1_product : ByteArray := prog_3_method_7_code
def yX1_product : MethodName := ⟨RX1, "product", "([I[I[I)V"⟩
abbrev cX1_productByR : ByteArray := prog_3_method_8_code
def yX1_productByR : MethodName := ⟨RX1, "productByR", "([I[I[I)V"⟩
abbrev cX1_power : ByteArray := prog_3_method_9_code
def yX1_power : MethodName := ⟨RX1, "power", "([I[I[I)V"⟩
abbrev cX1_invert : ByteArray := prog_3_method_10_code
def yX1_invert : MethodName := ⟨RX1, "invert", "([I[I)Z"⟩
abbrev cX1_isProvedCompositeBy : ByteArray := prog_3_method_11_code
def yX1_isProvedCompositeBy : MethodName := ⟨RX1, "isProvedCompositeBy", "([I)Z"⟩
abbrev cX1_montgomery : ByteArray := prog_3_method_12_code
def yX1_montgomery : MethodName := ⟨RX1, "montgomery", "([I[I[I)V"⟩
abbrev cX1_raise : ByteArray := prog_3_method_13_code
def yX1_raise : MethodName := ⟨RX1, "raise", "([I[I[II)V"⟩
abbrev cX1_stepTowardsDivisor : ByteArray := prog_3_method_14_code
def yX1_stepTowardsDivisor : MethodName := ⟨RX1, "stepTowardsDivisor", "()V"⟩
abbrev cX1_addBelow : ByteArray := prog_3_method_15_code
def yX1_addBelow : MethodName := ⟨RX1, "addBelow", "([I[I[I)V"⟩
abbrev cX1_subtractBelow : ByteArray := prog_3_method_16_code
def yX1_subtractBelow : MethodName := ⟨RX1, "subtractBelow", "([I[I[I)V"⟩
abbrev cX1_halveBelow : ByteArray := prog_3_method_17_code
def yX1_halveBelow : MethodName := ⟨RX1, "halveBelow", "([I)V"⟩
abbrev cX1_bringBelow : ByteArray := prog_3_method_18_code
def yX1_bringBelow : MethodName := ⟨RX1, "bringBelow", "([IJ)V"⟩
abbrev cX1_doubleOften : ByteArray := prog_3_method_19_code
def yX1_doubleOften : MethodName := ⟨RX1, "doubleOften", "([I)V"⟩
abbrev cX1_twosInModulusLessOne : ByteArray := prog_3_method_20_code
def yX1_twosInModulusLessOne : MethodName := ⟨RX1, "twosInModulusLessOne", "()I"⟩
abbrev cX1_inverseOfLimb : ByteArray := prog_3_method_21_code
def yX1_inverseOfLimb : MethodName := ⟨RX1, "inverseOfLimb", "(I)I"⟩
def RX2 : String := "ModEngine"
def TX2 : u_T := fun k => match k with
  | 0 => ("ModEngine", "limbs", "I", true)
  | 1 => ("ModEngine", "count", "I", true)
  | 2 => ("ModEngine", "registers", "[[I", true)
  | 3 => ("ModEngine", "ring", "LModEngine$Ring;", true)
  | _ => ("ModEngine", "isReady", "Z", false)
def tyX2 : Nat → FieldType := fun k => match k with
  | 0 => .int
  | 1 => .int
  | 2 => .array (.array .int)
  | 3 => .object "ModEngine$Ring"
  | _ => .boolean
abbrev wsX20 : List Cond := u_ws RX2 TX2 5
theorem nmX2 : ∀ a, a < 5 → ∀ b, b < 5 → a ≠ b → (TX2 a).2.1 ≠ (TX2 b).2.1 := by decide +kernel
theorem tyX2_ok : ∀ k, k < 5 → parseFieldDescriptor (TX2 k).2.2.1 = some (tyX2 k) := by decide +kernel
abbrev cX2_init : ByteArray := prog_1_method_1_code
def yX2_init : MethodName := ⟨RX2, "<init>", "(II)V"⟩
abbrev cX2_pokeMod : ByteArray := prog_1_method_2_code
def yX2_pokeMod : MethodName := ⟨RX2, "pokeMod", "(II)Z"⟩
abbrev cX2_peekMod : ByteArray := prog_1_method_3_code
def yX2_peekMod : MethodName := ⟨RX2, "peekMod", "(I)I"⟩
abbrev cX2_init_ : ByteArray := prog_1_method_4_code
def yX2_init_ : MethodName := ⟨RX2, "init", "()I"⟩
abbrev cX2_ready : ByteArray := prog_1_method_5_code
def yX2_ready : MethodName := ⟨RX2, "ready", "()Z"⟩
abbrev cX2_poke : ByteArray := prog_1_method_6_code
def yX2_poke : MethodName := ⟨RX2, "poke", "(III)Z"⟩
abbrev cX2_peek : ByteArray := prog_1_method_7_code
def yX2_peek : MethodName := ⟨RX2, "peek", "(II)I"⟩
abbrev cX2_reduce : ByteArray := prog_1_method_8_code
def yX2_reduce : MethodName := ⟨RX2, "reduce", "(I)Z"⟩
abbrev cX2_addMod : ByteArray := prog_1_method_9_code
def yX2_addMod : MethodName := ⟨RX2, "addMod", "(III)Z"⟩
abbrev cX2_subMod : ByteArray := prog_1_method_10_code
def yX2_subMod : MethodName := ⟨RX2, "subMod", "(III)Z"⟩
abbrev cX2_mulMod : ByteArray := prog_1_method_11_code
def yX2_mulMod : MethodName := ⟨RX2, "mulMod", "(III)Z"⟩
abbrev cX2_montMod : ByteArray := prog_1_method_12_code
def yX2_montMod : MethodName := ⟨RX2, "montMod", "(III)Z"⟩
abbrev cX2_powMod : ByteArray := prog_1_method_13_code
def yX2_powMod : MethodName := ⟨RX2, "powMod", "(III)Z"⟩
abbrev cX2_invMod : ByteArray := prog_1_method_14_code
def yX2_invMod : MethodName := ⟨RX2, "invMod", "(II)I"⟩
abbrev cX2_witness : ByteArray := prog_1_method_15_code
def yX2_witness : MethodName := ⟨RX2, "witness", "(I)I"⟩
abbrev cX2_compare : ByteArray := prog_1_method_16_code
def yX2_compare : MethodName := ⟨RX2, "compare", "(II)I"⟩
abbrev cX2_hasLimb : ByteArray := prog_1_method_17_code
def yX2_hasLimb : MethodName := ⟨RX2, "hasLimb", "(I)Z"⟩
abbrev cX2_hasRegister : ByteArray := prog_1_method_18_code
def yX2_hasRegister : MethodName := ⟨RX2, "hasRegister", "(I)Z"⟩
abbrev cX2_canWork : ByteArray := prog_1_method_19_code
def yX2_canWork : MethodName := ⟨RX2, "canWork", "(III)Z"⟩
def RX3 : String := "ModEngineModel"
def TX3 : u_T := fun k => match k with
  | 0 => ("ModEngineModel", "limbs", "I", true)
  | 1 => ("ModEngineModel", "registers", "I", true)
  | 2 => ("ModEngineModel", "held", "[J", true)
  | 3 => ("ModEngineModel", "isReady", "Z", false)
  | 4 => ("ModEngineModel", "modulus", "[J", true)
  | 5 => ("ModEngineModel", "first", "[J", true)
  | 6 => ("ModEngineModel", "second", "[J", true)
  | 7 => ("ModEngineModel", "result", "[J", true)
  | 8 => ("ModEngineModel", "factor", "[J", true)
  | 9 => ("ModEngineModel", "base", "[J", true)
  | _ => ("ModEngineModel", "power", "[J", true)
def tyX3 : Nat → FieldType := fun k => match k with
  | 0 => .int
  | 1 => .int
  | 2 => .array .long
  | 3 => .boolean
  | 4 => .array .long
  | 5 => .array .long
  | 6 => .array .long
  | 7 => .array .long
  | 8 => .array .long
  | 9 => .array .long
  | _ => .array .long
abbrev wsX30 : List Cond := u_ws RX3 TX3 11
theorem nmX3 : ∀ a, a < 11 → ∀ b, b < 11 → a ≠ b → (TX3 a).2.1 ≠ (TX3 b).2.1 := by decide +kernel
theorem tyX3_ok : ∀ k, k < 11 → parseFieldDescriptor (TX3 k).2.2.1 = some (tyX3 k) := by decide +kernel
abbrev cX3_init : ByteArray := prog_5_method_1_code
def yX3_init : MethodName := ⟨RX3, "<init>", "(II)V"⟩
abbrev cX3_within : ByteArray := prog_5_method_2_code
def yX3_within : MethodName := ⟨RX3, "within", "(I)I"⟩
abbrev cX3_isLimb : ByteArray := prog_5_method_3_code
def yX3_isLimb : MethodName := ⟨RX3, "isLimb", "(I)Z"⟩
abbrev cX3_isRegister : ByteArray := prog_5_method_4_code
def yX3_isRegister : MethodName := ⟨RX3, "isRegister", "(I)Z"⟩
abbrev cX3_placeOf : ByteArray := prog_5_method_5_code
def yX3_placeOf : MethodName := ⟨RX3, "placeOf", "(I)I"⟩
abbrev cX3_placeOfModulus : ByteArray := prog_5_method_6_code
def yX3_placeOfModulus : MethodName := ⟨RX3, "placeOfModulus", "()I"⟩
abbrev cX3_pokeMod : ByteArray := prog_5_method_7_code
def yX3_pokeMod : MethodName := ⟨RX3, "pokeMod", "(II)Z"⟩
abbrev cX3_peekMod : ByteArray := prog_5_method_8_code
def yX3_peekMod : MethodName := ⟨RX3, "peekMod", "(I)I"⟩
abbrev cX3_init_ : ByteArray := prog_5_method_9_code
def yX3_init_ : MethodName := ⟨RX3, "init", "()I"⟩
abbrev cX3_ready : ByteArray := prog_5_method_10_code
def yX3_ready : MethodName := ⟨RX3, "ready", "()Z"⟩
abbrev cX3_poke : ByteArray := prog_5_method_11_code
def yX3_poke : MethodName := ⟨RX3, "poke", "(III)Z"⟩
abbrev cX3_peek : ByteArray := prog_5_method_12_code
def yX3_peek : MethodName := ⟨RX3, "peek", "(II)I"⟩
abbrev cX3_read : ByteArray := prog_5_method_13_code
def yX3_read : MethodName := ⟨RX3, "read", "([JI)V"⟩
abbrev cX3_write : ByteArray := prog_5_method_14_code
def yX3_write : MethodName := ⟨RX3, "write", "(I[J)V"⟩
abbrev cX3_copy : ByteArray := prog_5_method_15_code
def yX3_copy : MethodName := ⟨RX3, "copy", "([J[J)V"⟩
abbrev cX3_be : ByteArray := prog_5_method_16_code
def yX3_be : MethodName := ⟨RX3, "be", "([JJ)V"⟩
abbrev cX3_compared : ByteArray := prog_5_method_17_code
def yX3_compared : MethodName := ⟨RX3, "compared", "([J[J)I"⟩
abbrev cX3_isNought : ByteArray := prog_5_method_18_code
def yX3_isNought : MethodName := ⟨RX3, "isNought", "([J)Z"⟩
abbrev cX3_isOne : ByteArray := prog_5_method_19_code
def yX3_isOne : MethodName := ⟨RX3, "isOne", "([J)Z"⟩
abbrev cX3_plus : ByteArray := prog_5_method_20_code
def yX3_plus : MethodName := ⟨RX3, "plus", "([J[J)V"⟩
abbrev cX3_minus : ByteArray := prog_5_method_21_code
def yX3_minus : MethodName := ⟨RX3, "minus", "([J[J)V"⟩
abbrev cX3_half : ByteArray := prog_5_method_22_code
def yX3_half : MethodName := ⟨RX3, "half", "([J)V"⟩
abbrev cX3_bit : ByteArray := prog_5_method_23_code
def yX3_bit : MethodName := ⟨RX3, "bit", "([JI)Z"⟩
abbrev cX3_bits : ByteArray := prog_5_method_24_code
def yX3_bits : MethodName := ⟨RX3, "bits", "()I"⟩
abbrev cX3_sum : ByteArray := prog_5_method_25_code
def yX3_sum : MethodName := ⟨RX3, "sum", "([J[J)V"⟩
abbrev cX3_difference : ByteArray := prog_5_method_26_code
def yX3_difference : MethodName := ⟨RX3, "difference", "([J[J)V"⟩
abbrev cX3_rest : ByteArray := prog_5_method_27_code
def yX3_rest : MethodName := ⟨RX3, "rest", "([J)V"⟩
abbrev cX3_product : ByteArray := prog_5_method_28_code
def yX3_product : MethodName := ⟨RX3, "product", "([J[J)V"⟩
abbrev cX3_halfOf : ByteArray := prog_5_method_29_code
def yX3_halfOf : MethodName := ⟨RX3, "halfOf", "([J)V"⟩
abbrev cX3_isAsked : ByteArray := prog_5_method_30_code
def yX3_isAsked : MethodName := ⟨RX3, "isAsked", "(III)Z"⟩
abbrev cX3_takes : ByteArray := prog_5_method_31_code
def yX3_takes : MethodName := ⟨RX3, "takes", "(II)V"⟩
abbrev cX3_reduce : ByteArray := prog_5_method_32_code
def yX3_reduce : MethodName := ⟨RX3, "reduce", "(I)Z"⟩
abbrev cX3_addMod : ByteArray := prog_5_method_33_code
def yX3_addMod : MethodName := ⟨RX3, "addMod", "(III)Z"⟩
abbrev cX3_subMod : ByteArray := prog_5_method_34_code
def yX3_subMod : MethodName := ⟨RX3, "subMod", "(III)Z"⟩
abbrev cX3_mulMod : ByteArray := prog_5_method_35_code
def yX3_mulMod : MethodName := ⟨RX3, "mulMod", "(III)Z"⟩
abbrev cX3_montMod : ByteArray := prog_5_method_36_code
def yX3_montMod : MethodName := ⟨RX3, "montMod", "(III)Z"⟩
abbrev cX3_raise : ByteArray := prog_5_method_37_code
def yX3_raise : MethodName := ⟨RX3, "raise", "([J)V"⟩
abbrev cX3_powMod : ByteArray := prog_5_method_38_code
def yX3_powMod : MethodName := ⟨RX3, "powMod", "(III)Z"⟩
abbrev cX3_invMod : ByteArray := prog_5_method_39_code
def yX3_invMod : MethodName := ⟨RX3, "invMod", "(II)I"⟩
abbrev cX3_witness : ByteArray := prog_5_method_40_code
def yX3_witness : MethodName := ⟨RX3, "witness", "(I)I"⟩
abbrev cX3_compare : ByteArray := prog_5_method_41_code
def yX3_compare : MethodName := ⟨RX3, "compare", "(II)I"⟩
def RJ9 : String := "java/lang/Math"
def TJ9 : u_T := fun k => match k with
  | _ => ("", "", "", false)
def tyJ9 : Nat → FieldType := fun k => match k with
  | _ => .int
abbrev wsJ90 : List Cond := u_ws RJ9 TJ9 0
theorem nmJ9 : ∀ a, a < 0 → ∀ b, b < 0 → a ≠ b → (TJ9 a).2.1 ≠ (TJ9 b).2.1 := by decide +kernel
theorem tyJ9_ok : ∀ k, k < 0 → parseFieldDescriptor (TJ9 k).2.2.1 = some (tyJ9 k) := by decide +kernel
abbrev cJ9_max_7cf53 : ByteArray := prog_6_method_65_code
def yJ9_max_7cf53 : MethodName := ⟨RJ9, "max", "(II)I"⟩
abbrev cJ9_min_7cf53 : ByteArray := prog_6_method_69_code
def yJ9_min_7cf53 : MethodName := ⟨RJ9, "min", "(II)I"⟩
def RL : String := "ModEngineLaw"
abbrev cL_cell : ByteArray := method_2_code
def yL_cell : MethodName := ⟨RL, "cell", "([II)I"⟩
abbrev cL_law : ByteArray := code
def yL_law : MethodName := ⟨RL, "law", "([I)Z"⟩
def wsX0_copy : List Cond := .code yX0_copy cX0_copy 4 none :: ([])
def wsX0_swap : List Cond := .code yX0_swap cX0_swap 5 none :: ([])
def wsX0_setSmall : List Cond := .code yX0_setSmall cX0_setSmall 4 none :: ([])
def wsX0_isSmall : List Cond := .code yX0_isSmall cX0_isSmall 4 (some .boolean) :: ([])
def wsX0_isOdd : List Cond := .code yX0_isOdd cX0_isOdd 1 (some .boolean) :: ([])
def wsX0_isBitSet : List Cond := .code yX0_isBitSet cX0_isBitSet 2 (some .boolean) :: ([])
def wsX0_highestBit : List Cond := .code yX0_highestBit cX0_highestBit 3 (some .int) :: ([.methodLink RX0 9 yX0_isBitSet, .static yX0_isBitSet, .initialized RX0, .code yX0_isBitSet cX0_isBitSet 2 (some .boolean)])
def wsX0_order : List Cond := .code yX0_order cX0_order 4 (some .int) :: ([.constantLong RX0 15 (4294967295)])
def wsX0_add : List Cond := .code yX0_add cX0_add 7 (some .long) :: ([.constantLong RX0 15 (4294967295)])
def wsX0_subtract : List Cond := .code yX0_subtract cX0_subtract 7 (some .boolean) :: ([.constantLong RX0 15 (4294967295)])
def wsX0_addMultiple : List Cond := .code yX0_addMultiple cX0_addMultiple 9 (some .long) :: ([.constantLong RX0 15 (4294967295)])
def wsX0_dropLimb : List Cond := .code yX0_dropLimb cX0_dropLimb 5 (some .long) :: ([])
def wsX0_halve : List Cond := .code yX0_halve cX0_halve 9 none :: ([.constantLong RX0 15 (4294967295)])
def wsX1_init : List Cond := .code yX1_init cX1_init 2 none :: ([.methodLink RX1 3 objectInit, .instanceMethod objectInit, .code objectInit ⟨#[0xb1]⟩ 1 none, .fieldLink RX1 9 "ModEngine$Ring" "k" "I", .fieldLink RX1 15 "ModEngine$Ring" "bits" "I", .arrayClass .int, .fieldLink RX1 18 "ModEngine$Ring" "modulus" "[I", .fieldLink RX1 22 "ModEngine$Ring" "one" "[I", .fieldLink RX1 25 "ModEngine$Ring" "unit" "[I", .fieldLink RX1 28 "ModEngine$Ring" "rSquared" "[I", .fieldLink RX1 31 "ModEngine$Ring" "running" "[I", .fieldLink RX1 34 "ModEngine$Ring" "left" "[I", .fieldLink RX1 37 "ModEngine$Ring" "right" "[I", .fieldLink RX1 40 "ModEngine$Ring" "leftShare" "[I", .fieldLink RX1 43 "ModEngine$Ring" "rightShare" "[I", .fieldLink RX1 46 "ModEngine$Ring" "minusInverse" "I"] ++ wsX10)
def wsX1_hasFitModulus : List Cond := .code yX1_hasFitModulus cX1_hasFitModulus 1 (some .boolean) :: ([.fieldLink RX1 18 "ModEngine$Ring" "modulus" "[I", .fieldLink RX1 9 "ModEngine$Ring" "k" "I", .methodLink RX1 49 yX0_isOdd, .static yX0_isOdd, .initialized RX0, .code yX0_isOdd cX0_isOdd 1 (some .boolean), .methodLink RX1 55 yX0_isSmall, .static yX0_isSmall, .code yX0_isSmall cX0_isSmall 4 (some .boolean)] ++ wsX10)
def wsX1_inverseOfLimb : List Cond := .code yX1_inverseOfLimb cX1_inverseOfLimb 3 (some .int) :: ([])
def wsX1_bringBelow : List Cond := .code yX1_bringBelow cX1_bringBelow 4 none :: ([.fieldLink RX1 18 "ModEngine$Ring" "modulus" "[I", .fieldLink RX1 9 "ModEngine$Ring" "k" "I", .methodLink RX1 103 yX0_order, .static yX0_order, .initialized RX0, .code yX0_order cX0_order 4 (some .int), .constantLong RX0 15 (4294967295), .methodLink RX1 137 yX0_subtract, .static yX0_subtract, .code yX0_subtract cX0_subtract 7 (some .boolean)] ++ wsX10)
def wsX1_addBelow : List Cond := .code yX1_addBelow cX1_addBelow 6 none :: ([.fieldLink RX1 9 "ModEngine$Ring" "k" "I", .methodLink RX1 141 yX0_add, .static yX0_add, .initialized RX0, .code yX0_add cX0_add 7 (some .long), .constantLong RX0 15 (4294967295), .methodLink RX1 115 yX1_bringBelow, .instanceMethod yX1_bringBelow, .selects RX1 yX1_bringBelow yX1_bringBelow, .initialized RX1, .code yX1_bringBelow cX1_bringBelow 4 none, .fieldLink RX1 18 "ModEngine$Ring" "modulus" "[I", .methodLink RX1 103 yX0_order, .static yX0_order, .code yX0_order cX0_order 4 (some .int), .methodLink RX1 137 yX0_subtract, .static yX0_subtract, .code yX0_subtract cX0_subtract 7 (some .boolean)] ++ wsX10)
def wsX1_doubleOften : List Cond := .code yX1_doubleOften cX1_doubleOften 3 none :: ([.fieldLink RX1 15 "ModEngine$Ring" "bits" "I", .methodLink RX1 79 yX1_addBelow, .instanceMethod yX1_addBelow, .selects RX1 yX1_addBelow yX1_addBelow, .initialized RX1, .code yX1_addBelow cX1_addBelow 6 none, .fieldLink RX1 9 "ModEngine$Ring" "k" "I", .methodLink RX1 141 yX0_add, .static yX0_add, .initialized RX0, .code yX0_add cX0_add 7 (some .long), .constantLong RX0 15 (4294967295), .methodLink RX1 115 yX1_bringBelow, .instanceMethod yX1_bringBelow, .selects RX1 yX1_bringBelow yX1_bringBelow, .code yX1_bringBelow cX1_bringBelow 4 none, .fieldLink RX1 18 "ModEngine$Ring" "modulus" "[I", .methodLink RX1 103 yX0_order, .static yX0_order, .code yX0_order cX0_order 4 (some .int), .methodLink RX1 137 yX0_subtract, .static yX0_subtract, .code yX0_subtract cX0_subtract 7 (some .boolean)] ++ wsX10)
def wsX1_prepare_r1 : List Cond := [Cond.fieldLink RX1 18 "ModEngine$Ring" "modulus" "[I", Cond.fieldLink RX1 46 "ModEngine$Ring" "minusInverse" "I", Cond.fieldLink RX1 25 "ModEngine$Ring" "unit" "[I", Cond.fieldLink RX1 22 "ModEngine$Ring" "one" "[I", Cond.fieldLink RX1 9 "ModEngine$Ring" "k" "I", Cond.fieldLink RX1 28 "ModEngine$Ring" "rSquared" "[I", Cond.methodLink RX1 59 yX1_inverseOfLimb, Cond.static yX1_inverseOfLimb, Cond.initialized RX1, Cond.code yX1_inverseOfLimb cX1_inverseOfLimb 3 (some .int), Cond.methodLink RX1 63 yX0_copy, Cond.static yX0_copy, Cond.initialized RX0, Cond.code yX0_copy cX0_copy 4 none, Cond.methodLink RX1 67 yX1_doubleOften, Cond.instanceMethod yX1_doubleOften, Cond.selects RX1 yX1_doubleOften yX1_doubleOften, Cond.code yX1_doubleOften cX1_doubleOften 3 none, Cond.fieldLink RX1 15 "ModEngine$Ring" "bits" "I", Cond.methodLink RX1 79 yX1_addBelow, Cond.instanceMethod yX1_addBelow, Cond.selects RX1 yX1_addBelow yX1_addBelow, Cond.code yX1_addBelow cX1_addBelow 6 none, Cond.methodLink RX1 141 yX0_add]
def wsX1_prepare_r2 : List Cond := [Cond.static yX0_add, Cond.code yX0_add cX0_add 7 (some .long), Cond.constantLong RX0 15 (4294967295), Cond.methodLink RX1 115 yX1_bringBelow, Cond.instanceMethod yX1_bringBelow, Cond.selects RX1 yX1_bringBelow yX1_bringBelow, Cond.code yX1_bringBelow cX1_bringBelow 4 none, Cond.methodLink RX1 103 yX0_order, Cond.static yX0_order, Cond.code yX0_order cX0_order 4 (some .int), Cond.methodLink RX1 137 yX0_subtract, Cond.static yX0_subtract, Cond.code yX0_subtract cX0_subtract 7 (some .boolean)]
def wsX1_prepare : List Cond := .code yX1_prepare cX1_prepare 1 none :: ((wsX1_prepare_r1 ++ wsX1_prepare_r2) ++ wsX10)
def wsX1_montgomery_r1 : List Cond := [Cond.fieldLink RX1 31 "ModEngine$Ring" "running" "[I", Cond.fieldLink RX1 9 "ModEngine$Ring" "k" "I", Cond.fieldLink RX1 18 "ModEngine$Ring" "modulus" "[I", Cond.fieldLink RX1 46 "ModEngine$Ring" "minusInverse" "I", Cond.methodLink RX1 92 yX0_setSmall, Cond.static yX0_setSmall, Cond.initialized RX0, Cond.code yX0_setSmall cX0_setSmall 4 none, Cond.methodLink RX1 107 yX0_addMultiple, Cond.static yX0_addMultiple, Cond.code yX0_addMultiple cX0_addMultiple 9 (some .long), Cond.constantLong RX0 15 (4294967295), Cond.methodLink RX1 111 yX0_dropLimb, Cond.static yX0_dropLimb, Cond.code yX0_dropLimb cX0_dropLimb 5 (some .long), Cond.methodLink RX1 63 yX0_copy, Cond.static yX0_copy, Cond.code yX0_copy cX0_copy 4 none, Cond.methodLink RX1 115 yX1_bringBelow, Cond.instanceMethod yX1_bringBelow, Cond.selects RX1 yX1_bringBelow yX1_bringBelow, Cond.initialized RX1, Cond.code yX1_bringBelow cX1_bringBelow 4 none, Cond.methodLink RX1 103 yX0_order]
def wsX1_montgomery_r2 : List Cond := [Cond.static yX0_order, Cond.code yX0_order cX0_order 4 (some .int), Cond.methodLink RX1 137 yX0_subtract, Cond.static yX0_subtract, Cond.code yX0_subtract cX0_subtract 7 (some .boolean)]
def wsX1_montgomery : List Cond := .code yX1_montgomery cX1_montgomery 7 none :: ((wsX1_montgomery_r1 ++ wsX1_montgomery_r2) ++ wsX10)
def wsX1_residue_r1 : List Cond := [Cond.fieldLink RX1 28 "ModEngine$Ring" "rSquared" "[I", Cond.fieldLink RX1 22 "ModEngine$Ring" "one" "[I", Cond.methodLink RX1 71 yX1_montgomery, Cond.instanceMethod yX1_montgomery, Cond.selects RX1 yX1_montgomery yX1_montgomery, Cond.initialized RX1, Cond.code yX1_montgomery cX1_montgomery 7 none, Cond.fieldLink RX1 31 "ModEngine$Ring" "running" "[I", Cond.fieldLink RX1 9 "ModEngine$Ring" "k" "I", Cond.fieldLink RX1 18 "ModEngine$Ring" "modulus" "[I", Cond.fieldLink RX1 46 "ModEngine$Ring" "minusInverse" "I", Cond.methodLink RX1 92 yX0_setSmall, Cond.static yX0_setSmall, Cond.initialized RX0, Cond.code yX0_setSmall cX0_setSmall 4 none, Cond.methodLink RX1 107 yX0_addMultiple, Cond.static yX0_addMultiple, Cond.code yX0_addMultiple cX0_addMultiple 9 (some .long), Cond.constantLong RX0 15 (4294967295), Cond.methodLink RX1 111 yX0_dropLimb, Cond.static yX0_dropLimb, Cond.code yX0_dropLimb cX0_dropLimb 5 (some .long), Cond.methodLink RX1 63 yX0_copy, Cond.static yX0_copy]
def wsX1_residue_r2 : List Cond := [Cond.code yX0_copy cX0_copy 4 none, Cond.methodLink RX1 115 yX1_bringBelow, Cond.instanceMethod yX1_bringBelow, Cond.selects RX1 yX1_bringBelow yX1_bringBelow, Cond.code yX1_bringBelow cX1_bringBelow 4 none, Cond.methodLink RX1 103 yX0_order, Cond.static yX0_order, Cond.code yX0_order cX0_order 4 (some .int), Cond.methodLink RX1 137 yX0_subtract, Cond.static yX0_subtract, Cond.code yX0_subtract cX0_subtract 7 (some .boolean)]
def wsX1_residue : List Cond := .code yX1_residue cX1_residue 3 none :: ((wsX1_residue_r1 ++ wsX1_residue_r2) ++ wsX10)
def wsX1_sum_r1 : List Cond := [Cond.fieldLink RX1 34 "ModEngine$Ring" "left" "[I", Cond.fieldLink RX1 37 "ModEngine$Ring" "right" "[I", Cond.methodLink RX1 75 yX1_residue, Cond.instanceMethod yX1_residue, Cond.selects RX1 yX1_residue yX1_residue, Cond.initialized RX1, Cond.code yX1_residue cX1_residue 3 none, Cond.fieldLink RX1 28 "ModEngine$Ring" "rSquared" "[I", Cond.fieldLink RX1 22 "ModEngine$Ring" "one" "[I", Cond.methodLink RX1 71 yX1_montgomery, Cond.instanceMethod yX1_montgomery, Cond.selects RX1 yX1_montgomery yX1_montgomery, Cond.code yX1_montgomery cX1_montgomery 7 none, Cond.fieldLink RX1 31 "ModEngine$Ring" "running" "[I", Cond.fieldLink RX1 9 "ModEngine$Ring" "k" "I", Cond.fieldLink RX1 18 "ModEngine$Ring" "modulus" "[I", Cond.fieldLink RX1 46 "ModEngine$Ring" "minusInverse" "I", Cond.methodLink RX1 92 yX0_setSmall, Cond.static yX0_setSmall, Cond.initialized RX0, Cond.code yX0_setSmall cX0_setSmall 4 none, Cond.methodLink RX1 107 yX0_addMultiple, Cond.static yX0_addMultiple, Cond.code yX0_addMultiple cX0_addMultiple 9 (some .long)]
def wsX1_sum_r2 : List Cond := [Cond.constantLong RX0 15 (4294967295), Cond.methodLink RX1 111 yX0_dropLimb, Cond.static yX0_dropLimb, Cond.code yX0_dropLimb cX0_dropLimb 5 (some .long), Cond.methodLink RX1 63 yX0_copy, Cond.static yX0_copy, Cond.code yX0_copy cX0_copy 4 none, Cond.methodLink RX1 115 yX1_bringBelow, Cond.instanceMethod yX1_bringBelow, Cond.selects RX1 yX1_bringBelow yX1_bringBelow, Cond.code yX1_bringBelow cX1_bringBelow 4 none, Cond.methodLink RX1 103 yX0_order, Cond.static yX0_order, Cond.code yX0_order cX0_order 4 (some .int), Cond.methodLink RX1 137 yX0_subtract, Cond.static yX0_subtract, Cond.code yX0_subtract cX0_subtract 7 (some .boolean), Cond.methodLink RX1 79 yX1_addBelow, Cond.instanceMethod yX1_addBelow, Cond.selects RX1 yX1_addBelow yX1_addBelow, Cond.code yX1_addBelow cX1_addBelow 6 none, Cond.methodLink RX1 141 yX0_add, Cond.static yX0_add, Cond.code yX0_add cX0_add 7 (some .long)]
def wsX1_sum : List Cond := .code yX1_sum cX1_sum 4 none :: ((wsX1_sum_r1 ++ wsX1_sum_r2) ++ wsX10)
def wsX1_subtractBelow : List Cond := .code yX1_subtractBelow cX1_subtractBelow 4 none :: ([.fieldLink RX1 9 "ModEngine$Ring" "k" "I", .fieldLink RX1 18 "ModEngine$Ring" "modulus" "[I", .methodLink RX1 137 yX0_subtract, .static yX0_subtract, .initialized RX0, .code yX0_subtract cX0_subtract 7 (some .boolean), .constantLong RX0 15 (4294967295), .methodLink RX1 141 yX0_add, .static yX0_add, .code yX0_add cX0_add 7 (some .long)] ++ wsX10)
def wsX1_difference_r1 : List Cond := [Cond.fieldLink RX1 34 "ModEngine$Ring" "left" "[I", Cond.fieldLink RX1 37 "ModEngine$Ring" "right" "[I", Cond.methodLink RX1 75 yX1_residue, Cond.instanceMethod yX1_residue, Cond.selects RX1 yX1_residue yX1_residue, Cond.initialized RX1, Cond.code yX1_residue cX1_residue 3 none, Cond.fieldLink RX1 28 "ModEngine$Ring" "rSquared" "[I", Cond.fieldLink RX1 22 "ModEngine$Ring" "one" "[I", Cond.methodLink RX1 71 yX1_montgomery, Cond.instanceMethod yX1_montgomery, Cond.selects RX1 yX1_montgomery yX1_montgomery, Cond.code yX1_montgomery cX1_montgomery 7 none, Cond.fieldLink RX1 31 "ModEngine$Ring" "running" "[I", Cond.fieldLink RX1 9 "ModEngine$Ring" "k" "I", Cond.fieldLink RX1 18 "ModEngine$Ring" "modulus" "[I", Cond.fieldLink RX1 46 "ModEngine$Ring" "minusInverse" "I", Cond.methodLink RX1 92 yX0_setSmall, Cond.static yX0_setSmall, Cond.initialized RX0, Cond.code yX0_setSmall cX0_setSmall 4 none, Cond.methodLink RX1 107 yX0_addMultiple, Cond.static yX0_addMultiple, Cond.code yX0_addMultiple cX0_addMultiple 9 (some .long)]
def wsX1_difference_r2 : List Cond := [Cond.constantLong RX0 15 (4294967295), Cond.methodLink RX1 111 yX0_dropLimb, Cond.static yX0_dropLimb, Cond.code yX0_dropLimb cX0_dropLimb 5 (some .long), Cond.methodLink RX1 63 yX0_copy, Cond.static yX0_copy, Cond.code yX0_copy cX0_copy 4 none, Cond.methodLink RX1 115 yX1_bringBelow, Cond.instanceMethod yX1_bringBelow, Cond.selects RX1 yX1_bringBelow yX1_bringBelow, Cond.code yX1_bringBelow cX1_bringBelow 4 none, Cond.methodLink RX1 103 yX0_order, Cond.static yX0_order, Cond.code yX0_order cX0_order 4 (some .int), Cond.methodLink RX1 137 yX0_subtract, Cond.static yX0_subtract, Cond.code yX0_subtract cX0_subtract 7 (some .boolean), Cond.methodLink RX1 82 yX1_subtractBelow, Cond.instanceMethod yX1_subtractBelow, Cond.selects RX1 yX1_subtractBelow yX1_subtractBelow, Cond.code yX1_subtractBelow cX1_subtractBelow 4 none, Cond.methodLink RX1 141 yX0_add, Cond.static yX0_add, Cond.code yX0_add cX0_add 7 (some .long)]
def wsX1_difference : List Cond := .code yX1_difference cX1_difference 4 none :: ((wsX1_difference_r1 ++ wsX1_difference_r2) ++ wsX10)
def wsX1_product_r1 : List Cond := [Cond.fieldLink RX1 34 "ModEngine$Ring" "left" "[I", Cond.fieldLink RX1 28 "ModEngine$Ring" "rSquared" "[I", Cond.methodLink RX1 71 yX1_montgomery, Cond.instanceMethod yX1_montgomery, Cond.selects RX1 yX1_montgomery yX1_montgomery, Cond.initialized RX1, Cond.code yX1_montgomery cX1_montgomery 7 none, Cond.fieldLink RX1 31 "ModEngine$Ring" "running" "[I", Cond.fieldLink RX1 9 "ModEngine$Ring" "k" "I", Cond.fieldLink RX1 18 "ModEngine$Ring" "modulus" "[I", Cond.fieldLink RX1 46 "ModEngine$Ring" "minusInverse" "I", Cond.methodLink RX1 92 yX0_setSmall, Cond.static yX0_setSmall, Cond.initialized RX0, Cond.code yX0_setSmall cX0_setSmall 4 none, Cond.methodLink RX1 107 yX0_addMultiple, Cond.static yX0_addMultiple, Cond.code yX0_addMultiple cX0_addMultiple 9 (some .long), Cond.constantLong RX0 15 (4294967295), Cond.methodLink RX1 111 yX0_dropLimb, Cond.static yX0_dropLimb, Cond.code yX0_dropLimb cX0_dropLimb 5 (some .long), Cond.methodLink RX1 63 yX0_copy, Cond.static yX0_copy]
def wsX1_product_r2 : List Cond := [Cond.code yX0_copy cX0_copy 4 none, Cond.methodLink RX1 115 yX1_bringBelow, Cond.instanceMethod yX1_bringBelow, Cond.selects RX1 yX1_bringBelow yX1_bringBelow, Cond.code yX1_bringBelow cX1_bringBelow 4 none, Cond.methodLink RX1 103 yX0_order, Cond.static yX0_order, Cond.code yX0_order cX0_order 4 (some .int), Cond.methodLink RX1 137 yX0_subtract, Cond.static yX0_subtract, Cond.code yX0_subtract cX0_subtract 7 (some .boolean)]
def wsX1_product : List Cond := .code yX1_product cX1_product 4 none :: ((wsX1_product_r1 ++ wsX1_product_r2) ++ wsX10)
def wsX1_productByR_r1 : List Cond := [Cond.fieldLink RX1 34 "ModEngine$Ring" "left" "[I", Cond.fieldLink RX1 22 "ModEngine$Ring" "one" "[I", Cond.methodLink RX1 85 yX1_product, Cond.instanceMethod yX1_product, Cond.selects RX1 yX1_product yX1_product, Cond.initialized RX1, Cond.code yX1_product cX1_product 4 none, Cond.fieldLink RX1 28 "ModEngine$Ring" "rSquared" "[I", Cond.methodLink RX1 71 yX1_montgomery, Cond.instanceMethod yX1_montgomery, Cond.selects RX1 yX1_montgomery yX1_montgomery, Cond.code yX1_montgomery cX1_montgomery 7 none, Cond.fieldLink RX1 31 "ModEngine$Ring" "running" "[I", Cond.fieldLink RX1 9 "ModEngine$Ring" "k" "I", Cond.fieldLink RX1 18 "ModEngine$Ring" "modulus" "[I", Cond.fieldLink RX1 46 "ModEngine$Ring" "minusInverse" "I", Cond.methodLink RX1 92 yX0_setSmall, Cond.static yX0_setSmall, Cond.initialized RX0, Cond.code yX0_setSmall cX0_setSmall 4 none, Cond.methodLink RX1 107 yX0_addMultiple, Cond.static yX0_addMultiple, Cond.code yX0_addMultiple cX0_addMultiple 9 (some .long), Cond.constantLong RX0 15 (4294967295)]
def wsX1_productByR_r2 : List Cond := [Cond.methodLink RX1 111 yX0_dropLimb, Cond.static yX0_dropLimb, Cond.code yX0_dropLimb cX0_dropLimb 5 (some .long), Cond.methodLink RX1 63 yX0_copy, Cond.static yX0_copy, Cond.code yX0_copy cX0_copy 4 none, Cond.methodLink RX1 115 yX1_bringBelow, Cond.instanceMethod yX1_bringBelow, Cond.selects RX1 yX1_bringBelow yX1_bringBelow, Cond.code yX1_bringBelow cX1_bringBelow 4 none, Cond.methodLink RX1 103 yX0_order, Cond.static yX0_order, Cond.code yX0_order cX0_order 4 (some .int), Cond.methodLink RX1 137 yX0_subtract, Cond.static yX0_subtract, Cond.code yX0_subtract cX0_subtract 7 (some .boolean)]
def wsX1_productByR : List Cond := .code yX1_productByR cX1_productByR 4 none :: ((wsX1_productByR_r1 ++ wsX1_productByR_r2) ++ wsX10)
def wsX1_raise_r1 : List Cond := [Cond.fieldLink RX1 25 "ModEngine$Ring" "unit" "[I", Cond.fieldLink RX1 9 "ModEngine$Ring" "k" "I", Cond.methodLink RX1 63 yX0_copy, Cond.static yX0_copy, Cond.initialized RX0, Cond.code yX0_copy cX0_copy 4 none, Cond.methodLink RX1 119 yX0_highestBit, Cond.static yX0_highestBit, Cond.code yX0_highestBit cX0_highestBit 3 (some .int), Cond.methodLink RX0 9 yX0_isBitSet, Cond.static yX0_isBitSet, Cond.code yX0_isBitSet cX0_isBitSet 2 (some .boolean), Cond.methodLink RX1 71 yX1_montgomery, Cond.instanceMethod yX1_montgomery, Cond.selects RX1 yX1_montgomery yX1_montgomery, Cond.initialized RX1, Cond.code yX1_montgomery cX1_montgomery 7 none, Cond.fieldLink RX1 31 "ModEngine$Ring" "running" "[I", Cond.fieldLink RX1 18 "ModEngine$Ring" "modulus" "[I", Cond.fieldLink RX1 46 "ModEngine$Ring" "minusInverse" "I", Cond.methodLink RX1 92 yX0_setSmall, Cond.static yX0_setSmall, Cond.code yX0_setSmall cX0_setSmall 4 none, Cond.methodLink RX1 107 yX0_addMultiple]
def wsX1_raise_r2 : List Cond := [Cond.static yX0_addMultiple, Cond.code yX0_addMultiple cX0_addMultiple 9 (some .long), Cond.constantLong RX0 15 (4294967295), Cond.methodLink RX1 111 yX0_dropLimb, Cond.static yX0_dropLimb, Cond.code yX0_dropLimb cX0_dropLimb 5 (some .long), Cond.methodLink RX1 115 yX1_bringBelow, Cond.instanceMethod yX1_bringBelow, Cond.selects RX1 yX1_bringBelow yX1_bringBelow, Cond.code yX1_bringBelow cX1_bringBelow 4 none, Cond.methodLink RX1 103 yX0_order, Cond.static yX0_order, Cond.code yX0_order cX0_order 4 (some .int), Cond.methodLink RX1 137 yX0_subtract, Cond.static yX0_subtract, Cond.code yX0_subtract cX0_subtract 7 (some .boolean), Cond.methodLink RX1 123 yX0_isBitSet]
def wsX1_raise : List Cond := .code yX1_raise cX1_raise 6 none :: ((wsX1_raise_r1 ++ wsX1_raise_r2) ++ wsX10)
def wsX1_power_r1 : List Cond := [Cond.fieldLink RX1 34 "ModEngine$Ring" "left" "[I", Cond.fieldLink RX1 28 "ModEngine$Ring" "rSquared" "[I", Cond.fieldLink RX1 37 "ModEngine$Ring" "right" "[I", Cond.fieldLink RX1 22 "ModEngine$Ring" "one" "[I", Cond.methodLink RX1 71 yX1_montgomery, Cond.instanceMethod yX1_montgomery, Cond.selects RX1 yX1_montgomery yX1_montgomery, Cond.initialized RX1, Cond.code yX1_montgomery cX1_montgomery 7 none, Cond.fieldLink RX1 31 "ModEngine$Ring" "running" "[I", Cond.fieldLink RX1 9 "ModEngine$Ring" "k" "I", Cond.fieldLink RX1 18 "ModEngine$Ring" "modulus" "[I", Cond.fieldLink RX1 46 "ModEngine$Ring" "minusInverse" "I", Cond.methodLink RX1 92 yX0_setSmall, Cond.static yX0_setSmall, Cond.initialized RX0, Cond.code yX0_setSmall cX0_setSmall 4 none, Cond.methodLink RX1 107 yX0_addMultiple, Cond.static yX0_addMultiple, Cond.code yX0_addMultiple cX0_addMultiple 9 (some .long), Cond.constantLong RX0 15 (4294967295), Cond.methodLink RX1 111 yX0_dropLimb, Cond.static yX0_dropLimb, Cond.code yX0_dropLimb cX0_dropLimb 5 (some .long)]
def wsX1_power_r2 : List Cond := [Cond.methodLink RX1 63 yX0_copy, Cond.static yX0_copy, Cond.code yX0_copy cX0_copy 4 none, Cond.methodLink RX1 115 yX1_bringBelow, Cond.instanceMethod yX1_bringBelow, Cond.selects RX1 yX1_bringBelow yX1_bringBelow, Cond.code yX1_bringBelow cX1_bringBelow 4 none, Cond.methodLink RX1 103 yX0_order, Cond.static yX0_order, Cond.code yX0_order cX0_order 4 (some .int), Cond.methodLink RX1 137 yX0_subtract, Cond.static yX0_subtract, Cond.code yX0_subtract cX0_subtract 7 (some .boolean), Cond.methodLink RX1 88 yX1_raise, Cond.instanceMethod yX1_raise, Cond.selects RX1 yX1_raise yX1_raise, Cond.code yX1_raise cX1_raise 6 none, Cond.fieldLink RX1 25 "ModEngine$Ring" "unit" "[I", Cond.methodLink RX1 119 yX0_highestBit, Cond.static yX0_highestBit, Cond.code yX0_highestBit cX0_highestBit 3 (some .int), Cond.methodLink RX0 9 yX0_isBitSet, Cond.static yX0_isBitSet, Cond.code yX0_isBitSet cX0_isBitSet 2 (some .boolean)]
def wsX1_power_r3 : List Cond := [Cond.methodLink RX1 123 yX0_isBitSet]
def wsX1_power : List Cond := .code yX1_power cX1_power 4 none :: ((wsX1_power_r1 ++ (wsX1_power_r2 ++ wsX1_power_r3)) ++ wsX10)
def wsX1_halveBelow : List Cond := .code yX1_halveBelow cX1_halveBelow 4 none :: ([.fieldLink RX1 18 "ModEngine$Ring" "modulus" "[I", .fieldLink RX1 9 "ModEngine$Ring" "k" "I", .methodLink RX1 49 yX0_isOdd, .static yX0_isOdd, .initialized RX0, .code yX0_isOdd cX0_isOdd 1 (some .boolean), .methodLink RX1 141 yX0_add, .static yX0_add, .code yX0_add cX0_add 7 (some .long), .constantLong RX0 15 (4294967295), .methodLink RX1 127 yX0_halve, .static yX0_halve, .code yX0_halve cX0_halve 9 none] ++ wsX10)
def wsX1_stepTowardsDivisor_r1 : List Cond := [Cond.fieldLink RX1 34 "ModEngine$Ring" "left" "[I", Cond.fieldLink RX1 9 "ModEngine$Ring" "k" "I", Cond.fieldLink RX1 40 "ModEngine$Ring" "leftShare" "[I", Cond.fieldLink RX1 37 "ModEngine$Ring" "right" "[I", Cond.fieldLink RX1 43 "ModEngine$Ring" "rightShare" "[I", Cond.methodLink RX1 49 yX0_isOdd, Cond.static yX0_isOdd, Cond.initialized RX0, Cond.code yX0_isOdd cX0_isOdd 1 (some .boolean), Cond.methodLink RX1 127 yX0_halve, Cond.static yX0_halve, Cond.code yX0_halve cX0_halve 9 none, Cond.constantLong RX0 15 (4294967295), Cond.methodLink RX1 131 yX1_halveBelow, Cond.instanceMethod yX1_halveBelow, Cond.selects RX1 yX1_halveBelow yX1_halveBelow, Cond.initialized RX1, Cond.code yX1_halveBelow cX1_halveBelow 4 none, Cond.fieldLink RX1 18 "ModEngine$Ring" "modulus" "[I", Cond.methodLink RX1 141 yX0_add, Cond.static yX0_add, Cond.code yX0_add cX0_add 7 (some .long), Cond.methodLink RX1 103 yX0_order, Cond.static yX0_order]
def wsX1_stepTowardsDivisor_r2 : List Cond := [Cond.code yX0_order cX0_order 4 (some .int), Cond.methodLink RX1 134 yX0_swap, Cond.static yX0_swap, Cond.code yX0_swap cX0_swap 5 none, Cond.methodLink RX1 137 yX0_subtract, Cond.static yX0_subtract, Cond.code yX0_subtract cX0_subtract 7 (some .boolean), Cond.methodLink RX1 82 yX1_subtractBelow, Cond.instanceMethod yX1_subtractBelow, Cond.selects RX1 yX1_subtractBelow yX1_subtractBelow, Cond.code yX1_subtractBelow cX1_subtractBelow 4 none]
def wsX1_stepTowardsDivisor : List Cond := .code yX1_stepTowardsDivisor cX1_stepTowardsDivisor 1 none :: ((wsX1_stepTowardsDivisor_r1 ++ wsX1_stepTowardsDivisor_r2) ++ wsX10)
def wsX1_invert_r1 : List Cond := [Cond.fieldLink RX1 34 "ModEngine$Ring" "left" "[I", Cond.fieldLink RX1 37 "ModEngine$Ring" "right" "[I", Cond.fieldLink RX1 18 "ModEngine$Ring" "modulus" "[I", Cond.fieldLink RX1 9 "ModEngine$Ring" "k" "I", Cond.fieldLink RX1 40 "ModEngine$Ring" "leftShare" "[I", Cond.fieldLink RX1 22 "ModEngine$Ring" "one" "[I", Cond.fieldLink RX1 43 "ModEngine$Ring" "rightShare" "[I", Cond.fieldLink RX1 15 "ModEngine$Ring" "bits" "I", Cond.methodLink RX1 75 yX1_residue, Cond.instanceMethod yX1_residue, Cond.selects RX1 yX1_residue yX1_residue, Cond.initialized RX1, Cond.code yX1_residue cX1_residue 3 none, Cond.fieldLink RX1 28 "ModEngine$Ring" "rSquared" "[I", Cond.methodLink RX1 71 yX1_montgomery, Cond.instanceMethod yX1_montgomery, Cond.selects RX1 yX1_montgomery yX1_montgomery, Cond.code yX1_montgomery cX1_montgomery 7 none, Cond.fieldLink RX1 31 "ModEngine$Ring" "running" "[I", Cond.fieldLink RX1 46 "ModEngine$Ring" "minusInverse" "I", Cond.methodLink RX1 92 yX0_setSmall, Cond.static yX0_setSmall, Cond.initialized RX0, Cond.code yX0_setSmall cX0_setSmall 4 none]
def wsX1_invert_r2 : List Cond := [Cond.methodLink RX1 107 yX0_addMultiple, Cond.static yX0_addMultiple, Cond.code yX0_addMultiple cX0_addMultiple 9 (some .long), Cond.constantLong RX0 15 (4294967295), Cond.methodLink RX1 111 yX0_dropLimb, Cond.static yX0_dropLimb, Cond.code yX0_dropLimb cX0_dropLimb 5 (some .long), Cond.methodLink RX1 63 yX0_copy, Cond.static yX0_copy, Cond.code yX0_copy cX0_copy 4 none, Cond.methodLink RX1 115 yX1_bringBelow, Cond.instanceMethod yX1_bringBelow, Cond.selects RX1 yX1_bringBelow yX1_bringBelow, Cond.code yX1_bringBelow cX1_bringBelow 4 none, Cond.methodLink RX1 103 yX0_order, Cond.static yX0_order, Cond.code yX0_order cX0_order 4 (some .int), Cond.methodLink RX1 137 yX0_subtract, Cond.static yX0_subtract, Cond.code yX0_subtract cX0_subtract 7 (some .boolean), Cond.methodLink RX1 55 yX0_isSmall, Cond.static yX0_isSmall, Cond.code yX0_isSmall cX0_isSmall 4 (some .boolean), Cond.methodLink RX1 96 yX1_stepTowardsDivisor]
def wsX1_invert_r3 : List Cond := [Cond.instanceMethod yX1_stepTowardsDivisor, Cond.selects RX1 yX1_stepTowardsDivisor yX1_stepTowardsDivisor, Cond.code yX1_stepTowardsDivisor cX1_stepTowardsDivisor 1 none, Cond.methodLink RX1 49 yX0_isOdd, Cond.static yX0_isOdd, Cond.code yX0_isOdd cX0_isOdd 1 (some .boolean), Cond.methodLink RX1 127 yX0_halve, Cond.static yX0_halve, Cond.code yX0_halve cX0_halve 9 none, Cond.methodLink RX1 131 yX1_halveBelow, Cond.instanceMethod yX1_halveBelow, Cond.selects RX1 yX1_halveBelow yX1_halveBelow, Cond.code yX1_halveBelow cX1_halveBelow 4 none, Cond.methodLink RX1 141 yX0_add, Cond.static yX0_add, Cond.code yX0_add cX0_add 7 (some .long), Cond.methodLink RX1 134 yX0_swap, Cond.static yX0_swap, Cond.code yX0_swap cX0_swap 5 none, Cond.methodLink RX1 82 yX1_subtractBelow, Cond.instanceMethod yX1_subtractBelow, Cond.selects RX1 yX1_subtractBelow yX1_subtractBelow, Cond.code yX1_subtractBelow cX1_subtractBelow 4 none]
def wsX1_invert : List Cond := .code yX1_invert cX1_invert 5 (some .boolean) :: ((wsX1_invert_r1 ++ (wsX1_invert_r2 ++ wsX1_invert_r3)) ++ wsX10)
def wsX1_twosInModulusLessOne : List Cond := .code yX1_twosInModulusLessOne cX1_twosInModulusLessOne 2 (some .int) :: ([.fieldLink RX1 15 "ModEngine$Ring" "bits" "I", .fieldLink RX1 18 "ModEngine$Ring" "modulus" "[I", .methodLink RX1 123 yX0_isBitSet, .static yX0_isBitSet, .initialized RX0, .code yX0_isBitSet cX0_isBitSet 2 (some .boolean)] ++ wsX10)
def wsX1_isProvedCompositeBy_r1 : List Cond := [Cond.fieldLink RX1 34 "ModEngine$Ring" "left" "[I", Cond.fieldLink RX1 28 "ModEngine$Ring" "rSquared" "[I", Cond.fieldLink RX1 9 "ModEngine$Ring" "k" "I", Cond.fieldLink RX1 40 "ModEngine$Ring" "leftShare" "[I", Cond.fieldLink RX1 18 "ModEngine$Ring" "modulus" "[I", Cond.fieldLink RX1 25 "ModEngine$Ring" "unit" "[I", Cond.fieldLink RX1 37 "ModEngine$Ring" "right" "[I", Cond.methodLink RX1 71 yX1_montgomery, Cond.instanceMethod yX1_montgomery, Cond.selects RX1 yX1_montgomery yX1_montgomery, Cond.initialized RX1, Cond.code yX1_montgomery cX1_montgomery 7 none, Cond.fieldLink RX1 31 "ModEngine$Ring" "running" "[I", Cond.fieldLink RX1 46 "ModEngine$Ring" "minusInverse" "I", Cond.methodLink RX1 92 yX0_setSmall, Cond.static yX0_setSmall, Cond.initialized RX0, Cond.code yX0_setSmall cX0_setSmall 4 none, Cond.methodLink RX1 107 yX0_addMultiple, Cond.static yX0_addMultiple, Cond.code yX0_addMultiple cX0_addMultiple 9 (some .long), Cond.constantLong RX0 15 (4294967295), Cond.methodLink RX1 111 yX0_dropLimb, Cond.static yX0_dropLimb]
def wsX1_isProvedCompositeBy_r2 : List Cond := [Cond.code yX0_dropLimb cX0_dropLimb 5 (some .long), Cond.methodLink RX1 63 yX0_copy, Cond.static yX0_copy, Cond.code yX0_copy cX0_copy 4 none, Cond.methodLink RX1 115 yX1_bringBelow, Cond.instanceMethod yX1_bringBelow, Cond.selects RX1 yX1_bringBelow yX1_bringBelow, Cond.code yX1_bringBelow cX1_bringBelow 4 none, Cond.methodLink RX1 103 yX0_order, Cond.static yX0_order, Cond.code yX0_order cX0_order 4 (some .int), Cond.methodLink RX1 137 yX0_subtract, Cond.static yX0_subtract, Cond.code yX0_subtract cX0_subtract 7 (some .boolean), Cond.methodLink RX1 55 yX0_isSmall, Cond.static yX0_isSmall, Cond.code yX0_isSmall cX0_isSmall 4 (some .boolean), Cond.methodLink RX1 99 yX1_twosInModulusLessOne, Cond.instanceMethod yX1_twosInModulusLessOne, Cond.selects RX1 yX1_twosInModulusLessOne yX1_twosInModulusLessOne, Cond.code yX1_twosInModulusLessOne cX1_twosInModulusLessOne 2 (some .int), Cond.fieldLink RX1 15 "ModEngine$Ring" "bits" "I", Cond.methodLink RX1 123 yX0_isBitSet, Cond.static yX0_isBitSet]
def wsX1_isProvedCompositeBy_r3 : List Cond := [Cond.code yX0_isBitSet cX0_isBitSet 2 (some .boolean), Cond.methodLink RX1 82 yX1_subtractBelow, Cond.instanceMethod yX1_subtractBelow, Cond.selects RX1 yX1_subtractBelow yX1_subtractBelow, Cond.code yX1_subtractBelow cX1_subtractBelow 4 none, Cond.methodLink RX1 141 yX0_add, Cond.static yX0_add, Cond.code yX0_add cX0_add 7 (some .long), Cond.methodLink RX1 88 yX1_raise, Cond.instanceMethod yX1_raise, Cond.selects RX1 yX1_raise yX1_raise, Cond.code yX1_raise cX1_raise 6 none, Cond.methodLink RX1 119 yX0_highestBit, Cond.static yX0_highestBit, Cond.code yX0_highestBit cX0_highestBit 3 (some .int), Cond.methodLink RX0 9 yX0_isBitSet]
def wsX1_isProvedCompositeBy : List Cond := .code yX1_isProvedCompositeBy cX1_isProvedCompositeBy 5 (some .boolean) :: ((wsX1_isProvedCompositeBy_r1 ++ (wsX1_isProvedCompositeBy_r2 ++ wsX1_isProvedCompositeBy_r3)) ++ wsX10)
def wsX2_init_r1 : List Cond := [Cond.methodLink RX2 1 objectInit, Cond.instanceMethod objectInit, Cond.code objectInit ⟨#[0xb1]⟩ 1 none, Cond.methodLink RX2 9 Lib.Math.min.name, Cond.static Lib.Math.min.name, Cond.initialized "java/lang/Math", Cond.code Lib.Math.min.name Lib.Math.min.code 2 (some .int), Cond.methodLink RX2 15 Lib.Math.max.name, Cond.static Lib.Math.max.name, Cond.code Lib.Math.max.name Lib.Math.max.code 2 (some .int), Cond.fieldLink RX2 18 "ModEngine" "limbs" "I", Cond.fieldLink RX2 22 "ModEngine" "count" "I", Cond.classLink RX2 25 "[[I", Cond.arrayClass .int, Cond.fieldLink RX2 27 "ModEngine" "registers" "[[I", Cond.classLink RX2 30 RX1, Cond.instantiable RX1 12, Cond.initialized RX1, Cond.fieldLink RX2 35 "ModEngine" "ring" "LModEngine$Ring;", Cond.fieldLink RX2 39 "ModEngine" "isReady" "Z", Cond.methodLink RX2 32 yX1_init, Cond.instanceMethod yX1_init, Cond.code yX1_init cX1_init 2 none, Cond.methodLink RX1 3 objectInit]
def wsX2_init_r2 : List Cond := [Cond.fieldLink RX1 9 "ModEngine$Ring" "k" "I", Cond.fieldLink RX1 15 "ModEngine$Ring" "bits" "I", Cond.fieldLink RX1 18 "ModEngine$Ring" "modulus" "[I", Cond.fieldLink RX1 22 "ModEngine$Ring" "one" "[I", Cond.fieldLink RX1 25 "ModEngine$Ring" "unit" "[I", Cond.fieldLink RX1 28 "ModEngine$Ring" "rSquared" "[I", Cond.fieldLink RX1 31 "ModEngine$Ring" "running" "[I", Cond.fieldLink RX1 34 "ModEngine$Ring" "left" "[I", Cond.fieldLink RX1 37 "ModEngine$Ring" "right" "[I", Cond.fieldLink RX1 40 "ModEngine$Ring" "leftShare" "[I", Cond.fieldLink RX1 43 "ModEngine$Ring" "rightShare" "[I", Cond.fieldLink RX1 46 "ModEngine$Ring" "minusInverse" "I"]
def wsX2_init : List Cond := .code yX2_init cX2_init 3 none :: ((wsX2_init_r1 ++ wsX2_init_r2) ++ wsX20 ++ wsX10)
def wsX2_hasLimb : List Cond := .code yX2_hasLimb cX2_hasLimb 2 (some .boolean) :: ([.fieldLink RX2 18 "ModEngine" "limbs" "I"] ++ wsX20)
def wsX2_pokeMod : List Cond := .code yX2_pokeMod cX2_pokeMod 3 (some .boolean) :: ([.fieldLink RX2 35 "ModEngine" "ring" "LModEngine$Ring;", .fieldLink RX2 47 "ModEngine$Ring" "modulus" "[I", .fieldLink RX2 39 "ModEngine" "isReady" "Z", .methodLink RX2 43 yX2_hasLimb, .instanceMethod yX2_hasLimb, .selects RX2 yX2_hasLimb yX2_hasLimb, .initialized RX2, .code yX2_hasLimb cX2_hasLimb 2 (some .boolean), .fieldLink RX2 18 "ModEngine" "limbs" "I"] ++ wsX20 ++ wsX10)
def wsX2_peekMod : List Cond := .code yX2_peekMod cX2_peekMod 2 (some .int) :: ([.fieldLink RX2 35 "ModEngine" "ring" "LModEngine$Ring;", .fieldLink RX2 47 "ModEngine$Ring" "modulus" "[I", .methodLink RX2 43 yX2_hasLimb, .instanceMethod yX2_hasLimb, .selects RX2 yX2_hasLimb yX2_hasLimb, .initialized RX2, .code yX2_hasLimb cX2_hasLimb 2 (some .boolean), .fieldLink RX2 18 "ModEngine" "limbs" "I"] ++ wsX20 ++ wsX10)
def wsX2_init__r1 : List Cond := [Cond.fieldLink RX2 35 "ModEngine" "ring" "LModEngine$Ring;", Cond.fieldLink RX2 39 "ModEngine" "isReady" "Z", Cond.methodLink RX2 51 yX1_hasFitModulus, Cond.instanceMethod yX1_hasFitModulus, Cond.selects RX1 yX1_hasFitModulus yX1_hasFitModulus, Cond.initialized RX1, Cond.code yX1_hasFitModulus cX1_hasFitModulus 1 (some .boolean), Cond.fieldLink RX1 18 "ModEngine$Ring" "modulus" "[I", Cond.fieldLink RX1 9 "ModEngine$Ring" "k" "I", Cond.methodLink RX1 49 yX0_isOdd, Cond.static yX0_isOdd, Cond.initialized RX0, Cond.code yX0_isOdd cX0_isOdd 1 (some .boolean), Cond.methodLink RX1 55 yX0_isSmall, Cond.static yX0_isSmall, Cond.code yX0_isSmall cX0_isSmall 4 (some .boolean), Cond.methodLink RX2 55 yX1_prepare, Cond.instanceMethod yX1_prepare, Cond.selects RX1 yX1_prepare yX1_prepare, Cond.code yX1_prepare cX1_prepare 1 none, Cond.fieldLink RX1 46 "ModEngine$Ring" "minusInverse" "I", Cond.fieldLink RX1 25 "ModEngine$Ring" "unit" "[I", Cond.fieldLink RX1 22 "ModEngine$Ring" "one" "[I", Cond.fieldLink RX1 28 "ModEngine$Ring" "rSquared" "[I"]
def wsX2_init__r2 : List Cond := [Cond.methodLink RX1 59 yX1_inverseOfLimb, Cond.static yX1_inverseOfLimb, Cond.code yX1_inverseOfLimb cX1_inverseOfLimb 3 (some .int), Cond.methodLink RX1 63 yX0_copy, Cond.static yX0_copy, Cond.code yX0_copy cX0_copy 4 none, Cond.methodLink RX1 67 yX1_doubleOften, Cond.instanceMethod yX1_doubleOften, Cond.selects RX1 yX1_doubleOften yX1_doubleOften, Cond.code yX1_doubleOften cX1_doubleOften 3 none, Cond.fieldLink RX1 15 "ModEngine$Ring" "bits" "I", Cond.methodLink RX1 79 yX1_addBelow, Cond.instanceMethod yX1_addBelow, Cond.selects RX1 yX1_addBelow yX1_addBelow, Cond.code yX1_addBelow cX1_addBelow 6 none, Cond.methodLink RX1 141 yX0_add, Cond.static yX0_add, Cond.code yX0_add cX0_add 7 (some .long), Cond.constantLong RX0 15 (4294967295), Cond.methodLink RX1 115 yX1_bringBelow, Cond.instanceMethod yX1_bringBelow, Cond.selects RX1 yX1_bringBelow yX1_bringBelow, Cond.code yX1_bringBelow cX1_bringBelow 4 none, Cond.methodLink RX1 103 yX0_order]
def wsX2_init__r3 : List Cond := [Cond.static yX0_order, Cond.code yX0_order cX0_order 4 (some .int), Cond.methodLink RX1 137 yX0_subtract, Cond.static yX0_subtract, Cond.code yX0_subtract cX0_subtract 7 (some .boolean)]
def wsX2_init_ : List Cond := .code yX2_init_ cX2_init_ 1 (some .int) :: ((wsX2_init__r1 ++ (wsX2_init__r2 ++ wsX2_init__r3)) ++ wsX20 ++ wsX10)
def wsX2_ready : List Cond := .code yX2_ready cX2_ready 1 (some .boolean) :: ([.fieldLink RX2 39 "ModEngine" "isReady" "Z"] ++ wsX20)
def wsX2_hasRegister : List Cond := .code yX2_hasRegister cX2_hasRegister 2 (some .boolean) :: ([.fieldLink RX2 22 "ModEngine" "count" "I"] ++ wsX20)
def wsX2_poke : List Cond := .code yX2_poke cX2_poke 4 (some .boolean) :: ([.fieldLink RX2 27 "ModEngine" "registers" "[[I", .methodLink RX2 58 yX2_hasRegister, .instanceMethod yX2_hasRegister, .selects RX2 yX2_hasRegister yX2_hasRegister, .initialized RX2, .code yX2_hasRegister cX2_hasRegister 2 (some .boolean), .fieldLink RX2 22 "ModEngine" "count" "I", .methodLink RX2 43 yX2_hasLimb, .instanceMethod yX2_hasLimb, .selects RX2 yX2_hasLimb yX2_hasLimb, .code yX2_hasLimb cX2_hasLimb 2 (some .boolean), .fieldLink RX2 18 "ModEngine" "limbs" "I"] ++ wsX20)
def wsX2_peek : List Cond := .code yX2_peek cX2_peek 3 (some .int) :: ([.fieldLink RX2 27 "ModEngine" "registers" "[[I", .methodLink RX2 58 yX2_hasRegister, .instanceMethod yX2_hasRegister, .selects RX2 yX2_hasRegister yX2_hasRegister, .initialized RX2, .code yX2_hasRegister cX2_hasRegister 2 (some .boolean), .fieldLink RX2 22 "ModEngine" "count" "I", .methodLink RX2 43 yX2_hasLimb, .instanceMethod yX2_hasLimb, .selects RX2 yX2_hasLimb yX2_hasLimb, .code yX2_hasLimb cX2_hasLimb 2 (some .boolean), .fieldLink RX2 18 "ModEngine" "limbs" "I"] ++ wsX20)
def wsX2_reduce_r1 : List Cond := [Cond.fieldLink RX2 39 "ModEngine" "isReady" "Z", Cond.fieldLink RX2 35 "ModEngine" "ring" "LModEngine$Ring;", Cond.fieldLink RX2 27 "ModEngine" "registers" "[[I", Cond.methodLink RX2 58 yX2_hasRegister, Cond.instanceMethod yX2_hasRegister, Cond.selects RX2 yX2_hasRegister yX2_hasRegister, Cond.initialized RX2, Cond.code yX2_hasRegister cX2_hasRegister 2 (some .boolean), Cond.fieldLink RX2 22 "ModEngine" "count" "I", Cond.methodLink RX2 61 yX1_residue, Cond.instanceMethod yX1_residue, Cond.selects RX1 yX1_residue yX1_residue, Cond.initialized RX1, Cond.code yX1_residue cX1_residue 3 none, Cond.fieldLink RX1 28 "ModEngine$Ring" "rSquared" "[I", Cond.fieldLink RX1 22 "ModEngine$Ring" "one" "[I", Cond.methodLink RX1 71 yX1_montgomery, Cond.instanceMethod yX1_montgomery, Cond.selects RX1 yX1_montgomery yX1_montgomery, Cond.code yX1_montgomery cX1_montgomery 7 none, Cond.fieldLink RX1 31 "ModEngine$Ring" "running" "[I", Cond.fieldLink RX1 9 "ModEngine$Ring" "k" "I", Cond.fieldLink RX1 18 "ModEngine$Ring" "modulus" "[I", Cond.fieldLink RX1 46 "ModEngine$Ring" "minusInverse" "I"]
def wsX2_reduce_r2 : List Cond := [Cond.methodLink RX1 92 yX0_setSmall, Cond.static yX0_setSmall, Cond.initialized RX0, Cond.code yX0_setSmall cX0_setSmall 4 none, Cond.methodLink RX1 107 yX0_addMultiple, Cond.static yX0_addMultiple, Cond.code yX0_addMultiple cX0_addMultiple 9 (some .long), Cond.constantLong RX0 15 (4294967295), Cond.methodLink RX1 111 yX0_dropLimb, Cond.static yX0_dropLimb, Cond.code yX0_dropLimb cX0_dropLimb 5 (some .long), Cond.methodLink RX1 63 yX0_copy, Cond.static yX0_copy, Cond.code yX0_copy cX0_copy 4 none, Cond.methodLink RX1 115 yX1_bringBelow, Cond.instanceMethod yX1_bringBelow, Cond.selects RX1 yX1_bringBelow yX1_bringBelow, Cond.code yX1_bringBelow cX1_bringBelow 4 none, Cond.methodLink RX1 103 yX0_order, Cond.static yX0_order, Cond.code yX0_order cX0_order 4 (some .int), Cond.methodLink RX1 137 yX0_subtract, Cond.static yX0_subtract, Cond.code yX0_subtract cX0_subtract 7 (some .boolean)]
def wsX2_reduce : List Cond := .code yX2_reduce cX2_reduce 2 (some .boolean) :: ((wsX2_reduce_r1 ++ wsX2_reduce_r2) ++ wsX20 ++ wsX10)
def wsX2_canWork : List Cond := .code yX2_canWork cX2_canWork 4 (some .boolean) :: ([.fieldLink RX2 39 "ModEngine" "isReady" "Z", .methodLink RX2 58 yX2_hasRegister, .instanceMethod yX2_hasRegister, .selects RX2 yX2_hasRegister yX2_hasRegister, .initialized RX2, .code yX2_hasRegister cX2_hasRegister 2 (some .boolean), .fieldLink RX2 22 "ModEngine" "count" "I"] ++ wsX20)
def wsX2_addMod_r1 : List Cond := [Cond.fieldLink RX2 35 "ModEngine" "ring" "LModEngine$Ring;", Cond.fieldLink RX2 27 "ModEngine" "registers" "[[I", Cond.methodLink RX2 65 yX2_canWork, Cond.instanceMethod yX2_canWork, Cond.selects RX2 yX2_canWork yX2_canWork, Cond.initialized RX2, Cond.code yX2_canWork cX2_canWork 4 (some .boolean), Cond.fieldLink RX2 39 "ModEngine" "isReady" "Z", Cond.methodLink RX2 58 yX2_hasRegister, Cond.instanceMethod yX2_hasRegister, Cond.selects RX2 yX2_hasRegister yX2_hasRegister, Cond.code yX2_hasRegister cX2_hasRegister 2 (some .boolean), Cond.fieldLink RX2 22 "ModEngine" "count" "I", Cond.methodLink RX2 69 yX1_sum, Cond.instanceMethod yX1_sum, Cond.selects RX1 yX1_sum yX1_sum, Cond.initialized RX1, Cond.code yX1_sum cX1_sum 4 none, Cond.fieldLink RX1 34 "ModEngine$Ring" "left" "[I", Cond.fieldLink RX1 37 "ModEngine$Ring" "right" "[I", Cond.methodLink RX1 75 yX1_residue, Cond.instanceMethod yX1_residue, Cond.selects RX1 yX1_residue yX1_residue, Cond.code yX1_residue cX1_residue 3 none]
def wsX2_addMod_r2 : List Cond := [Cond.fieldLink RX1 28 "ModEngine$Ring" "rSquared" "[I", Cond.fieldLink RX1 22 "ModEngine$Ring" "one" "[I", Cond.methodLink RX1 71 yX1_montgomery, Cond.instanceMethod yX1_montgomery, Cond.selects RX1 yX1_montgomery yX1_montgomery, Cond.code yX1_montgomery cX1_montgomery 7 none, Cond.fieldLink RX1 31 "ModEngine$Ring" "running" "[I", Cond.fieldLink RX1 9 "ModEngine$Ring" "k" "I", Cond.fieldLink RX1 18 "ModEngine$Ring" "modulus" "[I", Cond.fieldLink RX1 46 "ModEngine$Ring" "minusInverse" "I", Cond.methodLink RX1 92 yX0_setSmall, Cond.static yX0_setSmall, Cond.initialized RX0, Cond.code yX0_setSmall cX0_setSmall 4 none, Cond.methodLink RX1 107 yX0_addMultiple, Cond.static yX0_addMultiple, Cond.code yX0_addMultiple cX0_addMultiple 9 (some .long), Cond.constantLong RX0 15 (4294967295), Cond.methodLink RX1 111 yX0_dropLimb, Cond.static yX0_dropLimb, Cond.code yX0_dropLimb cX0_dropLimb 5 (some .long), Cond.methodLink RX1 63 yX0_copy, Cond.static yX0_copy, Cond.code yX0_copy cX0_copy 4 none]
def wsX2_addMod_r3 : List Cond := [Cond.methodLink RX1 115 yX1_bringBelow, Cond.instanceMethod yX1_bringBelow, Cond.selects RX1 yX1_bringBelow yX1_bringBelow, Cond.code yX1_bringBelow cX1_bringBelow 4 none, Cond.methodLink RX1 103 yX0_order, Cond.static yX0_order, Cond.code yX0_order cX0_order 4 (some .int), Cond.methodLink RX1 137 yX0_subtract, Cond.static yX0_subtract, Cond.code yX0_subtract cX0_subtract 7 (some .boolean), Cond.methodLink RX1 79 yX1_addBelow, Cond.instanceMethod yX1_addBelow, Cond.selects RX1 yX1_addBelow yX1_addBelow, Cond.code yX1_addBelow cX1_addBelow 6 none, Cond.methodLink RX1 141 yX0_add, Cond.static yX0_add, Cond.code yX0_add cX0_add 7 (some .long)]
def wsX2_addMod : List Cond := .code yX2_addMod cX2_addMod 4 (some .boolean) :: ((wsX2_addMod_r1 ++ (wsX2_addMod_r2 ++ wsX2_addMod_r3)) ++ wsX20 ++ wsX10)
def wsX2_subMod_r1 : List Cond := [Cond.fieldLink RX2 35 "ModEngine" "ring" "LModEngine$Ring;", Cond.fieldLink RX2 27 "ModEngine" "registers" "[[I", Cond.methodLink RX2 65 yX2_canWork, Cond.instanceMethod yX2_canWork, Cond.selects RX2 yX2_canWork yX2_canWork, Cond.initialized RX2, Cond.code yX2_canWork cX2_canWork 4 (some .boolean), Cond.fieldLink RX2 39 "ModEngine" "isReady" "Z", Cond.methodLink RX2 58 yX2_hasRegister, Cond.instanceMethod yX2_hasRegister, Cond.selects RX2 yX2_hasRegister yX2_hasRegister, Cond.code yX2_hasRegister cX2_hasRegister 2 (some .boolean), Cond.fieldLink RX2 22 "ModEngine" "count" "I", Cond.methodLink RX2 73 yX1_difference, Cond.instanceMethod yX1_difference, Cond.selects RX1 yX1_difference yX1_difference, Cond.initialized RX1, Cond.code yX1_difference cX1_difference 4 none, Cond.fieldLink RX1 34 "ModEngine$Ring" "left" "[I", Cond.fieldLink RX1 37 "ModEngine$Ring" "right" "[I", Cond.methodLink RX1 75 yX1_residue, Cond.instanceMethod yX1_residue, Cond.selects RX1 yX1_residue yX1_residue, Cond.code yX1_residue cX1_residue 3 none]
def wsX2_subMod_r2 : List Cond := [Cond.fieldLink RX1 28 "ModEngine$Ring" "rSquared" "[I", Cond.fieldLink RX1 22 "ModEngine$Ring" "one" "[I", Cond.methodLink RX1 71 yX1_montgomery, Cond.instanceMethod yX1_montgomery, Cond.selects RX1 yX1_montgomery yX1_montgomery, Cond.code yX1_montgomery cX1_montgomery 7 none, Cond.fieldLink RX1 31 "ModEngine$Ring" "running" "[I", Cond.fieldLink RX1 9 "ModEngine$Ring" "k" "I", Cond.fieldLink RX1 18 "ModEngine$Ring" "modulus" "[I", Cond.fieldLink RX1 46 "ModEngine$Ring" "minusInverse" "I", Cond.methodLink RX1 92 yX0_setSmall, Cond.static yX0_setSmall, Cond.initialized RX0, Cond.code yX0_setSmall cX0_setSmall 4 none, Cond.methodLink RX1 107 yX0_addMultiple, Cond.static yX0_addMultiple, Cond.code yX0_addMultiple cX0_addMultiple 9 (some .long), Cond.constantLong RX0 15 (4294967295), Cond.methodLink RX1 111 yX0_dropLimb, Cond.static yX0_dropLimb, Cond.code yX0_dropLimb cX0_dropLimb 5 (some .long), Cond.methodLink RX1 63 yX0_copy, Cond.static yX0_copy, Cond.code yX0_copy cX0_copy 4 none]
def wsX2_subMod_r3 : List Cond := [Cond.methodLink RX1 115 yX1_bringBelow, Cond.instanceMethod yX1_bringBelow, Cond.selects RX1 yX1_bringBelow yX1_bringBelow, Cond.code yX1_bringBelow cX1_bringBelow 4 none, Cond.methodLink RX1 103 yX0_order, Cond.static yX0_order, Cond.code yX0_order cX0_order 4 (some .int), Cond.methodLink RX1 137 yX0_subtract, Cond.static yX0_subtract, Cond.code yX0_subtract cX0_subtract 7 (some .boolean), Cond.methodLink RX1 82 yX1_subtractBelow, Cond.instanceMethod yX1_subtractBelow, Cond.selects RX1 yX1_subtractBelow yX1_subtractBelow, Cond.code yX1_subtractBelow cX1_subtractBelow 4 none, Cond.methodLink RX1 141 yX0_add, Cond.static yX0_add, Cond.code yX0_add cX0_add 7 (some .long)]
def wsX2_subMod : List Cond := .code yX2_subMod cX2_subMod 4 (some .boolean) :: ((wsX2_subMod_r1 ++ (wsX2_subMod_r2 ++ wsX2_subMod_r3)) ++ wsX20 ++ wsX10)
def wsX2_mulMod_r1 : List Cond := [Cond.fieldLink RX2 35 "ModEngine" "ring" "LModEngine$Ring;", Cond.fieldLink RX2 27 "ModEngine" "registers" "[[I", Cond.methodLink RX2 65 yX2_canWork, Cond.instanceMethod yX2_canWork, Cond.selects RX2 yX2_canWork yX2_canWork, Cond.initialized RX2, Cond.code yX2_canWork cX2_canWork 4 (some .boolean), Cond.fieldLink RX2 39 "ModEngine" "isReady" "Z", Cond.methodLink RX2 58 yX2_hasRegister, Cond.instanceMethod yX2_hasRegister, Cond.selects RX2 yX2_hasRegister yX2_hasRegister, Cond.code yX2_hasRegister cX2_hasRegister 2 (some .boolean), Cond.fieldLink RX2 22 "ModEngine" "count" "I", Cond.methodLink RX2 76 yX1_product, Cond.instanceMethod yX1_product, Cond.selects RX1 yX1_product yX1_product, Cond.initialized RX1, Cond.code yX1_product cX1_product 4 none, Cond.fieldLink RX1 34 "ModEngine$Ring" "left" "[I", Cond.fieldLink RX1 28 "ModEngine$Ring" "rSquared" "[I", Cond.methodLink RX1 71 yX1_montgomery, Cond.instanceMethod yX1_montgomery, Cond.selects RX1 yX1_montgomery yX1_montgomery, Cond.code yX1_montgomery cX1_montgomery 7 none]
def wsX2_mulMod_r2 : List Cond := [Cond.fieldLink RX1 31 "ModEngine$Ring" "running" "[I", Cond.fieldLink RX1 9 "ModEngine$Ring" "k" "I", Cond.fieldLink RX1 18 "ModEngine$Ring" "modulus" "[I", Cond.fieldLink RX1 46 "ModEngine$Ring" "minusInverse" "I", Cond.methodLink RX1 92 yX0_setSmall, Cond.static yX0_setSmall, Cond.initialized RX0, Cond.code yX0_setSmall cX0_setSmall 4 none, Cond.methodLink RX1 107 yX0_addMultiple, Cond.static yX0_addMultiple, Cond.code yX0_addMultiple cX0_addMultiple 9 (some .long), Cond.constantLong RX0 15 (4294967295), Cond.methodLink RX1 111 yX0_dropLimb, Cond.static yX0_dropLimb, Cond.code yX0_dropLimb cX0_dropLimb 5 (some .long), Cond.methodLink RX1 63 yX0_copy, Cond.static yX0_copy, Cond.code yX0_copy cX0_copy 4 none, Cond.methodLink RX1 115 yX1_bringBelow, Cond.instanceMethod yX1_bringBelow, Cond.selects RX1 yX1_bringBelow yX1_bringBelow, Cond.code yX1_bringBelow cX1_bringBelow 4 none, Cond.methodLink RX1 103 yX0_order, Cond.static yX0_order]
def wsX2_mulMod_r3 : List Cond := [Cond.code yX0_order cX0_order 4 (some .int), Cond.methodLink RX1 137 yX0_subtract, Cond.static yX0_subtract, Cond.code yX0_subtract cX0_subtract 7 (some .boolean)]
def wsX2_mulMod : List Cond := .code yX2_mulMod cX2_mulMod 4 (some .boolean) :: ((wsX2_mulMod_r1 ++ (wsX2_mulMod_r2 ++ wsX2_mulMod_r3)) ++ wsX20 ++ wsX10)
def wsX2_montMod_r1 : List Cond := [Cond.fieldLink RX2 35 "ModEngine" "ring" "LModEngine$Ring;", Cond.fieldLink RX2 27 "ModEngine" "registers" "[[I", Cond.methodLink RX2 65 yX2_canWork, Cond.instanceMethod yX2_canWork, Cond.selects RX2 yX2_canWork yX2_canWork, Cond.initialized RX2, Cond.code yX2_canWork cX2_canWork 4 (some .boolean), Cond.fieldLink RX2 39 "ModEngine" "isReady" "Z", Cond.methodLink RX2 58 yX2_hasRegister, Cond.instanceMethod yX2_hasRegister, Cond.selects RX2 yX2_hasRegister yX2_hasRegister, Cond.code yX2_hasRegister cX2_hasRegister 2 (some .boolean), Cond.fieldLink RX2 22 "ModEngine" "count" "I", Cond.methodLink RX2 79 yX1_productByR, Cond.instanceMethod yX1_productByR, Cond.selects RX1 yX1_productByR yX1_productByR, Cond.initialized RX1, Cond.code yX1_productByR cX1_productByR 4 none, Cond.fieldLink RX1 34 "ModEngine$Ring" "left" "[I", Cond.fieldLink RX1 22 "ModEngine$Ring" "one" "[I", Cond.methodLink RX1 85 yX1_product, Cond.instanceMethod yX1_product, Cond.selects RX1 yX1_product yX1_product, Cond.code yX1_product cX1_product 4 none]
def wsX2_montMod_r2 : List Cond := [Cond.fieldLink RX1 28 "ModEngine$Ring" "rSquared" "[I", Cond.methodLink RX1 71 yX1_montgomery, Cond.instanceMethod yX1_montgomery, Cond.selects RX1 yX1_montgomery yX1_montgomery, Cond.code yX1_montgomery cX1_montgomery 7 none, Cond.fieldLink RX1 31 "ModEngine$Ring" "running" "[I", Cond.fieldLink RX1 9 "ModEngine$Ring" "k" "I", Cond.fieldLink RX1 18 "ModEngine$Ring" "modulus" "[I", Cond.fieldLink RX1 46 "ModEngine$Ring" "minusInverse" "I", Cond.methodLink RX1 92 yX0_setSmall, Cond.static yX0_setSmall, Cond.initialized RX0, Cond.code yX0_setSmall cX0_setSmall 4 none, Cond.methodLink RX1 107 yX0_addMultiple, Cond.static yX0_addMultiple, Cond.code yX0_addMultiple cX0_addMultiple 9 (some .long), Cond.constantLong RX0 15 (4294967295), Cond.methodLink RX1 111 yX0_dropLimb, Cond.static yX0_dropLimb, Cond.code yX0_dropLimb cX0_dropLimb 5 (some .long), Cond.methodLink RX1 63 yX0_copy, Cond.static yX0_copy, Cond.code yX0_copy cX0_copy 4 none, Cond.methodLink RX1 115 yX1_bringBelow]
def wsX2_montMod_r3 : List Cond := [Cond.instanceMethod yX1_bringBelow, Cond.selects RX1 yX1_bringBelow yX1_bringBelow, Cond.code yX1_bringBelow cX1_bringBelow 4 none, Cond.methodLink RX1 103 yX0_order, Cond.static yX0_order, Cond.code yX0_order cX0_order 4 (some .int), Cond.methodLink RX1 137 yX0_subtract, Cond.static yX0_subtract, Cond.code yX0_subtract cX0_subtract 7 (some .boolean)]
def wsX2_montMod : List Cond := .code yX2_montMod cX2_montMod 4 (some .boolean) :: ((wsX2_montMod_r1 ++ (wsX2_montMod_r2 ++ wsX2_montMod_r3)) ++ wsX20 ++ wsX10)
def wsX2_powMod_r1 : List Cond := [Cond.fieldLink RX2 35 "ModEngine" "ring" "LModEngine$Ring;", Cond.fieldLink RX2 27 "ModEngine" "registers" "[[I", Cond.methodLink RX2 65 yX2_canWork, Cond.instanceMethod yX2_canWork, Cond.selects RX2 yX2_canWork yX2_canWork, Cond.initialized RX2, Cond.code yX2_canWork cX2_canWork 4 (some .boolean), Cond.fieldLink RX2 39 "ModEngine" "isReady" "Z", Cond.methodLink RX2 58 yX2_hasRegister, Cond.instanceMethod yX2_hasRegister, Cond.selects RX2 yX2_hasRegister yX2_hasRegister, Cond.code yX2_hasRegister cX2_hasRegister 2 (some .boolean), Cond.fieldLink RX2 22 "ModEngine" "count" "I", Cond.methodLink RX2 82 yX1_power, Cond.instanceMethod yX1_power, Cond.selects RX1 yX1_power yX1_power, Cond.initialized RX1, Cond.code yX1_power cX1_power 4 none, Cond.fieldLink RX1 34 "ModEngine$Ring" "left" "[I", Cond.fieldLink RX1 28 "ModEngine$Ring" "rSquared" "[I", Cond.fieldLink RX1 37 "ModEngine$Ring" "right" "[I", Cond.fieldLink RX1 22 "ModEngine$Ring" "one" "[I", Cond.methodLink RX1 71 yX1_montgomery, Cond.instanceMethod yX1_montgomery]
def wsX2_powMod_r2 : List Cond := [Cond.selects RX1 yX1_montgomery yX1_montgomery, Cond.code yX1_montgomery cX1_montgomery 7 none, Cond.fieldLink RX1 31 "ModEngine$Ring" "running" "[I", Cond.fieldLink RX1 9 "ModEngine$Ring" "k" "I", Cond.fieldLink RX1 18 "ModEngine$Ring" "modulus" "[I", Cond.fieldLink RX1 46 "ModEngine$Ring" "minusInverse" "I", Cond.methodLink RX1 92 yX0_setSmall, Cond.static yX0_setSmall, Cond.initialized RX0, Cond.code yX0_setSmall cX0_setSmall 4 none, Cond.methodLink RX1 107 yX0_addMultiple, Cond.static yX0_addMultiple, Cond.code yX0_addMultiple cX0_addMultiple 9 (some .long), Cond.constantLong RX0 15 (4294967295), Cond.methodLink RX1 111 yX0_dropLimb, Cond.static yX0_dropLimb, Cond.code yX0_dropLimb cX0_dropLimb 5 (some .long), Cond.methodLink RX1 63 yX0_copy, Cond.static yX0_copy, Cond.code yX0_copy cX0_copy 4 none, Cond.methodLink RX1 115 yX1_bringBelow, Cond.instanceMethod yX1_bringBelow, Cond.selects RX1 yX1_bringBelow yX1_bringBelow, Cond.code yX1_bringBelow cX1_bringBelow 4 none]
def wsX2_powMod_r3 : List Cond := [Cond.methodLink RX1 103 yX0_order, Cond.static yX0_order, Cond.code yX0_order cX0_order 4 (some .int), Cond.methodLink RX1 137 yX0_subtract, Cond.static yX0_subtract, Cond.code yX0_subtract cX0_subtract 7 (some .boolean), Cond.methodLink RX1 88 yX1_raise, Cond.instanceMethod yX1_raise, Cond.selects RX1 yX1_raise yX1_raise, Cond.code yX1_raise cX1_raise 6 none, Cond.fieldLink RX1 25 "ModEngine$Ring" "unit" "[I", Cond.methodLink RX1 119 yX0_highestBit, Cond.static yX0_highestBit, Cond.code yX0_highestBit cX0_highestBit 3 (some .int), Cond.methodLink RX0 9 yX0_isBitSet, Cond.static yX0_isBitSet, Cond.code yX0_isBitSet cX0_isBitSet 2 (some .boolean), Cond.methodLink RX1 123 yX0_isBitSet]
def wsX2_powMod : List Cond := .code yX2_powMod cX2_powMod 4 (some .boolean) :: ((wsX2_powMod_r1 ++ (wsX2_powMod_r2 ++ wsX2_powMod_r3)) ++ wsX20 ++ wsX10)
def wsX2_invMod_r1 : List Cond := [Cond.fieldLink RX2 35 "ModEngine" "ring" "LModEngine$Ring;", Cond.fieldLink RX2 27 "ModEngine" "registers" "[[I", Cond.methodLink RX2 65 yX2_canWork, Cond.instanceMethod yX2_canWork, Cond.selects RX2 yX2_canWork yX2_canWork, Cond.initialized RX2, Cond.code yX2_canWork cX2_canWork 4 (some .boolean), Cond.fieldLink RX2 39 "ModEngine" "isReady" "Z", Cond.methodLink RX2 58 yX2_hasRegister, Cond.instanceMethod yX2_hasRegister, Cond.selects RX2 yX2_hasRegister yX2_hasRegister, Cond.code yX2_hasRegister cX2_hasRegister 2 (some .boolean), Cond.fieldLink RX2 22 "ModEngine" "count" "I", Cond.methodLink RX2 85 yX1_invert, Cond.instanceMethod yX1_invert, Cond.selects RX1 yX1_invert yX1_invert, Cond.initialized RX1, Cond.code yX1_invert cX1_invert 5 (some .boolean), Cond.fieldLink RX1 34 "ModEngine$Ring" "left" "[I", Cond.fieldLink RX1 37 "ModEngine$Ring" "right" "[I", Cond.fieldLink RX1 18 "ModEngine$Ring" "modulus" "[I", Cond.fieldLink RX1 9 "ModEngine$Ring" "k" "I", Cond.fieldLink RX1 40 "ModEngine$Ring" "leftShare" "[I", Cond.fieldLink RX1 22 "ModEngine$Ring" "one" "[I"]
def wsX2_invMod_r2 : List Cond := [Cond.fieldLink RX1 43 "ModEngine$Ring" "rightShare" "[I", Cond.fieldLink RX1 15 "ModEngine$Ring" "bits" "I", Cond.methodLink RX1 75 yX1_residue, Cond.instanceMethod yX1_residue, Cond.selects RX1 yX1_residue yX1_residue, Cond.code yX1_residue cX1_residue 3 none, Cond.fieldLink RX1 28 "ModEngine$Ring" "rSquared" "[I", Cond.methodLink RX1 71 yX1_montgomery, Cond.instanceMethod yX1_montgomery, Cond.selects RX1 yX1_montgomery yX1_montgomery, Cond.code yX1_montgomery cX1_montgomery 7 none, Cond.fieldLink RX1 31 "ModEngine$Ring" "running" "[I", Cond.fieldLink RX1 46 "ModEngine$Ring" "minusInverse" "I", Cond.methodLink RX1 92 yX0_setSmall, Cond.static yX0_setSmall, Cond.initialized RX0, Cond.code yX0_setSmall cX0_setSmall 4 none, Cond.methodLink RX1 107 yX0_addMultiple, Cond.static yX0_addMultiple, Cond.code yX0_addMultiple cX0_addMultiple 9 (some .long), Cond.constantLong RX0 15 (4294967295), Cond.methodLink RX1 111 yX0_dropLimb, Cond.static yX0_dropLimb, Cond.code yX0_dropLimb cX0_dropLimb 5 (some .long)]
def wsX2_invMod_r3 : List Cond := [Cond.methodLink RX1 63 yX0_copy, Cond.static yX0_copy, Cond.code yX0_copy cX0_copy 4 none, Cond.methodLink RX1 115 yX1_bringBelow, Cond.instanceMethod yX1_bringBelow, Cond.selects RX1 yX1_bringBelow yX1_bringBelow, Cond.code yX1_bringBelow cX1_bringBelow 4 none, Cond.methodLink RX1 103 yX0_order, Cond.static yX0_order, Cond.code yX0_order cX0_order 4 (some .int), Cond.methodLink RX1 137 yX0_subtract, Cond.static yX0_subtract, Cond.code yX0_subtract cX0_subtract 7 (some .boolean), Cond.methodLink RX1 55 yX0_isSmall, Cond.static yX0_isSmall, Cond.code yX0_isSmall cX0_isSmall 4 (some .boolean), Cond.methodLink RX1 96 yX1_stepTowardsDivisor, Cond.instanceMethod yX1_stepTowardsDivisor, Cond.selects RX1 yX1_stepTowardsDivisor yX1_stepTowardsDivisor, Cond.code yX1_stepTowardsDivisor cX1_stepTowardsDivisor 1 none, Cond.methodLink RX1 49 yX0_isOdd, Cond.static yX0_isOdd, Cond.code yX0_isOdd cX0_isOdd 1 (some .boolean), Cond.methodLink RX1 127 yX0_halve]
def wsX2_invMod_r4 : List Cond := [Cond.static yX0_halve, Cond.code yX0_halve cX0_halve 9 none, Cond.methodLink RX1 131 yX1_halveBelow, Cond.instanceMethod yX1_halveBelow, Cond.selects RX1 yX1_halveBelow yX1_halveBelow, Cond.code yX1_halveBelow cX1_halveBelow 4 none, Cond.methodLink RX1 141 yX0_add, Cond.static yX0_add, Cond.code yX0_add cX0_add 7 (some .long), Cond.methodLink RX1 134 yX0_swap, Cond.static yX0_swap, Cond.code yX0_swap cX0_swap 5 none, Cond.methodLink RX1 82 yX1_subtractBelow, Cond.instanceMethod yX1_subtractBelow, Cond.selects RX1 yX1_subtractBelow yX1_subtractBelow, Cond.code yX1_subtractBelow cX1_subtractBelow 4 none]
def wsX2_invMod : List Cond := .code yX2_invMod cX2_invMod 3 (some .int) :: ((wsX2_invMod_r1 ++ (wsX2_invMod_r2 ++ (wsX2_invMod_r3 ++ wsX2_invMod_r4))) ++ wsX20 ++ wsX10)
def wsX2_witness_r1 : List Cond := [Cond.fieldLink RX2 39 "ModEngine" "isReady" "Z", Cond.fieldLink RX2 35 "ModEngine" "ring" "LModEngine$Ring;", Cond.fieldLink RX2 27 "ModEngine" "registers" "[[I", Cond.methodLink RX2 58 yX2_hasRegister, Cond.instanceMethod yX2_hasRegister, Cond.selects RX2 yX2_hasRegister yX2_hasRegister, Cond.initialized RX2, Cond.code yX2_hasRegister cX2_hasRegister 2 (some .boolean), Cond.fieldLink RX2 22 "ModEngine" "count" "I", Cond.methodLink RX2 89 yX1_isProvedCompositeBy, Cond.instanceMethod yX1_isProvedCompositeBy, Cond.selects RX1 yX1_isProvedCompositeBy yX1_isProvedCompositeBy, Cond.initialized RX1, Cond.code yX1_isProvedCompositeBy cX1_isProvedCompositeBy 5 (some .boolean), Cond.fieldLink RX1 34 "ModEngine$Ring" "left" "[I", Cond.fieldLink RX1 28 "ModEngine$Ring" "rSquared" "[I", Cond.fieldLink RX1 9 "ModEngine$Ring" "k" "I", Cond.fieldLink RX1 40 "ModEngine$Ring" "leftShare" "[I", Cond.fieldLink RX1 18 "ModEngine$Ring" "modulus" "[I", Cond.fieldLink RX1 25 "ModEngine$Ring" "unit" "[I", Cond.fieldLink RX1 37 "ModEngine$Ring" "right" "[I", Cond.methodLink RX1 71 yX1_montgomery, Cond.instanceMethod yX1_montgomery, Cond.selects RX1 yX1_montgomery yX1_montgomery]
def wsX2_witness_r2 : List Cond := [Cond.code yX1_montgomery cX1_montgomery 7 none, Cond.fieldLink RX1 31 "ModEngine$Ring" "running" "[I", Cond.fieldLink RX1 46 "ModEngine$Ring" "minusInverse" "I", Cond.methodLink RX1 92 yX0_setSmall, Cond.static yX0_setSmall, Cond.initialized RX0, Cond.code yX0_setSmall cX0_setSmall 4 none, Cond.methodLink RX1 107 yX0_addMultiple, Cond.static yX0_addMultiple, Cond.code yX0_addMultiple cX0_addMultiple 9 (some .long), Cond.constantLong RX0 15 (4294967295), Cond.methodLink RX1 111 yX0_dropLimb, Cond.static yX0_dropLimb, Cond.code yX0_dropLimb cX0_dropLimb 5 (some .long), Cond.methodLink RX1 63 yX0_copy, Cond.static yX0_copy, Cond.code yX0_copy cX0_copy 4 none, Cond.methodLink RX1 115 yX1_bringBelow, Cond.instanceMethod yX1_bringBelow, Cond.selects RX1 yX1_bringBelow yX1_bringBelow, Cond.code yX1_bringBelow cX1_bringBelow 4 none, Cond.methodLink RX1 103 yX0_order, Cond.static yX0_order, Cond.code yX0_order cX0_order 4 (some .int)]
def wsX2_witness_r3 : List Cond := [Cond.methodLink RX1 137 yX0_subtract, Cond.static yX0_subtract, Cond.code yX0_subtract cX0_subtract 7 (some .boolean), Cond.methodLink RX1 55 yX0_isSmall, Cond.static yX0_isSmall, Cond.code yX0_isSmall cX0_isSmall 4 (some .boolean), Cond.methodLink RX1 99 yX1_twosInModulusLessOne, Cond.instanceMethod yX1_twosInModulusLessOne, Cond.selects RX1 yX1_twosInModulusLessOne yX1_twosInModulusLessOne, Cond.code yX1_twosInModulusLessOne cX1_twosInModulusLessOne 2 (some .int), Cond.fieldLink RX1 15 "ModEngine$Ring" "bits" "I", Cond.methodLink RX1 123 yX0_isBitSet, Cond.static yX0_isBitSet, Cond.code yX0_isBitSet cX0_isBitSet 2 (some .boolean), Cond.methodLink RX1 82 yX1_subtractBelow, Cond.instanceMethod yX1_subtractBelow, Cond.selects RX1 yX1_subtractBelow yX1_subtractBelow, Cond.code yX1_subtractBelow cX1_subtractBelow 4 none, Cond.methodLink RX1 141 yX0_add, Cond.static yX0_add, Cond.code yX0_add cX0_add 7 (some .long), Cond.methodLink RX1 88 yX1_raise, Cond.instanceMethod yX1_raise, Cond.selects RX1 yX1_raise yX1_raise]
def wsX2_witness_r4 : List Cond := [Cond.code yX1_raise cX1_raise 6 none, Cond.methodLink RX1 119 yX0_highestBit, Cond.static yX0_highestBit, Cond.code yX0_highestBit cX0_highestBit 3 (some .int), Cond.methodLink RX0 9 yX0_isBitSet]
def wsX2_witness : List Cond := .code yX2_witness cX2_witness 2 (some .int) :: ((wsX2_witness_r1 ++ (wsX2_witness_r2 ++ (wsX2_witness_r3 ++ wsX2_witness_r4))) ++ wsX20 ++ wsX10)
def wsX2_compare : List Cond := .code yX2_compare cX2_compare 3 (some .int) :: ([.fieldLink RX2 27 "ModEngine" "registers" "[[I", .fieldLink RX2 18 "ModEngine" "limbs" "I", .methodLink RX2 58 yX2_hasRegister, .instanceMethod yX2_hasRegister, .selects RX2 yX2_hasRegister yX2_hasRegister, .initialized RX2, .code yX2_hasRegister cX2_hasRegister 2 (some .boolean), .fieldLink RX2 22 "ModEngine" "count" "I", .methodLink RX2 93 yX0_order, .static yX0_order, .initialized RX0, .code yX0_order cX0_order 4 (some .int), .constantLong RX0 15 (4294967295)] ++ wsX20)
def wsX3_within : List Cond := .code yX3_within cX3_within 1 (some .int) :: ([])
def wsX3_init : List Cond := .code yX3_init cX3_init 3 none :: ([.methodLink RX3 1 objectInit, .instanceMethod objectInit, .code objectInit ⟨#[0xb1]⟩ 1 none, .arrayClass .long, .fieldLink RX3 7 "ModEngineModel" "held" "[J", .fieldLink RX3 13 "ModEngineModel" "modulus" "[J", .fieldLink RX3 16 "ModEngineModel" "first" "[J", .fieldLink RX3 19 "ModEngineModel" "second" "[J", .fieldLink RX3 22 "ModEngineModel" "result" "[J", .fieldLink RX3 25 "ModEngineModel" "factor" "[J", .fieldLink RX3 28 "ModEngineModel" "base" "[J", .fieldLink RX3 31 "ModEngineModel" "power" "[J", .fieldLink RX3 38 "ModEngineModel" "limbs" "I", .fieldLink RX3 42 "ModEngineModel" "registers" "I", .methodLink RX3 34 yX3_within, .static yX3_within, .initialized RX3, .code yX3_within cX3_within 1 (some .int)] ++ wsX30)
def wsX3_isLimb : List Cond := .code yX3_isLimb cX3_isLimb 2 (some .boolean) :: ([.fieldLink RX3 38 "ModEngineModel" "limbs" "I"] ++ wsX30)
def wsX3_isRegister : List Cond := .code yX3_isRegister cX3_isRegister 2 (some .boolean) :: ([.fieldLink RX3 42 "ModEngineModel" "registers" "I"] ++ wsX30)
def wsX3_placeOf : List Cond := .code yX3_placeOf cX3_placeOf 2 (some .int) :: ([])
def wsX3_placeOfModulus : List Cond := .code yX3_placeOfModulus cX3_placeOfModulus 1 (some .int) :: ([])
def wsX3_pokeMod : List Cond := .code yX3_pokeMod cX3_pokeMod 3 (some .boolean) :: ([.fieldLink RX3 7 "ModEngineModel" "held" "[J", .constantLong RX3 53 (4294967295), .fieldLink RX3 55 "ModEngineModel" "isReady" "Z", .methodLink RX3 45 yX3_isLimb, .instanceMethod yX3_isLimb, .selects RX3 yX3_isLimb yX3_isLimb, .initialized RX3, .code yX3_isLimb cX3_isLimb 2 (some .boolean), .fieldLink RX3 38 "ModEngineModel" "limbs" "I", .methodLink RX3 49 yX3_placeOfModulus, .instanceMethod yX3_placeOfModulus, .selects RX3 yX3_placeOfModulus yX3_placeOfModulus, .code yX3_placeOfModulus cX3_placeOfModulus 1 (some .int)] ++ wsX30)
def wsX3_peekMod : List Cond := .code yX3_peekMod cX3_peekMod 2 (some .int) :: ([.fieldLink RX3 7 "ModEngineModel" "held" "[J", .methodLink RX3 45 yX3_isLimb, .instanceMethod yX3_isLimb, .selects RX3 yX3_isLimb yX3_isLimb, .initialized RX3, .code yX3_isLimb cX3_isLimb 2 (some .boolean), .fieldLink RX3 38 "ModEngineModel" "limbs" "I", .methodLink RX3 49 yX3_placeOfModulus, .instanceMethod yX3_placeOfModulus, .selects RX3 yX3_placeOfModulus yX3_placeOfModulus, .code yX3_placeOfModulus cX3_placeOfModulus 1 (some .int)] ++ wsX30)
def wsX3_read : List Cond := .code yX3_read cX3_read 4 none :: ([.fieldLink RX3 7 "ModEngineModel" "held" "[J"] ++ wsX30)
def wsX3_init_ : List Cond := .code yX3_init_ cX3_init_ 3 (some .int) :: ([.fieldLink RX3 13 "ModEngineModel" "modulus" "[J", .constantLong RX3 63 (2), .constantLong RX3 65 (3), .fieldLink RX3 55 "ModEngineModel" "isReady" "Z", .methodLink RX3 49 yX3_placeOfModulus, .instanceMethod yX3_placeOfModulus, .selects RX3 yX3_placeOfModulus yX3_placeOfModulus, .initialized RX3, .code yX3_placeOfModulus cX3_placeOfModulus 1 (some .int), .methodLink RX3 59 yX3_read, .instanceMethod yX3_read, .selects RX3 yX3_read yX3_read, .code yX3_read cX3_read 4 none, .fieldLink RX3 7 "ModEngineModel" "held" "[J"] ++ wsX30)
def wsX3_ready : List Cond := .code yX3_ready cX3_ready 1 (some .boolean) :: ([.fieldLink RX3 55 "ModEngineModel" "isReady" "Z"] ++ wsX30)
def wsX3_poke : List Cond := .code yX3_poke cX3_poke 4 (some .boolean) :: ([.fieldLink RX3 7 "ModEngineModel" "held" "[J", .constantLong RX3 53 (4294967295), .methodLink RX3 67 yX3_isRegister, .instanceMethod yX3_isRegister, .selects RX3 yX3_isRegister yX3_isRegister, .initialized RX3, .code yX3_isRegister cX3_isRegister 2 (some .boolean), .fieldLink RX3 42 "ModEngineModel" "registers" "I", .methodLink RX3 45 yX3_isLimb, .instanceMethod yX3_isLimb, .selects RX3 yX3_isLimb yX3_isLimb, .code yX3_isLimb cX3_isLimb 2 (some .boolean), .fieldLink RX3 38 "ModEngineModel" "limbs" "I", .methodLink RX3 70 yX3_placeOf, .instanceMethod yX3_placeOf, .selects RX3 yX3_placeOf yX3_placeOf, .code yX3_placeOf cX3_placeOf 2 (some .int)] ++ wsX30)
def wsX3_peek : List Cond := .code yX3_peek cX3_peek 3 (some .int) :: ([.fieldLink RX3 7 "ModEngineModel" "held" "[J", .methodLink RX3 67 yX3_isRegister, .instanceMethod yX3_isRegister, .selects RX3 yX3_isRegister yX3_isRegister, .initialized RX3, .code yX3_isRegister cX3_isRegister 2 (some .boolean), .fieldLink RX3 42 "ModEngineModel" "registers" "I", .methodLink RX3 45 yX3_isLimb, .instanceMethod yX3_isLimb, .selects RX3 yX3_isLimb yX3_isLimb, .code yX3_isLimb cX3_isLimb 2 (some .boolean), .fieldLink RX3 38 "ModEngineModel" "limbs" "I", .methodLink RX3 70 yX3_placeOf, .instanceMethod yX3_placeOf, .selects RX3 yX3_placeOf yX3_placeOf, .code yX3_placeOf cX3_placeOf 2 (some .int)] ++ wsX30)
def wsX3_write : List Cond := .code yX3_write cX3_write 4 none :: ([.fieldLink RX3 7 "ModEngineModel" "held" "[J", .methodLink RX3 70 yX3_placeOf, .instanceMethod yX3_placeOf, .selects RX3 yX3_placeOf yX3_placeOf, .initialized RX3, .code yX3_placeOf cX3_placeOf 2 (some .int)] ++ wsX30)
def wsX3_copy : List Cond := .code yX3_copy cX3_copy 3 none :: ([])
def wsX3_be : List Cond := .code yX3_be cX3_be 4 none :: ([])
def wsX3_compared : List Cond := .code yX3_compared cX3_compared 3 (some .int) :: ([])
def wsX3_isNought : List Cond := .code yX3_isNought cX3_isNought 3 (some .boolean) :: ([])
def wsX3_isOne : List Cond := .code yX3_isOne cX3_isOne 3 (some .boolean) :: ([])
def wsX3_plus : List Cond := .code yX3_plus cX3_plus 7 none :: ([.constantLong RX3 53 (4294967295)])
def wsX3_minus : List Cond := .code yX3_minus cX3_minus 7 none :: ([.constantLong RX3 53 (4294967295)])
def wsX3_half : List Cond := .code yX3_half cX3_half 6 none :: ([])
def wsX3_bit : List Cond := .code yX3_bit cX3_bit 2 (some .boolean) :: ([])
def wsX3_bits : List Cond := .code yX3_bits cX3_bits 1 (some .int) :: ([.fieldLink RX3 38 "ModEngineModel" "limbs" "I"] ++ wsX30)
def wsX3_sum : List Cond := .code yX3_sum cX3_sum 3 none :: ([.fieldLink RX3 13 "ModEngineModel" "modulus" "[J", .methodLink RX3 73 yX3_plus, .static yX3_plus, .initialized RX3, .code yX3_plus cX3_plus 7 none, .constantLong RX3 53 (4294967295), .methodLink RX3 77 yX3_compared, .static yX3_compared, .code yX3_compared cX3_compared 3 (some .int), .methodLink RX3 81 yX3_minus, .static yX3_minus, .code yX3_minus cX3_minus 7 none] ++ wsX30)
def wsX3_difference : List Cond := .code yX3_difference cX3_difference 3 none :: ([.fieldLink RX3 13 "ModEngineModel" "modulus" "[J", .methodLink RX3 77 yX3_compared, .static yX3_compared, .initialized RX3, .code yX3_compared cX3_compared 3 (some .int), .methodLink RX3 73 yX3_plus, .static yX3_plus, .code yX3_plus cX3_plus 7 none, .constantLong RX3 53 (4294967295), .methodLink RX3 81 yX3_minus, .static yX3_minus, .code yX3_minus cX3_minus 7 none] ++ wsX30)
def wsX3_rest_r1 : List Cond := [Cond.fieldLink RX3 25 "ModEngineModel" "factor" "[J", Cond.fieldLink RX3 13 "ModEngineModel" "modulus" "[J", Cond.methodLink RX3 84 yX3_copy, Cond.static yX3_copy, Cond.initialized RX3, Cond.code yX3_copy cX3_copy 3 none, Cond.methodLink RX3 87 yX3_be, Cond.static yX3_be, Cond.code yX3_be cX3_be 4 none, Cond.methodLink RX3 91 yX3_bits, Cond.instanceMethod yX3_bits, Cond.selects RX3 yX3_bits yX3_bits, Cond.code yX3_bits cX3_bits 1 (some .int), Cond.fieldLink RX3 38 "ModEngineModel" "limbs" "I", Cond.methodLink RX3 73 yX3_plus, Cond.static yX3_plus, Cond.code yX3_plus cX3_plus 7 none, Cond.constantLong RX3 53 (4294967295), Cond.methodLink RX3 94 yX3_bit, Cond.static yX3_bit, Cond.code yX3_bit cX3_bit 2 (some .boolean), Cond.methodLink RX3 77 yX3_compared, Cond.static yX3_compared, Cond.code yX3_compared cX3_compared 3 (some .int)]
def wsX3_rest_r2 : List Cond := [Cond.methodLink RX3 81 yX3_minus, Cond.static yX3_minus, Cond.code yX3_minus cX3_minus 7 none]
def wsX3_rest : List Cond := .code yX3_rest cX3_rest 3 none :: ((wsX3_rest_r1 ++ wsX3_rest_r2) ++ wsX30)
def wsX3_product_r1 : List Cond := [Cond.fieldLink RX3 25 "ModEngineModel" "factor" "[J", Cond.fieldLink RX3 19 "ModEngineModel" "second" "[J", Cond.methodLink RX3 84 yX3_copy, Cond.static yX3_copy, Cond.initialized RX3, Cond.code yX3_copy cX3_copy 3 none, Cond.methodLink RX3 87 yX3_be, Cond.static yX3_be, Cond.code yX3_be cX3_be 4 none, Cond.methodLink RX3 91 yX3_bits, Cond.instanceMethod yX3_bits, Cond.selects RX3 yX3_bits yX3_bits, Cond.code yX3_bits cX3_bits 1 (some .int), Cond.fieldLink RX3 38 "ModEngineModel" "limbs" "I", Cond.methodLink RX3 98 yX3_sum, Cond.instanceMethod yX3_sum, Cond.selects RX3 yX3_sum yX3_sum, Cond.code yX3_sum cX3_sum 3 none, Cond.fieldLink RX3 13 "ModEngineModel" "modulus" "[J", Cond.methodLink RX3 73 yX3_plus, Cond.static yX3_plus, Cond.code yX3_plus cX3_plus 7 none, Cond.constantLong RX3 53 (4294967295), Cond.methodLink RX3 77 yX3_compared]
def wsX3_product_r2 : List Cond := [Cond.static yX3_compared, Cond.code yX3_compared cX3_compared 3 (some .int), Cond.methodLink RX3 81 yX3_minus, Cond.static yX3_minus, Cond.code yX3_minus cX3_minus 7 none, Cond.methodLink RX3 94 yX3_bit, Cond.static yX3_bit, Cond.code yX3_bit cX3_bit 2 (some .boolean)]
def wsX3_product : List Cond := .code yX3_product cX3_product 4 none :: ((wsX3_product_r1 ++ wsX3_product_r2) ++ wsX30)
def wsX3_halfOf : List Cond := .code yX3_halfOf cX3_halfOf 2 none :: ([.fieldLink RX3 13 "ModEngineModel" "modulus" "[J", .methodLink RX3 94 yX3_bit, .static yX3_bit, .initialized RX3, .code yX3_bit cX3_bit 2 (some .boolean), .methodLink RX3 73 yX3_plus, .static yX3_plus, .code yX3_plus cX3_plus 7 none, .constantLong RX3 53 (4294967295), .methodLink RX3 101 yX3_half, .static yX3_half, .code yX3_half cX3_half 6 none] ++ wsX30)
def wsX3_isAsked : List Cond := .code yX3_isAsked cX3_isAsked 4 (some .boolean) :: ([.fieldLink RX3 55 "ModEngineModel" "isReady" "Z", .methodLink RX3 67 yX3_isRegister, .instanceMethod yX3_isRegister, .selects RX3 yX3_isRegister yX3_isRegister, .initialized RX3, .code yX3_isRegister cX3_isRegister 2 (some .boolean), .fieldLink RX3 42 "ModEngineModel" "registers" "I"] ++ wsX30)
def wsX3_takes_r1 : List Cond := [Cond.fieldLink RX3 13 "ModEngineModel" "modulus" "[J", Cond.fieldLink RX3 16 "ModEngineModel" "first" "[J", Cond.fieldLink RX3 22 "ModEngineModel" "result" "[J", Cond.methodLink RX3 49 yX3_placeOfModulus, Cond.instanceMethod yX3_placeOfModulus, Cond.selects RX3 yX3_placeOfModulus yX3_placeOfModulus, Cond.initialized RX3, Cond.code yX3_placeOfModulus cX3_placeOfModulus 1 (some .int), Cond.methodLink RX3 59 yX3_read, Cond.instanceMethod yX3_read, Cond.selects RX3 yX3_read yX3_read, Cond.code yX3_read cX3_read 4 none, Cond.fieldLink RX3 7 "ModEngineModel" "held" "[J", Cond.methodLink RX3 70 yX3_placeOf, Cond.instanceMethod yX3_placeOf, Cond.selects RX3 yX3_placeOf yX3_placeOf, Cond.code yX3_placeOf cX3_placeOf 2 (some .int), Cond.methodLink RX3 105 yX3_rest, Cond.instanceMethod yX3_rest, Cond.selects RX3 yX3_rest yX3_rest, Cond.code yX3_rest cX3_rest 3 none, Cond.fieldLink RX3 25 "ModEngineModel" "factor" "[J", Cond.methodLink RX3 84 yX3_copy, Cond.static yX3_copy]
def wsX3_takes_r2 : List Cond := [Cond.code yX3_copy cX3_copy 3 none, Cond.methodLink RX3 87 yX3_be, Cond.static yX3_be, Cond.code yX3_be cX3_be 4 none, Cond.methodLink RX3 91 yX3_bits, Cond.instanceMethod yX3_bits, Cond.selects RX3 yX3_bits yX3_bits, Cond.code yX3_bits cX3_bits 1 (some .int), Cond.fieldLink RX3 38 "ModEngineModel" "limbs" "I", Cond.methodLink RX3 73 yX3_plus, Cond.static yX3_plus, Cond.code yX3_plus cX3_plus 7 none, Cond.constantLong RX3 53 (4294967295), Cond.methodLink RX3 94 yX3_bit, Cond.static yX3_bit, Cond.code yX3_bit cX3_bit 2 (some .boolean), Cond.methodLink RX3 77 yX3_compared, Cond.static yX3_compared, Cond.code yX3_compared cX3_compared 3 (some .int), Cond.methodLink RX3 81 yX3_minus, Cond.static yX3_minus, Cond.code yX3_minus cX3_minus 7 none]
def wsX3_takes : List Cond := .code yX3_takes cX3_takes 3 none :: ((wsX3_takes_r1 ++ wsX3_takes_r2) ++ wsX30)
def wsX3_reduce_r1 : List Cond := [Cond.fieldLink RX3 16 "ModEngineModel" "first" "[J", Cond.methodLink RX3 108 yX3_isAsked, Cond.instanceMethod yX3_isAsked, Cond.selects RX3 yX3_isAsked yX3_isAsked, Cond.initialized RX3, Cond.code yX3_isAsked cX3_isAsked 4 (some .boolean), Cond.fieldLink RX3 55 "ModEngineModel" "isReady" "Z", Cond.methodLink RX3 67 yX3_isRegister, Cond.instanceMethod yX3_isRegister, Cond.selects RX3 yX3_isRegister yX3_isRegister, Cond.code yX3_isRegister cX3_isRegister 2 (some .boolean), Cond.fieldLink RX3 42 "ModEngineModel" "registers" "I", Cond.methodLink RX3 112 yX3_takes, Cond.instanceMethod yX3_takes, Cond.selects RX3 yX3_takes yX3_takes, Cond.code yX3_takes cX3_takes 3 none, Cond.fieldLink RX3 13 "ModEngineModel" "modulus" "[J", Cond.fieldLink RX3 22 "ModEngineModel" "result" "[J", Cond.methodLink RX3 49 yX3_placeOfModulus, Cond.instanceMethod yX3_placeOfModulus, Cond.selects RX3 yX3_placeOfModulus yX3_placeOfModulus, Cond.code yX3_placeOfModulus cX3_placeOfModulus 1 (some .int), Cond.methodLink RX3 59 yX3_read, Cond.instanceMethod yX3_read]
def wsX3_reduce_r2 : List Cond := [Cond.selects RX3 yX3_read yX3_read, Cond.code yX3_read cX3_read 4 none, Cond.fieldLink RX3 7 "ModEngineModel" "held" "[J", Cond.methodLink RX3 70 yX3_placeOf, Cond.instanceMethod yX3_placeOf, Cond.selects RX3 yX3_placeOf yX3_placeOf, Cond.code yX3_placeOf cX3_placeOf 2 (some .int), Cond.methodLink RX3 105 yX3_rest, Cond.instanceMethod yX3_rest, Cond.selects RX3 yX3_rest yX3_rest, Cond.code yX3_rest cX3_rest 3 none, Cond.fieldLink RX3 25 "ModEngineModel" "factor" "[J", Cond.methodLink RX3 84 yX3_copy, Cond.static yX3_copy, Cond.code yX3_copy cX3_copy 3 none, Cond.methodLink RX3 87 yX3_be, Cond.static yX3_be, Cond.code yX3_be cX3_be 4 none, Cond.methodLink RX3 91 yX3_bits, Cond.instanceMethod yX3_bits, Cond.selects RX3 yX3_bits yX3_bits, Cond.code yX3_bits cX3_bits 1 (some .int), Cond.fieldLink RX3 38 "ModEngineModel" "limbs" "I", Cond.methodLink RX3 73 yX3_plus]
def wsX3_reduce_r3 : List Cond := [Cond.static yX3_plus, Cond.code yX3_plus cX3_plus 7 none, Cond.constantLong RX3 53 (4294967295), Cond.methodLink RX3 94 yX3_bit, Cond.static yX3_bit, Cond.code yX3_bit cX3_bit 2 (some .boolean), Cond.methodLink RX3 77 yX3_compared, Cond.static yX3_compared, Cond.code yX3_compared cX3_compared 3 (some .int), Cond.methodLink RX3 81 yX3_minus, Cond.static yX3_minus, Cond.code yX3_minus cX3_minus 7 none, Cond.methodLink RX3 116 yX3_write, Cond.instanceMethod yX3_write, Cond.selects RX3 yX3_write yX3_write, Cond.code yX3_write cX3_write 4 none]
def wsX3_reduce : List Cond := .code yX3_reduce cX3_reduce 2 (some .boolean) :: ((wsX3_reduce_r1 ++ (wsX3_reduce_r2 ++ wsX3_reduce_r3)) ++ wsX30)
def wsX3_addMod_r1 : List Cond := [Cond.fieldLink RX3 16 "ModEngineModel" "first" "[J", Cond.fieldLink RX3 22 "ModEngineModel" "result" "[J", Cond.methodLink RX3 108 yX3_isAsked, Cond.instanceMethod yX3_isAsked, Cond.selects RX3 yX3_isAsked yX3_isAsked, Cond.initialized RX3, Cond.code yX3_isAsked cX3_isAsked 4 (some .boolean), Cond.fieldLink RX3 55 "ModEngineModel" "isReady" "Z", Cond.methodLink RX3 67 yX3_isRegister, Cond.instanceMethod yX3_isRegister, Cond.selects RX3 yX3_isRegister yX3_isRegister, Cond.code yX3_isRegister cX3_isRegister 2 (some .boolean), Cond.fieldLink RX3 42 "ModEngineModel" "registers" "I", Cond.methodLink RX3 112 yX3_takes, Cond.instanceMethod yX3_takes, Cond.selects RX3 yX3_takes yX3_takes, Cond.code yX3_takes cX3_takes 3 none, Cond.fieldLink RX3 13 "ModEngineModel" "modulus" "[J", Cond.methodLink RX3 49 yX3_placeOfModulus, Cond.instanceMethod yX3_placeOfModulus, Cond.selects RX3 yX3_placeOfModulus yX3_placeOfModulus, Cond.code yX3_placeOfModulus cX3_placeOfModulus 1 (some .int), Cond.methodLink RX3 59 yX3_read, Cond.instanceMethod yX3_read]
def wsX3_addMod_r2 : List Cond := [Cond.selects RX3 yX3_read yX3_read, Cond.code yX3_read cX3_read 4 none, Cond.fieldLink RX3 7 "ModEngineModel" "held" "[J", Cond.methodLink RX3 70 yX3_placeOf, Cond.instanceMethod yX3_placeOf, Cond.selects RX3 yX3_placeOf yX3_placeOf, Cond.code yX3_placeOf cX3_placeOf 2 (some .int), Cond.methodLink RX3 105 yX3_rest, Cond.instanceMethod yX3_rest, Cond.selects RX3 yX3_rest yX3_rest, Cond.code yX3_rest cX3_rest 3 none, Cond.fieldLink RX3 25 "ModEngineModel" "factor" "[J", Cond.methodLink RX3 84 yX3_copy, Cond.static yX3_copy, Cond.code yX3_copy cX3_copy 3 none, Cond.methodLink RX3 87 yX3_be, Cond.static yX3_be, Cond.code yX3_be cX3_be 4 none, Cond.methodLink RX3 91 yX3_bits, Cond.instanceMethod yX3_bits, Cond.selects RX3 yX3_bits yX3_bits, Cond.code yX3_bits cX3_bits 1 (some .int), Cond.fieldLink RX3 38 "ModEngineModel" "limbs" "I", Cond.methodLink RX3 73 yX3_plus]
def wsX3_addMod_r3 : List Cond := [Cond.static yX3_plus, Cond.code yX3_plus cX3_plus 7 none, Cond.constantLong RX3 53 (4294967295), Cond.methodLink RX3 94 yX3_bit, Cond.static yX3_bit, Cond.code yX3_bit cX3_bit 2 (some .boolean), Cond.methodLink RX3 77 yX3_compared, Cond.static yX3_compared, Cond.code yX3_compared cX3_compared 3 (some .int), Cond.methodLink RX3 81 yX3_minus, Cond.static yX3_minus, Cond.code yX3_minus cX3_minus 7 none, Cond.methodLink RX3 98 yX3_sum, Cond.instanceMethod yX3_sum, Cond.selects RX3 yX3_sum yX3_sum, Cond.code yX3_sum cX3_sum 3 none, Cond.methodLink RX3 116 yX3_write, Cond.instanceMethod yX3_write, Cond.selects RX3 yX3_write yX3_write, Cond.code yX3_write cX3_write 4 none]
def wsX3_addMod : List Cond := .code yX3_addMod cX3_addMod 4 (some .boolean) :: ((wsX3_addMod_r1 ++ (wsX3_addMod_r2 ++ wsX3_addMod_r3)) ++ wsX30)
def wsX3_subMod_r1 : List Cond := [Cond.fieldLink RX3 16 "ModEngineModel" "first" "[J", Cond.fieldLink RX3 22 "ModEngineModel" "result" "[J", Cond.methodLink RX3 108 yX3_isAsked, Cond.instanceMethod yX3_isAsked, Cond.selects RX3 yX3_isAsked yX3_isAsked, Cond.initialized RX3, Cond.code yX3_isAsked cX3_isAsked 4 (some .boolean), Cond.fieldLink RX3 55 "ModEngineModel" "isReady" "Z", Cond.methodLink RX3 67 yX3_isRegister, Cond.instanceMethod yX3_isRegister, Cond.selects RX3 yX3_isRegister yX3_isRegister, Cond.code yX3_isRegister cX3_isRegister 2 (some .boolean), Cond.fieldLink RX3 42 "ModEngineModel" "registers" "I", Cond.methodLink RX3 112 yX3_takes, Cond.instanceMethod yX3_takes, Cond.selects RX3 yX3_takes yX3_takes, Cond.code yX3_takes cX3_takes 3 none, Cond.fieldLink RX3 13 "ModEngineModel" "modulus" "[J", Cond.methodLink RX3 49 yX3_placeOfModulus, Cond.instanceMethod yX3_placeOfModulus, Cond.selects RX3 yX3_placeOfModulus yX3_placeOfModulus, Cond.code yX3_placeOfModulus cX3_placeOfModulus 1 (some .int), Cond.methodLink RX3 59 yX3_read, Cond.instanceMethod yX3_read]
def wsX3_subMod_r2 : List Cond := [Cond.selects RX3 yX3_read yX3_read, Cond.code yX3_read cX3_read 4 none, Cond.fieldLink RX3 7 "ModEngineModel" "held" "[J", Cond.methodLink RX3 70 yX3_placeOf, Cond.instanceMethod yX3_placeOf, Cond.selects RX3 yX3_placeOf yX3_placeOf, Cond.code yX3_placeOf cX3_placeOf 2 (some .int), Cond.methodLink RX3 105 yX3_rest, Cond.instanceMethod yX3_rest, Cond.selects RX3 yX3_rest yX3_rest, Cond.code yX3_rest cX3_rest 3 none, Cond.fieldLink RX3 25 "ModEngineModel" "factor" "[J", Cond.methodLink RX3 84 yX3_copy, Cond.static yX3_copy, Cond.code yX3_copy cX3_copy 3 none, Cond.methodLink RX3 87 yX3_be, Cond.static yX3_be, Cond.code yX3_be cX3_be 4 none, Cond.methodLink RX3 91 yX3_bits, Cond.instanceMethod yX3_bits, Cond.selects RX3 yX3_bits yX3_bits, Cond.code yX3_bits cX3_bits 1 (some .int), Cond.fieldLink RX3 38 "ModEngineModel" "limbs" "I", Cond.methodLink RX3 73 yX3_plus]
def wsX3_subMod_r3 : List Cond := [Cond.static yX3_plus, Cond.code yX3_plus cX3_plus 7 none, Cond.constantLong RX3 53 (4294967295), Cond.methodLink RX3 94 yX3_bit, Cond.static yX3_bit, Cond.code yX3_bit cX3_bit 2 (some .boolean), Cond.methodLink RX3 77 yX3_compared, Cond.static yX3_compared, Cond.code yX3_compared cX3_compared 3 (some .int), Cond.methodLink RX3 81 yX3_minus, Cond.static yX3_minus, Cond.code yX3_minus cX3_minus 7 none, Cond.methodLink RX3 120 yX3_difference, Cond.instanceMethod yX3_difference, Cond.selects RX3 yX3_difference yX3_difference, Cond.code yX3_difference cX3_difference 3 none, Cond.methodLink RX3 116 yX3_write, Cond.instanceMethod yX3_write, Cond.selects RX3 yX3_write yX3_write, Cond.code yX3_write cX3_write 4 none]
def wsX3_subMod : List Cond := .code yX3_subMod cX3_subMod 4 (some .boolean) :: ((wsX3_subMod_r1 ++ (wsX3_subMod_r2 ++ wsX3_subMod_r3)) ++ wsX30)
def wsX3_mulMod_r1 : List Cond := [Cond.fieldLink RX3 16 "ModEngineModel" "first" "[J", Cond.fieldLink RX3 22 "ModEngineModel" "result" "[J", Cond.methodLink RX3 108 yX3_isAsked, Cond.instanceMethod yX3_isAsked, Cond.selects RX3 yX3_isAsked yX3_isAsked, Cond.initialized RX3, Cond.code yX3_isAsked cX3_isAsked 4 (some .boolean), Cond.fieldLink RX3 55 "ModEngineModel" "isReady" "Z", Cond.methodLink RX3 67 yX3_isRegister, Cond.instanceMethod yX3_isRegister, Cond.selects RX3 yX3_isRegister yX3_isRegister, Cond.code yX3_isRegister cX3_isRegister 2 (some .boolean), Cond.fieldLink RX3 42 "ModEngineModel" "registers" "I", Cond.methodLink RX3 112 yX3_takes, Cond.instanceMethod yX3_takes, Cond.selects RX3 yX3_takes yX3_takes, Cond.code yX3_takes cX3_takes 3 none, Cond.fieldLink RX3 13 "ModEngineModel" "modulus" "[J", Cond.methodLink RX3 49 yX3_placeOfModulus, Cond.instanceMethod yX3_placeOfModulus, Cond.selects RX3 yX3_placeOfModulus yX3_placeOfModulus, Cond.code yX3_placeOfModulus cX3_placeOfModulus 1 (some .int), Cond.methodLink RX3 59 yX3_read, Cond.instanceMethod yX3_read]
def wsX3_mulMod_r2 : List Cond := [Cond.selects RX3 yX3_read yX3_read, Cond.code yX3_read cX3_read 4 none, Cond.fieldLink RX3 7 "ModEngineModel" "held" "[J", Cond.methodLink RX3 70 yX3_placeOf, Cond.instanceMethod yX3_placeOf, Cond.selects RX3 yX3_placeOf yX3_placeOf, Cond.code yX3_placeOf cX3_placeOf 2 (some .int), Cond.methodLink RX3 105 yX3_rest, Cond.instanceMethod yX3_rest, Cond.selects RX3 yX3_rest yX3_rest, Cond.code yX3_rest cX3_rest 3 none, Cond.fieldLink RX3 25 "ModEngineModel" "factor" "[J", Cond.methodLink RX3 84 yX3_copy, Cond.static yX3_copy, Cond.code yX3_copy cX3_copy 3 none, Cond.methodLink RX3 87 yX3_be, Cond.static yX3_be, Cond.code yX3_be cX3_be 4 none, Cond.methodLink RX3 91 yX3_bits, Cond.instanceMethod yX3_bits, Cond.selects RX3 yX3_bits yX3_bits, Cond.code yX3_bits cX3_bits 1 (some .int), Cond.fieldLink RX3 38 "ModEngineModel" "limbs" "I", Cond.methodLink RX3 73 yX3_plus]
def wsX3_mulMod_r3 : List Cond := [Cond.static yX3_plus, Cond.code yX3_plus cX3_plus 7 none, Cond.constantLong RX3 53 (4294967295), Cond.methodLink RX3 94 yX3_bit, Cond.static yX3_bit, Cond.code yX3_bit cX3_bit 2 (some .boolean), Cond.methodLink RX3 77 yX3_compared, Cond.static yX3_compared, Cond.code yX3_compared cX3_compared 3 (some .int), Cond.methodLink RX3 81 yX3_minus, Cond.static yX3_minus, Cond.code yX3_minus cX3_minus 7 none, Cond.methodLink RX3 123 yX3_product, Cond.instanceMethod yX3_product, Cond.selects RX3 yX3_product yX3_product, Cond.code yX3_product cX3_product 4 none, Cond.fieldLink RX3 19 "ModEngineModel" "second" "[J", Cond.methodLink RX3 98 yX3_sum, Cond.instanceMethod yX3_sum, Cond.selects RX3 yX3_sum yX3_sum, Cond.code yX3_sum cX3_sum 3 none, Cond.methodLink RX3 116 yX3_write, Cond.instanceMethod yX3_write, Cond.selects RX3 yX3_write yX3_write]
def wsX3_mulMod_r4 : List Cond := [Cond.code yX3_write cX3_write 4 none]
def wsX3_mulMod : List Cond := .code yX3_mulMod cX3_mulMod 4 (some .boolean) :: ((wsX3_mulMod_r1 ++ (wsX3_mulMod_r2 ++ (wsX3_mulMod_r3 ++ wsX3_mulMod_r4))) ++ wsX30)
def wsX3_montMod_r1 : List Cond := [Cond.fieldLink RX3 16 "ModEngineModel" "first" "[J", Cond.fieldLink RX3 22 "ModEngineModel" "result" "[J", Cond.methodLink RX3 108 yX3_isAsked, Cond.instanceMethod yX3_isAsked, Cond.selects RX3 yX3_isAsked yX3_isAsked, Cond.initialized RX3, Cond.code yX3_isAsked cX3_isAsked 4 (some .boolean), Cond.fieldLink RX3 55 "ModEngineModel" "isReady" "Z", Cond.methodLink RX3 67 yX3_isRegister, Cond.instanceMethod yX3_isRegister, Cond.selects RX3 yX3_isRegister yX3_isRegister, Cond.code yX3_isRegister cX3_isRegister 2 (some .boolean), Cond.fieldLink RX3 42 "ModEngineModel" "registers" "I", Cond.methodLink RX3 112 yX3_takes, Cond.instanceMethod yX3_takes, Cond.selects RX3 yX3_takes yX3_takes, Cond.code yX3_takes cX3_takes 3 none, Cond.fieldLink RX3 13 "ModEngineModel" "modulus" "[J", Cond.methodLink RX3 49 yX3_placeOfModulus, Cond.instanceMethod yX3_placeOfModulus, Cond.selects RX3 yX3_placeOfModulus yX3_placeOfModulus, Cond.code yX3_placeOfModulus cX3_placeOfModulus 1 (some .int), Cond.methodLink RX3 59 yX3_read, Cond.instanceMethod yX3_read]
def wsX3_montMod_r2 : List Cond := [Cond.selects RX3 yX3_read yX3_read, Cond.code yX3_read cX3_read 4 none, Cond.fieldLink RX3 7 "ModEngineModel" "held" "[J", Cond.methodLink RX3 70 yX3_placeOf, Cond.instanceMethod yX3_placeOf, Cond.selects RX3 yX3_placeOf yX3_placeOf, Cond.code yX3_placeOf cX3_placeOf 2 (some .int), Cond.methodLink RX3 105 yX3_rest, Cond.instanceMethod yX3_rest, Cond.selects RX3 yX3_rest yX3_rest, Cond.code yX3_rest cX3_rest 3 none, Cond.fieldLink RX3 25 "ModEngineModel" "factor" "[J", Cond.methodLink RX3 84 yX3_copy, Cond.static yX3_copy, Cond.code yX3_copy cX3_copy 3 none, Cond.methodLink RX3 87 yX3_be, Cond.static yX3_be, Cond.code yX3_be cX3_be 4 none, Cond.methodLink RX3 91 yX3_bits, Cond.instanceMethod yX3_bits, Cond.selects RX3 yX3_bits yX3_bits, Cond.code yX3_bits cX3_bits 1 (some .int), Cond.fieldLink RX3 38 "ModEngineModel" "limbs" "I", Cond.methodLink RX3 73 yX3_plus]
def wsX3_montMod_r3 : List Cond := [Cond.static yX3_plus, Cond.code yX3_plus cX3_plus 7 none, Cond.constantLong RX3 53 (4294967295), Cond.methodLink RX3 94 yX3_bit, Cond.static yX3_bit, Cond.code yX3_bit cX3_bit 2 (some .boolean), Cond.methodLink RX3 77 yX3_compared, Cond.static yX3_compared, Cond.code yX3_compared cX3_compared 3 (some .int), Cond.methodLink RX3 81 yX3_minus, Cond.static yX3_minus, Cond.code yX3_minus cX3_minus 7 none, Cond.methodLink RX3 123 yX3_product, Cond.instanceMethod yX3_product, Cond.selects RX3 yX3_product yX3_product, Cond.code yX3_product cX3_product 4 none, Cond.fieldLink RX3 19 "ModEngineModel" "second" "[J", Cond.methodLink RX3 98 yX3_sum, Cond.instanceMethod yX3_sum, Cond.selects RX3 yX3_sum yX3_sum, Cond.code yX3_sum cX3_sum 3 none, Cond.methodLink RX3 126 yX3_halfOf, Cond.instanceMethod yX3_halfOf, Cond.selects RX3 yX3_halfOf yX3_halfOf]
def wsX3_montMod_r4 : List Cond := [Cond.code yX3_halfOf cX3_halfOf 2 none, Cond.methodLink RX3 101 yX3_half, Cond.static yX3_half, Cond.code yX3_half cX3_half 6 none, Cond.methodLink RX3 116 yX3_write, Cond.instanceMethod yX3_write, Cond.selects RX3 yX3_write yX3_write, Cond.code yX3_write cX3_write 4 none]
def wsX3_montMod : List Cond := .code yX3_montMod cX3_montMod 5 (some .boolean) :: ((wsX3_montMod_r1 ++ (wsX3_montMod_r2 ++ (wsX3_montMod_r3 ++ wsX3_montMod_r4))) ++ wsX30)
def wsX3_raise_r1 : List Cond := [Cond.fieldLink RX3 28 "ModEngineModel" "base" "[J", Cond.fieldLink RX3 31 "ModEngineModel" "power" "[J", Cond.methodLink RX3 84 yX3_copy, Cond.static yX3_copy, Cond.initialized RX3, Cond.code yX3_copy cX3_copy 3 none, Cond.methodLink RX3 87 yX3_be, Cond.static yX3_be, Cond.code yX3_be cX3_be 4 none, Cond.methodLink RX3 91 yX3_bits, Cond.instanceMethod yX3_bits, Cond.selects RX3 yX3_bits yX3_bits, Cond.code yX3_bits cX3_bits 1 (some .int), Cond.fieldLink RX3 38 "ModEngineModel" "limbs" "I", Cond.methodLink RX3 94 yX3_bit, Cond.static yX3_bit, Cond.code yX3_bit cX3_bit 2 (some .boolean), Cond.methodLink RX3 123 yX3_product, Cond.instanceMethod yX3_product, Cond.selects RX3 yX3_product yX3_product, Cond.code yX3_product cX3_product 4 none, Cond.fieldLink RX3 25 "ModEngineModel" "factor" "[J", Cond.fieldLink RX3 19 "ModEngineModel" "second" "[J", Cond.methodLink RX3 98 yX3_sum]
def wsX3_raise_r2 : List Cond := [Cond.instanceMethod yX3_sum, Cond.selects RX3 yX3_sum yX3_sum, Cond.code yX3_sum cX3_sum 3 none, Cond.fieldLink RX3 13 "ModEngineModel" "modulus" "[J", Cond.methodLink RX3 73 yX3_plus, Cond.static yX3_plus, Cond.code yX3_plus cX3_plus 7 none, Cond.constantLong RX3 53 (4294967295), Cond.methodLink RX3 77 yX3_compared, Cond.static yX3_compared, Cond.code yX3_compared cX3_compared 3 (some .int), Cond.methodLink RX3 81 yX3_minus, Cond.static yX3_minus, Cond.code yX3_minus cX3_minus 7 none]
def wsX3_raise : List Cond := .code yX3_raise cX3_raise 3 none :: ((wsX3_raise_r1 ++ wsX3_raise_r2) ++ wsX30)
def wsX3_powMod_r1 : List Cond := [Cond.fieldLink RX3 31 "ModEngineModel" "power" "[J", Cond.fieldLink RX3 16 "ModEngineModel" "first" "[J", Cond.methodLink RX3 108 yX3_isAsked, Cond.instanceMethod yX3_isAsked, Cond.selects RX3 yX3_isAsked yX3_isAsked, Cond.initialized RX3, Cond.code yX3_isAsked cX3_isAsked 4 (some .boolean), Cond.fieldLink RX3 55 "ModEngineModel" "isReady" "Z", Cond.methodLink RX3 67 yX3_isRegister, Cond.instanceMethod yX3_isRegister, Cond.selects RX3 yX3_isRegister yX3_isRegister, Cond.code yX3_isRegister cX3_isRegister 2 (some .boolean), Cond.fieldLink RX3 42 "ModEngineModel" "registers" "I", Cond.methodLink RX3 112 yX3_takes, Cond.instanceMethod yX3_takes, Cond.selects RX3 yX3_takes yX3_takes, Cond.code yX3_takes cX3_takes 3 none, Cond.fieldLink RX3 13 "ModEngineModel" "modulus" "[J", Cond.fieldLink RX3 22 "ModEngineModel" "result" "[J", Cond.methodLink RX3 49 yX3_placeOfModulus, Cond.instanceMethod yX3_placeOfModulus, Cond.selects RX3 yX3_placeOfModulus yX3_placeOfModulus, Cond.code yX3_placeOfModulus cX3_placeOfModulus 1 (some .int), Cond.methodLink RX3 59 yX3_read]
def wsX3_powMod_r2 : List Cond := [Cond.instanceMethod yX3_read, Cond.selects RX3 yX3_read yX3_read, Cond.code yX3_read cX3_read 4 none, Cond.fieldLink RX3 7 "ModEngineModel" "held" "[J", Cond.methodLink RX3 70 yX3_placeOf, Cond.instanceMethod yX3_placeOf, Cond.selects RX3 yX3_placeOf yX3_placeOf, Cond.code yX3_placeOf cX3_placeOf 2 (some .int), Cond.methodLink RX3 105 yX3_rest, Cond.instanceMethod yX3_rest, Cond.selects RX3 yX3_rest yX3_rest, Cond.code yX3_rest cX3_rest 3 none, Cond.fieldLink RX3 25 "ModEngineModel" "factor" "[J", Cond.methodLink RX3 84 yX3_copy, Cond.static yX3_copy, Cond.code yX3_copy cX3_copy 3 none, Cond.methodLink RX3 87 yX3_be, Cond.static yX3_be, Cond.code yX3_be cX3_be 4 none, Cond.methodLink RX3 91 yX3_bits, Cond.instanceMethod yX3_bits, Cond.selects RX3 yX3_bits yX3_bits, Cond.code yX3_bits cX3_bits 1 (some .int), Cond.fieldLink RX3 38 "ModEngineModel" "limbs" "I"]
def wsX3_powMod_r3 : List Cond := [Cond.methodLink RX3 73 yX3_plus, Cond.static yX3_plus, Cond.code yX3_plus cX3_plus 7 none, Cond.constantLong RX3 53 (4294967295), Cond.methodLink RX3 94 yX3_bit, Cond.static yX3_bit, Cond.code yX3_bit cX3_bit 2 (some .boolean), Cond.methodLink RX3 77 yX3_compared, Cond.static yX3_compared, Cond.code yX3_compared cX3_compared 3 (some .int), Cond.methodLink RX3 81 yX3_minus, Cond.static yX3_minus, Cond.code yX3_minus cX3_minus 7 none, Cond.methodLink RX3 129 yX3_raise, Cond.instanceMethod yX3_raise, Cond.selects RX3 yX3_raise yX3_raise, Cond.code yX3_raise cX3_raise 3 none, Cond.fieldLink RX3 28 "ModEngineModel" "base" "[J", Cond.methodLink RX3 123 yX3_product, Cond.instanceMethod yX3_product, Cond.selects RX3 yX3_product yX3_product, Cond.code yX3_product cX3_product 4 none, Cond.fieldLink RX3 19 "ModEngineModel" "second" "[J", Cond.methodLink RX3 98 yX3_sum]
def wsX3_powMod_r4 : List Cond := [Cond.instanceMethod yX3_sum, Cond.selects RX3 yX3_sum yX3_sum, Cond.code yX3_sum cX3_sum 3 none, Cond.methodLink RX3 116 yX3_write, Cond.instanceMethod yX3_write, Cond.selects RX3 yX3_write yX3_write, Cond.code yX3_write cX3_write 4 none]
def wsX3_powMod : List Cond := .code yX3_powMod cX3_powMod 4 (some .boolean) :: ((wsX3_powMod_r1 ++ (wsX3_powMod_r2 ++ (wsX3_powMod_r3 ++ wsX3_powMod_r4))) ++ wsX30)
def wsX3_invMod_r1 : List Cond := [Cond.fieldLink RX3 28 "ModEngineModel" "base" "[J", Cond.fieldLink RX3 13 "ModEngineModel" "modulus" "[J", Cond.fieldLink RX3 22 "ModEngineModel" "result" "[J", Cond.fieldLink RX3 31 "ModEngineModel" "power" "[J", Cond.fieldLink RX3 16 "ModEngineModel" "first" "[J", Cond.methodLink RX3 108 yX3_isAsked, Cond.instanceMethod yX3_isAsked, Cond.selects RX3 yX3_isAsked yX3_isAsked, Cond.initialized RX3, Cond.code yX3_isAsked cX3_isAsked 4 (some .boolean), Cond.fieldLink RX3 55 "ModEngineModel" "isReady" "Z", Cond.methodLink RX3 67 yX3_isRegister, Cond.instanceMethod yX3_isRegister, Cond.selects RX3 yX3_isRegister yX3_isRegister, Cond.code yX3_isRegister cX3_isRegister 2 (some .boolean), Cond.fieldLink RX3 42 "ModEngineModel" "registers" "I", Cond.methodLink RX3 112 yX3_takes, Cond.instanceMethod yX3_takes, Cond.selects RX3 yX3_takes yX3_takes, Cond.code yX3_takes cX3_takes 3 none, Cond.methodLink RX3 49 yX3_placeOfModulus, Cond.instanceMethod yX3_placeOfModulus, Cond.selects RX3 yX3_placeOfModulus yX3_placeOfModulus, Cond.code yX3_placeOfModulus cX3_placeOfModulus 1 (some .int)]
def wsX3_invMod_r2 : List Cond := [Cond.methodLink RX3 59 yX3_read, Cond.instanceMethod yX3_read, Cond.selects RX3 yX3_read yX3_read, Cond.code yX3_read cX3_read 4 none, Cond.fieldLink RX3 7 "ModEngineModel" "held" "[J", Cond.methodLink RX3 70 yX3_placeOf, Cond.instanceMethod yX3_placeOf, Cond.selects RX3 yX3_placeOf yX3_placeOf, Cond.code yX3_placeOf cX3_placeOf 2 (some .int), Cond.methodLink RX3 105 yX3_rest, Cond.instanceMethod yX3_rest, Cond.selects RX3 yX3_rest yX3_rest, Cond.code yX3_rest cX3_rest 3 none, Cond.fieldLink RX3 25 "ModEngineModel" "factor" "[J", Cond.methodLink RX3 84 yX3_copy, Cond.static yX3_copy, Cond.code yX3_copy cX3_copy 3 none, Cond.methodLink RX3 87 yX3_be, Cond.static yX3_be, Cond.code yX3_be cX3_be 4 none, Cond.methodLink RX3 91 yX3_bits, Cond.instanceMethod yX3_bits, Cond.selects RX3 yX3_bits yX3_bits, Cond.code yX3_bits cX3_bits 1 (some .int)]
def wsX3_invMod_r3 : List Cond := [Cond.fieldLink RX3 38 "ModEngineModel" "limbs" "I", Cond.methodLink RX3 73 yX3_plus, Cond.static yX3_plus, Cond.code yX3_plus cX3_plus 7 none, Cond.constantLong RX3 53 (4294967295), Cond.methodLink RX3 94 yX3_bit, Cond.static yX3_bit, Cond.code yX3_bit cX3_bit 2 (some .boolean), Cond.methodLink RX3 77 yX3_compared, Cond.static yX3_compared, Cond.code yX3_compared cX3_compared 3 (some .int), Cond.methodLink RX3 81 yX3_minus, Cond.static yX3_minus, Cond.code yX3_minus cX3_minus 7 none, Cond.methodLink RX3 132 yX3_isNought, Cond.static yX3_isNought, Cond.code yX3_isNought cX3_isNought 3 (some .boolean), Cond.methodLink RX3 101 yX3_half, Cond.static yX3_half, Cond.code yX3_half cX3_half 6 none, Cond.methodLink RX3 126 yX3_halfOf, Cond.instanceMethod yX3_halfOf, Cond.selects RX3 yX3_halfOf yX3_halfOf, Cond.code yX3_halfOf cX3_halfOf 2 none]
def wsX3_invMod_r4 : List Cond := [Cond.methodLink RX3 120 yX3_difference, Cond.instanceMethod yX3_difference, Cond.selects RX3 yX3_difference yX3_difference, Cond.code yX3_difference cX3_difference 3 none, Cond.methodLink RX3 136 yX3_isOne, Cond.static yX3_isOne, Cond.code yX3_isOne cX3_isOne 3 (some .boolean), Cond.methodLink RX3 116 yX3_write, Cond.instanceMethod yX3_write, Cond.selects RX3 yX3_write yX3_write, Cond.code yX3_write cX3_write 4 none]
def wsX3_invMod : List Cond := .code yX3_invMod cX3_invMod 3 (some .int) :: ((wsX3_invMod_r1 ++ (wsX3_invMod_r2 ++ (wsX3_invMod_r3 ++ wsX3_invMod_r4))) ++ wsX30)
def wsX3_witness_r1 : List Cond := [Cond.fieldLink RX3 16 "ModEngineModel" "first" "[J", Cond.fieldLink RX3 31 "ModEngineModel" "power" "[J", Cond.fieldLink RX3 13 "ModEngineModel" "modulus" "[J", Cond.fieldLink RX3 22 "ModEngineModel" "result" "[J", Cond.methodLink RX3 108 yX3_isAsked, Cond.instanceMethod yX3_isAsked, Cond.selects RX3 yX3_isAsked yX3_isAsked, Cond.initialized RX3, Cond.code yX3_isAsked cX3_isAsked 4 (some .boolean), Cond.fieldLink RX3 55 "ModEngineModel" "isReady" "Z", Cond.methodLink RX3 67 yX3_isRegister, Cond.instanceMethod yX3_isRegister, Cond.selects RX3 yX3_isRegister yX3_isRegister, Cond.code yX3_isRegister cX3_isRegister 2 (some .boolean), Cond.fieldLink RX3 42 "ModEngineModel" "registers" "I", Cond.methodLink RX3 112 yX3_takes, Cond.instanceMethod yX3_takes, Cond.selects RX3 yX3_takes yX3_takes, Cond.code yX3_takes cX3_takes 3 none, Cond.methodLink RX3 49 yX3_placeOfModulus, Cond.instanceMethod yX3_placeOfModulus, Cond.selects RX3 yX3_placeOfModulus yX3_placeOfModulus, Cond.code yX3_placeOfModulus cX3_placeOfModulus 1 (some .int), Cond.methodLink RX3 59 yX3_read]
def wsX3_witness_r2 : List Cond := [Cond.instanceMethod yX3_read, Cond.selects RX3 yX3_read yX3_read, Cond.code yX3_read cX3_read 4 none, Cond.fieldLink RX3 7 "ModEngineModel" "held" "[J", Cond.methodLink RX3 70 yX3_placeOf, Cond.instanceMethod yX3_placeOf, Cond.selects RX3 yX3_placeOf yX3_placeOf, Cond.code yX3_placeOf cX3_placeOf 2 (some .int), Cond.methodLink RX3 105 yX3_rest, Cond.instanceMethod yX3_rest, Cond.selects RX3 yX3_rest yX3_rest, Cond.code yX3_rest cX3_rest 3 none, Cond.fieldLink RX3 25 "ModEngineModel" "factor" "[J", Cond.methodLink RX3 84 yX3_copy, Cond.static yX3_copy, Cond.code yX3_copy cX3_copy 3 none, Cond.methodLink RX3 87 yX3_be, Cond.static yX3_be, Cond.code yX3_be cX3_be 4 none, Cond.methodLink RX3 91 yX3_bits, Cond.instanceMethod yX3_bits, Cond.selects RX3 yX3_bits yX3_bits, Cond.code yX3_bits cX3_bits 1 (some .int), Cond.fieldLink RX3 38 "ModEngineModel" "limbs" "I"]
def wsX3_witness_r3 : List Cond := [Cond.methodLink RX3 73 yX3_plus, Cond.static yX3_plus, Cond.code yX3_plus cX3_plus 7 none, Cond.constantLong RX3 53 (4294967295), Cond.methodLink RX3 94 yX3_bit, Cond.static yX3_bit, Cond.code yX3_bit cX3_bit 2 (some .boolean), Cond.methodLink RX3 77 yX3_compared, Cond.static yX3_compared, Cond.code yX3_compared cX3_compared 3 (some .int), Cond.methodLink RX3 81 yX3_minus, Cond.static yX3_minus, Cond.code yX3_minus cX3_minus 7 none, Cond.methodLink RX3 132 yX3_isNought, Cond.static yX3_isNought, Cond.code yX3_isNought cX3_isNought 3 (some .boolean), Cond.methodLink RX3 101 yX3_half, Cond.static yX3_half, Cond.code yX3_half cX3_half 6 none, Cond.methodLink RX3 129 yX3_raise, Cond.instanceMethod yX3_raise, Cond.selects RX3 yX3_raise yX3_raise, Cond.code yX3_raise cX3_raise 3 none, Cond.fieldLink RX3 28 "ModEngineModel" "base" "[J"]
def wsX3_witness_r4 : List Cond := [Cond.methodLink RX3 123 yX3_product, Cond.instanceMethod yX3_product, Cond.selects RX3 yX3_product yX3_product, Cond.code yX3_product cX3_product 4 none, Cond.fieldLink RX3 19 "ModEngineModel" "second" "[J", Cond.methodLink RX3 98 yX3_sum, Cond.instanceMethod yX3_sum, Cond.selects RX3 yX3_sum yX3_sum, Cond.code yX3_sum cX3_sum 3 none, Cond.methodLink RX3 136 yX3_isOne, Cond.static yX3_isOne, Cond.code yX3_isOne cX3_isOne 3 (some .boolean)]
def wsX3_witness : List Cond := .code yX3_witness cX3_witness 4 (some .int) :: ((wsX3_witness_r1 ++ (wsX3_witness_r2 ++ (wsX3_witness_r3 ++ wsX3_witness_r4))) ++ wsX30)
def wsX3_compare : List Cond := .code yX3_compare cX3_compare 3 (some .int) :: ([.fieldLink RX3 16 "ModEngineModel" "first" "[J", .fieldLink RX3 19 "ModEngineModel" "second" "[J", .methodLink RX3 67 yX3_isRegister, .instanceMethod yX3_isRegister, .selects RX3 yX3_isRegister yX3_isRegister, .initialized RX3, .code yX3_isRegister cX3_isRegister 2 (some .boolean), .fieldLink RX3 42 "ModEngineModel" "registers" "I", .methodLink RX3 70 yX3_placeOf, .instanceMethod yX3_placeOf, .selects RX3 yX3_placeOf yX3_placeOf, .code yX3_placeOf cX3_placeOf 2 (some .int), .methodLink RX3 59 yX3_read, .instanceMethod yX3_read, .selects RX3 yX3_read yX3_read, .code yX3_read cX3_read 4 none, .fieldLink RX3 7 "ModEngineModel" "held" "[J", .methodLink RX3 77 yX3_compared, .static yX3_compared, .code yX3_compared cX3_compared 3 (some .int)] ++ wsX30)
def wsJ9_max_7cf53 : List Cond := .code yJ9_max_7cf53 cJ9_max_7cf53 2 (some .int) :: ([])
def wsJ9_min_7cf53 : List Cond := .code yJ9_min_7cf53 cJ9_min_7cf53 2 (some .int) :: ([])
def wsL_cell : List Cond := .code yL_cell cL_cell 2 (some .int) :: ([])
def wsL_law_r1 : List Cond := [Cond.classLink RL 7 RX2, Cond.instantiable RX2 5, Cond.initialized RX2, Cond.classLink RL 18 RX3, Cond.instantiable RX3 11, Cond.initialized RX3, Cond.methodLink RL 9 yL_cell, Cond.static yL_cell, Cond.initialized RL, Cond.code yL_cell cL_cell 2 (some .int), Cond.methodLink RL 15 yX2_init, Cond.instanceMethod yX2_init, Cond.code yX2_init cX2_init 3 none, Cond.methodLink RX2 1 objectInit, Cond.instanceMethod objectInit, Cond.code objectInit ⟨#[0xb1]⟩ 1 none, Cond.methodLink RX2 9 Lib.Math.min.name, Cond.static Lib.Math.min.name, Cond.initialized "java/lang/Math", Cond.code Lib.Math.min.name Lib.Math.min.code 2 (some .int), Cond.methodLink RX2 15 Lib.Math.max.name, Cond.static Lib.Math.max.name, Cond.code Lib.Math.max.name Lib.Math.max.code 2 (some .int), Cond.fieldLink RX2 18 "ModEngine" "limbs" "I"]
def wsL_law_r2 : List Cond := [Cond.fieldLink RX2 22 "ModEngine" "count" "I", Cond.classLink RX2 25 "[[I", Cond.arrayClass .int, Cond.fieldLink RX2 27 "ModEngine" "registers" "[[I", Cond.classLink RX2 30 RX1, Cond.instantiable RX1 12, Cond.initialized RX1, Cond.fieldLink RX2 35 "ModEngine" "ring" "LModEngine$Ring;", Cond.fieldLink RX2 39 "ModEngine" "isReady" "Z", Cond.methodLink RX2 32 yX1_init, Cond.instanceMethod yX1_init, Cond.code yX1_init cX1_init 2 none, Cond.methodLink RX1 3 objectInit, Cond.fieldLink RX1 9 "ModEngine$Ring" "k" "I", Cond.fieldLink RX1 15 "ModEngine$Ring" "bits" "I", Cond.fieldLink RX1 18 "ModEngine$Ring" "modulus" "[I", Cond.fieldLink RX1 22 "ModEngine$Ring" "one" "[I", Cond.fieldLink RX1 25 "ModEngine$Ring" "unit" "[I", Cond.fieldLink RX1 28 "ModEngine$Ring" "rSquared" "[I", Cond.fieldLink RX1 31 "ModEngine$Ring" "running" "[I", Cond.fieldLink RX1 34 "ModEngine$Ring" "left" "[I", Cond.fieldLink RX1 37 "ModEngine$Ring" "right" "[I", Cond.fieldLink RX1 40 "ModEngine$Ring" "leftShare" "[I", Cond.fieldLink RX1 43 "ModEngine$Ring" "rightShare" "[I"]
def wsL_law_r3 : List Cond := [Cond.fieldLink RX1 46 "ModEngine$Ring" "minusInverse" "I", Cond.methodLink RL 20 yX3_init, Cond.instanceMethod yX3_init, Cond.code yX3_init cX3_init 3 none, Cond.methodLink RX3 1 objectInit, Cond.arrayClass .long, Cond.fieldLink RX3 7 "ModEngineModel" "held" "[J", Cond.fieldLink RX3 13 "ModEngineModel" "modulus" "[J", Cond.fieldLink RX3 16 "ModEngineModel" "first" "[J", Cond.fieldLink RX3 19 "ModEngineModel" "second" "[J", Cond.fieldLink RX3 22 "ModEngineModel" "result" "[J", Cond.fieldLink RX3 25 "ModEngineModel" "factor" "[J", Cond.fieldLink RX3 28 "ModEngineModel" "base" "[J", Cond.fieldLink RX3 31 "ModEngineModel" "power" "[J", Cond.fieldLink RX3 38 "ModEngineModel" "limbs" "I", Cond.fieldLink RX3 42 "ModEngineModel" "registers" "I", Cond.methodLink RX3 34 yX3_within, Cond.static yX3_within, Cond.code yX3_within cX3_within 1 (some .int), Cond.methodLink RL 21 yX2_pokeMod, Cond.instanceMethod yX2_pokeMod, Cond.selects RX2 yX2_pokeMod yX2_pokeMod, Cond.code yX2_pokeMod cX2_pokeMod 3 (some .boolean), Cond.fieldLink RX2 47 "ModEngine$Ring" "modulus" "[I"]
def wsL_law_r4 : List Cond := [Cond.methodLink RX2 43 yX2_hasLimb, Cond.instanceMethod yX2_hasLimb, Cond.selects RX2 yX2_hasLimb yX2_hasLimb, Cond.code yX2_hasLimb cX2_hasLimb 2 (some .boolean), Cond.methodLink RL 25 yX3_pokeMod, Cond.instanceMethod yX3_pokeMod, Cond.selects RX3 yX3_pokeMod yX3_pokeMod, Cond.code yX3_pokeMod cX3_pokeMod 3 (some .boolean), Cond.constantLong RX3 53 (4294967295), Cond.fieldLink RX3 55 "ModEngineModel" "isReady" "Z", Cond.methodLink RX3 45 yX3_isLimb, Cond.instanceMethod yX3_isLimb, Cond.selects RX3 yX3_isLimb yX3_isLimb, Cond.code yX3_isLimb cX3_isLimb 2 (some .boolean), Cond.methodLink RX3 49 yX3_placeOfModulus, Cond.instanceMethod yX3_placeOfModulus, Cond.selects RX3 yX3_placeOfModulus yX3_placeOfModulus, Cond.code yX3_placeOfModulus cX3_placeOfModulus 1 (some .int), Cond.methodLink RL 26 yX2_peekMod, Cond.instanceMethod yX2_peekMod, Cond.selects RX2 yX2_peekMod yX2_peekMod, Cond.code yX2_peekMod cX2_peekMod 2 (some .int), Cond.methodLink RL 30 yX3_peekMod, Cond.instanceMethod yX3_peekMod]
def wsL_law_r5 : List Cond := [Cond.selects RX3 yX3_peekMod yX3_peekMod, Cond.code yX3_peekMod cX3_peekMod 2 (some .int), Cond.methodLink RL 31 yX2_init_, Cond.instanceMethod yX2_init_, Cond.selects RX2 yX2_init_ yX2_init_, Cond.code yX2_init_ cX2_init_ 1 (some .int), Cond.methodLink RX2 51 yX1_hasFitModulus, Cond.instanceMethod yX1_hasFitModulus, Cond.selects RX1 yX1_hasFitModulus yX1_hasFitModulus, Cond.code yX1_hasFitModulus cX1_hasFitModulus 1 (some .boolean), Cond.methodLink RX1 49 yX0_isOdd, Cond.static yX0_isOdd, Cond.initialized RX0, Cond.code yX0_isOdd cX0_isOdd 1 (some .boolean), Cond.methodLink RX1 55 yX0_isSmall, Cond.static yX0_isSmall, Cond.code yX0_isSmall cX0_isSmall 4 (some .boolean), Cond.methodLink RX2 55 yX1_prepare, Cond.instanceMethod yX1_prepare, Cond.selects RX1 yX1_prepare yX1_prepare, Cond.code yX1_prepare cX1_prepare 1 none, Cond.methodLink RX1 59 yX1_inverseOfLimb, Cond.static yX1_inverseOfLimb, Cond.code yX1_inverseOfLimb cX1_inverseOfLimb 3 (some .int)]
def wsL_law_r6 : List Cond := [Cond.methodLink RX1 63 yX0_copy, Cond.static yX0_copy, Cond.code yX0_copy cX0_copy 4 none, Cond.methodLink RX1 67 yX1_doubleOften, Cond.instanceMethod yX1_doubleOften, Cond.selects RX1 yX1_doubleOften yX1_doubleOften, Cond.code yX1_doubleOften cX1_doubleOften 3 none, Cond.methodLink RX1 79 yX1_addBelow, Cond.instanceMethod yX1_addBelow, Cond.selects RX1 yX1_addBelow yX1_addBelow, Cond.code yX1_addBelow cX1_addBelow 6 none, Cond.methodLink RX1 141 yX0_add, Cond.static yX0_add, Cond.code yX0_add cX0_add 7 (some .long), Cond.constantLong RX0 15 (4294967295), Cond.methodLink RX1 115 yX1_bringBelow, Cond.instanceMethod yX1_bringBelow, Cond.selects RX1 yX1_bringBelow yX1_bringBelow, Cond.code yX1_bringBelow cX1_bringBelow 4 none, Cond.methodLink RX1 103 yX0_order, Cond.static yX0_order, Cond.code yX0_order cX0_order 4 (some .int), Cond.methodLink RX1 137 yX0_subtract, Cond.static yX0_subtract]
def wsL_law_r7 : List Cond := [Cond.code yX0_subtract cX0_subtract 7 (some .boolean), Cond.methodLink RL 35 yX3_init_, Cond.instanceMethod yX3_init_, Cond.selects RX3 yX3_init_ yX3_init_, Cond.code yX3_init_ cX3_init_ 3 (some .int), Cond.constantLong RX3 63 (2), Cond.constantLong RX3 65 (3), Cond.methodLink RX3 59 yX3_read, Cond.instanceMethod yX3_read, Cond.selects RX3 yX3_read yX3_read, Cond.code yX3_read cX3_read 4 none, Cond.methodLink RL 36 yX2_ready, Cond.instanceMethod yX2_ready, Cond.selects RX2 yX2_ready yX2_ready, Cond.code yX2_ready cX2_ready 1 (some .boolean), Cond.methodLink RL 40 yX3_ready, Cond.instanceMethod yX3_ready, Cond.selects RX3 yX3_ready yX3_ready, Cond.code yX3_ready cX3_ready 1 (some .boolean), Cond.methodLink RL 41 yX2_poke, Cond.instanceMethod yX2_poke, Cond.selects RX2 yX2_poke yX2_poke, Cond.code yX2_poke cX2_poke 4 (some .boolean), Cond.methodLink RX2 58 yX2_hasRegister]
def wsL_law_r8 : List Cond := [Cond.instanceMethod yX2_hasRegister, Cond.selects RX2 yX2_hasRegister yX2_hasRegister, Cond.code yX2_hasRegister cX2_hasRegister 2 (some .boolean), Cond.methodLink RL 45 yX3_poke, Cond.instanceMethod yX3_poke, Cond.selects RX3 yX3_poke yX3_poke, Cond.code yX3_poke cX3_poke 4 (some .boolean), Cond.methodLink RX3 67 yX3_isRegister, Cond.instanceMethod yX3_isRegister, Cond.selects RX3 yX3_isRegister yX3_isRegister, Cond.code yX3_isRegister cX3_isRegister 2 (some .boolean), Cond.methodLink RX3 70 yX3_placeOf, Cond.instanceMethod yX3_placeOf, Cond.selects RX3 yX3_placeOf yX3_placeOf, Cond.code yX3_placeOf cX3_placeOf 2 (some .int), Cond.methodLink RL 46 yX2_peek, Cond.instanceMethod yX2_peek, Cond.selects RX2 yX2_peek yX2_peek, Cond.code yX2_peek cX2_peek 3 (some .int), Cond.methodLink RL 50 yX3_peek, Cond.instanceMethod yX3_peek, Cond.selects RX3 yX3_peek yX3_peek, Cond.code yX3_peek cX3_peek 3 (some .int), Cond.methodLink RL 51 yX2_reduce]
def wsL_law_r9 : List Cond := [Cond.instanceMethod yX2_reduce, Cond.selects RX2 yX2_reduce yX2_reduce, Cond.code yX2_reduce cX2_reduce 2 (some .boolean), Cond.methodLink RX2 61 yX1_residue, Cond.instanceMethod yX1_residue, Cond.selects RX1 yX1_residue yX1_residue, Cond.code yX1_residue cX1_residue 3 none, Cond.methodLink RX1 71 yX1_montgomery, Cond.instanceMethod yX1_montgomery, Cond.selects RX1 yX1_montgomery yX1_montgomery, Cond.code yX1_montgomery cX1_montgomery 7 none, Cond.methodLink RX1 92 yX0_setSmall, Cond.static yX0_setSmall, Cond.code yX0_setSmall cX0_setSmall 4 none, Cond.methodLink RX1 107 yX0_addMultiple, Cond.static yX0_addMultiple, Cond.code yX0_addMultiple cX0_addMultiple 9 (some .long), Cond.methodLink RX1 111 yX0_dropLimb, Cond.static yX0_dropLimb, Cond.code yX0_dropLimb cX0_dropLimb 5 (some .long), Cond.methodLink RL 55 yX3_reduce, Cond.instanceMethod yX3_reduce, Cond.selects RX3 yX3_reduce yX3_reduce, Cond.code yX3_reduce cX3_reduce 2 (some .boolean)]
def wsL_law_r10 : List Cond := [Cond.methodLink RX3 108 yX3_isAsked, Cond.instanceMethod yX3_isAsked, Cond.selects RX3 yX3_isAsked yX3_isAsked, Cond.code yX3_isAsked cX3_isAsked 4 (some .boolean), Cond.methodLink RX3 112 yX3_takes, Cond.instanceMethod yX3_takes, Cond.selects RX3 yX3_takes yX3_takes, Cond.code yX3_takes cX3_takes 3 none, Cond.methodLink RX3 105 yX3_rest, Cond.instanceMethod yX3_rest, Cond.selects RX3 yX3_rest yX3_rest, Cond.code yX3_rest cX3_rest 3 none, Cond.methodLink RX3 84 yX3_copy, Cond.static yX3_copy, Cond.code yX3_copy cX3_copy 3 none, Cond.methodLink RX3 87 yX3_be, Cond.static yX3_be, Cond.code yX3_be cX3_be 4 none, Cond.methodLink RX3 91 yX3_bits, Cond.instanceMethod yX3_bits, Cond.selects RX3 yX3_bits yX3_bits, Cond.code yX3_bits cX3_bits 1 (some .int), Cond.methodLink RX3 73 yX3_plus, Cond.static yX3_plus]
def wsL_law_r11 : List Cond := [Cond.code yX3_plus cX3_plus 7 none, Cond.methodLink RX3 94 yX3_bit, Cond.static yX3_bit, Cond.code yX3_bit cX3_bit 2 (some .boolean), Cond.methodLink RX3 77 yX3_compared, Cond.static yX3_compared, Cond.code yX3_compared cX3_compared 3 (some .int), Cond.methodLink RX3 81 yX3_minus, Cond.static yX3_minus, Cond.code yX3_minus cX3_minus 7 none, Cond.methodLink RX3 116 yX3_write, Cond.instanceMethod yX3_write, Cond.selects RX3 yX3_write yX3_write, Cond.code yX3_write cX3_write 4 none, Cond.methodLink RL 56 yX2_addMod, Cond.instanceMethod yX2_addMod, Cond.selects RX2 yX2_addMod yX2_addMod, Cond.code yX2_addMod cX2_addMod 4 (some .boolean), Cond.methodLink RX2 65 yX2_canWork, Cond.instanceMethod yX2_canWork, Cond.selects RX2 yX2_canWork yX2_canWork, Cond.code yX2_canWork cX2_canWork 4 (some .boolean), Cond.methodLink RX2 69 yX1_sum, Cond.instanceMethod yX1_sum]
def wsL_law_r12 : List Cond := [Cond.selects RX1 yX1_sum yX1_sum, Cond.code yX1_sum cX1_sum 4 none, Cond.methodLink RX1 75 yX1_residue, Cond.methodLink RL 59 yX3_addMod, Cond.instanceMethod yX3_addMod, Cond.selects RX3 yX3_addMod yX3_addMod, Cond.code yX3_addMod cX3_addMod 4 (some .boolean), Cond.methodLink RX3 98 yX3_sum, Cond.instanceMethod yX3_sum, Cond.selects RX3 yX3_sum yX3_sum, Cond.code yX3_sum cX3_sum 3 none, Cond.methodLink RL 60 yX2_subMod, Cond.instanceMethod yX2_subMod, Cond.selects RX2 yX2_subMod yX2_subMod, Cond.code yX2_subMod cX2_subMod 4 (some .boolean), Cond.methodLink RX2 73 yX1_difference, Cond.instanceMethod yX1_difference, Cond.selects RX1 yX1_difference yX1_difference, Cond.code yX1_difference cX1_difference 4 none, Cond.methodLink RX1 82 yX1_subtractBelow, Cond.instanceMethod yX1_subtractBelow, Cond.selects RX1 yX1_subtractBelow yX1_subtractBelow, Cond.code yX1_subtractBelow cX1_subtractBelow 4 none, Cond.methodLink RL 63 yX3_subMod]
def wsL_law_r13 : List Cond := [Cond.instanceMethod yX3_subMod, Cond.selects RX3 yX3_subMod yX3_subMod, Cond.code yX3_subMod cX3_subMod 4 (some .boolean), Cond.methodLink RX3 120 yX3_difference, Cond.instanceMethod yX3_difference, Cond.selects RX3 yX3_difference yX3_difference, Cond.code yX3_difference cX3_difference 3 none, Cond.methodLink RL 64 yX2_mulMod, Cond.instanceMethod yX2_mulMod, Cond.selects RX2 yX2_mulMod yX2_mulMod, Cond.code yX2_mulMod cX2_mulMod 4 (some .boolean), Cond.methodLink RX2 76 yX1_product, Cond.instanceMethod yX1_product, Cond.selects RX1 yX1_product yX1_product, Cond.code yX1_product cX1_product 4 none, Cond.methodLink RL 67 yX3_mulMod, Cond.instanceMethod yX3_mulMod, Cond.selects RX3 yX3_mulMod yX3_mulMod, Cond.code yX3_mulMod cX3_mulMod 4 (some .boolean), Cond.methodLink RX3 123 yX3_product, Cond.instanceMethod yX3_product, Cond.selects RX3 yX3_product yX3_product, Cond.code yX3_product cX3_product 4 none, Cond.methodLink RL 68 yX2_montMod]
def wsL_law_r14 : List Cond := [Cond.instanceMethod yX2_montMod, Cond.selects RX2 yX2_montMod yX2_montMod, Cond.code yX2_montMod cX2_montMod 4 (some .boolean), Cond.methodLink RX2 79 yX1_productByR, Cond.instanceMethod yX1_productByR, Cond.selects RX1 yX1_productByR yX1_productByR, Cond.code yX1_productByR cX1_productByR 4 none, Cond.methodLink RX1 85 yX1_product, Cond.methodLink RL 71 yX3_montMod, Cond.instanceMethod yX3_montMod, Cond.selects RX3 yX3_montMod yX3_montMod, Cond.code yX3_montMod cX3_montMod 5 (some .boolean), Cond.methodLink RX3 126 yX3_halfOf, Cond.instanceMethod yX3_halfOf, Cond.selects RX3 yX3_halfOf yX3_halfOf, Cond.code yX3_halfOf cX3_halfOf 2 none, Cond.methodLink RX3 101 yX3_half, Cond.static yX3_half, Cond.code yX3_half cX3_half 6 none, Cond.methodLink RL 72 yX2_powMod, Cond.instanceMethod yX2_powMod, Cond.selects RX2 yX2_powMod yX2_powMod, Cond.code yX2_powMod cX2_powMod 4 (some .boolean), Cond.methodLink RX2 82 yX1_power]
def wsL_law_r15 : List Cond := [Cond.instanceMethod yX1_power, Cond.selects RX1 yX1_power yX1_power, Cond.code yX1_power cX1_power 4 none, Cond.methodLink RX1 88 yX1_raise, Cond.instanceMethod yX1_raise, Cond.selects RX1 yX1_raise yX1_raise, Cond.code yX1_raise cX1_raise 6 none, Cond.methodLink RX1 119 yX0_highestBit, Cond.static yX0_highestBit, Cond.code yX0_highestBit cX0_highestBit 3 (some .int), Cond.methodLink RX0 9 yX0_isBitSet, Cond.static yX0_isBitSet, Cond.code yX0_isBitSet cX0_isBitSet 2 (some .boolean), Cond.methodLink RX1 123 yX0_isBitSet, Cond.methodLink RL 75 yX3_powMod, Cond.instanceMethod yX3_powMod, Cond.selects RX3 yX3_powMod yX3_powMod, Cond.code yX3_powMod cX3_powMod 4 (some .boolean), Cond.methodLink RX3 129 yX3_raise, Cond.instanceMethod yX3_raise, Cond.selects RX3 yX3_raise yX3_raise, Cond.code yX3_raise cX3_raise 3 none, Cond.methodLink RL 76 yX2_invMod, Cond.instanceMethod yX2_invMod]
def wsL_law_r16 : List Cond := [Cond.selects RX2 yX2_invMod yX2_invMod, Cond.code yX2_invMod cX2_invMod 3 (some .int), Cond.methodLink RX2 85 yX1_invert, Cond.instanceMethod yX1_invert, Cond.selects RX1 yX1_invert yX1_invert, Cond.code yX1_invert cX1_invert 5 (some .boolean), Cond.methodLink RX1 96 yX1_stepTowardsDivisor, Cond.instanceMethod yX1_stepTowardsDivisor, Cond.selects RX1 yX1_stepTowardsDivisor yX1_stepTowardsDivisor, Cond.code yX1_stepTowardsDivisor cX1_stepTowardsDivisor 1 none, Cond.methodLink RX1 127 yX0_halve, Cond.static yX0_halve, Cond.code yX0_halve cX0_halve 9 none, Cond.methodLink RX1 131 yX1_halveBelow, Cond.instanceMethod yX1_halveBelow, Cond.selects RX1 yX1_halveBelow yX1_halveBelow, Cond.code yX1_halveBelow cX1_halveBelow 4 none, Cond.methodLink RX1 134 yX0_swap, Cond.static yX0_swap, Cond.code yX0_swap cX0_swap 5 none, Cond.methodLink RL 79 yX3_invMod, Cond.instanceMethod yX3_invMod, Cond.selects RX3 yX3_invMod yX3_invMod, Cond.code yX3_invMod cX3_invMod 3 (some .int)]
def wsL_law_r17 : List Cond := [Cond.methodLink RX3 132 yX3_isNought, Cond.static yX3_isNought, Cond.code yX3_isNought cX3_isNought 3 (some .boolean), Cond.methodLink RX3 136 yX3_isOne, Cond.static yX3_isOne, Cond.code yX3_isOne cX3_isOne 3 (some .boolean), Cond.methodLink RL 80 yX2_witness, Cond.instanceMethod yX2_witness, Cond.selects RX2 yX2_witness yX2_witness, Cond.code yX2_witness cX2_witness 2 (some .int), Cond.methodLink RX2 89 yX1_isProvedCompositeBy, Cond.instanceMethod yX1_isProvedCompositeBy, Cond.selects RX1 yX1_isProvedCompositeBy yX1_isProvedCompositeBy, Cond.code yX1_isProvedCompositeBy cX1_isProvedCompositeBy 5 (some .boolean), Cond.methodLink RX1 99 yX1_twosInModulusLessOne, Cond.instanceMethod yX1_twosInModulusLessOne, Cond.selects RX1 yX1_twosInModulusLessOne yX1_twosInModulusLessOne, Cond.code yX1_twosInModulusLessOne cX1_twosInModulusLessOne 2 (some .int), Cond.methodLink RL 83 yX3_witness, Cond.instanceMethod yX3_witness, Cond.selects RX3 yX3_witness yX3_witness, Cond.code yX3_witness cX3_witness 4 (some .int), Cond.methodLink RL 84 yX2_compare, Cond.instanceMethod yX2_compare]
def wsL_law_r18 : List Cond := [Cond.selects RX2 yX2_compare yX2_compare, Cond.code yX2_compare cX2_compare 3 (some .int), Cond.methodLink RX2 93 yX0_order, Cond.methodLink RL 87 yX3_compare, Cond.instanceMethod yX3_compare, Cond.selects RX3 yX3_compare yX3_compare, Cond.code yX3_compare cX3_compare 3 (some .int)]
def wsL_law : List Cond := (wsL_law_r1 ++ (wsL_law_r2 ++ (wsL_law_r3 ++ (wsL_law_r4 ++ (wsL_law_r5 ++ (wsL_law_r6 ++ (wsL_law_r7 ++ (wsL_law_r8 ++ (wsL_law_r9 ++ (wsL_law_r10 ++ (wsL_law_r11 ++ (wsL_law_r12 ++ (wsL_law_r13 ++ (wsL_law_r14 ++ (wsL_law_r15 ++ (wsL_law_r16 ++ (wsL_law_r17 ++ wsL_law_r18))))))))))))))))) ++ wsX20 ++ wsX30 ++ wsX10 ++ ([] : List Cond)
set_option maxRecDepth 20000 in
theorem wsL_law_in : ∀ w ∈ wsL_law, w ∈ lw_tbl := fun w h => (goodIn_p wsL_law [307, 37, 40, 43, 46, 53, 312, 316, 113, 117, 355, 359, 363, 121, 368, 125, 129, 132, 135, 139, 142, 145, 149, 153, 156, 161, 164, 167, 372, 376, 171, 382, 175, 179, 386, 390, 394, 183, 398, 187, 191, 195, 198, 201, 204, 402, 406, 410, 414, 417, 420, 424, 427, 430, 433, 436, 440, 208, 212, 216, 444, 448, 221, 225, 229, 452, 456, 233, 237, 460, 464, 241, 245, 468, 472, 475, 250, 254, 258, 261, 264, 479, 483, 269, 273, 277, 280, 284, 287, 487, 490, 493, 291, 295, 299, 497, 303, 501] (by decide +kernel) (by decide +kernel) w h).1
theorem inX0 : ∀ w ∈ wsX00, w ∈ lw_tbl := by decide +kernel
theorem inlX1 : ∀ w ∈ wsX10, w ∈ wsL_law := fun _ h => List.mem_append_left _ (List.mem_append_right _ h)
theorem inX1 : ∀ w ∈ wsX10, w ∈ lw_tbl := fun w h => wsL_law_in w (inlX1 w h)
theorem inlX2 : ∀ w ∈ wsX20, w ∈ wsL_law := fun _ h => List.mem_append_left _ (List.mem_append_left _ (List.mem_append_left _ (List.mem_append_right _ h)))
theorem inX2 : ∀ w ∈ wsX20, w ∈ lw_tbl := fun w h => wsL_law_in w (inlX2 w h)
theorem inlX3 : ∀ w ∈ wsX30, w ∈ wsL_law := fun _ h => List.mem_append_left _ (List.mem_append_left _ (List.mem_append_right _ h))
theorem inX3 : ∀ w ∈ wsX30, w ∈ lw_tbl := fun w h => wsL_law_in w (inlX3 w h)
theorem inJ9 : ∀ w ∈ wsJ90, w ∈ lw_tbl := by decide +kernel
theorem dX0_copy_0 : decode cX0_copy 0 = .ok (.iconst 0, 1) := by decide +kernel
theorem dX0_copy_1 : decode cX0_copy 1 = .ok (.istore_n 3, 1) := by decide +kernel
theorem dX0_copy_2 : decode cX0_copy 2 = .ok (.iload_n 3, 1) := by decide +kernel
theorem dX0_copy_3 : decode cX0_copy 3 = .ok (.iload_n 2, 1) := by decide +kernel
theorem dX0_copy_4 : decode cX0_copy 4 = .ok (.if_icmp .ge 15, 3) := by decide +kernel
theorem dX0_copy_7 : decode cX0_copy 7 = .ok (.aload_n 0, 1) := by decide +kernel
theorem dX0_copy_8 : decode cX0_copy 8 = .ok (.iload_n 3, 1) := by decide +kernel
theorem dX0_copy_9 : decode cX0_copy 9 = .ok (.aload_n 1, 1) := by decide +kernel
theorem dX0_copy_10 : decode cX0_copy 10 = .ok (.iload_n 3, 1) := by decide +kernel
theorem dX0_copy_11 : decode cX0_copy 11 = .ok (.iaload, 1) := by decide +kernel
theorem dX0_copy_12 : decode cX0_copy 12 = .ok (.iastore, 1) := by decide +kernel
theorem dX0_copy_13 : decode cX0_copy 13 = .ok (.iinc 3 1, 3) := by decide +kernel
theorem dX0_copy_16 : decode cX0_copy 16 = .ok (.goto (-14), 3) := by decide +kernel
theorem dX0_copy_19 : decode cX0_copy 19 = .ok (.return_, 1) := by decide +kernel
theorem dX0_swap_0 : decode cX0_swap 0 = .ok (.iconst 0, 1) := by decide +kernel
theorem dX0_swap_1 : decode cX0_swap 1 = .ok (.istore_n 3, 1) := by decide +kernel
theorem dX0_swap_2 : decode cX0_swap 2 = .ok (.iload_n 3, 1) := by decide +kernel
theorem dX0_swap_3 : decode cX0_swap 3 = .ok (.iload_n 2, 1) := by decide +kernel
theorem dX0_swap_4 : decode cX0_swap 4 = .ok (.if_icmp .ge 25, 3) := by decide +kernel
theorem dX0_swap_7 : decode cX0_swap 7 = .ok (.aload_n 0, 1) := by decide +kernel
theorem dX0_swap_8 : decode cX0_swap 8 = .ok (.iload_n 3, 1) := by decide +kernel
theorem dX0_swap_9 : decode cX0_swap 9 = .ok (.iaload, 1) := by decide +kernel
theorem dX0_swap_10 : decode cX0_swap 10 = .ok (.istore 4, 2) := by decide +kernel
theorem dX0_swap_12 : decode cX0_swap 12 = .ok (.aload_n 0, 1) := by decide +kernel
theorem dX0_swap_13 : decode cX0_swap 13 = .ok (.iload_n 3, 1) := by decide +kernel
theorem dX0_swap_14 : decode cX0_swap 14 = .ok (.aload_n 1, 1) := by decide +kernel
theorem dX0_swap_15 : decode cX0_swap 15 = .ok (.iload_n 3, 1) := by decide +kernel
theorem dX0_swap_16 : decode cX0_swap 16 = .ok (.iaload, 1) := by decide +kernel
theorem dX0_swap_17 : decode cX0_swap 17 = .ok (.iastore, 1) := by decide +kernel
theorem dX0_swap_18 : decode cX0_swap 18 = .ok (.aload_n 1, 1) := by decide +kernel
theorem dX0_swap_19 : decode cX0_swap 19 = .ok (.iload_n 3, 1) := by decide +kernel
theorem dX0_swap_20 : decode cX0_swap 20 = .ok (.iload 4, 2) := by decide +kernel
theorem dX0_swap_22 : decode cX0_swap 22 = .ok (.iastore, 1) := by decide +kernel
theorem dX0_swap_23 : decode cX0_swap 23 = .ok (.iinc 3 1, 3) := by decide +kernel
theorem dX0_swap_26 : decode cX0_swap 26 = .ok (.goto (-24), 3) := by decide +kernel
theorem dX0_swap_29 : decode cX0_swap 29 = .ok (.return_, 1) := by decide +kernel
theorem dX0_setSmall_0 : decode cX0_setSmall 0 = .ok (.iconst 1, 1) := by decide +kernel
theorem dX0_setSmall_1 : decode cX0_setSmall 1 = .ok (.istore_n 3, 1) := by decide +kernel
theorem dX0_setSmall_2 : decode cX0_setSmall 2 = .ok (.iload_n 3, 1) := by decide +kernel
theorem dX0_setSmall_3 : decode cX0_setSmall 3 = .ok (.iload_n 2, 1) := by decide +kernel
theorem dX0_setSmall_4 : decode cX0_setSmall 4 = .ok (.if_icmp .ge 13, 3) := by decide +kernel
theorem dX0_setSmall_7 : decode cX0_setSmall 7 = .ok (.aload_n 0, 1) := by decide +kernel
theorem dX0_setSmall_8 : decode cX0_setSmall 8 = .ok (.iload_n 3, 1) := by decide +kernel
theorem dX0_setSmall_9 : decode cX0_setSmall 9 = .ok (.iconst 0, 1) := by decide +kernel
theorem dX0_setSmall_10 : decode cX0_setSmall 10 = .ok (.iastore, 1) := by decide +kernel
theorem dX0_setSmall_11 : decode cX0_setSmall 11 = .ok (.iinc 3 1, 3) := by decide +kernel
theorem dX0_setSmall_14 : decode cX0_setSmall 14 = .ok (.goto (-12), 3) := by decide +kernel
theorem dX0_setSmall_17 : decode cX0_setSmall 17 = .ok (.aload_n 0, 1) := by decide +kernel
theorem dX0_setSmall_18 : decode cX0_setSmall 18 = .ok (.iconst 0, 1) := by decide +kernel
theorem dX0_setSmall_19 : decode cX0_setSmall 19 = .ok (.iload_n 1, 1) := by decide +kernel
theorem dX0_setSmall_20 : decode cX0_setSmall 20 = .ok (.iastore, 1) := by decide +kernel
theorem dX0_setSmall_21 : decode cX0_setSmall 21 = .ok (.return_, 1) := by decide +kernel
theorem dX0_isSmall_0 : decode cX0_isSmall 0 = .ok (.iconst 1, 1) := by decide +kernel
theorem dX0_isSmall_1 : decode cX0_isSmall 1 = .ok (.istore_n 3, 1) := by decide +kernel
theorem dX0_isSmall_2 : decode cX0_isSmall 2 = .ok (.iload_n 3, 1) := by decide +kernel
theorem dX0_isSmall_3 : decode cX0_isSmall 3 = .ok (.iload_n 2, 1) := by decide +kernel
theorem dX0_isSmall_4 : decode cX0_isSmall 4 = .ok (.if_icmp .ge 17, 3) := by decide +kernel
theorem dX0_isSmall_7 : decode cX0_isSmall 7 = .ok (.aload_n 0, 1) := by decide +kernel
theorem dX0_isSmall_8 : decode cX0_isSmall 8 = .ok (.iload_n 3, 1) := by decide +kernel
theorem dX0_isSmall_9 : decode cX0_isSmall 9 = .ok (.iaload, 1) := by decide +kernel
theorem dX0_isSmall_10 : decode cX0_isSmall 10 = .ok (.ifCond .eq 5, 3) := by decide +kernel
theorem dX0_isSmall_13 : decode cX0_isSmall 13 = .ok (.iconst 0, 1) := by decide +kernel
theorem dX0_isSmall_14 : decode cX0_isSmall 14 = .ok (.ireturn, 1) := by decide +kernel
theorem dX0_isSmall_15 : decode cX0_isSmall 15 = .ok (.iinc 3 1, 3) := by decide +kernel
theorem dX0_isSmall_18 : decode cX0_isSmall 18 = .ok (.goto (-16), 3) := by decide +kernel
theorem dX0_isSmall_21 : decode cX0_isSmall 21 = .ok (.aload_n 0, 1) := by decide +kernel
theorem dX0_isSmall_22 : decode cX0_isSmall 22 = .ok (.iconst 0, 1) := by decide +kernel
theorem dX0_isSmall_23 : decode cX0_isSmall 23 = .ok (.iaload, 1) := by decide +kernel
theorem dX0_isSmall_24 : decode cX0_isSmall 24 = .ok (.iload_n 1, 1) := by decide +kernel
theorem dX0_isSmall_25 : decode cX0_isSmall 25 = .ok (.if_icmp .ne 7, 3) := by decide +kernel
theorem dX0_isSmall_28 : decode cX0_isSmall 28 = .ok (.iconst 1, 1) := by decide +kernel
theorem dX0_isSmall_29 : decode cX0_isSmall 29 = .ok (.goto 4, 3) := by decide +kernel
theorem dX0_isSmall_32 : decode cX0_isSmall 32 = .ok (.iconst 0, 1) := by decide +kernel
theorem dX0_isSmall_33 : decode cX0_isSmall 33 = .ok (.ireturn, 1) := by decide +kernel
theorem dX0_isOdd_0 : decode cX0_isOdd 0 = .ok (.aload_n 0, 1) := by decide +kernel
theorem dX0_isOdd_1 : decode cX0_isOdd 1 = .ok (.iconst 0, 1) := by decide +kernel
theorem dX0_isOdd_2 : decode cX0_isOdd 2 = .ok (.iaload, 1) := by decide +kernel
theorem dX0_isOdd_3 : decode cX0_isOdd 3 = .ok (.iconst 1, 1) := by decide +kernel
theorem dX0_isOdd_4 : decode cX0_isOdd 4 = .ok (.iand, 1) := by decide +kernel
theorem dX0_isOdd_5 : decode cX0_isOdd 5 = .ok (.ifCond .eq 7, 3) := by decide +kernel
theorem dX0_isOdd_8 : decode cX0_isOdd 8 = .ok (.iconst 1, 1) := by decide +kernel
theorem dX0_isOdd_9 : decode cX0_isOdd 9 = .ok (.goto 4, 3) := by decide +kernel
theorem dX0_isOdd_12 : decode cX0_isOdd 12 = .ok (.iconst 0, 1) := by decide +kernel
theorem dX0_isOdd_13 : decode cX0_isOdd 13 = .ok (.ireturn, 1) := by decide +kernel
theorem dX0_isBitSet_0 : decode cX0_isBitSet 0 = .ok (.aload_n 0, 1) := by decide +kernel
theorem dX0_isBitSet_1 : decode cX0_isBitSet 1 = .ok (.iload_n 1, 1) := by decide +kernel
theorem dX0_isBitSet_2 : decode cX0_isBitSet 2 = .ok (.bipush 32, 2) := by decide +kernel
theorem dX0_isBitSet_4 : decode cX0_isBitSet 4 = .ok (.idiv, 1) := by decide +kernel
theorem dX0_isBitSet_5 : decode cX0_isBitSet 5 = .ok (.iaload, 1) := by decide +kernel
theorem dX0_isBitSet_6 : decode cX0_isBitSet 6 = .ok (.iload_n 1, 1) := by decide +kernel
theorem dX0_isBitSet_7 : decode cX0_isBitSet 7 = .ok (.bipush 32, 2) := by decide +kernel
theorem dX0_isBitSet_9 : decode cX0_isBitSet 9 = .ok (.irem, 1) := by decide +kernel
theorem dX0_isBitSet_10 : decode cX0_isBitSet 10 = .ok (.iushr, 1) := by decide +kernel
theorem dX0_isBitSet_11 : decode cX0_isBitSet 11 = .ok (.iconst 1, 1) := by decide +kernel
theorem dX0_isBitSet_12 : decode cX0_isBitSet 12 = .ok (.iand, 1) := by decide +kernel
theorem dX0_isBitSet_13 : decode cX0_isBitSet 13 = .ok (.ifCond .eq 7, 3) := by decide +kernel
theorem dX0_isBitSet_16 : decode cX0_isBitSet 16 = .ok (.iconst 1, 1) := by decide +kernel
theorem dX0_isBitSet_17 : decode cX0_isBitSet 17 = .ok (.goto 4, 3) := by decide +kernel
theorem dX0_isBitSet_20 : decode cX0_isBitSet 20 = .ok (.iconst 0, 1) := by decide +kernel
theorem dX0_isBitSet_21 : decode cX0_isBitSet 21 = .ok (.ireturn, 1) := by decide +kernel
set_option maxRecDepth 20000 in
theorem ggX0_highestBit_X0_isBitSet : GoodIn wsX0_highestBit wsX0_isBitSet := goodIn_r _ [4] (by decide +kernel) (by decide +kernel)
set_option maxRecDepth 20000 in
theorem gX0_highestBit_X0_isBitSet : GoodIn wsX0_highestBit (va_wsS RX0 9 yX0_isBitSet wsX0_isBitSet) := goodIn_app (goodIn_of _ (by decide +kernel)) ggX0_highestBit_X0_isBitSet
theorem dX0_highestBit_0 : decode cX0_highestBit 0 = .ok (.iload_n 1, 1) := by decide +kernel
theorem dX0_highestBit_1 : decode cX0_highestBit 1 = .ok (.bipush 32, 2) := by decide +kernel
theorem dX0_highestBit_3 : decode cX0_highestBit 3 = .ok (.imul, 1) := by decide +kernel
theorem dX0_highestBit_4 : decode cX0_highestBit 4 = .ok (.iconst 1, 1) := by decide +kernel
theorem dX0_highestBit_5 : decode cX0_highestBit 5 = .ok (.isub, 1) := by decide +kernel
theorem dX0_highestBit_6 : decode cX0_highestBit 6 = .ok (.istore_n 2, 1) := by decide +kernel
theorem dX0_highestBit_7 : decode cX0_highestBit 7 = .ok (.iload_n 2, 1) := by decide +kernel
theorem dX0_highestBit_8 : decode cX0_highestBit 8 = .ok (.ifCond .lt 19, 3) := by decide +kernel
theorem dX0_highestBit_11 : decode cX0_highestBit 11 = .ok (.aload_n 0, 1) := by decide +kernel
theorem dX0_highestBit_12 : decode cX0_highestBit 12 = .ok (.iload_n 2, 1) := by decide +kernel
theorem dX0_highestBit_13 : decode cX0_highestBit 13 = .ok (.invokestatic 9, 3) := by decide +kernel
theorem dX0_highestBit_16 : decode cX0_highestBit 16 = .ok (.ifCond .eq 5, 3) := by decide +kernel
theorem dX0_highestBit_19 : decode cX0_highestBit 19 = .ok (.iload_n 2, 1) := by decide +kernel
theorem dX0_highestBit_20 : decode cX0_highestBit 20 = .ok (.ireturn, 1) := by decide +kernel
theorem dX0_highestBit_21 : decode cX0_highestBit 21 = .ok (.iinc 2 (-1), 3) := by decide +kernel
theorem dX0_highestBit_24 : decode cX0_highestBit 24 = .ok (.goto (-17), 3) := by decide +kernel
theorem dX0_highestBit_27 : decode cX0_highestBit 27 = .ok (.iconst (-1), 1) := by decide +kernel
theorem dX0_highestBit_28 : decode cX0_highestBit 28 = .ok (.ireturn, 1) := by decide +kernel
theorem dX0_order_0 : decode cX0_order 0 = .ok (.iload_n 2, 1) := by decide +kernel
theorem dX0_order_1 : decode cX0_order 1 = .ok (.iconst 1, 1) := by decide +kernel
theorem dX0_order_2 : decode cX0_order 2 = .ok (.isub, 1) := by decide +kernel
theorem dX0_order_3 : decode cX0_order 3 = .ok (.istore_n 3, 1) := by decide +kernel
theorem dX0_order_4 : decode cX0_order 4 = .ok (.iload_n 3, 1) := by decide +kernel
theorem dX0_order_5 : decode cX0_order 5 = .ok (.ifCond .lt 44, 3) := by decide +kernel
theorem dX0_order_8 : decode cX0_order 8 = .ok (.aload_n 0, 1) := by decide +kernel
theorem dX0_order_9 : decode cX0_order 9 = .ok (.iload_n 3, 1) := by decide +kernel
theorem dX0_order_10 : decode cX0_order 10 = .ok (.iaload, 1) := by decide +kernel
theorem dX0_order_11 : decode cX0_order 11 = .ok (.aload_n 1, 1) := by decide +kernel
theorem dX0_order_12 : decode cX0_order 12 = .ok (.iload_n 3, 1) := by decide +kernel
theorem dX0_order_13 : decode cX0_order 13 = .ok (.iaload, 1) := by decide +kernel
theorem dX0_order_14 : decode cX0_order 14 = .ok (.if_icmp .eq 29, 3) := by decide +kernel
theorem dX0_order_17 : decode cX0_order 17 = .ok (.aload_n 0, 1) := by decide +kernel
theorem dX0_order_18 : decode cX0_order 18 = .ok (.iload_n 3, 1) := by decide +kernel
theorem dX0_order_19 : decode cX0_order 19 = .ok (.iaload, 1) := by decide +kernel
theorem dX0_order_20 : decode cX0_order 20 = .ok (.i2l, 1) := by decide +kernel
theorem dX0_order_21 : decode cX0_order 21 = .ok (.ldc2_w 15, 3) := by decide +kernel
theorem dX0_order_24 : decode cX0_order 24 = .ok (.land, 1) := by decide +kernel
theorem dX0_order_25 : decode cX0_order 25 = .ok (.aload_n 1, 1) := by decide +kernel
theorem dX0_order_26 : decode cX0_order 26 = .ok (.iload_n 3, 1) := by decide +kernel
theorem dX0_order_27 : decode cX0_order 27 = .ok (.iaload, 1) := by decide +kernel
theorem dX0_order_28 : decode cX0_order 28 = .ok (.i2l, 1) := by decide +kernel
theorem dX0_order_29 : decode cX0_order 29 = .ok (.ldc2_w 15, 3) := by decide +kernel
theorem dX0_order_32 : decode cX0_order 32 = .ok (.land, 1) := by decide +kernel
theorem dX0_order_33 : decode cX0_order 33 = .ok (.lcmp, 1) := by decide +kernel
theorem dX0_order_34 : decode cX0_order 34 = .ok (.ifCond .ge 7, 3) := by decide +kernel
theorem dX0_order_37 : decode cX0_order 37 = .ok (.iconst (-1), 1) := by decide +kernel
theorem dX0_order_38 : decode cX0_order 38 = .ok (.goto 4, 3) := by decide +kernel
theorem dX0_order_41 : decode cX0_order 41 = .ok (.iconst 1, 1) := by decide +kernel
theorem dX0_order_42 : decode cX0_order 42 = .ok (.ireturn, 1) := by decide +kernel
theorem dX0_order_43 : decode cX0_order 43 = .ok (.iinc 3 (-1), 3) := by decide +kernel
theorem dX0_order_46 : decode cX0_order 46 = .ok (.goto (-42), 3) := by decide +kernel
theorem dX0_order_49 : decode cX0_order 49 = .ok (.iconst 0, 1) := by decide +kernel
theorem dX0_order_50 : decode cX0_order 50 = .ok (.ireturn, 1) := by decide +kernel
theorem dX0_add_0 : decode cX0_add 0 = .ok (.lconst 0, 1) := by decide +kernel
theorem dX0_add_1 : decode cX0_add 1 = .ok (.lstore 4, 2) := by decide +kernel
theorem dX0_add_3 : decode cX0_add 3 = .ok (.iconst 0, 1) := by decide +kernel
theorem dX0_add_4 : decode cX0_add 4 = .ok (.istore 6, 2) := by decide +kernel
theorem dX0_add_6 : decode cX0_add 6 = .ok (.iload 6, 2) := by decide +kernel
theorem dX0_add_8 : decode cX0_add 8 = .ok (.iload_n 3, 1) := by decide +kernel
theorem dX0_add_9 : decode cX0_add 9 = .ok (.if_icmp .ge 47, 3) := by decide +kernel
theorem dX0_add_12 : decode cX0_add 12 = .ok (.lload 4, 2) := by decide +kernel
theorem dX0_add_14 : decode cX0_add 14 = .ok (.aload_n 1, 1) := by decide +kernel
theorem dX0_add_15 : decode cX0_add 15 = .ok (.iload 6, 2) := by decide +kernel
theorem dX0_add_17 : decode cX0_add 17 = .ok (.iaload, 1) := by decide +kernel
theorem dX0_add_18 : decode cX0_add 18 = .ok (.i2l, 1) := by decide +kernel
theorem dX0_add_19 : decode cX0_add 19 = .ok (.ldc2_w 15, 3) := by decide +kernel
theorem dX0_add_22 : decode cX0_add 22 = .ok (.land, 1) := by decide +kernel
theorem dX0_add_23 : decode cX0_add 23 = .ok (.aload_n 2, 1) := by decide +kernel
theorem dX0_add_24 : decode cX0_add 24 = .ok (.iload 6, 2) := by decide +kernel
theorem dX0_add_26 : decode cX0_add 26 = .ok (.iaload, 1) := by decide +kernel
theorem dX0_add_27 : decode cX0_add 27 = .ok (.i2l, 1) := by decide +kernel
theorem dX0_add_28 : decode cX0_add 28 = .ok (.ldc2_w 15, 3) := by decide +kernel
theorem dX0_add_31 : decode cX0_add 31 = .ok (.land, 1) := by decide +kernel
theorem dX0_add_32 : decode cX0_add 32 = .ok (.ladd, 1) := by decide +kernel
theorem dX0_add_33 : decode cX0_add 33 = .ok (.ladd, 1) := by decide +kernel
theorem dX0_add_34 : decode cX0_add 34 = .ok (.lstore 4, 2) := by decide +kernel
theorem dX0_add_36 : decode cX0_add 36 = .ok (.aload_n 0, 1) := by decide +kernel
theorem dX0_add_37 : decode cX0_add 37 = .ok (.iload 6, 2) := by decide +kernel
theorem dX0_add_39 : decode cX0_add 39 = .ok (.lload 4, 2) := by decide +kernel
theorem dX0_add_41 : decode cX0_add 41 = .ok (.l2i, 1) := by decide +kernel
theorem dX0_add_42 : decode cX0_add 42 = .ok (.iastore, 1) := by decide +kernel
theorem dX0_add_43 : decode cX0_add 43 = .ok (.lload 4, 2) := by decide +kernel
theorem dX0_add_45 : decode cX0_add 45 = .ok (.bipush 32, 2) := by decide +kernel
theorem dX0_add_47 : decode cX0_add 47 = .ok (.lushr, 1) := by decide +kernel
theorem dX0_add_48 : decode cX0_add 48 = .ok (.lstore 4, 2) := by decide +kernel
theorem dX0_add_50 : decode cX0_add 50 = .ok (.iinc 6 1, 3) := by decide +kernel
theorem dX0_add_53 : decode cX0_add 53 = .ok (.goto (-47), 3) := by decide +kernel
theorem dX0_add_56 : decode cX0_add 56 = .ok (.lload 4, 2) := by decide +kernel
theorem dX0_add_58 : decode cX0_add 58 = .ok (.lreturn, 1) := by decide +kernel
theorem dX0_subtract_0 : decode cX0_subtract 0 = .ok (.lconst 0, 1) := by decide +kernel
theorem dX0_subtract_1 : decode cX0_subtract 1 = .ok (.lstore 4, 2) := by decide +kernel
theorem dX0_subtract_3 : decode cX0_subtract 3 = .ok (.iconst 0, 1) := by decide +kernel
theorem dX0_subtract_4 : decode cX0_subtract 4 = .ok (.istore 6, 2) := by decide +kernel
theorem dX0_subtract_6 : decode cX0_subtract 6 = .ok (.iload 6, 2) := by decide +kernel
theorem dX0_subtract_8 : decode cX0_subtract 8 = .ok (.iload_n 3, 1) := by decide +kernel
theorem dX0_subtract_9 : decode cX0_subtract 9 = .ok (.if_icmp .ge 47, 3) := by decide +kernel
theorem dX0_subtract_12 : decode cX0_subtract 12 = .ok (.lload 4, 2) := by decide +kernel
theorem dX0_subtract_14 : decode cX0_subtract 14 = .ok (.aload_n 1, 1) := by decide +kernel
theorem dX0_subtract_15 : decode cX0_subtract 15 = .ok (.iload 6, 2) := by decide +kernel
theorem dX0_subtract_17 : decode cX0_subtract 17 = .ok (.iaload, 1) := by decide +kernel
theorem dX0_subtract_18 : decode cX0_subtract 18 = .ok (.i2l, 1) := by decide +kernel
theorem dX0_subtract_19 : decode cX0_subtract 19 = .ok (.ldc2_w 15, 3) := by decide +kernel
theorem dX0_subtract_22 : decode cX0_subtract 22 = .ok (.land, 1) := by decide +kernel
theorem dX0_subtract_23 : decode cX0_subtract 23 = .ok (.aload_n 2, 1) := by decide +kernel
theorem dX0_subtract_24 : decode cX0_subtract 24 = .ok (.iload 6, 2) := by decide +kernel
theorem dX0_subtract_26 : decode cX0_subtract 26 = .ok (.iaload, 1) := by decide +kernel
theorem dX0_subtract_27 : decode cX0_subtract 27 = .ok (.i2l, 1) := by decide +kernel
theorem dX0_subtract_28 : decode cX0_subtract 28 = .ok (.ldc2_w 15, 3) := by decide +kernel
theorem dX0_subtract_31 : decode cX0_subtract 31 = .ok (.land, 1) := by decide +kernel
theorem dX0_subtract_32 : decode cX0_subtract 32 = .ok (.lsub, 1) := by decide +kernel
theorem dX0_subtract_33 : decode cX0_subtract 33 = .ok (.ladd, 1) := by decide +kernel
theorem dX0_subtract_34 : decode cX0_subtract 34 = .ok (.lstore 4, 2) := by decide +kernel
theorem dX0_subtract_36 : decode cX0_subtract 36 = .ok (.aload_n 0, 1) := by decide +kernel
theorem dX0_subtract_37 : decode cX0_subtract 37 = .ok (.iload 6, 2) := by decide +kernel
theorem dX0_subtract_39 : decode cX0_subtract 39 = .ok (.lload 4, 2) := by decide +kernel
theorem dX0_subtract_41 : decode cX0_subtract 41 = .ok (.l2i, 1) := by decide +kernel
theorem dX0_subtract_42 : decode cX0_subtract 42 = .ok (.iastore, 1) := by decide +kernel
theorem dX0_subtract_43 : decode cX0_subtract 43 = .ok (.lload 4, 2) := by decide +kernel
theorem dX0_subtract_45 : decode cX0_subtract 45 = .ok (.bipush 32, 2) := by decide +kernel
theorem dX0_subtract_47 : decode cX0_subtract 47 = .ok (.lshr, 1) := by decide +kernel
theorem dX0_subtract_48 : decode cX0_subtract 48 = .ok (.lstore 4, 2) := by decide +kernel
theorem dX0_subtract_50 : decode cX0_subtract 50 = .ok (.iinc 6 1, 3) := by decide +kernel
theorem dX0_subtract_53 : decode cX0_subtract 53 = .ok (.goto (-47), 3) := by decide +kernel
theorem dX0_subtract_56 : decode cX0_subtract 56 = .ok (.lload 4, 2) := by decide +kernel
theorem dX0_subtract_58 : decode cX0_subtract 58 = .ok (.lconst 0, 1) := by decide +kernel
theorem dX0_subtract_59 : decode cX0_subtract 59 = .ok (.lcmp, 1) := by decide +kernel
theorem dX0_subtract_60 : decode cX0_subtract 60 = .ok (.ifCond .eq 7, 3) := by decide +kernel
theorem dX0_subtract_63 : decode cX0_subtract 63 = .ok (.iconst 1, 1) := by decide +kernel
theorem dX0_subtract_64 : decode cX0_subtract 64 = .ok (.goto 4, 3) := by decide +kernel
theorem dX0_subtract_67 : decode cX0_subtract 67 = .ok (.iconst 0, 1) := by decide +kernel
theorem dX0_subtract_68 : decode cX0_subtract 68 = .ok (.ireturn, 1) := by decide +kernel
theorem dX0_addMultiple_0 : decode cX0_addMultiple 0 = .ok (.iload_n 2, 1) := by decide +kernel
theorem dX0_addMultiple_1 : decode cX0_addMultiple 1 = .ok (.i2l, 1) := by decide +kernel
theorem dX0_addMultiple_2 : decode cX0_addMultiple 2 = .ok (.ldc2_w 15, 3) := by decide +kernel
theorem dX0_addMultiple_5 : decode cX0_addMultiple 5 = .ok (.land, 1) := by decide +kernel
theorem dX0_addMultiple_6 : decode cX0_addMultiple 6 = .ok (.lstore 4, 2) := by decide +kernel
theorem dX0_addMultiple_8 : decode cX0_addMultiple 8 = .ok (.lconst 0, 1) := by decide +kernel
theorem dX0_addMultiple_9 : decode cX0_addMultiple 9 = .ok (.lstore 6, 2) := by decide +kernel
theorem dX0_addMultiple_11 : decode cX0_addMultiple 11 = .ok (.iconst 0, 1) := by decide +kernel
theorem dX0_addMultiple_12 : decode cX0_addMultiple 12 = .ok (.istore 8, 2) := by decide +kernel
theorem dX0_addMultiple_14 : decode cX0_addMultiple 14 = .ok (.iload 8, 2) := by decide +kernel
theorem dX0_addMultiple_16 : decode cX0_addMultiple 16 = .ok (.iload_n 3, 1) := by decide +kernel
theorem dX0_addMultiple_17 : decode cX0_addMultiple 17 = .ok (.if_icmp .ge 50, 3) := by decide +kernel
theorem dX0_addMultiple_20 : decode cX0_addMultiple 20 = .ok (.lload 6, 2) := by decide +kernel
theorem dX0_addMultiple_22 : decode cX0_addMultiple 22 = .ok (.lload 4, 2) := by decide +kernel
theorem dX0_addMultiple_24 : decode cX0_addMultiple 24 = .ok (.aload_n 1, 1) := by decide +kernel
theorem dX0_addMultiple_25 : decode cX0_addMultiple 25 = .ok (.iload 8, 2) := by decide +kernel
theorem dX0_addMultiple_27 : decode cX0_addMultiple 27 = .ok (.iaload, 1) := by decide +kernel
theorem dX0_addMultiple_28 : decode cX0_addMultiple 28 = .ok (.i2l, 1) := by decide +kernel
theorem dX0_addMultiple_29 : decode cX0_addMultiple 29 = .ok (.ldc2_w 15, 3) := by decide +kernel
theorem dX0_addMultiple_32 : decode cX0_addMultiple 32 = .ok (.land, 1) := by decide +kernel
theorem dX0_addMultiple_33 : decode cX0_addMultiple 33 = .ok (.lmul, 1) := by decide +kernel
theorem dX0_addMultiple_34 : decode cX0_addMultiple 34 = .ok (.aload_n 0, 1) := by decide +kernel
theorem dX0_addMultiple_35 : decode cX0_addMultiple 35 = .ok (.iload 8, 2) := by decide +kernel
theorem dX0_addMultiple_37 : decode cX0_addMultiple 37 = .ok (.iaload, 1) := by decide +kernel
theorem dX0_addMultiple_38 : decode cX0_addMultiple 38 = .ok (.i2l, 1) := by decide +kernel
theorem dX0_addMultiple_39 : decode cX0_addMultiple 39 = .ok (.ldc2_w 15, 3) := by decide +kernel
theorem dX0_addMultiple_42 : decode cX0_addMultiple 42 = .ok (.land, 1) := by decide +kernel
theorem dX0_addMultiple_43 : decode cX0_addMultiple 43 = .ok (.ladd, 1) := by decide +kernel
theorem dX0_addMultiple_44 : decode cX0_addMultiple 44 = .ok (.ladd, 1) := by decide +kernel
theorem dX0_addMultiple_45 : decode cX0_addMultiple 45 = .ok (.lstore 6, 2) := by decide +kernel
theorem dX0_addMultiple_47 : decode cX0_addMultiple 47 = .ok (.aload_n 0, 1) := by decide +kernel
theorem dX0_addMultiple_48 : decode cX0_addMultiple 48 = .ok (.iload 8, 2) := by decide +kernel
theorem dX0_addMultiple_50 : decode cX0_addMultiple 50 = .ok (.lload 6, 2) := by decide +kernel
theorem dX0_addMultiple_52 : decode cX0_addMultiple 52 = .ok (.l2i, 1) := by decide +kernel
theorem dX0_addMultiple_53 : decode cX0_addMultiple 53 = .ok (.iastore, 1) := by decide +kernel
theorem dX0_addMultiple_54 : decode cX0_addMultiple 54 = .ok (.lload 6, 2) := by decide +kernel
theorem dX0_addMultiple_56 : decode cX0_addMultiple 56 = .ok (.bipush 32, 2) := by decide +kernel
theorem dX0_addMultiple_58 : decode cX0_addMultiple 58 = .ok (.lushr, 1) := by decide +kernel
theorem dX0_addMultiple_59 : decode cX0_addMultiple 59 = .ok (.lstore 6, 2) := by decide +kernel
theorem dX0_addMultiple_61 : decode cX0_addMultiple 61 = .ok (.iinc 8 1, 3) := by decide +kernel
theorem dX0_addMultiple_64 : decode cX0_addMultiple 64 = .ok (.goto (-50), 3) := by decide +kernel
theorem dX0_addMultiple_67 : decode cX0_addMultiple 67 = .ok (.lload 6, 2) := by decide +kernel
theorem dX0_addMultiple_69 : decode cX0_addMultiple 69 = .ok (.lreturn, 1) := by decide +kernel
theorem dX0_dropLimb_0 : decode cX0_dropLimb 0 = .ok (.iconst 1, 1) := by decide +kernel
theorem dX0_dropLimb_1 : decode cX0_dropLimb 1 = .ok (.istore 4, 2) := by decide +kernel
theorem dX0_dropLimb_3 : decode cX0_dropLimb 3 = .ok (.iload 4, 2) := by decide +kernel
theorem dX0_dropLimb_5 : decode cX0_dropLimb 5 = .ok (.iload_n 3, 1) := by decide +kernel
theorem dX0_dropLimb_6 : decode cX0_dropLimb 6 = .ok (.if_icmp .ge 19, 3) := by decide +kernel
theorem dX0_dropLimb_9 : decode cX0_dropLimb 9 = .ok (.aload_n 0, 1) := by decide +kernel
theorem dX0_dropLimb_10 : decode cX0_dropLimb 10 = .ok (.iload 4, 2) := by decide +kernel
theorem dX0_dropLimb_12 : decode cX0_dropLimb 12 = .ok (.iconst 1, 1) := by decide +kernel
theorem dX0_dropLimb_13 : decode cX0_dropLimb 13 = .ok (.isub, 1) := by decide +kernel
theorem dX0_dropLimb_14 : decode cX0_dropLimb 14 = .ok (.aload_n 0, 1) := by decide +kernel
theorem dX0_dropLimb_15 : decode cX0_dropLimb 15 = .ok (.iload 4, 2) := by decide +kernel
theorem dX0_dropLimb_17 : decode cX0_dropLimb 17 = .ok (.iaload, 1) := by decide +kernel
theorem dX0_dropLimb_18 : decode cX0_dropLimb 18 = .ok (.iastore, 1) := by decide +kernel
theorem dX0_dropLimb_19 : decode cX0_dropLimb 19 = .ok (.iinc 4 1, 3) := by decide +kernel
theorem dX0_dropLimb_22 : decode cX0_dropLimb 22 = .ok (.goto (-19), 3) := by decide +kernel
theorem dX0_dropLimb_25 : decode cX0_dropLimb 25 = .ok (.aload_n 0, 1) := by decide +kernel
theorem dX0_dropLimb_26 : decode cX0_dropLimb 26 = .ok (.iload_n 3, 1) := by decide +kernel
theorem dX0_dropLimb_27 : decode cX0_dropLimb 27 = .ok (.iconst 1, 1) := by decide +kernel
theorem dX0_dropLimb_28 : decode cX0_dropLimb 28 = .ok (.isub, 1) := by decide +kernel
theorem dX0_dropLimb_29 : decode cX0_dropLimb 29 = .ok (.lload_n 1, 1) := by decide +kernel
theorem dX0_dropLimb_30 : decode cX0_dropLimb 30 = .ok (.l2i, 1) := by decide +kernel
theorem dX0_dropLimb_31 : decode cX0_dropLimb 31 = .ok (.iastore, 1) := by decide +kernel
theorem dX0_dropLimb_32 : decode cX0_dropLimb 32 = .ok (.lload_n 1, 1) := by decide +kernel
theorem dX0_dropLimb_33 : decode cX0_dropLimb 33 = .ok (.bipush 32, 2) := by decide +kernel
theorem dX0_dropLimb_35 : decode cX0_dropLimb 35 = .ok (.lushr, 1) := by decide +kernel
theorem dX0_dropLimb_36 : decode cX0_dropLimb 36 = .ok (.lreturn, 1) := by decide +kernel
theorem dX0_halve_0 : decode cX0_halve 0 = .ok (.lload_n 1, 1) := by decide +kernel
theorem dX0_halve_1 : decode cX0_halve 1 = .ok (.lstore 4, 2) := by decide +kernel
theorem dX0_halve_3 : decode cX0_halve 3 = .ok (.iload_n 3, 1) := by decide +kernel
theorem dX0_halve_4 : decode cX0_halve 4 = .ok (.iconst 1, 1) := by decide +kernel
theorem dX0_halve_5 : decode cX0_halve 5 = .ok (.isub, 1) := by decide +kernel
theorem dX0_halve_6 : decode cX0_halve 6 = .ok (.istore 6, 2) := by decide +kernel
theorem dX0_halve_8 : decode cX0_halve 8 = .ok (.iload 6, 2) := by decide +kernel
theorem dX0_halve_10 : decode cX0_halve 10 = .ok (.ifCond .lt 41, 3) := by decide +kernel
theorem dX0_halve_13 : decode cX0_halve 13 = .ok (.lload 4, 2) := by decide +kernel
theorem dX0_halve_15 : decode cX0_halve 15 = .ok (.bipush 32, 2) := by decide +kernel
theorem dX0_halve_17 : decode cX0_halve 17 = .ok (.lshl, 1) := by decide +kernel
theorem dX0_halve_18 : decode cX0_halve 18 = .ok (.aload_n 0, 1) := by decide +kernel
theorem dX0_halve_19 : decode cX0_halve 19 = .ok (.iload 6, 2) := by decide +kernel
theorem dX0_halve_21 : decode cX0_halve 21 = .ok (.iaload, 1) := by decide +kernel
theorem dX0_halve_22 : decode cX0_halve 22 = .ok (.i2l, 1) := by decide +kernel
theorem dX0_halve_23 : decode cX0_halve 23 = .ok (.ldc2_w 15, 3) := by decide +kernel
theorem dX0_halve_26 : decode cX0_halve 26 = .ok (.land, 1) := by decide +kernel
theorem dX0_halve_27 : decode cX0_halve 27 = .ok (.lor, 1) := by decide +kernel
theorem dX0_halve_28 : decode cX0_halve 28 = .ok (.lstore 7, 2) := by decide +kernel
theorem dX0_halve_30 : decode cX0_halve 30 = .ok (.aload_n 0, 1) := by decide +kernel
theorem dX0_halve_31 : decode cX0_halve 31 = .ok (.iload 6, 2) := by decide +kernel
theorem dX0_halve_33 : decode cX0_halve 33 = .ok (.lload 7, 2) := by decide +kernel
theorem dX0_halve_35 : decode cX0_halve 35 = .ok (.iconst 1, 1) := by decide +kernel
theorem dX0_halve_36 : decode cX0_halve 36 = .ok (.lushr, 1) := by decide +kernel
theorem dX0_halve_37 : decode cX0_halve 37 = .ok (.l2i, 1) := by decide +kernel
theorem dX0_halve_38 : decode cX0_halve 38 = .ok (.iastore, 1) := by decide +kernel
theorem dX0_halve_39 : decode cX0_halve 39 = .ok (.lload 7, 2) := by decide +kernel
theorem dX0_halve_41 : decode cX0_halve 41 = .ok (.lconst 1, 1) := by decide +kernel
theorem dX0_halve_42 : decode cX0_halve 42 = .ok (.land, 1) := by decide +kernel
theorem dX0_halve_43 : decode cX0_halve 43 = .ok (.lstore 4, 2) := by decide +kernel
theorem dX0_halve_45 : decode cX0_halve 45 = .ok (.iinc 6 (-1), 3) := by decide +kernel
theorem dX0_halve_48 : decode cX0_halve 48 = .ok (.goto (-40), 3) := by decide +kernel
theorem dX0_halve_51 : decode cX0_halve 51 = .ok (.return_, 1) := by decide +kernel
theorem dX1_init_0 : decode cX1_init 0 = .ok (.aload_n 0, 1) := by decide +kernel
theorem dX1_init_1 : decode cX1_init 1 = .ok (.invokespecial 3, 3) := by decide +kernel
theorem dX1_init_4 : decode cX1_init 4 = .ok (.aload_n 0, 1) := by decide +kernel
theorem dX1_init_5 : decode cX1_init 5 = .ok (.iload_n 1, 1) := by decide +kernel
theorem dX1_init_6 : decode cX1_init 6 = .ok (.putfield 9, 3) := by decide +kernel
theorem dX1_init_9 : decode cX1_init 9 = .ok (.aload_n 0, 1) := by decide +kernel
theorem dX1_init_10 : decode cX1_init 10 = .ok (.iload_n 1, 1) := by decide +kernel
theorem dX1_init_11 : decode cX1_init 11 = .ok (.bipush 32, 2) := by decide +kernel
theorem dX1_init_13 : decode cX1_init 13 = .ok (.imul, 1) := by decide +kernel
theorem dX1_init_14 : decode cX1_init 14 = .ok (.putfield 15, 3) := by decide +kernel
theorem dX1_init_17 : decode cX1_init 17 = .ok (.aload_n 0, 1) := by decide +kernel
theorem dX1_init_18 : decode cX1_init 18 = .ok (.iload_n 1, 1) := by decide +kernel
theorem dX1_init_19 : decode cX1_init 19 = .ok (.newarray .int, 2) := by decide +kernel
theorem dX1_init_21 : decode cX1_init 21 = .ok (.putfield 18, 3) := by decide +kernel
theorem dX1_init_24 : decode cX1_init 24 = .ok (.aload_n 0, 1) := by decide +kernel
theorem dX1_init_25 : decode cX1_init 25 = .ok (.iload_n 1, 1) := by decide +kernel
theorem dX1_init_26 : decode cX1_init 26 = .ok (.newarray .int, 2) := by decide +kernel
theorem dX1_init_28 : decode cX1_init 28 = .ok (.putfield 22, 3) := by decide +kernel
theorem dX1_init_31 : decode cX1_init 31 = .ok (.aload_n 0, 1) := by decide +kernel
theorem dX1_init_32 : decode cX1_init 32 = .ok (.getfield 22, 3) := by decide +kernel
theorem dX1_init_35 : decode cX1_init 35 = .ok (.iconst 0, 1) := by decide +kernel
theorem dX1_init_36 : decode cX1_init 36 = .ok (.iconst 1, 1) := by decide +kernel
theorem dX1_init_37 : decode cX1_init 37 = .ok (.iastore, 1) := by decide +kernel
theorem dX1_init_38 : decode cX1_init 38 = .ok (.aload_n 0, 1) := by decide +kernel
theorem dX1_init_39 : decode cX1_init 39 = .ok (.iload_n 1, 1) := by decide +kernel
theorem dX1_init_40 : decode cX1_init 40 = .ok (.newarray .int, 2) := by decide +kernel
theorem dX1_init_42 : decode cX1_init 42 = .ok (.putfield 25, 3) := by decide +kernel
theorem dX1_init_45 : decode cX1_init 45 = .ok (.aload_n 0, 1) := by decide +kernel
theorem dX1_init_46 : decode cX1_init 46 = .ok (.iload_n 1, 1) := by decide +kernel
theorem dX1_init_47 : decode cX1_init 47 = .ok (.newarray .int, 2) := by decide +kernel
theorem dX1_init_49 : decode cX1_init 49 = .ok (.putfield 28, 3) := by decide +kernel
theorem dX1_init_52 : decode cX1_init 52 = .ok (.aload_n 0, 1) := by decide +kernel
theorem dX1_init_53 : decode cX1_init 53 = .ok (.iload_n 1, 1) := by decide +kernel
theorem dX1_init_54 : decode cX1_init 54 = .ok (.newarray .int, 2) := by decide +kernel
theorem dX1_init_56 : decode cX1_init 56 = .ok (.putfield 31, 3) := by decide +kernel
theorem dX1_init_59 : decode cX1_init 59 = .ok (.aload_n 0, 1) := by decide +kernel
theorem dX1_init_60 : decode cX1_init 60 = .ok (.iload_n 1, 1) := by decide +kernel
theorem dX1_init_61 : decode cX1_init 61 = .ok (.newarray .int, 2) := by decide +kernel
theorem dX1_init_63 : decode cX1_init 63 = .ok (.putfield 34, 3) := by decide +kernel
theorem dX1_init_66 : decode cX1_init 66 = .ok (.aload_n 0, 1) := by decide +kernel
theorem dX1_init_67 : decode cX1_init 67 = .ok (.iload_n 1, 1) := by decide +kernel
theorem dX1_init_68 : decode cX1_init 68 = .ok (.newarray .int, 2) := by decide +kernel
theorem dX1_init_70 : decode cX1_init 70 = .ok (.putfield 37, 3) := by decide +kernel
theorem dX1_init_73 : decode cX1_init 73 = .ok (.aload_n 0, 1) := by decide +kernel
theorem dX1_init_74 : decode cX1_init 74 = .ok (.iload_n 1, 1) := by decide +kernel
theorem dX1_init_75 : decode cX1_init 75 = .ok (.newarray .int, 2) := by decide +kernel
theorem dX1_init_77 : decode cX1_init 77 = .ok (.putfield 40, 3) := by decide +kernel
theorem dX1_init_80 : decode cX1_init 80 = .ok (.aload_n 0, 1) := by decide +kernel
theorem dX1_init_81 : decode cX1_init 81 = .ok (.iload_n 1, 1) := by decide +kernel
theorem dX1_init_82 : decode cX1_init 82 = .ok (.newarray .int, 2) := by decide +kernel
theorem dX1_init_84 : decode cX1_init 84 = .ok (.putfield 43, 3) := by decide +kernel
theorem dX1_init_87 : decode cX1_init 87 = .ok (.aload_n 0, 1) := by decide +kernel
theorem dX1_init_88 : decode cX1_init 88 = .ok (.iconst 0, 1) := by decide +kernel
theorem dX1_init_89 : decode cX1_init 89 = .ok (.putfield 46, 3) := by decide +kernel
theorem dX1_init_92 : decode cX1_init 92 = .ok (.return_, 1) := by decide +kernel
set_option maxRecDepth 20000 in
theorem ggX1_hasFitModulus_X0_isOdd : GoodIn wsX1_hasFitModulus wsX0_isOdd := goodIn_r _ [6] (by decide +kernel) (by decide +kernel)
set_option maxRecDepth 20000 in
theorem gX1_hasFitModulus_X0_isOdd : GoodIn wsX1_hasFitModulus (va_wsS RX1 49 yX0_isOdd wsX0_isOdd) := goodIn_app (goodIn_of _ (by decide +kernel)) ggX1_hasFitModulus_X0_isOdd
set_option maxRecDepth 20000 in
theorem ggX1_hasFitModulus_X0_isSmall : GoodIn wsX1_hasFitModulus wsX0_isSmall := goodIn_r _ [9] (by decide +kernel) (by decide +kernel)
set_option maxRecDepth 20000 in
theorem gX1_hasFitModulus_X0_isSmall : GoodIn wsX1_hasFitModulus (va_wsS RX1 55 yX0_isSmall wsX0_isSmall) := goodIn_app (goodIn_of _ (by decide +kernel)) ggX1_hasFitModulus_X0_isSmall
theorem dX1_hasFitModulus_0 : decode cX1_hasFitModulus 0 = .ok (.aload_n 0, 1) := by decide +kernel
theorem dX1_hasFitModulus_1 : decode cX1_hasFitModulus 1 = .ok (.getfield 18, 3) := by decide +kernel
theorem dX1_hasFitModulus_4 : decode cX1_hasFitModulus 4 = .ok (.invokestatic 49, 3) := by decide +kernel
theorem dX1_hasFitModulus_7 : decode cX1_hasFitModulus 7 = .ok (.ifCond .eq 22, 3) := by decide +kernel
theorem dX1_hasFitModulus_10 : decode cX1_hasFitModulus 10 = .ok (.aload_n 0, 1) := by decide +kernel
theorem dX1_hasFitModulus_11 : decode cX1_hasFitModulus 11 = .ok (.getfield 18, 3) := by decide +kernel
theorem dX1_hasFitModulus_14 : decode cX1_hasFitModulus 14 = .ok (.iconst 1, 1) := by decide +kernel
theorem dX1_hasFitModulus_15 : decode cX1_hasFitModulus 15 = .ok (.aload_n 0, 1) := by decide +kernel
theorem dX1_hasFitModulus_16 : decode cX1_hasFitModulus 16 = .ok (.getfield 9, 3) := by decide +kernel
theorem dX1_hasFitModulus_19 : decode cX1_hasFitModulus 19 = .ok (.invokestatic 55, 3) := by decide +kernel
theorem dX1_hasFitModulus_22 : decode cX1_hasFitModulus 22 = .ok (.ifCond .ne 7, 3) := by decide +kernel
theorem dX1_hasFitModulus_25 : decode cX1_hasFitModulus 25 = .ok (.iconst 1, 1) := by decide +kernel
theorem dX1_hasFitModulus_26 : decode cX1_hasFitModulus 26 = .ok (.goto 4, 3) := by decide +kernel
theorem dX1_hasFitModulus_29 : decode cX1_hasFitModulus 29 = .ok (.iconst 0, 1) := by decide +kernel
theorem dX1_hasFitModulus_30 : decode cX1_hasFitModulus 30 = .ok (.ireturn, 1) := by decide +kernel
set_option maxRecDepth 20000 in
theorem ggX1_prepare_X1_inverseOfLimb : GoodIn wsX1_prepare wsX1_inverseOfLimb := goodIn_r _ [10] (by decide +kernel) (by decide +kernel)
set_option maxRecDepth 20000 in
theorem gX1_prepare_X1_inverseOfLimb : GoodIn wsX1_prepare (va_wsS RX1 59 yX1_inverseOfLimb wsX1_inverseOfLimb) := goodIn_app (goodIn_of _ (by decide +kernel)) ggX1_prepare_X1_inverseOfLimb
set_option maxRecDepth 20000 in
theorem ggX1_prepare_X0_copy : GoodIn wsX1_prepare wsX0_copy := goodIn_r _ [14] (by decide +kernel) (by decide +kernel)
set_option maxRecDepth 20000 in
theorem gX1_prepare_X0_copy : GoodIn wsX1_prepare (va_wsS RX1 63 yX0_copy wsX0_copy) := goodIn_app (goodIn_of _ (by decide +kernel)) ggX1_prepare_X0_copy
set_option maxRecDepth 20000 in
theorem ggX1_prepare_X1_doubleOften : GoodIn wsX1_prepare wsX1_doubleOften := goodIn_r _ [18, 19, 20, 21, 22, 9, 23, 5, 24, 25, 13, 26, 27, 28, 29, 30, 31, 1, 32, 33, 34, 35, 36, 37, 38, 39, 40, 41, 42, 43, 44, 45, 46, 47, 48, 49] (by decide +kernel) (by decide +kernel)
set_option maxRecDepth 20000 in
theorem gX1_prepare_X1_doubleOften : GoodIn wsX1_prepare (wsV RX1 67 RX1 yX1_doubleOften wsX1_doubleOften) := goodIn_app (goodIn_of _ (by decide +kernel)) ggX1_prepare_X1_doubleOften
theorem dX1_prepare_0 : decode cX1_prepare 0 = .ok (.aload_n 0, 1) := by decide +kernel
theorem dX1_prepare_1 : decode cX1_prepare 1 = .ok (.aload_n 0, 1) := by decide +kernel
theorem dX1_prepare_2 : decode cX1_prepare 2 = .ok (.getfield 18, 3) := by decide +kernel
theorem dX1_prepare_5 : decode cX1_prepare 5 = .ok (.iconst 0, 1) := by decide +kernel
theorem dX1_prepare_6 : decode cX1_prepare 6 = .ok (.iaload, 1) := by decide +kernel
theorem dX1_prepare_7 : decode cX1_prepare 7 = .ok (.invokestatic 59, 3) := by decide +kernel
theorem dX1_prepare_10 : decode cX1_prepare 10 = .ok (.ineg, 1) := by decide +kernel
theorem dX1_prepare_11 : decode cX1_prepare 11 = .ok (.putfield 46, 3) := by decide +kernel
theorem dX1_prepare_14 : decode cX1_prepare 14 = .ok (.aload_n 0, 1) := by decide +kernel
theorem dX1_prepare_15 : decode cX1_prepare 15 = .ok (.getfield 25, 3) := by decide +kernel
theorem dX1_prepare_18 : decode cX1_prepare 18 = .ok (.aload_n 0, 1) := by decide +kernel
theorem dX1_prepare_19 : decode cX1_prepare 19 = .ok (.getfield 22, 3) := by decide +kernel
theorem dX1_prepare_22 : decode cX1_prepare 22 = .ok (.aload_n 0, 1) := by decide +kernel
theorem dX1_prepare_23 : decode cX1_prepare 23 = .ok (.getfield 9, 3) := by decide +kernel
theorem dX1_prepare_26 : decode cX1_prepare 26 = .ok (.invokestatic 63, 3) := by decide +kernel
theorem dX1_prepare_29 : decode cX1_prepare 29 = .ok (.aload_n 0, 1) := by decide +kernel
theorem dX1_prepare_30 : decode cX1_prepare 30 = .ok (.aload_n 0, 1) := by decide +kernel
theorem dX1_prepare_31 : decode cX1_prepare 31 = .ok (.getfield 25, 3) := by decide +kernel
theorem dX1_prepare_34 : decode cX1_prepare 34 = .ok (.invokevirtual 67, 3) := by decide +kernel
theorem dX1_prepare_37 : decode cX1_prepare 37 = .ok (.aload_n 0, 1) := by decide +kernel
theorem dX1_prepare_38 : decode cX1_prepare 38 = .ok (.getfield 28, 3) := by decide +kernel
theorem dX1_prepare_41 : decode cX1_prepare 41 = .ok (.aload_n 0, 1) := by decide +kernel
theorem dX1_prepare_42 : decode cX1_prepare 42 = .ok (.getfield 25, 3) := by decide +kernel
theorem dX1_prepare_45 : decode cX1_prepare 45 = .ok (.aload_n 0, 1) := by decide +kernel
theorem dX1_prepare_46 : decode cX1_prepare 46 = .ok (.getfield 9, 3) := by decide +kernel
theorem dX1_prepare_49 : decode cX1_prepare 49 = .ok (.invokestatic 63, 3) := by decide +kernel
theorem dX1_prepare_52 : decode cX1_prepare 52 = .ok (.aload_n 0, 1) := by decide +kernel
theorem dX1_prepare_53 : decode cX1_prepare 53 = .ok (.aload_n 0, 1) := by decide +kernel
theorem dX1_prepare_54 : decode cX1_prepare 54 = .ok (.getfield 28, 3) := by decide +kernel
theorem dX1_prepare_57 : decode cX1_prepare 57 = .ok (.invokevirtual 67, 3) := by decide +kernel
theorem dX1_prepare_60 : decode cX1_prepare 60 = .ok (.return_, 1) := by decide +kernel
set_option maxRecDepth 20000 in
theorem ggX1_residue_X1_montgomery : GoodIn wsX1_residue wsX1_montgomery := goodIn_r _ [7, 8, 9, 10, 11, 12, 13, 14, 15, 16, 17, 18, 19, 20, 21, 22, 23, 24, 25, 26, 27, 28, 6, 29, 30, 31, 32, 33, 34, 35, 36, 37, 38, 39, 40, 41, 42, 43, 44, 45, 46, 47] (by decide +kernel) (by decide +kernel)
set_option maxRecDepth 20000 in
theorem gX1_residue_X1_montgomery : GoodIn wsX1_residue (wsV RX1 71 RX1 yX1_montgomery wsX1_montgomery) := goodIn_app (goodIn_of _ (by decide +kernel)) ggX1_residue_X1_montgomery
theorem dX1_residue_0 : decode cX1_residue 0 = .ok (.aload_n 0, 1) := by decide +kernel
theorem dX1_residue_1 : decode cX1_residue 1 = .ok (.aload_n 1, 1) := by decide +kernel
theorem dX1_residue_2 : decode cX1_residue 2 = .ok (.aload_n 2, 1) := by decide +kernel
theorem dX1_residue_3 : decode cX1_residue 3 = .ok (.aload_n 0, 1) := by decide +kernel
theorem dX1_residue_4 : decode cX1_residue 4 = .ok (.getfield 28, 3) := by decide +kernel
theorem dX1_residue_7 : decode cX1_residue 7 = .ok (.invokevirtual 71, 3) := by decide +kernel
theorem dX1_residue_10 : decode cX1_residue 10 = .ok (.aload_n 0, 1) := by decide +kernel
theorem dX1_residue_11 : decode cX1_residue 11 = .ok (.aload_n 1, 1) := by decide +kernel
theorem dX1_residue_12 : decode cX1_residue 12 = .ok (.aload_n 1, 1) := by decide +kernel
theorem dX1_residue_13 : decode cX1_residue 13 = .ok (.aload_n 0, 1) := by decide +kernel
theorem dX1_residue_14 : decode cX1_residue 14 = .ok (.getfield 22, 3) := by decide +kernel
theorem dX1_residue_17 : decode cX1_residue 17 = .ok (.invokevirtual 71, 3) := by decide +kernel
theorem dX1_residue_20 : decode cX1_residue 20 = .ok (.return_, 1) := by decide +kernel
set_option maxRecDepth 20000 in
theorem ggX1_sum_X1_residue : GoodIn wsX1_sum wsX1_residue := goodIn_r _ [7, 8, 9, 10, 11, 12, 6, 13, 14, 15, 16, 17, 18, 19, 20, 21, 22, 23, 24, 25, 26, 27, 28, 29, 30, 31, 32, 33, 34, 35, 36, 37, 38, 39, 40, 41, 49, 50, 51, 52, 53, 54, 55, 56, 57, 58, 59, 60] (by decide +kernel) (by decide +kernel)
set_option maxRecDepth 20000 in
theorem gX1_sum_X1_residue : GoodIn wsX1_sum (wsV RX1 75 RX1 yX1_residue wsX1_residue) := goodIn_app (goodIn_of _ (by decide +kernel)) ggX1_sum_X1_residue
set_option maxRecDepth 20000 in
theorem ggX1_sum_X1_addBelow : GoodIn wsX1_sum wsX1_addBelow := goodIn_r _ [45, 15, 46, 47, 20, 48, 25, 32, 33, 34, 6, 35, 16, 36, 37, 38, 39, 40, 41, 49, 50, 51, 52, 53, 54, 55, 56, 57, 58, 59, 60] (by decide +kernel) (by decide +kernel)
set_option maxRecDepth 20000 in
theorem gX1_sum_X1_addBelow : GoodIn wsX1_sum (wsV RX1 79 RX1 yX1_addBelow wsX1_addBelow) := goodIn_app (goodIn_of _ (by decide +kernel)) ggX1_sum_X1_addBelow
theorem dX1_sum_0 : decode cX1_sum 0 = .ok (.aload_n 0, 1) := by decide +kernel
theorem dX1_sum_1 : decode cX1_sum 1 = .ok (.aload_n 0, 1) := by decide +kernel
theorem dX1_sum_2 : decode cX1_sum 2 = .ok (.getfield 34, 3) := by decide +kernel
theorem dX1_sum_5 : decode cX1_sum 5 = .ok (.aload_n 2, 1) := by decide +kernel
theorem dX1_sum_6 : decode cX1_sum 6 = .ok (.invokevirtual 75, 3) := by decide +kernel
theorem dX1_sum_9 : decode cX1_sum 9 = .ok (.aload_n 0, 1) := by decide +kernel
theorem dX1_sum_10 : decode cX1_sum 10 = .ok (.aload_n 0, 1) := by decide +kernel
theorem dX1_sum_11 : decode cX1_sum 11 = .ok (.getfield 37, 3) := by decide +kernel
theorem dX1_sum_14 : decode cX1_sum 14 = .ok (.aload_n 3, 1) := by decide +kernel
theorem dX1_sum_15 : decode cX1_sum 15 = .ok (.invokevirtual 75, 3) := by decide +kernel
theorem dX1_sum_18 : decode cX1_sum 18 = .ok (.aload_n 0, 1) := by decide +kernel
theorem dX1_sum_19 : decode cX1_sum 19 = .ok (.aload_n 1, 1) := by decide +kernel
theorem dX1_sum_20 : decode cX1_sum 20 = .ok (.aload_n 0, 1) := by decide +kernel
theorem dX1_sum_21 : decode cX1_sum 21 = .ok (.getfield 34, 3) := by decide +kernel
theorem dX1_sum_24 : decode cX1_sum 24 = .ok (.aload_n 0, 1) := by decide +kernel
theorem dX1_sum_25 : decode cX1_sum 25 = .ok (.getfield 37, 3) := by decide +kernel
theorem dX1_sum_28 : decode cX1_sum 28 = .ok (.invokevirtual 79, 3) := by decide +kernel
theorem dX1_sum_31 : decode cX1_sum 31 = .ok (.return_, 1) := by decide +kernel
set_option maxRecDepth 20000 in
theorem ggX1_difference_X1_residue : GoodIn wsX1_difference wsX1_residue := goodIn_r _ [7, 8, 9, 10, 11, 12, 6, 13, 14, 15, 16, 17, 18, 19, 20, 21, 22, 23, 24, 25, 26, 27, 28, 29, 30, 31, 32, 33, 34, 35, 36, 37, 38, 39, 40, 41, 49, 50, 51, 52, 53, 54, 55, 56, 57, 58, 59, 60] (by decide +kernel) (by decide +kernel)
set_option maxRecDepth 20000 in
theorem gX1_difference_X1_residue : GoodIn wsX1_difference (wsV RX1 75 RX1 yX1_residue wsX1_residue) := goodIn_app (goodIn_of _ (by decide +kernel)) ggX1_difference_X1_residue
set_option maxRecDepth 20000 in
theorem ggX1_difference_X1_subtractBelow : GoodIn wsX1_difference wsX1_subtractBelow := goodIn_r _ [45, 15, 16, 39, 40, 20, 41, 25, 46, 47, 48, 49, 50, 51, 52, 53, 54, 55, 56, 57, 58, 59, 60] (by decide +kernel) (by decide +kernel)
set_option maxRecDepth 20000 in
theorem gX1_difference_X1_subtractBelow : GoodIn wsX1_difference (wsV RX1 82 RX1 yX1_subtractBelow wsX1_subtractBelow) := goodIn_app (goodIn_of _ (by decide +kernel)) ggX1_difference_X1_subtractBelow
theorem dX1_difference_0 : decode cX1_difference 0 = .ok (.aload_n 0, 1) := by decide +kernel
theorem dX1_difference_1 : decode cX1_difference 1 = .ok (.aload_n 0, 1) := by decide +kernel
theorem dX1_difference_2 : decode cX1_difference 2 = .ok (.getfield 34, 3) := by decide +kernel
theorem dX1_difference_5 : decode cX1_difference 5 = .ok (.aload_n 2, 1) := by decide +kernel
theorem dX1_difference_6 : decode cX1_difference 6 = .ok (.invokevirtual 75, 3) := by decide +kernel
theorem dX1_difference_9 : decode cX1_difference 9 = .ok (.aload_n 0, 1) := by decide +kernel
theorem dX1_difference_10 : decode cX1_difference 10 = .ok (.aload_n 0, 1) := by decide +kernel
theorem dX1_difference_11 : decode cX1_difference 11 = .ok (.getfield 37, 3) := by decide +kernel
theorem dX1_difference_14 : decode cX1_difference 14 = .ok (.aload_n 3, 1) := by decide +kernel
theorem dX1_difference_15 : decode cX1_difference 15 = .ok (.invokevirtual 75, 3) := by decide +kernel
theorem dX1_difference_18 : decode cX1_difference 18 = .ok (.aload_n 0, 1) := by decide +kernel
theorem dX1_difference_19 : decode cX1_difference 19 = .ok (.aload_n 1, 1) := by decide +kernel
theorem dX1_difference_20 : decode cX1_difference 20 = .ok (.aload_n 0, 1) := by decide +kernel
theorem dX1_difference_21 : decode cX1_difference 21 = .ok (.getfield 34, 3) := by decide +kernel
theorem dX1_difference_24 : decode cX1_difference 24 = .ok (.aload_n 0, 1) := by decide +kernel
theorem dX1_difference_25 : decode cX1_difference 25 = .ok (.getfield 37, 3) := by decide +kernel
theorem dX1_difference_28 : decode cX1_difference 28 = .ok (.invokevirtual 82, 3) := by decide +kernel
theorem dX1_difference_31 : decode cX1_difference 31 = .ok (.return_, 1) := by decide +kernel
set_option maxRecDepth 20000 in
theorem ggX1_product_X1_montgomery : GoodIn wsX1_product wsX1_montgomery := goodIn_r _ [7, 8, 9, 10, 11, 12, 13, 14, 15, 16, 17, 18, 19, 20, 21, 22, 23, 24, 25, 26, 27, 28, 6, 29, 30, 31, 32, 33, 34, 35, 36, 37, 38, 39, 40, 41, 42, 43, 44, 45, 46, 47] (by decide +kernel) (by decide +kernel)
set_option maxRecDepth 20000 in
theorem gX1_product_X1_montgomery : GoodIn wsX1_product (wsV RX1 71 RX1 yX1_montgomery wsX1_montgomery) := goodIn_app (goodIn_of _ (by decide +kernel)) ggX1_product_X1_montgomery
theorem dX1_product_0 : decode cX1_product 0 = .ok (.aload_n 0, 1) := by decide +kernel
theorem dX1_product_1 : decode cX1_product 1 = .ok (.aload_n 0, 1) := by decide +kernel
theorem dX1_product_2 : decode cX1_product 2 = .ok (.getfield 34, 3) := by decide +kernel
theorem dX1_product_5 : decode cX1_product 5 = .ok (.aload_n 2, 1) := by decide +kernel
theorem dX1_product_6 : decode cX1_product 6 = .ok (.aload_n 0, 1) := by decide +kernel
theorem dX1_product_7 : decode cX1_product 7 = .ok (.getfield 28, 3) := by decide +kernel
theorem dX1_product_10 : decode cX1_product 10 = .ok (.invokevirtual 71, 3) := by decide +kernel
theorem dX1_product_13 : decode cX1_product 13 = .ok (.aload_n 0, 1) := by decide +kernel
theorem dX1_product_14 : decode cX1_product 14 = .ok (.aload_n 1, 1) := by decide +kernel
theorem dX1_product_15 : decode cX1_product 15 = .ok (.aload_n 0, 1) := by decide +kernel
theorem dX1_product_16 : decode cX1_product 16 = .ok (.getfield 34, 3) := by decide +kernel
theorem dX1_product_19 : decode cX1_product 19 = .ok (.aload_n 3, 1) := by decide +kernel
theorem dX1_product_20 : decode cX1_product 20 = .ok (.invokevirtual 71, 3) := by decide +kernel
theorem dX1_product_23 : decode cX1_product 23 = .ok (.return_, 1) := by decide +kernel
set_option maxRecDepth 20000 in
theorem ggX1_productByR_X1_product : GoodIn wsX1_productByR wsX1_product := goodIn_r _ [7, 1, 8, 9, 10, 11, 6, 12, 13, 14, 15, 16, 17, 18, 19, 20, 21, 22, 23, 24, 25, 26, 27, 28, 29, 30, 31, 32, 33, 34, 35, 36, 37, 38, 39, 40, 41, 42, 43, 44, 45, 46, 47, 48, 49, 50, 51, 52] (by decide +kernel) (by decide +kernel)
set_option maxRecDepth 20000 in
theorem gX1_productByR_X1_product : GoodIn wsX1_productByR (wsV RX1 85 RX1 yX1_product wsX1_product) := goodIn_app (goodIn_of _ (by decide +kernel)) ggX1_productByR_X1_product
set_option maxRecDepth 20000 in
theorem ggX1_productByR_X1_montgomery : GoodIn wsX1_productByR wsX1_montgomery := goodIn_r _ [12, 13, 14, 15, 16, 17, 18, 19, 20, 21, 22, 23, 24, 25, 26, 27, 28, 29, 30, 31, 32, 33, 6, 34, 35, 36, 37, 38, 39, 40, 41, 42, 43, 44, 45, 46, 47, 48, 49, 50, 51, 52] (by decide +kernel) (by decide +kernel)
set_option maxRecDepth 20000 in
theorem gX1_productByR_X1_montgomery : GoodIn wsX1_productByR (wsV RX1 71 RX1 yX1_montgomery wsX1_montgomery) := goodIn_app (goodIn_of _ (by decide +kernel)) ggX1_productByR_X1_montgomery
theorem dX1_productByR_0 : decode cX1_productByR 0 = .ok (.aload_n 0, 1) := by decide +kernel
theorem dX1_productByR_1 : decode cX1_productByR 1 = .ok (.aload_n 0, 1) := by decide +kernel
theorem dX1_productByR_2 : decode cX1_productByR 2 = .ok (.getfield 34, 3) := by decide +kernel
theorem dX1_productByR_5 : decode cX1_productByR 5 = .ok (.aload_n 2, 1) := by decide +kernel
theorem dX1_productByR_6 : decode cX1_productByR 6 = .ok (.aload_n 3, 1) := by decide +kernel
theorem dX1_productByR_7 : decode cX1_productByR 7 = .ok (.invokevirtual 85, 3) := by decide +kernel
theorem dX1_productByR_10 : decode cX1_productByR 10 = .ok (.aload_n 0, 1) := by decide +kernel
theorem dX1_productByR_11 : decode cX1_productByR 11 = .ok (.aload_n 1, 1) := by decide +kernel
theorem dX1_productByR_12 : decode cX1_productByR 12 = .ok (.aload_n 0, 1) := by decide +kernel
theorem dX1_productByR_13 : decode cX1_productByR 13 = .ok (.getfield 34, 3) := by decide +kernel
theorem dX1_productByR_16 : decode cX1_productByR 16 = .ok (.aload_n 0, 1) := by decide +kernel
theorem dX1_productByR_17 : decode cX1_productByR 17 = .ok (.getfield 22, 3) := by decide +kernel
theorem dX1_productByR_20 : decode cX1_productByR 20 = .ok (.invokevirtual 71, 3) := by decide +kernel
theorem dX1_productByR_23 : decode cX1_productByR 23 = .ok (.return_, 1) := by decide +kernel
set_option maxRecDepth 20000 in
theorem ggX1_power_X1_montgomery : GoodIn wsX1_power wsX1_montgomery := goodIn_r _ [9, 10, 11, 12, 13, 14, 15, 16, 17, 18, 19, 20, 21, 22, 23, 24, 25, 26, 27, 28, 29, 30, 8, 31, 32, 33, 34, 35, 36, 37, 50, 51, 52, 53, 54, 55, 56, 57, 58, 59, 60, 61] (by decide +kernel) (by decide +kernel)
set_option maxRecDepth 20000 in
theorem gX1_power_X1_montgomery : GoodIn wsX1_power (wsV RX1 71 RX1 yX1_montgomery wsX1_montgomery) := goodIn_app (goodIn_of _ (by decide +kernel)) ggX1_power_X1_montgomery
set_option maxRecDepth 20000 in
theorem ggX1_power_X1_raise : GoodIn wsX1_power wsX1_raise := goodIn_r _ [41, 42, 11, 25, 26, 16, 27, 43, 44, 45, 46, 47, 48, 5, 6, 7, 8, 9, 10, 12, 13, 14, 15, 17, 18, 19, 20, 21, 22, 23, 24, 28, 29, 30, 31, 32, 33, 34, 35, 36, 37, 49, 50, 51, 52, 53, 54, 55, 56, 57, 58, 59, 60, 61] (by decide +kernel) (by decide +kernel)
set_option maxRecDepth 20000 in
theorem gX1_power_X1_raise : GoodIn wsX1_power (wsV RX1 88 RX1 yX1_raise wsX1_raise) := goodIn_app (goodIn_of _ (by decide +kernel)) ggX1_power_X1_raise
theorem dX1_power_0 : decode cX1_power 0 = .ok (.aload_n 0, 1) := by decide +kernel
theorem dX1_power_1 : decode cX1_power 1 = .ok (.aload_n 0, 1) := by decide +kernel
theorem dX1_power_2 : decode cX1_power 2 = .ok (.getfield 34, 3) := by decide +kernel
theorem dX1_power_5 : decode cX1_power 5 = .ok (.aload_n 2, 1) := by decide +kernel
theorem dX1_power_6 : decode cX1_power 6 = .ok (.aload_n 0, 1) := by decide +kernel
theorem dX1_power_7 : decode cX1_power 7 = .ok (.getfield 28, 3) := by decide +kernel
theorem dX1_power_10 : decode cX1_power 10 = .ok (.invokevirtual 71, 3) := by decide +kernel
theorem dX1_power_13 : decode cX1_power 13 = .ok (.aload_n 0, 1) := by decide +kernel
theorem dX1_power_14 : decode cX1_power 14 = .ok (.aload_n 0, 1) := by decide +kernel
theorem dX1_power_15 : decode cX1_power 15 = .ok (.getfield 37, 3) := by decide +kernel
theorem dX1_power_18 : decode cX1_power 18 = .ok (.aload_n 0, 1) := by decide +kernel
theorem dX1_power_19 : decode cX1_power 19 = .ok (.getfield 34, 3) := by decide +kernel
theorem dX1_power_22 : decode cX1_power 22 = .ok (.aload_n 3, 1) := by decide +kernel
theorem dX1_power_23 : decode cX1_power 23 = .ok (.iconst 0, 1) := by decide +kernel
theorem dX1_power_24 : decode cX1_power 24 = .ok (.invokevirtual 88, 3) := by decide +kernel
theorem dX1_power_27 : decode cX1_power 27 = .ok (.aload_n 0, 1) := by decide +kernel
theorem dX1_power_28 : decode cX1_power 28 = .ok (.aload_n 1, 1) := by decide +kernel
theorem dX1_power_29 : decode cX1_power 29 = .ok (.aload_n 0, 1) := by decide +kernel
theorem dX1_power_30 : decode cX1_power 30 = .ok (.getfield 37, 3) := by decide +kernel
theorem dX1_power_33 : decode cX1_power 33 = .ok (.aload_n 0, 1) := by decide +kernel
theorem dX1_power_34 : decode cX1_power 34 = .ok (.getfield 22, 3) := by decide +kernel
theorem dX1_power_37 : decode cX1_power 37 = .ok (.invokevirtual 71, 3) := by decide +kernel
theorem dX1_power_40 : decode cX1_power 40 = .ok (.return_, 1) := by decide +kernel
set_option maxRecDepth 20000 in
theorem ggX1_invert_X1_residue : GoodIn wsX1_invert wsX1_residue := goodIn_r _ [13, 14, 6, 15, 16, 17, 12, 18, 19, 4, 3, 20, 21, 22, 23, 24, 25, 26, 27, 28, 29, 30, 31, 32, 33, 34, 35, 36, 37, 38, 39, 40, 41, 42, 43, 44, 72, 73, 74, 75, 76, 77, 78, 79, 80, 81, 82, 83] (by decide +kernel) (by decide +kernel)
set_option maxRecDepth 20000 in
theorem gX1_invert_X1_residue : GoodIn wsX1_invert (wsV RX1 75 RX1 yX1_residue wsX1_residue) := goodIn_app (goodIn_of _ (by decide +kernel)) ggX1_invert_X1_residue
set_option maxRecDepth 20000 in
theorem ggX1_invert_X0_copy : GoodIn wsX1_invert wsX0_copy := goodIn_r _ [34] (by decide +kernel) (by decide +kernel)
set_option maxRecDepth 20000 in
theorem gX1_invert_X0_copy : GoodIn wsX1_invert (va_wsS RX1 63 yX0_copy wsX0_copy) := goodIn_app (goodIn_of _ (by decide +kernel)) ggX1_invert_X0_copy
set_option maxRecDepth 20000 in
theorem ggX1_invert_X0_setSmall : GoodIn wsX1_invert wsX0_setSmall := goodIn_r _ [24] (by decide +kernel) (by decide +kernel)
set_option maxRecDepth 20000 in
theorem gX1_invert_X0_setSmall : GoodIn wsX1_invert (va_wsS RX1 92 yX0_setSmall wsX0_setSmall) := goodIn_app (goodIn_of _ (by decide +kernel)) ggX1_invert_X0_setSmall
set_option maxRecDepth 20000 in
theorem ggX1_invert_X0_isSmall : GoodIn wsX1_invert wsX0_isSmall := goodIn_r _ [47] (by decide +kernel) (by decide +kernel)
set_option maxRecDepth 20000 in
theorem gX1_invert_X0_isSmall : GoodIn wsX1_invert (va_wsS RX1 55 yX0_isSmall wsX0_isSmall) := goodIn_app (goodIn_of _ (by decide +kernel)) ggX1_invert_X0_isSmall
set_option maxRecDepth 20000 in
theorem ggX1_invert_X1_stepTowardsDivisor : GoodIn wsX1_invert wsX1_stepTowardsDivisor := goodIn_r _ [51, 1, 4, 5, 2, 7, 52, 53, 23, 54, 55, 56, 57, 28, 58, 59, 60, 12, 61, 3, 62, 63, 64, 39, 40, 41, 65, 66, 67, 42, 43, 44, 68, 69, 70, 71, 72, 73, 74, 75, 76, 77, 78, 79, 80, 81, 82, 83] (by decide +kernel) (by decide +kernel)
set_option maxRecDepth 20000 in
theorem gX1_invert_X1_stepTowardsDivisor : GoodIn wsX1_invert (wsV RX1 96 RX1 yX1_stepTowardsDivisor wsX1_stepTowardsDivisor) := goodIn_app (goodIn_of _ (by decide +kernel)) ggX1_invert_X1_stepTowardsDivisor
theorem dX1_invert_0 : decode cX1_invert 0 = .ok (.aload_n 0, 1) := by decide +kernel
theorem dX1_invert_1 : decode cX1_invert 1 = .ok (.aload_n 0, 1) := by decide +kernel
theorem dX1_invert_2 : decode cX1_invert 2 = .ok (.getfield 34, 3) := by decide +kernel
theorem dX1_invert_5 : decode cX1_invert 5 = .ok (.aload_n 2, 1) := by decide +kernel
theorem dX1_invert_6 : decode cX1_invert 6 = .ok (.invokevirtual 75, 3) := by decide +kernel
theorem dX1_invert_9 : decode cX1_invert 9 = .ok (.aload_n 0, 1) := by decide +kernel
theorem dX1_invert_10 : decode cX1_invert 10 = .ok (.getfield 37, 3) := by decide +kernel
theorem dX1_invert_13 : decode cX1_invert 13 = .ok (.aload_n 0, 1) := by decide +kernel
theorem dX1_invert_14 : decode cX1_invert 14 = .ok (.getfield 18, 3) := by decide +kernel
theorem dX1_invert_17 : decode cX1_invert 17 = .ok (.aload_n 0, 1) := by decide +kernel
theorem dX1_invert_18 : decode cX1_invert 18 = .ok (.getfield 9, 3) := by decide +kernel
theorem dX1_invert_21 : decode cX1_invert 21 = .ok (.invokestatic 63, 3) := by decide +kernel
theorem dX1_invert_24 : decode cX1_invert 24 = .ok (.aload_n 0, 1) := by decide +kernel
theorem dX1_invert_25 : decode cX1_invert 25 = .ok (.getfield 40, 3) := by decide +kernel
theorem dX1_invert_28 : decode cX1_invert 28 = .ok (.aload_n 0, 1) := by decide +kernel
theorem dX1_invert_29 : decode cX1_invert 29 = .ok (.getfield 22, 3) := by decide +kernel
theorem dX1_invert_32 : decode cX1_invert 32 = .ok (.aload_n 0, 1) := by decide +kernel
theorem dX1_invert_33 : decode cX1_invert 33 = .ok (.getfield 9, 3) := by decide +kernel
theorem dX1_invert_36 : decode cX1_invert 36 = .ok (.invokestatic 63, 3) := by decide +kernel
theorem dX1_invert_39 : decode cX1_invert 39 = .ok (.aload_n 0, 1) := by decide +kernel
theorem dX1_invert_40 : decode cX1_invert 40 = .ok (.getfield 43, 3) := by decide +kernel
theorem dX1_invert_43 : decode cX1_invert 43 = .ok (.iconst 0, 1) := by decide +kernel
theorem dX1_invert_44 : decode cX1_invert 44 = .ok (.aload_n 0, 1) := by decide +kernel
theorem dX1_invert_45 : decode cX1_invert 45 = .ok (.getfield 9, 3) := by decide +kernel
theorem dX1_invert_48 : decode cX1_invert 48 = .ok (.invokestatic 92, 3) := by decide +kernel
theorem dX1_invert_51 : decode cX1_invert 51 = .ok (.iconst 4, 1) := by decide +kernel
theorem dX1_invert_52 : decode cX1_invert 52 = .ok (.aload_n 0, 1) := by decide +kernel
theorem dX1_invert_53 : decode cX1_invert 53 = .ok (.getfield 15, 3) := by decide +kernel
theorem dX1_invert_56 : decode cX1_invert 56 = .ok (.imul, 1) := by decide +kernel
theorem dX1_invert_57 : decode cX1_invert 57 = .ok (.iconst 2, 1) := by decide +kernel
theorem dX1_invert_58 : decode cX1_invert 58 = .ok (.iadd, 1) := by decide +kernel
theorem dX1_invert_59 : decode cX1_invert 59 = .ok (.istore_n 3, 1) := by decide +kernel
theorem dX1_invert_60 : decode cX1_invert 60 = .ok (.iconst 0, 1) := by decide +kernel
theorem dX1_invert_61 : decode cX1_invert 61 = .ok (.istore 4, 2) := by decide +kernel
theorem dX1_invert_63 : decode cX1_invert 63 = .ok (.iload 4, 2) := by decide +kernel
theorem dX1_invert_65 : decode cX1_invert 65 = .ok (.iload_n 3, 1) := by decide +kernel
theorem dX1_invert_66 : decode cX1_invert 66 = .ok (.if_icmp .ge 28, 3) := by decide +kernel
theorem dX1_invert_69 : decode cX1_invert 69 = .ok (.aload_n 0, 1) := by decide +kernel
theorem dX1_invert_70 : decode cX1_invert 70 = .ok (.getfield 34, 3) := by decide +kernel
theorem dX1_invert_73 : decode cX1_invert 73 = .ok (.iconst 0, 1) := by decide +kernel
theorem dX1_invert_74 : decode cX1_invert 74 = .ok (.aload_n 0, 1) := by decide +kernel
theorem dX1_invert_75 : decode cX1_invert 75 = .ok (.getfield 9, 3) := by decide +kernel
theorem dX1_invert_78 : decode cX1_invert 78 = .ok (.invokestatic 55, 3) := by decide +kernel
theorem dX1_invert_81 : decode cX1_invert 81 = .ok (.ifCond .ne 13, 3) := by decide +kernel
theorem dX1_invert_84 : decode cX1_invert 84 = .ok (.aload_n 0, 1) := by decide +kernel
theorem dX1_invert_85 : decode cX1_invert 85 = .ok (.invokevirtual 96, 3) := by decide +kernel
theorem dX1_invert_88 : decode cX1_invert 88 = .ok (.iinc 4 1, 3) := by decide +kernel
theorem dX1_invert_91 : decode cX1_invert 91 = .ok (.goto (-28), 3) := by decide +kernel
theorem dX1_invert_94 : decode cX1_invert 94 = .ok (.aload_n 0, 1) := by decide +kernel
theorem dX1_invert_95 : decode cX1_invert 95 = .ok (.getfield 37, 3) := by decide +kernel
theorem dX1_invert_98 : decode cX1_invert 98 = .ok (.iconst 1, 1) := by decide +kernel
theorem dX1_invert_99 : decode cX1_invert 99 = .ok (.aload_n 0, 1) := by decide +kernel
theorem dX1_invert_100 : decode cX1_invert 100 = .ok (.getfield 9, 3) := by decide +kernel
theorem dX1_invert_103 : decode cX1_invert 103 = .ok (.invokestatic 55, 3) := by decide +kernel
theorem dX1_invert_106 : decode cX1_invert 106 = .ok (.ifCond .ne 5, 3) := by decide +kernel
theorem dX1_invert_109 : decode cX1_invert 109 = .ok (.iconst 0, 1) := by decide +kernel
theorem dX1_invert_110 : decode cX1_invert 110 = .ok (.ireturn, 1) := by decide +kernel
theorem dX1_invert_111 : decode cX1_invert 111 = .ok (.aload_n 1, 1) := by decide +kernel
theorem dX1_invert_112 : decode cX1_invert 112 = .ok (.aload_n 0, 1) := by decide +kernel
theorem dX1_invert_113 : decode cX1_invert 113 = .ok (.getfield 43, 3) := by decide +kernel
theorem dX1_invert_116 : decode cX1_invert 116 = .ok (.aload_n 0, 1) := by decide +kernel
theorem dX1_invert_117 : decode cX1_invert 117 = .ok (.getfield 9, 3) := by decide +kernel
theorem dX1_invert_120 : decode cX1_invert 120 = .ok (.invokestatic 63, 3) := by decide +kernel
theorem dX1_invert_123 : decode cX1_invert 123 = .ok (.iconst 1, 1) := by decide +kernel
theorem dX1_invert_124 : decode cX1_invert 124 = .ok (.ireturn, 1) := by decide +kernel
set_option maxRecDepth 20000 in
theorem ggX1_isProvedCompositeBy_X1_montgomery : GoodIn wsX1_isProvedCompositeBy wsX1_montgomery := goodIn_r _ [12, 13, 3, 5, 14, 15, 16, 17, 18, 19, 20, 21, 22, 23, 24, 25, 26, 27, 28, 29, 30, 31, 11, 32, 33, 34, 35, 36, 37, 38, 65, 66, 67, 68, 69, 70, 71, 72, 73, 74, 75, 76] (by decide +kernel) (by decide +kernel)
set_option maxRecDepth 20000 in
theorem gX1_isProvedCompositeBy_X1_montgomery : GoodIn wsX1_isProvedCompositeBy (wsV RX1 71 RX1 yX1_montgomery wsX1_montgomery) := goodIn_app (goodIn_of _ (by decide +kernel)) ggX1_isProvedCompositeBy_X1_montgomery
set_option maxRecDepth 20000 in
theorem ggX1_isProvedCompositeBy_X0_isSmall : GoodIn wsX1_isProvedCompositeBy wsX0_isSmall := goodIn_r _ [41] (by decide +kernel) (by decide +kernel)
set_option maxRecDepth 20000 in
theorem gX1_isProvedCompositeBy_X0_isSmall : GoodIn wsX1_isProvedCompositeBy (va_wsS RX1 55 yX0_isSmall wsX0_isSmall) := goodIn_app (goodIn_of _ (by decide +kernel)) ggX1_isProvedCompositeBy_X0_isSmall
set_option maxRecDepth 20000 in
theorem ggX1_isProvedCompositeBy_X1_twosInModulusLessOne : GoodIn wsX1_isProvedCompositeBy wsX1_twosInModulusLessOne := goodIn_r _ [45, 46, 5, 47, 48, 17, 49, 65, 66, 67, 68, 69, 70, 71, 72, 73, 74, 75, 76] (by decide +kernel) (by decide +kernel)
set_option maxRecDepth 20000 in
theorem gX1_isProvedCompositeBy_X1_twosInModulusLessOne : GoodIn wsX1_isProvedCompositeBy (wsV RX1 99 RX1 yX1_twosInModulusLessOne wsX1_twosInModulusLessOne) := goodIn_app (goodIn_of _ (by decide +kernel)) ggX1_isProvedCompositeBy_X1_twosInModulusLessOne
set_option maxRecDepth 20000 in
theorem ggX1_isProvedCompositeBy_X1_subtractBelow : GoodIn wsX1_isProvedCompositeBy wsX1_subtractBelow := goodIn_r _ [53, 3, 5, 36, 37, 17, 38, 22, 54, 55, 56, 65, 66, 67, 68, 69, 70, 71, 72, 73, 74, 75, 76] (by decide +kernel) (by decide +kernel)
set_option maxRecDepth 20000 in
theorem gX1_isProvedCompositeBy_X1_subtractBelow : GoodIn wsX1_isProvedCompositeBy (wsV RX1 82 RX1 yX1_subtractBelow wsX1_subtractBelow) := goodIn_app (goodIn_of _ (by decide +kernel)) ggX1_isProvedCompositeBy_X1_subtractBelow
set_option maxRecDepth 20000 in
theorem ggX1_isProvedCompositeBy_X1_raise : GoodIn wsX1_isProvedCompositeBy wsX1_raise := goodIn_r _ [60, 6, 3, 26, 27, 17, 28, 61, 62, 63, 64, 48, 49, 8, 9, 10, 11, 12, 13, 5, 14, 15, 16, 18, 19, 20, 21, 22, 23, 24, 25, 29, 30, 31, 32, 33, 34, 35, 36, 37, 38, 47, 65, 66, 67, 68, 69, 70, 71, 72, 73, 74, 75, 76] (by decide +kernel) (by decide +kernel)
set_option maxRecDepth 20000 in
theorem gX1_isProvedCompositeBy_X1_raise : GoodIn wsX1_isProvedCompositeBy (wsV RX1 88 RX1 yX1_raise wsX1_raise) := goodIn_app (goodIn_of _ (by decide +kernel)) ggX1_isProvedCompositeBy_X1_raise
set_option maxRecDepth 20000 in
theorem ggX1_isProvedCompositeBy_X0_order : GoodIn wsX1_isProvedCompositeBy wsX0_order := goodIn_r _ [35, 22] (by decide +kernel) (by decide +kernel)
set_option maxRecDepth 20000 in
theorem gX1_isProvedCompositeBy_X0_order : GoodIn wsX1_isProvedCompositeBy (va_wsS RX1 103 yX0_order wsX0_order) := goodIn_app (goodIn_of _ (by decide +kernel)) ggX1_isProvedCompositeBy_X0_order
theorem dX1_isProvedCompositeBy_0 : decode cX1_isProvedCompositeBy 0 = .ok (.aload_n 0, 1) := by decide +kernel
theorem dX1_isProvedCompositeBy_1 : decode cX1_isProvedCompositeBy 1 = .ok (.aload_n 0, 1) := by decide +kernel
theorem dX1_isProvedCompositeBy_2 : decode cX1_isProvedCompositeBy 2 = .ok (.getfield 34, 3) := by decide +kernel
theorem dX1_isProvedCompositeBy_5 : decode cX1_isProvedCompositeBy 5 = .ok (.aload_n 1, 1) := by decide +kernel
theorem dX1_isProvedCompositeBy_6 : decode cX1_isProvedCompositeBy 6 = .ok (.aload_n 0, 1) := by decide +kernel
theorem dX1_isProvedCompositeBy_7 : decode cX1_isProvedCompositeBy 7 = .ok (.getfield 28, 3) := by decide +kernel
theorem dX1_isProvedCompositeBy_10 : decode cX1_isProvedCompositeBy 10 = .ok (.invokevirtual 71, 3) := by decide +kernel
theorem dX1_isProvedCompositeBy_13 : decode cX1_isProvedCompositeBy 13 = .ok (.aload_n 0, 1) := by decide +kernel
theorem dX1_isProvedCompositeBy_14 : decode cX1_isProvedCompositeBy 14 = .ok (.getfield 34, 3) := by decide +kernel
theorem dX1_isProvedCompositeBy_17 : decode cX1_isProvedCompositeBy 17 = .ok (.iconst 0, 1) := by decide +kernel
theorem dX1_isProvedCompositeBy_18 : decode cX1_isProvedCompositeBy 18 = .ok (.aload_n 0, 1) := by decide +kernel
theorem dX1_isProvedCompositeBy_19 : decode cX1_isProvedCompositeBy 19 = .ok (.getfield 9, 3) := by decide +kernel
theorem dX1_isProvedCompositeBy_22 : decode cX1_isProvedCompositeBy 22 = .ok (.invokestatic 55, 3) := by decide +kernel
theorem dX1_isProvedCompositeBy_25 : decode cX1_isProvedCompositeBy 25 = .ok (.ifCond .eq 5, 3) := by decide +kernel
theorem dX1_isProvedCompositeBy_28 : decode cX1_isProvedCompositeBy 28 = .ok (.iconst 0, 1) := by decide +kernel
theorem dX1_isProvedCompositeBy_29 : decode cX1_isProvedCompositeBy 29 = .ok (.ireturn, 1) := by decide +kernel
theorem dX1_isProvedCompositeBy_30 : decode cX1_isProvedCompositeBy 30 = .ok (.aload_n 0, 1) := by decide +kernel
theorem dX1_isProvedCompositeBy_31 : decode cX1_isProvedCompositeBy 31 = .ok (.invokevirtual 99, 3) := by decide +kernel
theorem dX1_isProvedCompositeBy_34 : decode cX1_isProvedCompositeBy 34 = .ok (.istore_n 2, 1) := by decide +kernel
theorem dX1_isProvedCompositeBy_35 : decode cX1_isProvedCompositeBy 35 = .ok (.aload_n 0, 1) := by decide +kernel
theorem dX1_isProvedCompositeBy_36 : decode cX1_isProvedCompositeBy 36 = .ok (.getfield 40, 3) := by decide +kernel
theorem dX1_isProvedCompositeBy_39 : decode cX1_isProvedCompositeBy 39 = .ok (.astore_n 3, 1) := by decide +kernel
theorem dX1_isProvedCompositeBy_40 : decode cX1_isProvedCompositeBy 40 = .ok (.aload_n 0, 1) := by decide +kernel
theorem dX1_isProvedCompositeBy_41 : decode cX1_isProvedCompositeBy 41 = .ok (.aload_n 3, 1) := by decide +kernel
theorem dX1_isProvedCompositeBy_42 : decode cX1_isProvedCompositeBy 42 = .ok (.aload_n 0, 1) := by decide +kernel
theorem dX1_isProvedCompositeBy_43 : decode cX1_isProvedCompositeBy 43 = .ok (.getfield 18, 3) := by decide +kernel
theorem dX1_isProvedCompositeBy_46 : decode cX1_isProvedCompositeBy 46 = .ok (.aload_n 0, 1) := by decide +kernel
theorem dX1_isProvedCompositeBy_47 : decode cX1_isProvedCompositeBy 47 = .ok (.getfield 25, 3) := by decide +kernel
theorem dX1_isProvedCompositeBy_50 : decode cX1_isProvedCompositeBy 50 = .ok (.invokevirtual 82, 3) := by decide +kernel
theorem dX1_isProvedCompositeBy_53 : decode cX1_isProvedCompositeBy 53 = .ok (.aload_n 0, 1) := by decide +kernel
theorem dX1_isProvedCompositeBy_54 : decode cX1_isProvedCompositeBy 54 = .ok (.aload_n 0, 1) := by decide +kernel
theorem dX1_isProvedCompositeBy_55 : decode cX1_isProvedCompositeBy 55 = .ok (.getfield 37, 3) := by decide +kernel
theorem dX1_isProvedCompositeBy_58 : decode cX1_isProvedCompositeBy 58 = .ok (.aload_n 0, 1) := by decide +kernel
theorem dX1_isProvedCompositeBy_59 : decode cX1_isProvedCompositeBy 59 = .ok (.getfield 34, 3) := by decide +kernel
theorem dX1_isProvedCompositeBy_62 : decode cX1_isProvedCompositeBy 62 = .ok (.aload_n 0, 1) := by decide +kernel
theorem dX1_isProvedCompositeBy_63 : decode cX1_isProvedCompositeBy 63 = .ok (.getfield 18, 3) := by decide +kernel
theorem dX1_isProvedCompositeBy_66 : decode cX1_isProvedCompositeBy 66 = .ok (.iload_n 2, 1) := by decide +kernel
theorem dX1_isProvedCompositeBy_67 : decode cX1_isProvedCompositeBy 67 = .ok (.invokevirtual 88, 3) := by decide +kernel
theorem dX1_isProvedCompositeBy_70 : decode cX1_isProvedCompositeBy 70 = .ok (.aload_n 0, 1) := by decide +kernel
theorem dX1_isProvedCompositeBy_71 : decode cX1_isProvedCompositeBy 71 = .ok (.getfield 37, 3) := by decide +kernel
theorem dX1_isProvedCompositeBy_74 : decode cX1_isProvedCompositeBy 74 = .ok (.aload_n 0, 1) := by decide +kernel
theorem dX1_isProvedCompositeBy_75 : decode cX1_isProvedCompositeBy 75 = .ok (.getfield 25, 3) := by decide +kernel
theorem dX1_isProvedCompositeBy_78 : decode cX1_isProvedCompositeBy 78 = .ok (.aload_n 0, 1) := by decide +kernel
theorem dX1_isProvedCompositeBy_79 : decode cX1_isProvedCompositeBy 79 = .ok (.getfield 9, 3) := by decide +kernel
theorem dX1_isProvedCompositeBy_82 : decode cX1_isProvedCompositeBy 82 = .ok (.invokestatic 103, 3) := by decide +kernel
theorem dX1_isProvedCompositeBy_85 : decode cX1_isProvedCompositeBy 85 = .ok (.ifCond .ne 5, 3) := by decide +kernel
theorem dX1_isProvedCompositeBy_88 : decode cX1_isProvedCompositeBy 88 = .ok (.iconst 0, 1) := by decide +kernel
theorem dX1_isProvedCompositeBy_89 : decode cX1_isProvedCompositeBy 89 = .ok (.ireturn, 1) := by decide +kernel
theorem dX1_isProvedCompositeBy_90 : decode cX1_isProvedCompositeBy 90 = .ok (.iconst 0, 1) := by decide +kernel
theorem dX1_isProvedCompositeBy_91 : decode cX1_isProvedCompositeBy 91 = .ok (.istore 4, 2) := by decide +kernel
theorem dX1_isProvedCompositeBy_93 : decode cX1_isProvedCompositeBy 93 = .ok (.iload 4, 2) := by decide +kernel
theorem dX1_isProvedCompositeBy_95 : decode cX1_isProvedCompositeBy 95 = .ok (.iload_n 2, 1) := by decide +kernel
theorem dX1_isProvedCompositeBy_96 : decode cX1_isProvedCompositeBy 96 = .ok (.if_icmp .ge 42, 3) := by decide +kernel
theorem dX1_isProvedCompositeBy_99 : decode cX1_isProvedCompositeBy 99 = .ok (.aload_n 0, 1) := by decide +kernel
theorem dX1_isProvedCompositeBy_100 : decode cX1_isProvedCompositeBy 100 = .ok (.getfield 37, 3) := by decide +kernel
theorem dX1_isProvedCompositeBy_103 : decode cX1_isProvedCompositeBy 103 = .ok (.aload_n 3, 1) := by decide +kernel
theorem dX1_isProvedCompositeBy_104 : decode cX1_isProvedCompositeBy 104 = .ok (.aload_n 0, 1) := by decide +kernel
theorem dX1_isProvedCompositeBy_105 : decode cX1_isProvedCompositeBy 105 = .ok (.getfield 9, 3) := by decide +kernel
theorem dX1_isProvedCompositeBy_108 : decode cX1_isProvedCompositeBy 108 = .ok (.invokestatic 103, 3) := by decide +kernel
theorem dX1_isProvedCompositeBy_111 : decode cX1_isProvedCompositeBy 111 = .ok (.ifCond .ne 5, 3) := by decide +kernel
theorem dX1_isProvedCompositeBy_114 : decode cX1_isProvedCompositeBy 114 = .ok (.iconst 0, 1) := by decide +kernel
theorem dX1_isProvedCompositeBy_115 : decode cX1_isProvedCompositeBy 115 = .ok (.ireturn, 1) := by decide +kernel
theorem dX1_isProvedCompositeBy_116 : decode cX1_isProvedCompositeBy 116 = .ok (.aload_n 0, 1) := by decide +kernel
theorem dX1_isProvedCompositeBy_117 : decode cX1_isProvedCompositeBy 117 = .ok (.aload_n 0, 1) := by decide +kernel
theorem dX1_isProvedCompositeBy_118 : decode cX1_isProvedCompositeBy 118 = .ok (.getfield 37, 3) := by decide +kernel
theorem dX1_isProvedCompositeBy_121 : decode cX1_isProvedCompositeBy 121 = .ok (.aload_n 0, 1) := by decide +kernel
theorem dX1_isProvedCompositeBy_122 : decode cX1_isProvedCompositeBy 122 = .ok (.getfield 37, 3) := by decide +kernel
theorem dX1_isProvedCompositeBy_125 : decode cX1_isProvedCompositeBy 125 = .ok (.aload_n 0, 1) := by decide +kernel
theorem dX1_isProvedCompositeBy_126 : decode cX1_isProvedCompositeBy 126 = .ok (.getfield 37, 3) := by decide +kernel
theorem dX1_isProvedCompositeBy_129 : decode cX1_isProvedCompositeBy 129 = .ok (.invokevirtual 71, 3) := by decide +kernel
theorem dX1_isProvedCompositeBy_132 : decode cX1_isProvedCompositeBy 132 = .ok (.iinc 4 1, 3) := by decide +kernel
theorem dX1_isProvedCompositeBy_135 : decode cX1_isProvedCompositeBy 135 = .ok (.goto (-42), 3) := by decide +kernel
theorem dX1_isProvedCompositeBy_138 : decode cX1_isProvedCompositeBy 138 = .ok (.iconst 1, 1) := by decide +kernel
theorem dX1_isProvedCompositeBy_139 : decode cX1_isProvedCompositeBy 139 = .ok (.ireturn, 1) := by decide +kernel
set_option maxRecDepth 20000 in
theorem ggX1_montgomery_X0_setSmall : GoodIn wsX1_montgomery wsX0_setSmall := goodIn_r _ [8] (by decide +kernel) (by decide +kernel)
set_option maxRecDepth 20000 in
theorem gX1_montgomery_X0_setSmall : GoodIn wsX1_montgomery (va_wsS RX1 92 yX0_setSmall wsX0_setSmall) := goodIn_app (goodIn_of _ (by decide +kernel)) ggX1_montgomery_X0_setSmall
set_option maxRecDepth 20000 in
theorem ggX1_montgomery_X0_addMultiple : GoodIn wsX1_montgomery wsX0_addMultiple := goodIn_r _ [11, 12] (by decide +kernel) (by decide +kernel)
set_option maxRecDepth 20000 in
theorem gX1_montgomery_X0_addMultiple : GoodIn wsX1_montgomery (va_wsS RX1 107 yX0_addMultiple wsX0_addMultiple) := goodIn_app (goodIn_of _ (by decide +kernel)) ggX1_montgomery_X0_addMultiple
set_option maxRecDepth 20000 in
theorem ggX1_montgomery_X0_dropLimb : GoodIn wsX1_montgomery wsX0_dropLimb := goodIn_r _ [15] (by decide +kernel) (by decide +kernel)
set_option maxRecDepth 20000 in
theorem gX1_montgomery_X0_dropLimb : GoodIn wsX1_montgomery (va_wsS RX1 111 yX0_dropLimb wsX0_dropLimb) := goodIn_app (goodIn_of _ (by decide +kernel)) ggX1_montgomery_X0_dropLimb
set_option maxRecDepth 20000 in
theorem ggX1_montgomery_X0_copy : GoodIn wsX1_montgomery wsX0_copy := goodIn_r _ [18] (by decide +kernel) (by decide +kernel)
set_option maxRecDepth 20000 in
theorem gX1_montgomery_X0_copy : GoodIn wsX1_montgomery (va_wsS RX1 63 yX0_copy wsX0_copy) := goodIn_app (goodIn_of _ (by decide +kernel)) ggX1_montgomery_X0_copy
set_option maxRecDepth 20000 in
theorem ggX1_montgomery_X1_bringBelow : GoodIn wsX1_montgomery wsX1_bringBelow := goodIn_r _ [23, 3, 2, 24, 25, 7, 26, 12, 27, 28, 29, 30, 31, 32, 33, 34, 35, 36, 37, 38, 39, 40, 41] (by decide +kernel) (by decide +kernel)
set_option maxRecDepth 20000 in
theorem gX1_montgomery_X1_bringBelow : GoodIn wsX1_montgomery (wsV RX1 115 RX1 yX1_bringBelow wsX1_bringBelow) := goodIn_app (goodIn_of _ (by decide +kernel)) ggX1_montgomery_X1_bringBelow
theorem dX1_montgomery_0 : decode cX1_montgomery 0 = .ok (.aload_n 0, 1) := by decide +kernel
theorem dX1_montgomery_1 : decode cX1_montgomery 1 = .ok (.getfield 31, 3) := by decide +kernel
theorem dX1_montgomery_4 : decode cX1_montgomery 4 = .ok (.iconst 0, 1) := by decide +kernel
theorem dX1_montgomery_5 : decode cX1_montgomery 5 = .ok (.aload_n 0, 1) := by decide +kernel
theorem dX1_montgomery_6 : decode cX1_montgomery 6 = .ok (.getfield 9, 3) := by decide +kernel
theorem dX1_montgomery_9 : decode cX1_montgomery 9 = .ok (.invokestatic 92, 3) := by decide +kernel
theorem dX1_montgomery_12 : decode cX1_montgomery 12 = .ok (.lconst 0, 1) := by decide +kernel
theorem dX1_montgomery_13 : decode cX1_montgomery 13 = .ok (.lstore 4, 2) := by decide +kernel
theorem dX1_montgomery_15 : decode cX1_montgomery 15 = .ok (.iconst 0, 1) := by decide +kernel
theorem dX1_montgomery_16 : decode cX1_montgomery 16 = .ok (.istore 6, 2) := by decide +kernel
theorem dX1_montgomery_18 : decode cX1_montgomery 18 = .ok (.iload 6, 2) := by decide +kernel
theorem dX1_montgomery_20 : decode cX1_montgomery 20 = .ok (.aload_n 0, 1) := by decide +kernel
theorem dX1_montgomery_21 : decode cX1_montgomery 21 = .ok (.getfield 9, 3) := by decide +kernel
theorem dX1_montgomery_24 : decode cX1_montgomery 24 = .ok (.if_icmp .ge 76, 3) := by decide +kernel
theorem dX1_montgomery_27 : decode cX1_montgomery 27 = .ok (.lload 4, 2) := by decide +kernel
