section
-- ===== PART A: goes FIRST, ahead of the names: the tables' words, and 'selects' of the private methods out of them =====
/-- a private method of a class that the tables say can be made, by its rows of tables_1 -/
def lw_okq (q : MethodName × Nat) : Prop := (q.1.cls ≠ "java/lang/invoke/MethodHandle" ∧ q.1.cls ≠ "java/lang/invoke/VarHandle") ∧ Cond.instantiable q.1.cls q.2 ∈ tables_1 ∧ Cond.privateMethod q.1 ∈ tables_1 ∧ Cond.instanceMethod q.1 ∈ tables_1
theorem lw_p0 : lw_okq (⟨"ModEngine", "hasLimb", "(I)Z"⟩, 5) := ⟨⟨by decide +kernel, by decide +kernel⟩, List.mem_of_getElem? (i := 7) (by decide +kernel), List.mem_of_getElem? (i := 88) (by decide +kernel), List.mem_of_getElem? (i := 89) (by decide +kernel)⟩
theorem lw_p1 : lw_okq (⟨"ModEngine$Ring", "doubleOften", "([I)V"⟩, 12) := ⟨⟨by decide +kernel, by decide +kernel⟩, List.mem_of_getElem? (i := 23) (by decide +kernel), List.mem_of_getElem? (i := 120) (by decide +kernel), List.mem_of_getElem? (i := 121) (by decide +kernel)⟩
theorem lw_p2 : lw_okq (⟨"ModEngine$Ring", "addBelow", "([I[I[I)V"⟩, 12) := ⟨⟨by decide +kernel, by decide +kernel⟩, List.mem_of_getElem? (i := 23) (by decide +kernel), List.mem_of_getElem? (i := 124) (by decide +kernel), List.mem_of_getElem? (i := 125) (by decide +kernel)⟩
theorem lw_p3 : lw_okq (⟨"ModEngine$Ring", "bringBelow", "([IJ)V"⟩, 12) := ⟨⟨by decide +kernel, by decide +kernel⟩, List.mem_of_getElem? (i := 23) (by decide +kernel), List.mem_of_getElem? (i := 132) (by decide +kernel), List.mem_of_getElem? (i := 133) (by decide +kernel)⟩
theorem lw_p4 : lw_okq (⟨"ModEngine", "hasRegister", "(I)Z"⟩, 5) := ⟨⟨by decide +kernel, by decide +kernel⟩, List.mem_of_getElem? (i := 7) (by decide +kernel), List.mem_of_getElem? (i := 150) (by decide +kernel), List.mem_of_getElem? (i := 151) (by decide +kernel)⟩
theorem lw_p5 : lw_okq (⟨"ModEngine$Ring", "montgomery", "([I[I[I)V"⟩, 12) := ⟨⟨by decide +kernel, by decide +kernel⟩, List.mem_of_getElem? (i := 23) (by decide +kernel), List.mem_of_getElem? (i := 166) (by decide +kernel), List.mem_of_getElem? (i := 167) (by decide +kernel)⟩
theorem lw_p6 : lw_okq (⟨"ModEngine", "canWork", "(III)Z"⟩, 5) := ⟨⟨by decide +kernel, by decide +kernel⟩, List.mem_of_getElem? (i := 7) (by decide +kernel), List.mem_of_getElem? (i := 183) (by decide +kernel), List.mem_of_getElem? (i := 184) (by decide +kernel)⟩
theorem lw_p7 : lw_okq (⟨"ModEngine$Ring", "subtractBelow", "([I[I[I)V"⟩, 12) := ⟨⟨by decide +kernel, by decide +kernel⟩, List.mem_of_getElem? (i := 23) (by decide +kernel), List.mem_of_getElem? (i := 200) (by decide +kernel), List.mem_of_getElem? (i := 201) (by decide +kernel)⟩
theorem lw_p8 : lw_okq (⟨"ModEngine$Ring", "raise", "([I[I[II)V"⟩, 12) := ⟨⟨by decide +kernel, by decide +kernel⟩, List.mem_of_getElem? (i := 23) (by decide +kernel), List.mem_of_getElem? (i := 229) (by decide +kernel), List.mem_of_getElem? (i := 230) (by decide +kernel)⟩
theorem lw_p9 : lw_okq (⟨"ModEngine$Ring", "stepTowardsDivisor", "()V"⟩, 12) := ⟨⟨by decide +kernel, by decide +kernel⟩, List.mem_of_getElem? (i := 23) (by decide +kernel), List.mem_of_getElem? (i := 248) (by decide +kernel), List.mem_of_getElem? (i := 249) (by decide +kernel)⟩
theorem lw_p10 : lw_okq (⟨"ModEngine$Ring", "halveBelow", "([I)V"⟩, 12) := ⟨⟨by decide +kernel, by decide +kernel⟩, List.mem_of_getElem? (i := 23) (by decide +kernel), List.mem_of_getElem? (i := 255) (by decide +kernel), List.mem_of_getElem? (i := 256) (by decide +kernel)⟩
theorem lw_p11 : lw_okq (⟨"ModEngine$Ring", "twosInModulusLessOne", "()I"⟩, 12) := ⟨⟨by decide +kernel, by decide +kernel⟩, List.mem_of_getElem? (i := 23) (by decide +kernel), List.mem_of_getElem? (i := 270) (by decide +kernel), List.mem_of_getElem? (i := 271) (by decide +kernel)⟩
theorem lw_p12 : lw_okq (⟨"ModEngineModel", "isLimb", "(I)Z"⟩, 11) := ⟨⟨by decide +kernel, by decide +kernel⟩, List.mem_of_getElem? (i := 282) (by decide +kernel), List.mem_of_getElem? (i := 330) (by decide +kernel), List.mem_of_getElem? (i := 331) (by decide +kernel)⟩
theorem lw_p13 : lw_okq (⟨"ModEngineModel", "placeOfModulus", "()I"⟩, 11) := ⟨⟨by decide +kernel, by decide +kernel⟩, List.mem_of_getElem? (i := 282) (by decide +kernel), List.mem_of_getElem? (i := 334) (by decide +kernel), List.mem_of_getElem? (i := 335) (by decide +kernel)⟩
theorem lw_p14 : lw_okq (⟨"ModEngineModel", "read", "([JI)V"⟩, 11) := ⟨⟨by decide +kernel, by decide +kernel⟩, List.mem_of_getElem? (i := 282) (by decide +kernel), List.mem_of_getElem? (i := 347) (by decide +kernel), List.mem_of_getElem? (i := 348) (by decide +kernel)⟩
theorem lw_p15 : lw_okq (⟨"ModEngineModel", "isRegister", "(I)Z"⟩, 11) := ⟨⟨by decide +kernel, by decide +kernel⟩, List.mem_of_getElem? (i := 282) (by decide +kernel), List.mem_of_getElem? (i := 361) (by decide +kernel), List.mem_of_getElem? (i := 362) (by decide +kernel)⟩
def lw_privs_1 : List (MethodName × Nat) := [(⟨"ModEngine", "hasLimb", "(I)Z"⟩, 5), (⟨"ModEngine$Ring", "doubleOften", "([I)V"⟩, 12), (⟨"ModEngine$Ring", "addBelow", "([I[I[I)V"⟩, 12), (⟨"ModEngine$Ring", "bringBelow", "([IJ)V"⟩, 12), (⟨"ModEngine", "hasRegister", "(I)Z"⟩, 5), (⟨"ModEngine$Ring", "montgomery", "([I[I[I)V"⟩, 12), (⟨"ModEngine", "canWork", "(III)Z"⟩, 5), (⟨"ModEngine$Ring", "subtractBelow", "([I[I[I)V"⟩, 12), (⟨"ModEngine$Ring", "raise", "([I[I[II)V"⟩, 12), (⟨"ModEngine$Ring", "stepTowardsDivisor", "()V"⟩, 12), (⟨"ModEngine$Ring", "halveBelow", "([I)V"⟩, 12), (⟨"ModEngine$Ring", "twosInModulusLessOne", "()I"⟩, 12), (⟨"ModEngineModel", "isLimb", "(I)Z"⟩, 11), (⟨"ModEngineModel", "placeOfModulus", "()I"⟩, 11), (⟨"ModEngineModel", "read", "([JI)V"⟩, 11), (⟨"ModEngineModel", "isRegister", "(I)Z"⟩, 11)]
theorem lw_r1 : ∀ q ∈ lw_privs_1, lw_okq q := List.forall_mem_cons.mpr ⟨lw_p0, List.forall_mem_cons.mpr ⟨lw_p1, List.forall_mem_cons.mpr ⟨lw_p2, List.forall_mem_cons.mpr ⟨lw_p3, List.forall_mem_cons.mpr ⟨lw_p4, List.forall_mem_cons.mpr ⟨lw_p5, List.forall_mem_cons.mpr ⟨lw_p6, List.forall_mem_cons.mpr ⟨lw_p7, List.forall_mem_cons.mpr ⟨lw_p8, List.forall_mem_cons.mpr ⟨lw_p9, List.forall_mem_cons.mpr ⟨lw_p10, List.forall_mem_cons.mpr ⟨lw_p11, List.forall_mem_cons.mpr ⟨lw_p12, List.forall_mem_cons.mpr ⟨lw_p13, List.forall_mem_cons.mpr ⟨lw_p14, List.forall_mem_cons.mpr ⟨lw_p15, fun _ h => absurd h List.not_mem_nil⟩⟩⟩⟩⟩⟩⟩⟩⟩⟩⟩⟩⟩⟩⟩⟩
theorem lw_p16 : lw_okq (⟨"ModEngineModel", "placeOf", "(I)I"⟩, 11) := ⟨⟨by decide +kernel, by decide +kernel⟩, List.mem_of_getElem? (i := 282) (by decide +kernel), List.mem_of_getElem? (i := 365) (by decide +kernel), List.mem_of_getElem? (i := 366) (by decide +kernel)⟩
theorem lw_p17 : lw_okq (⟨"ModEngineModel", "isAsked", "(III)Z"⟩, 11) := ⟨⟨by decide +kernel, by decide +kernel⟩, List.mem_of_getElem? (i := 282) (by decide +kernel), List.mem_of_getElem? (i := 377) (by decide +kernel), List.mem_of_getElem? (i := 378) (by decide +kernel)⟩
theorem lw_p18 : lw_okq (⟨"ModEngineModel", "takes", "(II)V"⟩, 11) := ⟨⟨by decide +kernel, by decide +kernel⟩, List.mem_of_getElem? (i := 282) (by decide +kernel), List.mem_of_getElem? (i := 381) (by decide +kernel), List.mem_of_getElem? (i := 382) (by decide +kernel)⟩
theorem lw_p19 : lw_okq (⟨"ModEngineModel", "rest", "([J)V"⟩, 11) := ⟨⟨by decide +kernel, by decide +kernel⟩, List.mem_of_getElem? (i := 282) (by decide +kernel), List.mem_of_getElem? (i := 385) (by decide +kernel), List.mem_of_getElem? (i := 386) (by decide +kernel)⟩
theorem lw_p20 : lw_okq (⟨"ModEngineModel", "bits", "()I"⟩, 11) := ⟨⟨by decide +kernel, by decide +kernel⟩, List.mem_of_getElem? (i := 282) (by decide +kernel), List.mem_of_getElem? (i := 395) (by decide +kernel), List.mem_of_getElem? (i := 396) (by decide +kernel)⟩
theorem lw_p21 : lw_okq (⟨"ModEngineModel", "write", "(I[J)V"⟩, 11) := ⟨⟨by decide +kernel, by decide +kernel⟩, List.mem_of_getElem? (i := 282) (by decide +kernel), List.mem_of_getElem? (i := 411) (by decide +kernel), List.mem_of_getElem? (i := 412) (by decide +kernel)⟩
theorem lw_p22 : lw_okq (⟨"ModEngineModel", "sum", "([J[J)V"⟩, 11) := ⟨⟨by decide +kernel, by decide +kernel⟩, List.mem_of_getElem? (i := 282) (by decide +kernel), List.mem_of_getElem? (i := 419) (by decide +kernel), List.mem_of_getElem? (i := 420) (by decide +kernel)⟩
theorem lw_p23 : lw_okq (⟨"ModEngineModel", "difference", "([J[J)V"⟩, 11) := ⟨⟨by decide +kernel, by decide +kernel⟩, List.mem_of_getElem? (i := 282) (by decide +kernel), List.mem_of_getElem? (i := 427) (by decide +kernel), List.mem_of_getElem? (i := 428) (by decide +kernel)⟩
theorem lw_p24 : lw_okq (⟨"ModEngineModel", "product", "([J[J)V"⟩, 11) := ⟨⟨by decide +kernel, by decide +kernel⟩, List.mem_of_getElem? (i := 282) (by decide +kernel), List.mem_of_getElem? (i := 435) (by decide +kernel), List.mem_of_getElem? (i := 436) (by decide +kernel)⟩
theorem lw_p25 : lw_okq (⟨"ModEngineModel", "halfOf", "([J)V"⟩, 11) := ⟨⟨by decide +kernel, by decide +kernel⟩, List.mem_of_getElem? (i := 282) (by decide +kernel), List.mem_of_getElem? (i := 443) (by decide +kernel), List.mem_of_getElem? (i := 444) (by decide +kernel)⟩
theorem lw_p26 : lw_okq (⟨"ModEngineModel", "raise", "([J)V"⟩, 11) := ⟨⟨by decide +kernel, by decide +kernel⟩, List.mem_of_getElem? (i := 282) (by decide +kernel), List.mem_of_getElem? (i := 454) (by decide +kernel), List.mem_of_getElem? (i := 455) (by decide +kernel)⟩
def lw_privs_2 : List (MethodName × Nat) := [(⟨"ModEngineModel", "placeOf", "(I)I"⟩, 11), (⟨"ModEngineModel", "isAsked", "(III)Z"⟩, 11), (⟨"ModEngineModel", "takes", "(II)V"⟩, 11), (⟨"ModEngineModel", "rest", "([J)V"⟩, 11), (⟨"ModEngineModel", "bits", "()I"⟩, 11), (⟨"ModEngineModel", "write", "(I[J)V"⟩, 11), (⟨"ModEngineModel", "sum", "([J[J)V"⟩, 11), (⟨"ModEngineModel", "difference", "([J[J)V"⟩, 11), (⟨"ModEngineModel", "product", "([J[J)V"⟩, 11), (⟨"ModEngineModel", "halfOf", "([J)V"⟩, 11), (⟨"ModEngineModel", "raise", "([J)V"⟩, 11)]
theorem lw_r2 : ∀ q ∈ lw_privs_2, lw_okq q := List.forall_mem_cons.mpr ⟨lw_p16, List.forall_mem_cons.mpr ⟨lw_p17, List.forall_mem_cons.mpr ⟨lw_p18, List.forall_mem_cons.mpr ⟨lw_p19, List.forall_mem_cons.mpr ⟨lw_p20, List.forall_mem_cons.mpr ⟨lw_p21, List.forall_mem_cons.mpr ⟨lw_p22, List.forall_mem_cons.mpr ⟨lw_p23, List.forall_mem_cons.mpr ⟨lw_p24, List.forall_mem_cons.mpr ⟨lw_p25, List.forall_mem_cons.mpr ⟨lw_p26, fun _ h => absurd h List.not_mem_nil⟩⟩⟩⟩⟩⟩⟩⟩⟩⟩⟩
def lw_privs : List (MethodName × Nat) := lw_privs_1 ++ (lw_privs_2)
def lw_tbl : List Cond := k2_sels lw_privs ++ tables_1
theorem lw_privs_ok : ∀ q ∈ lw_privs, lw_okq q := by
  show ∀ q ∈ lw_privs_1 ++ (lw_privs_2), lw_okq q
  exact List.forall_mem_append.mpr ⟨lw_r1, lw_r2⟩
end
section
/-! ===== BEGIN words of one list among another's, by their places ===== -/
theorem goodIn_r {big : List Cond} (ws : List Cond) (ps : List Nat) (hp : ws = ps.filterMap (fun i => big[i]?)) (h : ws.all goodWord = true) : GoodIn big ws := by
  intro w hw
  have h1 := List.all_eq_true.mp h w hw
  rw [hp] at hw
  obtain ⟨i, -, hi⟩ := List.mem_filterMap.mp hw
  have hm : w ∈ big := by first | exact List.mem_of_getElem? hi | exact List.getElem?_mem hi
  exact ⟨hm, good_of_word h1⟩
theorem goodIn_app {big a b : List Cond} (ha : GoodIn big a) (hb : GoodIn big b) : GoodIn big (a ++ b) := fun w h => (List.mem_append.mp h).elim (ha w) (hb w)
theorem goodIn_ca {big a b : List Cond} {c : Cond} (ha : GoodIn big (c :: a)) (hb : GoodIn big b) : GoodIn big (c :: (a ++ b)) := fun w h => (List.mem_cons.mp h).elim (fun e => ha w (List.mem_cons.mpr (Or.inl e))) (fun h => (List.mem_append.mp h).elim (fun h => ha w (List.mem_cons.mpr (Or.inr h))) (hb w))
theorem goodIn_sub {big ws : List Cond} (hm : ∀ w ∈ ws, w ∈ big) (h : ws.all goodWord = true) : GoodIn big ws := fun w hw => ⟨hm w hw, good_of_word (List.all_eq_true.mp h w hw)⟩
/-! ===== END ===== -/

/-! ===== BEGIN printed: names, fields, word lists, decode rows ===== -/
def RX0 : String := "ModEngine$Limbs"
def TX0 : u_T := fun k => match k with
  | _ => ("", "", "", false)
def tyX0 : Nat → FieldType := fun k => match k with
  | _ => .int
abbrev wsX00 : List Cond := u_ws RX0 TX0 0
theorem nmX0 : ∀ a, a < 0 → ∀ b, b < 0 → a ≠ b → (TX0 a).2.1 ≠ (TX0 b).2.1 := by decide +kernel
theorem tyX0_ok : ∀ k, k < 0 → parseFieldDescriptor (TX0 k).2.2.1 = some (tyX0 k) := by decide +kernel
abbrev cX0_copy : ByteArray := prog_2_method_2_code
def yX0_copy : MethodName := ⟨RX0, "copy", "([I[II)V"⟩
abbrev cX0_swap : ByteArray := prog_2_method_3_code
def yX0_swap : MethodName := ⟨RX0, "swap", "([I[II)V"⟩
abbrev cX0_setSmall : ByteArray := prog_2_method_4_code
def yX0_setSmall : MethodName := ⟨RX0, "setSmall", "([III)V"⟩
abbrev cX0_isSmall : ByteArray := prog_2_method_5_code
def yX0_isSmall : MethodName := ⟨RX0, "isSmall", "([III)Z"⟩
abbrev cX0_isOdd : ByteArray := prog_2_method_6_code
def yX0_isOdd : MethodName := ⟨RX0, "isOdd", "([I)Z"⟩
abbrev cX0_isBitSet : ByteArray := prog_2_method_7_code
def yX0_isBitSet : MethodName := ⟨RX0, "isBitSet", "([II)Z"⟩
abbrev cX0_highestBit : ByteArray := prog_2_method_8_code
def yX0_highestBit : MethodName := ⟨RX0, "highestBit", "([II)I"⟩
abbrev cX0_order : ByteArray := prog_2_method_9_code
def yX0_order : MethodName := ⟨RX0, "order", "([I[II)I"⟩
abbrev cX0_add : ByteArray := prog_2_method_10_code
def yX0_add : MethodName := ⟨RX0, "add", "([I[I[II)J"⟩
abbrev cX0_subtract : ByteArray := prog_2_method_11_code
def yX0_subtract : MethodName := ⟨RX0, "subtract", "([I[I[II)Z"⟩
abbrev cX0_addMultiple : ByteArray := prog_2_method_12_code
def yX0_addMultiple : MethodName := ⟨RX0, "addMultiple", "([I[III)J"⟩
abbrev cX0_dropLimb : ByteArray := prog_2_method_13_code
def yX0_dropLimb : MethodName := ⟨RX0, "dropLimb", "([IJI)J"⟩
abbrev cX0_halve : ByteArray := prog_2_method_14_code
def yX0_halve : MethodName := ⟨RX0, "halve", "([IJI)V"⟩
def RX1 : String := "ModEngine$Ring"
def TX1 : u_T := fun k => match k with
  | 0 => ("ModEngine$Ring", "modulus", "[I", true)
  | 1 => ("ModEngine$Ring", "k", "I", true)
  | 2 => ("ModEngine$Ring", "bits", "I", true)
  | 3 => ("ModEngine$Ring", "one", "[I", true)
  | 4 => ("ModEngine$Ring", "unit", "[I", true)
  | 5 => ("ModEngine$Ring", "rSquared", "[I", true)
  | 6 => ("ModEngine$Ring", "running", "[I", true)
  | 7 => ("ModEngine$Ring", "left", "[I", true)
  | 8 => ("ModEngine$Ring", "right", "[I", true)
  | 9 => ("ModEngine$Ring", "leftShare", "[I", true)
  | 10 => ("ModEngine$Ring", "rightShare", "[I", true)
  | _ => ("ModEngine$Ring", "minusInverse", "I", false)
def tyX1 : Nat → FieldType := fun k => match k with
  | 0 => .array .int
  | 1 => .int
  | 2 => .int
  | 3 => .array .int
  | 4 => .array .int
  | 5 => .array .int
  | 6 => .array .int
  | 7 => .array .int
  | 8 => .array .int
  | 9 => .array .int
  | 10 => .array .int
  | _ => .int
abbrev wsX10 : List Cond := u_ws RX1 TX1 12
theorem nmX1 : ∀ a, a < 12 → ∀ b, b < 12 → a ≠ b → (TX1 a).2.1 ≠ (TX1 b).2.1 := by decide +kernel
theorem tyX1_ok : ∀ k, k < 12 → parseFieldDescriptor (TX1 k).2.2.1 = some (tyX1 k) := by decide +kernel
abbrev cX1_init : ByteArray := prog_3_method_1_code
def yX1_init : MethodName := ⟨RX1, "<init>", "(I)V"⟩
abbrev cX1_hasFitModulus : ByteArray := prog_3_method_2_code
def yX1_hasFitModulus : MethodName := ⟨RX1, "hasFitModulus", "()Z"⟩
abbrev cX1_prepare : ByteArray := prog_3_method_3_code
def yX1_prepare : MethodName := ⟨RX1, "prepare", "()V"⟩
abbrev cX1_residue : ByteArray := prog_3_method_4_code
def yX1_residue : MethodName := ⟨RX1, "residue", "([I[I)V"⟩
abbrev cX1_sum : ByteArray := prog_3_method_5_code
def yX1_sum : MethodName := ⟨RX1, "sum", "([I[I[I)V"⟩
abbrev cX1_difference : ByteArray := prog_3_method_6_code
def yX1_difference : MethodName := ⟨RX1, "difference", "([I[I[I)V"⟩
abbrev cX1_product : ByteArray := prog_3_method_7_code
def yX1_product : MethodName := ⟨RX1, "product", "([I[I[I)V"⟩
abbrev cX1_productByR : ByteArray := prog_3_method_8_code
def yX1_productByR : MethodName := ⟨RX1, "productByR", "([I[I[I)V"⟩
abbrev cX1_power : ByteArray := prog_3_method_9_code
def yX1_power : MethodName := ⟨RX1, "power", "([I[I[I)V"⟩
abbrev cX1_invert : ByteArray := prog_3_method_10_code
def yX1_invert : MethodName := ⟨RX1, "invert", "([I[I)Z"⟩
abbrev cX1_isProvedCompositeBy : ByteArray := prog_3_method_11_code
def yX1_isProvedCompositeBy : MethodName := ⟨RX1, "isProvedCompositeBy", "([I)Z"⟩
abbrev cX1_montgomery : ByteArray := prog_3_method_12_code
def yX1_montgomery : MethodName := ⟨RX1, "montgomery", "([I[I[I)V"⟩
abbrev cX1_raise : ByteArray := prog_3_method_13_code
def yX1_raise : MethodName := ⟨RX1, "raise", "([I[I[II)V"⟩
abbrev cX1_stepTowardsDivisor : ByteArray := prog_3_method_14_code
def yX1_stepTowardsDivisor : MethodName := ⟨RX1, "stepTowardsDivisor", "()V"⟩
abbrev cX1_addBelow : ByteArray := prog_3_method_15_code
def yX1_addBelow : MethodName := ⟨RX1, "addBelow", "([I[I[I)V"⟩
abbrev cX1_subtractBelow : ByteArray := prog_3_method_16_code
def yX1_subtractBelow : MethodName := ⟨RX1, "subtractBelow", "([I[I[I)V"⟩
abbrev cX1_halveBelow : ByteArray := prog_3_method_17_code
def yX1_halveBelow : MethodName := ⟨RX1, "halveBelow", "([I)V"⟩
abbrev cX1_bringBelow : ByteArray := prog_3_method_18_code
def yX1_bringBelow : MethodName := ⟨RX1, "bringBelow", "([IJ)V"⟩
abbrev cX1_doubleOften : ByteArray := prog_3_method_19_code
def yX1_doubleOften : MethodName := ⟨RX1, "doubleOften", "([I)V"⟩
abbrev cX1_twosInModulusLessOne : ByteArray := prog_3_method_20_code
def yX1_twosInModulusLessOne : MethodName := ⟨RX1, "twosInModulusLessOne", "()I"⟩
abbrev cX1_inverseOfLimb : ByteArray := prog_3_method_21_code
def yX1_inverseOfLimb : MethodName := ⟨RX1, "inverseOfLimb", "(I)I"⟩
def RX2 : String := "ModEngine"
def TX2 : u_T := fun k => match k with
  | 0 => ("ModEngine", "limbs", "I", true)
  | 1 => ("ModEngine", "count", "I", true)
  | 2 => ("ModEngine", "registers", "[[I", true)
  | 3 => ("ModEngine", "ring", "LModEngine$Ring;", true)
  | _ => ("ModEngine", "isReady", "Z", false)
def tyX2 : Nat → FieldType := fun k => match k with
  | 0 => .int
  | 1 => .int
  | 2 => .array (.array .int)
  | 3 => .object "ModEngine$Ring"
  | _ => .boolean
abbrev wsX20 : List Cond := u_ws RX2 TX2 5
theorem nmX2 : ∀ a, a < 5 → ∀ b, b < 5 → a ≠ b → (TX2 a).2.1 ≠ (TX2 b).2.1 := by decide +kernel
theorem tyX2_ok : ∀ k, k < 5 → parseFieldDescriptor (TX2 k).2.2.1 = some (tyX2 k) := by decide +kernel
abbrev cX2_init : ByteArray := prog_1_method_1_code
def yX2_init : MethodName := ⟨RX2, "<init>", "(II)V"⟩
abbrev cX2_pokeMod : ByteArray := prog_1_method_2_code
def yX2_pokeMod : MethodName := ⟨RX2, "pokeMod", "(II)Z"⟩
abbrev cX2_peekMod : ByteArray := prog_1_method_3_code
def yX2_peekMod : MethodName := ⟨RX2, "peekMod", "(I)I"⟩
abbrev cX2_init_ : ByteArray := prog_1_method_4_code
def yX2_init_ : MethodName := ⟨RX2, "init", "()I"⟩
abbrev cX2_ready : ByteArray := prog_1_method_5_code
def yX2_ready : MethodName := ⟨RX2, "ready", "()Z"⟩
abbrev cX2_poke : ByteArray := prog_1_method_6_code
def yX2_poke : MethodName := ⟨RX2, "poke", "(III)Z"⟩
abbrev cX2_peek : ByteArray := prog_1_method_7_code
def yX2_peek : MethodName := ⟨RX2, "peek", "(II)I"⟩
abbrev cX2_reduce : ByteArray := prog_1_method_8_code
def yX2_reduce : MethodName := ⟨RX2, "reduce", "(I)Z"⟩
abbrev cX2_addMod : ByteArray := prog_1_method_9_code
def yX2_addMod : MethodName := ⟨RX2, "addMod", "(III)Z"⟩
abbrev cX2_subMod : ByteArray := prog_1_method_10_code
def yX2_subMod : MethodName := ⟨RX2, "subMod", "(III)Z"⟩
abbrev cX2_mulMod : ByteArray := prog_1_method_11_code
def yX2_mulMod : MethodName := ⟨RX2, "mulMod", "(III)Z"⟩
abbrev cX2_montMod : ByteArray := prog_1_method_12_code
def yX2_montMod : MethodName := ⟨RX2, "montMod", "(III)Z"⟩
abbrev cX2_powMod : ByteArray := prog_1_method_13_code
def yX2_powMod : MethodName := ⟨RX2, "powMod", "(III)Z"⟩
abbrev cX2_invMod : ByteArray := prog_1_method_14_code
def yX2_invMod : MethodName := ⟨RX2, "invMod", "(II)I"⟩
abbrev cX2_witness : ByteArray := prog_1_method_15_code
def yX2_witness : MethodName := ⟨RX2, "witness", "(I)I"⟩
abbrev cX2_compare : ByteArray := prog_1_method_16_code
def yX2_compare : MethodName := ⟨RX2, "compare", "(II)I"⟩
abbrev cX2_hasLimb : ByteArray := prog_1_method_17_code
def yX2_hasLimb : MethodName := ⟨RX2, "hasLimb", "(I)Z"⟩
abbrev cX2_hasRegister : ByteArray := prog_1_method_18_code
def yX2_hasRegister : MethodName := ⟨RX2, "hasRegister", "(I)Z"⟩
abbrev cX2_canWork : ByteArray := prog_1_method_19_code
def yX2_canWork : MethodName := ⟨RX2, "canWork", "(III)Z"⟩
def RX3 : String := "ModEngineModel"
def TX3 : u_T := fun k => match k with
  | 0 => ("ModEngineModel", "limbs", "I", true)
  | 1 => ("ModEngineModel", "registers", "I", true)
  | 2 => ("ModEngineModel", "held", "[J", true)
  | 3 => ("ModEngineModel", "isReady", "Z", false)
  | 4 => ("ModEngineModel", "modulus", "[J", true)
  | 5 => ("ModEngineModel", "first", "[J", true)
  | 6 => ("ModEngineModel", "second", "[J", true)
  | 7 => ("ModEngineModel", "result", "[J", true)
  | 8 => ("ModEngineModel", "factor", "[J", true)
  | 9 => ("ModEngineModel", "base", "[J", true)
  | _ => ("ModEngineModel", "power", "[J", true)
def tyX3 : Nat → FieldType := fun k => match k with
  | 0 => .int
  | 1 => .int
  | 2 => .array .long
  | 3 => .boolean
  | 4 => .array .long
  | 5 => .array .long
  | 6 => .array .long
  | 7 => .array .long
  | 8 => .array .long
  | 9 => .array .long
  | _ => .array .long
abbrev wsX30 : List Cond := u_ws RX3 TX3 11
theorem nmX3 : ∀ a, a < 11 → ∀ b, b < 11 → a ≠ b → (TX3 a).2.1 ≠ (TX3 b).2.1 := by decide +kernel
theorem tyX3_ok : ∀ k, k < 11 → parseFieldDescriptor (TX3 k).2.2.1 = some (tyX3 k) := by decide +kernel
abbrev cX3_init : ByteArray := prog_5_method_1_code
def yX3_init : MethodName := ⟨RX3, "<init>", "(II)V"⟩
abbrev cX3_within : ByteArray := prog_5_method_2_code
def yX3_within : MethodName := ⟨RX3, "within", "(I)I"⟩
abbrev cX3_isLimb : ByteArray := prog_5_method_3_code
def yX3_isLimb : MethodName := ⟨RX3, "isLimb", "(I)Z"⟩
abbrev cX3_isRegister : ByteArray := prog_5_method_4_code
def yX3_isRegister : MethodName := ⟨RX3, "isRegister", "(I)Z"⟩
abbrev cX3_placeOf : ByteArray := prog_5_method_5_code
def yX3_placeOf : MethodName := ⟨RX3, "placeOf", "(I)I"⟩
abbrev cX3_placeOfModulus : ByteArray := prog_5_method_6_code
def yX3_placeOfModulus : MethodName := ⟨RX3, "placeOfModulus", "()I"⟩
abbrev cX3_pokeMod : ByteArray := prog_5_method_7_code
def yX3_pokeMod : MethodName := ⟨RX3, "pokeMod", "(II)Z"⟩
abbrev cX3_peekMod : ByteArray := prog_5_method_8_code
def yX3_peekMod : MethodName := ⟨RX3, "peekMod", "(I)I"⟩
abbrev cX3_init_ : ByteArray := prog_5_method_9_code
def yX3_init_ : MethodName := ⟨RX3, "init", "()I"⟩
abbrev cX3_ready : ByteArray := prog_5_method_10_code
def yX3_ready : MethodName := ⟨RX3, "ready", "()Z"⟩
abbrev cX3_poke : ByteArray := prog_5_method_11_code
def yX3_poke : MethodName := ⟨RX3, "poke", "(III)Z"⟩
abbrev cX3_peek : ByteArray := prog_5_method_12_code
def yX3_peek : MethodName := ⟨RX3, "peek", "(II)I"⟩
abbrev cX3_read : ByteArray := prog_5_method_13_code
def yX3_read : MethodName := ⟨RX3, "read", "([JI)V"⟩
abbrev cX3_write : ByteArray := prog_5_method_14_code
def yX3_write : MethodName := ⟨RX3, "write", "(I[J)V"⟩
abbrev cX3_copy : ByteArray := prog_5_method_15_code
def yX3_copy : MethodName := ⟨RX3, "copy", "([J[J)V"⟩
abbrev cX3_be : ByteArray := prog_5_method_16_code
def yX3_be : MethodName := ⟨RX3, "be", "([JJ)V"⟩
abbrev cX3_compared : ByteArray := prog_5_method_17_code
def yX3_compared : MethodName := ⟨RX3, "compared", "([J[J)I"⟩
abbrev cX3_isNought : ByteArray := prog_5_method_18_code
def yX3_isNought : MethodName := ⟨RX3, "isNought", "([J)Z"⟩
abbrev cX3_isOne : ByteArray := prog_5_method_19_code
def yX3_isOne : MethodName := ⟨RX3, "isOne", "([J)Z"⟩
abbrev cX3_plus : ByteArray := prog_5_method_20_code
def yX3_plus : MethodName := ⟨RX3, "plus", "([J[J)V"⟩
abbrev cX3_minus : ByteArray := prog_5_method_21_code
def yX3_minus : MethodName := ⟨RX3, "minus", "([J[J)V"⟩
abbrev cX3_half : ByteArray := prog_5_method_22_code
def yX3_half : MethodName := ⟨RX3, "half", "([J)V"⟩
abbrev cX3_bit : ByteArray := prog_5_method_23_code
def yX3_bit : MethodName := ⟨RX3, "bit", "([JI)Z"⟩
abbrev cX3_bits : ByteArray := prog_5_method_24_code
def yX3_bits : MethodName := ⟨RX3, "bits", "()I"⟩
abbrev cX3_sum : ByteArray := prog_5_method_25_code
def yX3_sum : MethodName := ⟨RX3, "sum", "([J[J)V"⟩
abbrev cX3_difference : ByteArray := prog_5_method_26_code
def yX3_difference : MethodName := ⟨RX3, "difference", "([J[J)V"⟩
abbrev cX3_rest : ByteArray := prog_5_method_27_code
def yX3_rest : MethodName := ⟨RX3, "rest", "([J)V"⟩
abbrev cX3_product : ByteArray := prog_5_method_28_code
def yX3_product : MethodName := ⟨RX3, "product", "([J[J)V"⟩
abbrev cX3_halfOf : ByteArray := prog_5_method_29_code
def yX3_halfOf : MethodName := ⟨RX3, "halfOf", "([J)V"⟩
abbrev cX3_isAsked : ByteArray := prog_5_method_30_code
def yX3_isAsked : MethodName := ⟨RX3, "isAsked", "(III)Z"⟩
abbrev cX3_takes : ByteArray := prog_5_method_31_code
def yX3_takes : MethodName := ⟨RX3, "takes", "(II)V"⟩
abbrev cX3_reduce : ByteArray := prog_5_method_32_code
def yX3_reduce : MethodName := ⟨RX3, "reduce", "(I)Z"⟩
abbrev cX3_addMod : ByteArray := prog_5_method_33_code
def yX3_addMod : MethodName := ⟨RX3, "addMod", "(III)Z"⟩
abbrev cX3_subMod : ByteArray := prog_5_method_34_code
def yX3_subMod : MethodName := ⟨RX3, "subMod", "(III)Z"⟩
abbrev cX3_mulMod : ByteArray := prog_5_method_35_code
def yX3_mulMod : MethodName := ⟨RX3, "mulMod", "(III)Z"⟩
abbrev cX3_montMod : ByteArray := prog_5_method_36_code
def yX3_montMod : MethodName := ⟨RX3, "montMod", "(III)Z"⟩
abbrev cX3_raise : ByteArray := prog_5_method_37_code
def yX3_raise : MethodName := ⟨RX3, "raise", "([J)V"⟩
abbrev cX3_powMod : ByteArray := prog_5_method_38_code
def yX3_powMod : MethodName := ⟨RX3, "powMod", "(III)Z"⟩
abbrev cX3_invMod : ByteArray := prog_5_method_39_code
def yX3_invMod : MethodName := ⟨RX3, "invMod", "(II)I"⟩
abbrev cX3_witness : ByteArray := prog_5_method_40_code
def yX3_witness : MethodName := ⟨RX3, "witness", "(I)I"⟩
abbrev cX3_compare : ByteArray := prog_5_method_41_code
def yX3_compare : MethodName := ⟨RX3, "compare", "(II)I"⟩
def RJ9 : String := "java/lang/Math"
def TJ9 : u_T := fun k => match k with
  | _ => ("", "", "", false)
def tyJ9 : Nat → FieldType := fun k => match k with
  | _ => .int
abbrev wsJ90 : List Cond := u_ws RJ9 TJ9 0
theorem nmJ9 : ∀ a, a < 0 → ∀ b, b < 0 → a ≠ b → (TJ9 a).2.1 ≠ (TJ9 b).2.1 := by decide +kernel
theorem tyJ9_ok : ∀ k, k < 0 → parseFieldDescriptor (TJ9 k).2.2.1 = some (tyJ9 k) := by decide +kernel
abbrev cJ9_max_7cf53 : ByteArray := prog_6_method_65_code
def yJ9_max_7cf53 : MethodName := ⟨RJ9, "max", "(II)I"⟩
abbrev cJ9_min_7cf53 : ByteArray := prog_6_method_69_code
def yJ9_min_7cf53 : MethodName := ⟨RJ9, "min", "(II)I"⟩
def RL : String := "ModEngineLaw"
abbrev cL_cell : ByteArray := method_2_code
def yL_cell : MethodName := ⟨RL, "cell", "([II)I"⟩
abbrev cL_law : ByteArray := code
def yL_law : MethodName := ⟨RL, "law", "([I)Z"⟩
def wsX0_copy : List Cond := .code yX0_copy cX0_copy 4 none :: ([])
def wsX0_swap : List Cond := .code yX0_swap cX0_swap 5 none :: ([])
def wsX0_setSmall : List Cond := .code yX0_setSmall cX0_setSmall 4 none :: ([])
def wsX0_isSmall : List Cond := .code yX0_isSmall cX0_isSmall 4 (some .boolean) :: ([])
def wsX0_isOdd : List Cond := .code yX0_isOdd cX0_isOdd 1 (some .boolean) :: ([])
def wsX0_isBitSet : List Cond := .code yX0_isBitSet cX0_isBitSet 2 (some .boolean) :: ([])
def wsX0_highestBit : List Cond := .code yX0_highestBit cX0_highestBit 3 (some .int) :: ([.methodLink RX0 9 yX0_isBitSet, .static yX0_isBitSet, .initialized RX0, .code yX0_isBitSet cX0_isBitSet 2 (some .boolean)])
def wsX0_order : List Cond := .code yX0_order cX0_order 4 (some .int) :: ([.constantLong RX0 15 (4294967295)])
def wsX0_add : List Cond := .code yX0_add cX0_add 7 (some .long) :: ([.constantLong RX0 15 (4294967295)])
def wsX0_subtract : List Cond := .code yX0_subtract cX0_subtract 7 (some .boolean) :: ([.constantLong RX0 15 (4294967295)])
def wsX0_addMultiple : List Cond := .code yX0_addMultiple cX0_addMultiple 9 (some .long) :: ([.constantLong RX0 15 (4294967295)])
def wsX0_dropLimb : List Cond := .code yX0_dropLimb cX0_dropLimb 5 (some .long) :: ([])
def wsX0_halve : List Cond := .code yX0_halve cX0_halve 9 none :: ([.constantLong RX0 15 (4294967295)])
def wsX1_init : List Cond := .code yX1_init cX1_init 2 none :: ([.methodLink RX1 3 objectInit, .instanceMethod objectInit, .code objectInit ⟨#[0xb1]⟩ 1 none, .fieldLink RX1 9 "ModEngine$Ring" "k" "I", .fieldLink RX1 15 "ModEngine$Ring" "bits" "I", .arrayClass .int, .fieldLink RX1 18 "ModEngine$Ring" "modulus" "[I", .fieldLink RX1 22 "ModEngine$Ring" "one" "[I", .fieldLink RX1 25 "ModEngine$Ring" "unit" "[I", .fieldLink RX1 28 "ModEngine$Ring" "rSquared" "[I", .fieldLink RX1 31 "ModEngine$Ring" "running" "[I", .fieldLink RX1 34 "ModEngine$Ring" "left" "[I", .fieldLink RX1 37 "ModEngine$Ring" "right" "[I", .fieldLink RX1 40 "ModEngine$Ring" "leftShare" "[I", .fieldLink RX1 43 "ModEngine$Ring" "rightShare" "[I", .fieldLink RX1 46 "ModEngine$Ring" "minusInverse" "I"] ++ wsX10)
def wsX1_hasFitModulus : List Cond := .code yX1_hasFitModulus cX1_hasFitModulus 1 (some .boolean) :: ([.fieldLink RX1 18 "ModEngine$Ring" "modulus" "[I", .fieldLink RX1 9 "ModEngine$Ring" "k" "I", .methodLink RX1 49 yX0_isOdd, .static yX0_isOdd, .initialized RX0, .code yX0_isOdd cX0_isOdd 1 (some .boolean), .methodLink RX1 55 yX0_isSmall, .static yX0_isSmall, .code yX0_isSmall cX0_isSmall 4 (some .boolean)] ++ wsX10)
def wsX1_inverseOfLimb : List Cond := .code yX1_inverseOfLimb cX1_inverseOfLimb 3 (some .int) :: ([])
def wsX1_bringBelow : List Cond := .code yX1_bringBelow cX1_bringBelow 4 none :: ([.fieldLink RX1 18 "ModEngine$Ring" "modulus" "[I", .fieldLink RX1 9 "ModEngine$Ring" "k" "I", .methodLink RX1 103 yX0_order, .static yX0_order, .initialized RX0, .code yX0_order cX0_order 4 (some .int), .constantLong RX0 15 (4294967295), .methodLink RX1 137 yX0_subtract, .static yX0_subtract, .code yX0_subtract cX0_subtract 7 (some .boolean)] ++ wsX10)
def wsX1_addBelow : List Cond := .code yX1_addBelow cX1_addBelow 6 none :: ([.fieldLink RX1 9 "ModEngine$Ring" "k" "I", .methodLink RX1 141 yX0_add, .static yX0_add, .initialized RX0, .code yX0_add cX0_add 7 (some .long), .constantLong RX0 15 (4294967295), .methodLink RX1 115 yX1_bringBelow, .instanceMethod yX1_bringBelow, .selects RX1 yX1_bringBelow yX1_bringBelow, .initialized RX1, .code yX1_bringBelow cX1_bringBelow 4 none, .fieldLink RX1 18 "ModEngine$Ring" "modulus" "[I", .methodLink RX1 103 yX0_order, .static yX0_order, .code yX0_order cX0_order 4 (some .int), .methodLink RX1 137 yX0_subtract, .static yX0_subtract, .code yX0_subtract cX0_subtract 7 (some .boolean)] ++ wsX10)
def wsX1_doubleOften : List Cond := .code yX1_doubleOften cX1_doubleOften 3 none :: ([.fieldLink RX1 15 "ModEngine$Ring" "bits" "I", .methodLink RX1 79 yX1_addBelow, .instanceMethod yX1_addBelow, .selects RX1 yX1_addBelow yX1_addBelow, .initialized RX1, .code yX1_addBelow cX1_addBelow 6 none, .fieldLink RX1 9 "ModEngine$Ring" "k" "I", .methodLink RX1 141 yX0_add, .static yX0_add, .initialized RX0, .code yX0_add cX0_add 7 (some .long), .constantLong RX0 15 (4294967295), .methodLink RX1 115 yX1_bringBelow, .instanceMethod yX1_bringBelow, .selects RX1 yX1_bringBelow yX1_bringBelow, .code yX1_bringBelow cX1_bringBelow 4 none, .fieldLink RX1 18 "ModEngine$Ring" "modulus" "[I", .methodLink RX1 103 yX0_order, .static yX0_order, .code yX0_order cX0_order 4 (some .int), .methodLink RX1 137 yX0_subtract, .static yX0_subtract, .code yX0_subtract cX0_subtract 7 (some .boolean)] ++ wsX10)
def wsX1_prepare_r1 : List Cond := [Cond.fieldLink RX1 18 "ModEngine$Ring" "modulus" "[I", Cond.fieldLink RX1 46 "ModEngine$Ring" "minusInverse" "I", Cond.fieldLink RX1 25 "ModEngine$Ring" "unit" "[I", Cond.fieldLink RX1 22 "ModEngine$Ring" "one" "[I", Cond.fieldLink RX1 9 "ModEngine$Ring" "k" "I", Cond.fieldLink RX1 28 "ModEngine$Ring" "rSquared" "[I", Cond.methodLink RX1 59 yX1_inverseOfLimb, Cond.static yX1_inverseOfLimb, Cond.initialized RX1, Cond.code yX1_inverseOfLimb cX1_inverseOfLimb 3 (some .int), Cond.methodLink RX1 63 yX0_copy, Cond.static yX0_copy, Cond.initialized RX0, Cond.code yX0_copy cX0_copy 4 none, Cond.methodLink RX1 67 yX1_doubleOften, Cond.instanceMethod yX1_doubleOften, Cond.selects RX1 yX1_doubleOften yX1_doubleOften, Cond.code yX1_doubleOften cX1_doubleOften 3 none, Cond.fieldLink RX1 15 "ModEngine$Ring" "bits" "I", Cond.methodLink RX1 79 yX1_addBelow, Cond.instanceMethod yX1_addBelow, Cond.selects RX1 yX1_addBelow yX1_addBelow, Cond.code yX1_addBelow cX1_addBelow 6 none, Cond.methodLink RX1 141 yX0_add]
def wsX1_prepare_r2 : List Cond := [Cond.static yX0_add, Cond.code yX0_add cX0_add 7 (some .long), Cond.constantLong RX0 15 (4294967295), Cond.methodLink RX1 115 yX1_bringBelow, Cond.instanceMethod yX1_bringBelow, Cond.selects RX1 yX1_bringBelow yX1_bringBelow, Cond.code yX1_bringBelow cX1_bringBelow 4 none, Cond.methodLink RX1 103 yX0_order, Cond.static yX0_order, Cond.code yX0_order cX0_order 4 (some .int), Cond.methodLink RX1 137 yX0_subtract, Cond.static yX0_subtract, Cond.code yX0_subtract cX0_subtract 7 (some .boolean)]
def wsX1_prepare : List Cond := .code yX1_prepare cX1_prepare 1 none :: ((wsX1_prepare_r1 ++ wsX1_prepare_r2) ++ wsX10)
def wsX1_montgomery_r1 : List Cond := [Cond.fieldLink RX1 31 "ModEngine$Ring" "running" "[I", Cond.fieldLink RX1 9 "ModEngine$Ring" "k" "I", Cond.fieldLink RX1 18 "ModEngine$Ring" "modulus" "[I", Cond.fieldLink RX1 46 "ModEngine$Ring" "minusInverse" "I", Cond.methodLink RX1 92 yX0_setSmall, Cond.static yX0_setSmall, Cond.initialized RX0, Cond.code yX0_setSmall cX0_setSmall 4 none, Cond.methodLink RX1 107 yX0_addMultiple, Cond.static yX0_addMultiple, Cond.code yX0_addMultiple cX0_addMultiple 9 (some .long), Cond.constantLong RX0 15 (4294967295), Cond.methodLink RX1 111 yX0_dropLimb, Cond.static yX0_dropLimb, Cond.code yX0_dropLimb cX0_dropLimb 5 (some .long), Cond.methodLink RX1 63 yX0_copy, Cond.static yX0_copy, Cond.code yX0_copy cX0_copy 4 none, Cond.methodLink RX1 115 yX1_bringBelow, Cond.instanceMethod yX1_bringBelow, Cond.selects RX1 yX1_bringBelow yX1_bringBelow, Cond.initialized RX1, Cond.code yX1_bringBelow cX1_bringBelow 4 none, Cond.methodLink RX1 103 yX0_order]
def wsX1_montgomery_r2 : List Cond := [Cond.static yX0_order, Cond.code yX0_order cX0_order 4 (some .int), Cond.methodLink RX1 137 yX0_subtract, Cond.static yX0_subtract, Cond.code yX0_subtract cX0_subtract 7 (some .boolean)]
def wsX1_montgomery : List Cond := .code yX1_montgomery cX1_montgomery 7 none :: ((wsX1_montgomery_r1 ++ wsX1_montgomery_r2) ++ wsX10)
def wsX1_residue_r1 : List Cond := [Cond.fieldLink RX1 28 "ModEngine$Ring" "rSquared" "[I", Cond.fieldLink RX1 22 "ModEngine$Ring" "one" "[I", Cond.methodLink RX1 71 yX1_montgomery, Cond.instanceMethod yX1_montgomery, Cond.selects RX1 yX1_montgomery yX1_montgomery, Cond.initialized RX1, Cond.code yX1_montgomery cX1_montgomery 7 none, Cond.fieldLink RX1 31 "ModEngine$Ring" "running" "[I", Cond.fieldLink RX1 9 "ModEngine$Ring" "k" "I", Cond.fieldLink RX1 18 "ModEngine$Ring" "modulus" "[I", Cond.fieldLink RX1 46 "ModEngine$Ring" "minusInverse" "I", Cond.methodLink RX1 92 yX0_setSmall, Cond.static yX0_setSmall, Cond.initialized RX0, Cond.code yX0_setSmall cX0_setSmall 4 none, Cond.methodLink RX1 107 yX0_addMultiple, Cond.static yX0_addMultiple, Cond.code yX0_addMultiple cX0_addMultiple 9 (some .long), Cond.constantLong RX0 15 (4294967295), Cond.methodLink RX1 111 yX0_dropLimb, Cond.static yX0_dropLimb, Cond.code yX0_dropLimb cX0_dropLimb 5 (some .long), Cond.methodLink RX1 63 yX0_copy, Cond.static yX0_copy]
def wsX1_residue_r2 : List Cond := [Cond.code yX0_copy cX0_copy 4 none, Cond.methodLink RX1 115 yX1_bringBelow, Cond.instanceMethod yX1_bringBelow, Cond.selects RX1 yX1_bringBelow yX1_bringBelow, Cond.code yX1_bringBelow cX1_bringBelow 4 none, Cond.methodLink RX1 103 yX0_order, Cond.static yX0_order, Cond.code yX0_order cX0_order 4 (some .int), Cond.methodLink RX1 137 yX0_subtract, Cond.static yX0_subtract, Cond.code yX0_subtract cX0_subtract 7 (some .boolean)]
def wsX1_residue : List Cond := .code yX1_residue cX1_residue 3 none :: ((wsX1_residue_r1 ++ wsX1_residue_r2) ++ wsX10)
def wsX1_sum_r1 : List Cond := [Cond.fieldLink RX1 34 "ModEngine$Ring" "left" "[I", Cond.fieldLink RX1 37 "ModEngine$Ring" "right" "[I", Cond.methodLink RX1 75 yX1_residue, Cond.instanceMethod yX1_residue, Cond.selects RX1 yX1_residue yX1_residue, Cond.initialized RX1, Cond.code yX1_residue cX1_residue 3 none, Cond.fieldLink RX1 28 "ModEngine$Ring" "rSquared" "[I", Cond.fieldLink RX1 22 "ModEngine$Ring" "one" "[I", Cond.methodLink RX1 71 yX1_montgomery, Cond.instanceMethod yX1_montgomery, Cond.selects RX1 yX1_montgomery yX1_montgomery, Cond.code yX1_montgomery cX1_montgomery 7 none, Cond.fieldLink RX1 31 "ModEngine$Ring" "running" "[I", Cond.fieldLink RX1 9 "ModEngine$Ring" "k" "I", Cond.fieldLink RX1 18 "ModEngine$Ring" "modulus" "[I", Cond.fieldLink RX1 46 "ModEngine$Ring" "minusInverse" "I", Cond.methodLink RX1 92 yX0_setSmall, Cond.static yX0_setSmall, Cond.initialized RX0, Cond.code yX0_setSmall cX0_setSmall 4 none, Cond.methodLink RX1 107 yX0_addMultiple, Cond.static yX0_addMultiple, Cond.code yX0_addMultiple cX0_addMultiple 9 (some .long)]
def wsX1_sum_r2 : List Cond := [Cond.constantLong RX0 15 (4294967295), Cond.methodLink RX1 111 yX0_dropLimb, Cond.static yX0_dropLimb, Cond.code yX0_dropLimb cX0_dropLimb 5 (some .long), Cond.methodLink RX1 63 yX0_copy, Cond.static yX0_copy, Cond.code yX0_copy cX0_copy 4 none, Cond.methodLink RX1 115 yX1_bringBelow, Cond.instanceMethod yX1_bringBelow, Cond.selects RX1 yX1_bringBelow yX1_bringBelow, Cond.code yX1_bringBelow cX1_bringBelow 4 none, Cond.methodLink RX1 103 yX0_order, Cond.static yX0_order, Cond.code yX0_order cX0_order 4 (some .int), Cond.methodLink RX1 137 yX0_subtract, Cond.static yX0_subtract, Cond.code yX0_subtract cX0_subtract 7 (some .boolean), Cond.methodLink RX1 79 yX1_addBelow, Cond.instanceMethod yX1_addBelow, Cond.selects RX1 yX1_addBelow yX1_addBelow, Cond.code yX1_addBelow cX1_addBelow 6 none, Cond.methodLink RX1 141 yX0_add, Cond.static yX0_add, Cond.code yX0_add cX0_add 7 (some .long)]
def wsX1_sum : List Cond := .code yX1_sum cX1_sum 4 none :: ((wsX1_sum_r1 ++ wsX1_sum_r2) ++ wsX10)
def wsX1_subtractBelow : List Cond := .code yX1_subtractBelow cX1_subtractBelow 4 none :: ([.fieldLink RX1 9 "ModEngine$Ring" "k" "I", .fieldLink RX1 18 "ModEngine$Ring" "modulus" "[I", .methodLink RX1 137 yX0_subtract, .static yX0_subtract, .initialized RX0, .code yX0_subtract cX0_subtract 7 (some .boolean), .constantLong RX0 15 (4294967295), .methodLink RX1 141 yX0_add, .static yX0_add, .code yX0_add cX0_add 7 (some .long)] ++ wsX10)
def wsX1_difference_r1 : List Cond := [Cond.fieldLink RX1 34 "ModEngine$Ring" "left" "[I", Cond.fieldLink RX1 37 "ModEngine$Ring" "right" "[I", Cond.methodLink RX1 75 yX1_residue, Cond.instanceMethod yX1_residue, Cond.selects RX1 yX1_residue yX1_residue, Cond.initialized RX1, Cond.code yX1_residue cX1_residue 3 none, Cond.fieldLink RX1 28 "ModEngine$Ring" "rSquared" "[I", Cond.fieldLink RX1 22 "ModEngine$Ring" "one" "[I", Cond.methodLink RX1 71 yX1_montgomery, Cond.instanceMethod yX1_montgomery, Cond.selects RX1 yX1_montgomery yX1_montgomery, Cond.code yX1_montgomery cX1_montgomery 7 none, Cond.fieldLink RX1 31 "ModEngine$Ring" "running" "[I", Cond.fieldLink RX1 9 "ModEngine$Ring" "k" "I", Cond.fieldLink RX1 18 "ModEngine$Ring" "modulus" "[I", Cond.fieldLink RX1 46 "ModEngine$Ring" "minusInverse" "I", Cond.methodLink RX1 92 yX0_setSmall, Cond.static yX0_setSmall, Cond.initialized RX0, Cond.code yX0_setSmall cX0_setSmall 4 none, Cond.methodLink RX1 107 yX0_addMultiple, Cond.static yX0_addMultiple, Cond.code yX0_addMultiple cX0_addMultiple 9 (some .long)]
def wsX1_difference_r2 : List Cond := [Cond.constantLong RX0 15 (4294967295), Cond.methodLink RX1 111 yX0_dropLimb, Cond.static yX0_dropLimb, Cond.code yX0_dropLimb cX0_dropLimb 5 (some .long), Cond.methodLink RX1 63 yX0_copy, Cond.static yX0_copy, Cond.code yX0_copy cX0_copy 4 none, Cond.methodLink RX1 115 yX1_bringBelow, Cond.instanceMethod yX1_bringBelow, Cond.selects RX1 yX1_bringBelow yX1_bringBelow, Cond.code yX1_bringBelow cX1_bringBelow 4 none, Cond.methodLink RX1 103 yX0_order, Cond.static yX0_order, Cond.code yX0_order cX0_order 4 (some .int), Cond.methodLink RX1 137 yX0_subtract, Cond.static yX0_subtract, Cond.code yX0_subtract cX0_subtract 7 (some .boolean), Cond.methodLink RX1 82 yX1_subtractBelow, Cond.instanceMethod yX1_subtractBelow, Cond.selects RX1 yX1_subtractBelow yX1_subtractBelow, Cond.code yX1_subtractBelow cX1_subtractBelow 4 none, Cond.methodLink RX1 141 yX0_add, Cond.static yX0_add, Cond.code yX0_add cX0_add 7 (some .long)]
def wsX1_difference : List Cond := .code yX1_difference cX1_difference 4 none :: ((wsX1_difference_r1 ++ wsX1_difference_r2) ++ wsX10)
def wsX1_product_r1 : List Cond := [Cond.fieldLink RX1 34 "ModEngine$Ring" "left" "[I", Cond.fieldLink RX1 28 "ModEngine$Ring" "rSquared" "[I", Cond.methodLink RX1 71 yX1_montgomery, Cond.instanceMethod yX1_montgomery, Cond.selects RX1 yX1_montgomery yX1_montgomery, Cond.initialized RX1, Cond.code yX1_montgomery cX1_montgomery 7 none, Cond.fieldLink RX1 31 "ModEngine$Ring" "running" "[I", Cond.fieldLink RX1 9 "ModEngine$Ring" "k" "I", Cond.fieldLink RX1 18 "ModEngine$Ring" "modulus" "[I", Cond.fieldLink RX1 46 "ModEngine$Ring" "minusInverse" "I", Cond.methodLink RX1 92 yX0_setSmall, Cond.static yX0_setSmall, Cond.initialized RX0, Cond.code yX0_setSmall cX0_setSmall 4 none, Cond.methodLink RX1 107 yX0_addMultiple, Cond.static yX0_addMultiple, Cond.code yX0_addMultiple cX0_addMultiple 9 (some .long), Cond.constantLong RX0 15 (4294967295), Cond.methodLink RX1 111 yX0_dropLimb, Cond.static yX0_dropLimb, Cond.code yX0_dropLimb cX0_dropLimb 5 (some .long), Cond.methodLink RX1 63 yX0_copy, Cond.static yX0_copy]
def wsX1_product_r2 : List Cond := [Cond.code yX0_copy cX0_copy 4 none, Cond.methodLink RX1 115 yX1_bringBelow, Cond.instanceMethod yX1_bringBelow, Cond.selects RX1 yX1_bringBelow yX1_bringBelow, Cond.code yX1_bringBelow cX1_bringBelow 4 none, Cond.methodLink RX1 103 yX0_order, Cond.static yX0_order, Cond.code yX0_order cX0_order 4 (some .int), Cond.methodLink RX1 137 yX0_subtract, Cond.static yX0_subtract, Cond.code yX0_subtract cX0_subtract 7 (some .boolean)]
def wsX1_product : List Cond := .code yX1_product cX1_product 4 none :: ((wsX1_product_r1 ++ wsX1_product_r2) ++ wsX10)
def wsX1_productByR_r1 : List Cond := [Cond.fieldLink RX1 34 "ModEngine$Ring" "left" "[I", Cond.fieldLink RX1 22 "ModEngine$Ring" "one" "[I", Cond.methodLink RX1 85 yX1_product, Cond.instanceMethod yX1_product, Cond.selects RX1 yX1_product yX1_product, Cond.initialized RX1, Cond.code yX1_product cX1_product 4 none, Cond.fieldLink RX1 28 "ModEngine$Ring" "rSquared" "[I", Cond.methodLink RX1 71 yX1_montgomery, Cond.instanceMethod yX1_montgomery, Cond.selects RX1 yX1_montgomery yX1_montgomery, Cond.code yX1_montgomery cX1_montgomery 7 none, Cond.fieldLink RX1 31 "ModEngine$Ring" "running" "[I", Cond.fieldLink RX1 9 "ModEngine$Ring" "k" "I", Cond.fieldLink RX1 18 "ModEngine$Ring" "modulus" "[I", Cond.fieldLink RX1 46 "ModEngine$Ring" "minusInverse" "I", Cond.methodLink RX1 92 yX0_setSmall, Cond.static yX0_setSmall, Cond.initialized RX0, Cond.code yX0_setSmall cX0_setSmall 4 none, Cond.methodLink RX1 107 yX0_addMultiple, Cond.static yX0_addMultiple, Cond.code yX0_addMultiple cX0_addMultiple 9 (some .long), Cond.constantLong RX0 15 (4294967295)]
def wsX1_productByR_r2 : List Cond := [Cond.methodLink RX1 111 yX0_dropLimb, Cond.static yX0_dropLimb, Cond.code yX0_dropLimb cX0_dropLimb 5 (some .long), Cond.methodLink RX1 63 yX0_copy, Cond.static yX0_copy, Cond.code yX0_copy cX0_copy 4 none, Cond.methodLink RX1 115 yX1_bringBelow, Cond.instanceMethod yX1_bringBelow, Cond.selects RX1 yX1_bringBelow yX1_bringBelow, Cond.code yX1_bringBelow cX1_bringBelow 4 none, Cond.methodLink RX1 103 yX0_order, Cond.static yX0_order, Cond.code yX0_order cX0_order 4 (some .int), Cond.methodLink RX1 137 yX0_subtract, Cond.static yX0_subtract, Cond.code yX0_subtract cX0_subtract 7 (some .boolean)]
def wsX1_productByR : List Cond := .code yX1_productByR cX1_productByR 4 none :: ((wsX1_productByR_r1 ++ wsX1_productByR_r2) ++ wsX10)
def wsX1_raise_r1 : List Cond := [Cond.fieldLink RX1 25 "ModEngine$Ring" "unit" "[I", Cond.fieldLink RX1 9 "ModEngine$Ring" "k" "I", Cond.methodLink RX1 63 yX0_copy, Cond.static yX0_copy, Cond.initialized RX0, Cond.code yX0_copy cX0_copy 4 none, Cond.methodLink RX1 119 yX0_highestBit, Cond.static yX0_highestBit, Cond.code yX0_highestBit cX0_highestBit 3 (some .int), Cond.methodLink RX0 9 yX0_isBitSet, Cond.static yX0_isBitSet, Cond.code yX0_isBitSet cX0_isBitSet 2 (some .boolean), Cond.methodLink RX1 71 yX1_montgomery, Cond.instanceMethod yX1_montgomery, Cond.selects RX1 yX1_montgomery yX1_montgomery, Cond.initialized RX1, Cond.code yX1_montgomery cX1_montgomery 7 none, Cond.fieldLink RX1 31 "ModEngine$Ring" "running" "[I", Cond.fieldLink RX1 18 "ModEngine$Ring" "modulus" "[I", Cond.fieldLink RX1 46 "ModEngine$Ring" "minusInverse" "I", Cond.methodLink RX1 92 yX0_setSmall, Cond.static yX0_setSmall, Cond.code yX0_setSmall cX0_setSmall 4 none, Cond.methodLink RX1 107 yX0_addMultiple]
def wsX1_raise_r2 : List Cond := [Cond.static yX0_addMultiple, Cond.code yX0_addMultiple cX0_addMultiple 9 (some .long), Cond.constantLong RX0 15 (4294967295), Cond.methodLink RX1 111 yX0_dropLimb, Cond.static yX0_dropLimb, Cond.code yX0_dropLimb cX0_dropLimb 5 (some .long), Cond.methodLink RX1 115 yX1_bringBelow, Cond.instanceMethod yX1_bringBelow, Cond.selects RX1 yX1_bringBelow yX1_bringBelow, Cond.code yX1_bringBelow cX1_bringBelow 4 none, Cond.methodLink RX1 103 yX0_order, Cond.static yX0_order, Cond.code yX0_order cX0_order 4 (some .int), Cond.methodLink RX1 137 yX0_subtract, Cond.static yX0_subtract, Cond.code yX0_subtract cX0_subtract 7 (some .boolean), Cond.methodLink RX1 123 yX0_isBitSet]
def wsX1_raise : List Cond := .code yX1_raise cX1_raise 6 none :: ((wsX1_raise_r1 ++ wsX1_raise_r2) ++ wsX10)
def wsX1_power_r1 : List Cond := [Cond.fieldLink RX1 34 "ModEngine$Ring" "left" "[I", Cond.fieldLink RX1 28 "ModEngine$Ring" "rSquared" "[I", Cond.fieldLink RX1 37 "ModEngine$Ring" "right" "[I", Cond.fieldLink RX1 22 "ModEngine$Ring" "one" "[I", Cond.methodLink RX1 71 yX1_montgomery, Cond.instanceMethod yX1_montgomery, Cond.selects RX1 yX1_montgomery yX1_montgomery, Cond.initialized RX1, Cond.code yX1_montgomery cX1_montgomery 7 none, Cond.fieldLink RX1 31 "ModEngine$Ring" "running" "[I", Cond.fieldLink RX1 9 "ModEngine$Ring" "k" "I", Cond.fieldLink RX1 18 "ModEngine$Ring" "modulus" "[I", Cond.fieldLink RX1 46 "ModEngine$Ring" "minusInverse" "I", Cond.methodLink RX1 92 yX0_setSmall, Cond.static yX0_setSmall, Cond.initialized RX0, Cond.code yX0_setSmall cX0_setSmall 4 none, Cond.methodLink RX1 107 yX0_addMultiple, Cond.static yX0_addMultiple, Cond.code yX0_addMultiple cX0_addMultiple 9 (some .long), Cond.constantLong RX0 15 (4294967295), Cond.methodLink RX1 111 yX0_dropLimb, Cond.static yX0_dropLimb, Cond.code yX0_dropLimb cX0_dropLimb 5 (some .long)]
def wsX1_power_r2 : List Cond := [Cond.methodLink RX1 63 yX0_copy, Cond.static yX0_copy, Cond.code yX0_copy cX0_copy 4 none, Cond.methodLink RX1 115 yX1_bringBelow, Cond.instanceMethod yX1_bringBelow, Cond.selects RX1 yX1_bringBelow yX1_bringBelow, Cond.code yX1_bringBelow cX1_bringBelow 4 none, Cond.methodLink RX1 103 yX0_order, Cond.static yX0_order, Cond.code yX0_order cX0_order 4 (some .int), Cond.methodLink RX1 137 yX0_subtract, Cond.static yX0_subtract, Cond.code yX0_subtract cX0_subtract 7 (some .boolean), Cond.methodLink RX1 88 yX1_raise, Cond.instanceMethod yX1_raise, Cond.selects RX1 yX1_raise yX1_raise, Cond.code yX1_raise cX1_raise 6 none, Cond.fieldLink RX1 25 "ModEngine$Ring" "unit" "[I", Cond.methodLink RX1 119 yX0_highestBit, Cond.static yX0_highestBit, Cond.code yX0_highestBit cX0_highestBit 3 (some .int), Cond.methodLink RX0 9 yX0_isBitSet, Cond.static yX0_isBitSet, Cond.code yX0_isBitSet cX0_isBitSet 2 (some .boolean)]
def wsX1_power_r3 : List Cond := [Cond.methodLink RX1 123 yX0_isBitSet]
def wsX1_power : List Cond := .code yX1_power cX1_power 4 none :: ((wsX1_power_r1 ++ (wsX1_power_r2 ++ wsX1_power_r3)) ++ wsX10)
def wsX1_halveBelow : List Cond := .code yX1_halveBelow cX1_halveBelow 4 none :: ([.fieldLink RX1 18 "ModEngine$Ring" "modulus" "[I", .fieldLink RX1 9 "ModEngine$Ring" "k" "I", .methodLink RX1 49 yX0_isOdd, .static yX0_isOdd, .initialized RX0, .code yX0_isOdd cX0_isOdd 1 (some .boolean), .methodLink RX1 141 yX0_add, .static yX0_add, .code yX0_add cX0_add 7 (some .long), .constantLong RX0 15 (4294967295), .methodLink RX1 127 yX0_halve, .static yX0_halve, .code yX0_halve cX0_halve 9 none] ++ wsX10)
def wsX1_stepTowardsDivisor_r1 : List Cond := [Cond.fieldLink RX1 34 "ModEngine$Ring" "left" "[I", Cond.fieldLink RX1 9 "ModEngine$Ring" "k" "I", Cond.fieldLink RX1 40 "ModEngine$Ring" "leftShare" "[I", Cond.fieldLink RX1 37 "ModEngine$Ring" "right" "[I", Cond.fieldLink RX1 43 "ModEngine$Ring" "rightShare" "[I", Cond.methodLink RX1 49 yX0_isOdd, Cond.static yX0_isOdd, Cond.initialized RX0, Cond.code yX0_isOdd cX0_isOdd 1 (some .boolean), Cond.methodLink RX1 127 yX0_halve, Cond.static yX0_halve, Cond.code yX0_halve cX0_halve 9 none, Cond.constantLong RX0 15 (4294967295), Cond.methodLink RX1 131 yX1_halveBelow, Cond.instanceMethod yX1_halveBelow, Cond.selects RX1 yX1_halveBelow yX1_halveBelow, Cond.initialized RX1, Cond.code yX1_halveBelow cX1_halveBelow 4 none, Cond.fieldLink RX1 18 "ModEngine$Ring" "modulus" "[I", Cond.methodLink RX1 141 yX0_add, Cond.static yX0_add, Cond.code yX0_add cX0_add 7 (some .long), Cond.methodLink RX1 103 yX0_order, Cond.static yX0_order]
def wsX1_stepTowardsDivisor_r2 : List Cond := [Cond.code yX0_order cX0_order 4 (some .int), Cond.methodLink RX1 134 yX0_swap, Cond.static yX0_swap, Cond.code yX0_swap cX0_swap 5 none, Cond.methodLink RX1 137 yX0_subtract, Cond.static yX0_subtract, Cond.code yX0_subtract cX0_subtract 7 (some .boolean), Cond.methodLink RX1 82 yX1_subtractBelow, Cond.instanceMethod yX1_subtractBelow, Cond.selects RX1 yX1_subtractBelow yX1_subtractBelow, Cond.code yX1_subtractBelow cX1_subtractBelow 4 none]
def wsX1_stepTowardsDivisor : List Cond := .code yX1_stepTowardsDivisor cX1_stepTowardsDivisor 1 none :: ((wsX1_stepTowardsDivisor_r1 ++ wsX1_stepTowardsDivisor_r2) ++ wsX10)
def wsX1_invert_r1 : List Cond := [Cond.fieldLink RX1 34 "ModEngine$Ring" "left" "[I", Cond.fieldLink RX1 37 "ModEngine$Ring" "right" "[I", Cond.fieldLink RX1 18 "ModEngine$Ring" "modulus" "[I", Cond.fieldLink RX1 9 "ModEngine$Ring" "k" "I", Cond.fieldLink RX1 40 "ModEngine$Ring" "leftShare" "[I", Cond.fieldLink RX1 22 "ModEngine$Ring" "one" "[I", Cond.fieldLink RX1 43 "ModEngine$Ring" "rightShare" "[I", Cond.fieldLink RX1 15 "ModEngine$Ring" "bits" "I", Cond.methodLink RX1 75 yX1_residue, Cond.instanceMethod yX1_residue, Cond.selects RX1 yX1_residue yX1_residue, Cond.initialized RX1, Cond.code yX1_residue cX1_residue 3 none, Cond.fieldLink RX1 28 "ModEngine$Ring" "rSquared" "[I", Cond.methodLink RX1 71 yX1_montgomery, Cond.instanceMethod yX1_montgomery, Cond.selects RX1 yX1_montgomery yX1_montgomery, Cond.code yX1_montgomery cX1_montgomery 7 none, Cond.fieldLink RX1 31 "ModEngine$Ring" "running" "[I", Cond.fieldLink RX1 46 "ModEngine$Ring" "minusInverse" "I", Cond.methodLink RX1 92 yX0_setSmall, Cond.static yX0_setSmall, Cond.initialized RX0, Cond.code yX0_setSmall cX0_setSmall 4 none]
def wsX1_invert_r2 : List Cond := [Cond.methodLink RX1 107 yX0_addMultiple, Cond.static yX0_addMultiple, Cond.code yX0_addMultiple cX0_addMultiple 9 (some .long), Cond.constantLong RX0 15 (4294967295), Cond.methodLink RX1 111 yX0_dropLimb, Cond.static yX0_dropLimb, Cond.code yX0_dropLimb cX0_dropLimb 5 (some .long), Cond.methodLink RX1 63 yX0_copy, Cond.static yX0_copy, Cond.code yX0_copy cX0_copy 4 none, Cond.methodLink RX1 115 yX1_bringBelow, Cond.instanceMethod yX1_bringBelow, Cond.selects RX1 yX1_bringBelow yX1_bringBelow, Cond.code yX1_bringBelow cX1_bringBelow 4 none, Cond.methodLink RX1 103 yX0_order, Cond.static yX0_order, Cond.code yX0_order cX0_order 4 (some .int), Cond.methodLink RX1 137 yX0_subtract, Cond.static yX0_subtract, Cond.code yX0_subtract cX0_subtract 7 (some .boolean), Cond.methodLink RX1 55 yX0_isSmall, Cond.static yX0_isSmall, Cond.code yX0_isSmall cX0_isSmall 4 (some .boolean), Cond.methodLink RX1 96 yX1_stepTowardsDivisor]
def wsX1_invert_r3 : List Cond := [Cond.instanceMethod yX1_stepTowardsDivisor, Cond.selects RX1 yX1_stepTowardsDivisor yX1_stepTowardsDivisor, Cond.code yX1_stepTowardsDivisor cX1_stepTowardsDivisor 1 none, Cond.methodLink RX1 49 yX0_isOdd, Cond.static yX0_isOdd, Cond.code yX0_isOdd cX0_isOdd 1 (some .boolean), Cond.methodLink RX1 127 yX0_halve, Cond.static yX0_halve, Cond.code yX0_halve cX0_halve 9 none, Cond.methodLink RX1 131 yX1_halveBelow, Cond.instanceMethod yX1_halveBelow, Cond.selects RX1 yX1_halveBelow yX1_halveBelow, Cond.code yX1_halveBelow cX1_halveBelow 4 none, Cond.methodLink RX1 141 yX0_add, Cond.static yX0_add, Cond.code yX0_add cX0_add 7 (some .long), Cond.methodLink RX1 134 yX0_swap, Cond.static yX0_swap, Cond.code yX0_swap cX0_swap 5 none, Cond.methodLink RX1 82 yX1_subtractBelow, Cond.instanceMethod yX1_subtractBelow, Cond.selects RX1 yX1_subtractBelow yX1_subtractBelow, Cond.code yX1_subtractBelow cX1_subtractBelow 4 none]
def wsX1_invert : List Cond := .code yX1_invert cX1_invert 5 (some .boolean) :: ((wsX1_invert_r1 ++ (wsX1_invert_r2 ++ wsX1_invert_r3)) ++ wsX10)
def wsX1_twosInModulusLessOne : List Cond := .code yX1_twosInModulusLessOne cX1_twosInModulusLessOne 2 (some .int) :: ([.fieldLink RX1 15 "ModEngine$Ring" "bits" "I", .fieldLink RX1 18 "ModEngine$Ring" "modulus" "[I", .methodLink RX1 123 yX0_isBitSet, .static yX0_isBitSet, .initialized RX0, .code yX0_isBitSet cX0_isBitSet 2 (some .boolean)] ++ wsX10)
def wsX1_isProvedCompositeBy_r1 : List Cond := [Cond.fieldLink RX1 34 "ModEngine$Ring" "left" "[I", Cond.fieldLink RX1 28 "ModEngine$Ring" "rSquared" "[I", Cond.fieldLink RX1 9 "ModEngine$Ring" "k" "I", Cond.fieldLink RX1 40 "ModEngine$Ring" "leftShare" "[I", Cond.fieldLink RX1 18 "ModEngine$Ring" "modulus" "[I", Cond.fieldLink RX1 25 "ModEngine$Ring" "unit" "[I", Cond.fieldLink RX1 37 "ModEngine$Ring" "right" "[I", Cond.methodLink RX1 71 yX1_montgomery, Cond.instanceMethod yX1_montgomery, Cond.selects RX1 yX1_montgomery yX1_montgomery, Cond.initialized RX1, Cond.code yX1_montgomery cX1_montgomery 7 none, Cond.fieldLink RX1 31 "ModEngine$Ring" "running" "[I", Cond.fieldLink RX1 46 "ModEngine$Ring" "minusInverse" "I", Cond.methodLink RX1 92 yX0_setSmall, Cond.static yX0_setSmall, Cond.initialized RX0, Cond.code yX0_setSmall cX0_setSmall 4 none, Cond.methodLink RX1 107 yX0_addMultiple, Cond.static yX0_addMultiple, Cond.code yX0_addMultiple cX0_addMultiple 9 (some .long), Cond.constantLong RX0 15 (4294967295), Cond.methodLink RX1 111 yX0_dropLimb, Cond.static yX0_dropLimb]
def wsX1_isProvedCompositeBy_r2 : List Cond := [Cond.code yX0_dropLimb cX0_dropLimb 5 (some .long), Cond.methodLink RX1 63 yX0_copy, Cond.static yX0_copy, Cond.code yX0_copy cX0_copy 4 none, Cond.methodLink RX1 115 yX1_bringBelow, Cond.instanceMethod yX1_bringBelow, Cond.selects RX1 yX1_bringBelow yX1_bringBelow, Cond.code yX1_bringBelow cX1_bringBelow 4 none, Cond.methodLink RX1 103 yX0_order, Cond.static yX0_order, Cond.code yX0_order cX0_order 4 (some .int), Cond.methodLink RX1 137 yX0_subtract, Cond.static yX0_subtract, Cond.code yX0_subtract cX0_subtract 7 (some .boolean), Cond.methodLink RX1 55 yX0_isSmall, Cond.static yX0_isSmall, Cond.code yX0_isSmall cX0_isSmall 4 (some .boolean), Cond.methodLink RX1 99 yX1_twosInModulusLessOne, Cond.instanceMethod yX1_twosInModulusLessOne, Cond.selects RX1 yX1_twosInModulusLessOne yX1_twosInModulusLessOne, Cond.code yX1_twosInModulusLessOne cX1_twosInModulusLessOne 2 (some .int), Cond.fieldLink RX1 15 "ModEngine$Ring" "bits" "I", Cond.methodLink RX1 123 yX0_isBitSet, Cond.static yX0_isBitSet]
def wsX1_isProvedCompositeBy_r3 : List Cond := [Cond.code yX0_isBitSet cX0_isBitSet 2 (some .boolean), Cond.methodLink RX1 82 yX1_subtractBelow, Cond.instanceMethod yX1_subtractBelow, Cond.selects RX1 yX1_subtractBelow yX1_subtractBelow, Cond.code yX1_subtractBelow cX1_subtractBelow 4 none, Cond.methodLink RX1 141 yX0_add, Cond.static yX0_add, Cond.code yX0_add cX0_add 7 (some .long), Cond.methodLink RX1 88 yX1_raise, Cond.instanceMethod yX1_raise, Cond.selects RX1 yX1_raise yX1_raise, Cond.code yX1_raise cX1_raise 6 none, Cond.methodLink RX1 119 yX0_highestBit, Cond.static yX0_highestBit, Cond.code yX0_highestBit cX0_highestBit 3 (some .int), Cond.methodLink RX0 9 yX0_isBitSet]
def wsX1_isProvedCompositeBy : List Cond := .code yX1_isProvedCompositeBy cX1_isProvedCompositeBy 5 (some .boolean) :: ((wsX1_isProvedCompositeBy_r1 ++ (wsX1_isProvedCompositeBy_r2 ++ wsX1_isProvedCompositeBy_r3)) ++ wsX10)
def wsX2_init_r1 : List Cond := [Cond.methodLink RX2 1 objectInit, Cond.instanceMethod objectInit, Cond.code objectInit ⟨#[0xb1]⟩ 1 none, Cond.methodLink RX2 9 Lib.Math.min.name, Cond.static Lib.Math.min.name, Cond.initialized "java/lang/Math", Cond.code Lib.Math.min.name Lib.Math.min.code 2 (some .int), Cond.methodLink RX2 15 Lib.Math.max.name, Cond.static Lib.Math.max.name, Cond.code Lib.Math.max.name Lib.Math.max.code 2 (some .int), Cond.fieldLink RX2 18 "ModEngine" "limbs" "I", Cond.fieldLink RX2 22 "ModEngine" "count" "I", Cond.classLink RX2 25 "[[I", Cond.arrayClass .int, Cond.fieldLink RX2 27 "ModEngine" "registers" "[[I", Cond.classLink RX2 30 RX1, Cond.instantiable RX1 12, Cond.initialized RX1, Cond.fieldLink RX2 35 "ModEngine" "ring" "LModEngine$Ring;", Cond.fieldLink RX2 39 "ModEngine" "isReady" "Z", Cond.methodLink RX2 32 yX1_init, Cond.instanceMethod yX1_init, Cond.code yX1_init cX1_init 2 none, Cond.methodLink RX1 3 objectInit]
def wsX2_init_r2 : List Cond := [Cond.fieldLink RX1 9 "ModEngine$Ring" "k" "I", Cond.fieldLink RX1 15 "ModEngine$Ring" "bits" "I", Cond.fieldLink RX1 18 "ModEngine$Ring" "modulus" "[I", Cond.fieldLink RX1 22 "ModEngine$Ring" "one" "[I", Cond.fieldLink RX1 25 "ModEngine$Ring" "unit" "[I", Cond.fieldLink RX1 28 "ModEngine$Ring" "rSquared" "[I", Cond.fieldLink RX1 31 "ModEngine$Ring" "running" "[I", Cond.fieldLink RX1 34 "ModEngine$Ring" "left" "[I", Cond.fieldLink RX1 37 "ModEngine$Ring" "right" "[I", Cond.fieldLink RX1 40 "ModEngine$Ring" "leftShare" "[I", Cond.fieldLink RX1 43 "ModEngine$Ring" "rightShare" "[I", Cond.fieldLink RX1 46 "ModEngine$Ring" "minusInverse" "I"]
def wsX2_init : List Cond := .code yX2_init cX2_init 3 none :: ((wsX2_init_r1 ++ wsX2_init_r2) ++ wsX20 ++ wsX10)
def wsX2_hasLimb : List Cond := .code yX2_hasLimb cX2_hasLimb 2 (some .boolean) :: ([.fieldLink RX2 18 "ModEngine" "limbs" "I"] ++ wsX20)
def wsX2_pokeMod : List Cond := .code yX2_pokeMod cX2_pokeMod 3 (some .boolean) :: ([.fieldLink RX2 35 "ModEngine" "ring" "LModEngine$Ring;", .fieldLink RX2 47 "ModEngine$Ring" "modulus" "[I", .fieldLink RX2 39 "ModEngine" "isReady" "Z", .methodLink RX2 43 yX2_hasLimb, .instanceMethod yX2_hasLimb, .selects RX2 yX2_hasLimb yX2_hasLimb, .initialized RX2, .code yX2_hasLimb cX2_hasLimb 2 (some .boolean), .fieldLink RX2 18 "ModEngine" "limbs" "I"] ++ wsX20 ++ wsX10)
def wsX2_peekMod : List Cond := .code yX2_peekMod cX2_peekMod 2 (some .int) :: ([.fieldLink RX2 35 "ModEngine" "ring" "LModEngine$Ring;", .fieldLink RX2 47 "ModEngine$Ring" "modulus" "[I", .methodLink RX2 43 yX2_hasLimb, .instanceMethod yX2_hasLimb, .selects RX2 yX2_hasLimb yX2_hasLimb, .initialized RX2, .code yX2_hasLimb cX2_hasLimb 2 (some .boolean), .fieldLink RX2 18 "ModEngine" "limbs" "I"] ++ wsX20 ++ wsX10)
def wsX2_init__r1 : List Cond := [Cond.fieldLink RX2 35 "ModEngine" "ring" "LModEngine$Ring;", Cond.fieldLink RX2 39 "ModEngine" "isReady" "Z", Cond.methodLink RX2 51 yX1_hasFitModulus, Cond.instanceMethod yX1_hasFitModulus, Cond.selects RX1 yX1_hasFitModulus yX1_hasFitModulus, Cond.initialized RX1, Cond.code yX1_hasFitModulus cX1_hasFitModulus 1 (some .boolean), Cond.fieldLink RX1 18 "ModEngine$Ring" "modulus" "[I", Cond.fieldLink RX1 9 "ModEngine$Ring" "k" "I", Cond.methodLink RX1 49 yX0_isOdd, Cond.static yX0_isOdd, Cond.initialized RX0, Cond.code yX0_isOdd cX0_isOdd 1 (some .boolean), Cond.methodLink RX1 55 yX0_isSmall, Cond.static yX0_isSmall, Cond.code yX0_isSmall cX0_isSmall 4 (some .boolean), Cond.methodLink RX2 55 yX1_prepare, Cond.instanceMethod yX1_prepare, Cond.selects RX1 yX1_prepare yX1_prepare, Cond.code yX1_prepare cX1_prepare 1 none, Cond.fieldLink RX1 46 "ModEngine$Ring" "minusInverse" "I", Cond.fieldLink RX1 25 "ModEngine$Ring" "unit" "[I", Cond.fieldLink RX1 22 "ModEngine$Ring" "one" "[I", Cond.fieldLink RX1 28 "ModEngine$Ring" "rSquared" "[I"]
def wsX2_init__r2 : List Cond := [Cond.methodLink RX1 59 yX1_inverseOfLimb, Cond.static yX1_inverseOfLimb, Cond.code yX1_inverseOfLimb cX1_inverseOfLimb 3 (some .int), Cond.methodLink RX1 63 yX0_copy, Cond.static yX0_copy, Cond.code yX0_copy cX0_copy 4 none, Cond.methodLink RX1 67 yX1_doubleOften, Cond.instanceMethod yX1_doubleOften, Cond.selects RX1 yX1_doubleOften yX1_doubleOften, Cond.code yX1_doubleOften cX1_doubleOften 3 none, Cond.fieldLink RX1 15 "ModEngine$Ring" "bits" "I", Cond.methodLink RX1 79 yX1_addBelow, Cond.instanceMethod yX1_addBelow, Cond.selects RX1 yX1_addBelow yX1_addBelow, Cond.code yX1_addBelow cX1_addBelow 6 none, Cond.methodLink RX1 141 yX0_add, Cond.static yX0_add, Cond.code yX0_add cX0_add 7 (some .long), Cond.constantLong RX0 15 (4294967295), Cond.methodLink RX1 115 yX1_bringBelow, Cond.instanceMethod yX1_bringBelow, Cond.selects RX1 yX1_bringBelow yX1_bringBelow, Cond.code yX1_bringBelow cX1_bringBelow 4 none, Cond.methodLink RX1 103 yX0_order]
def wsX2_init__r3 : List Cond := [Cond.static yX0_order, Cond.code yX0_order cX0_order 4 (some .int), Cond.methodLink RX1 137 yX0_subtract, Cond.static yX0_subtract, Cond.code yX0_subtract cX0_subtract 7 (some .boolean)]
def wsX2_init_ : List Cond := .code yX2_init_ cX2_init_ 1 (some .int) :: ((wsX2_init__r1 ++ (wsX2_init__r2 ++ wsX2_init__r3)) ++ wsX20 ++ wsX10)
def wsX2_ready : List Cond := .code yX2_ready cX2_ready 1 (some .boolean) :: ([.fieldLink RX2 39 "ModEngine" "isReady" "Z"] ++ wsX20)
def wsX2_hasRegister : List Cond := .code yX2_hasRegister cX2_hasRegister 2 (some .boolean) :: ([.fieldLink RX2 22 "ModEngine" "count" "I"] ++ wsX20)
def wsX2_poke : List Cond := .code yX2_poke cX2_poke 4 (some .boolean) :: ([.fieldLink RX2 27 "ModEngine" "registers" "[[I", .methodLink RX2 58 yX2_hasRegister, .instanceMethod yX2_hasRegister, .selects RX2 yX2_hasRegister yX2_hasRegister, .initialized RX2, .code yX2_hasRegister cX2_hasRegister 2 (some .boolean), .fieldLink RX2 22 "ModEngine" "count" "I", .methodLink RX2 43 yX2_hasLimb, .instanceMethod yX2_hasLimb, .selects RX2 yX2_hasLimb yX2_hasLimb, .code yX2_hasLimb cX2_hasLimb 2 (some .boolean), .fieldLink RX2 18 "ModEngine" "limbs" "I"] ++ wsX20)
def wsX2_peek : List Cond := .code yX2_peek cX2_peek 3 (some .int) :: ([.fieldLink RX2 27 "ModEngine" "registers" "[[I", .methodLink RX2 58 yX2_hasRegister, .instanceMethod yX2_hasRegister, .selects RX2 yX2_hasRegister yX2_hasRegister, .initialized RX2, .code yX2_hasRegister cX2_hasRegister 2 (some .boolean), .fieldLink RX2 22 "ModEngine" "count" "I", .methodLink RX2 43 yX2_hasLimb, .instanceMethod yX2_hasLimb, .selects RX2 yX2_hasLimb yX2_hasLimb, .code yX2_hasLimb cX2_hasLimb 2 (some .boolean), .fieldLink RX2 18 "ModEngine" "limbs" "I"] ++ wsX20)
def wsX2_reduce_r1 : List Cond := [Cond.fieldLink RX2 39 "ModEngine" "isReady" "Z", Cond.fieldLink RX2 35 "ModEngine" "ring" "LModEngine$Ring;", Cond.fieldLink RX2 27 "ModEngine" "registers" "[[I", Cond.methodLink RX2 58 yX2_hasRegister, Cond.instanceMethod yX2_hasRegister, Cond.selects RX2 yX2_hasRegister yX2_hasRegister, Cond.initialized RX2, Cond.code yX2_hasRegister cX2_hasRegister 2 (some .boolean), Cond.fieldLink RX2 22 "ModEngine" "count" "I", Cond.methodLink RX2 61 yX1_residue, Cond.instanceMethod yX1_residue, Cond.selects RX1 yX1_residue yX1_residue, Cond.initialized RX1, Cond.code yX1_residue cX1_residue 3 none, Cond.fieldLink RX1 28 "ModEngine$Ring" "rSquared" "[I", Cond.fieldLink RX1 22 "ModEngine$Ring" "one" "[I", Cond.methodLink RX1 71 yX1_montgomery, Cond.instanceMethod yX1_montgomery, Cond.selects RX1 yX1_montgomery yX1_montgomery, Cond.code yX1_montgomery cX1_montgomery 7 none, Cond.fieldLink RX1 31 "ModEngine$Ring" "running" "[I", Cond.fieldLink RX1 9 "ModEngine$Ring" "k" "I", Cond.fieldLink RX1 18 "ModEngine$Ring" "modulus" "[I", Cond.fieldLink RX1 46 "ModEngine$Ring" "minusInverse" "I"]
def wsX2_reduce_r2 : List Cond := [Cond.methodLink RX1 92 yX0_setSmall, Cond.static yX0_setSmall, Cond.initialized RX0, Cond.code yX0_setSmall cX0_setSmall 4 none, Cond.methodLink RX1 107 yX0_addMultiple, Cond.static yX0_addMultiple, Cond.code yX0_addMultiple cX0_addMultiple 9 (some .long), Cond.constantLong RX0 15 (4294967295), Cond.methodLink RX1 111 yX0_dropLimb, Cond.static yX0_dropLimb, Cond.code yX0_dropLimb cX0_dropLimb 5 (some .long), Cond.methodLink RX1 63 yX0_copy, Cond.static yX0_copy, Cond.code yX0_copy cX0_copy 4 none, Cond.methodLink RX1 115 yX1_bringBelow, Cond.instanceMethod yX1_bringBelow, Cond.selects RX1 yX1_bringBelow yX1_bringBelow, Cond.code yX1_bringBelow cX1_bringBelow 4 none, Cond.methodLink RX1 103 yX0_order, Cond.static yX0_order, Cond.code yX0_order cX0_order 4 (some .int), Cond.methodLink RX1 137 yX0_subtract, Cond.static yX0_subtract, Cond.code yX0_subtract cX0_subtract 7 (some .boolean)]
def wsX2_reduce : List Cond := .code yX2_reduce cX2_reduce 2 (some .boolean) :: ((wsX2_reduce_r1 ++ wsX2_reduce_r2) ++ wsX20 ++ wsX10)
def wsX2_canWork : List Cond := .code yX2_canWork cX2_canWork 4 (some .boolean) :: ([.fieldLink RX2 39 "ModEngine" "isReady" "Z", .methodLink RX2 58 yX2_hasRegister, .instanceMethod yX2_hasRegister, .selects RX2 yX2_hasRegister yX2_hasRegister, .initialized RX2, .code yX2_hasRegister cX2_hasRegister 2 (some .boolean), .fieldLink RX2 22 "ModEngine" "count" "I"] ++ wsX20)
def wsX2_addMod_r1 : List Cond := [Cond.fieldLink RX2 35 "ModEngine" "ring" "LModEngine$Ring;", Cond.fieldLink RX2 27 "ModEngine" "registers" "[[I", Cond.methodLink RX2 65 yX2_canWork, Cond.instanceMethod yX2_canWork, Cond.selects RX2 yX2_canWork yX2_canWork, Cond.initialized RX2, Cond.code yX2_canWork cX2_canWork 4 (some .boolean), Cond.fieldLink RX2 39 "ModEngine" "isReady" "Z", Cond.methodLink RX2 58 yX2_hasRegister, Cond.instanceMethod yX2_hasRegister, Cond.selects RX2 yX2_hasRegister yX2_hasRegister, Cond.code yX2_hasRegister cX2_hasRegister 2 (some .boolean), Cond.fieldLink RX2 22 "ModEngine" "count" "I", Cond.methodLink RX2 69 yX1_sum, Cond.instanceMethod yX1_sum, Cond.selects RX1 yX1_sum yX1_sum, Cond.initialized RX1, Cond.code yX1_sum cX1_sum 4 none, Cond.fieldLink RX1 34 "ModEngine$Ring" "left" "[I", Cond.fieldLink RX1 37 "ModEngine$Ring" "right" "[I", Cond.methodLink RX1 75 yX1_residue, Cond.instanceMethod yX1_residue, Cond.selects RX1 yX1_residue yX1_residue, Cond.code yX1_residue cX1_residue 3 none]
def wsX2_addMod_r2 : List Cond := [Cond.fieldLink RX1 28 "ModEngine$Ring" "rSquared" "[I", Cond.fieldLink RX1 22 "ModEngine$Ring" "one" "[I", Cond.methodLink RX1 71 yX1_montgomery, Cond.instanceMethod yX1_montgomery, Cond.selects RX1 yX1_montgomery yX1_montgomery, Cond.code yX1_montgomery cX1_montgomery 7 none, Cond.fieldLink RX1 31 "ModEngine$Ring" "running" "[I", Cond.fieldLink RX1 9 "ModEngine$Ring" "k" "I", Cond.fieldLink RX1 18 "ModEngine$Ring" "modulus" "[I", Cond.fieldLink RX1 46 "ModEngine$Ring" "minusInverse" "I", Cond.methodLink RX1 92 yX0_setSmall, Cond.static yX0_setSmall, Cond.initialized RX0, Cond.code yX0_setSmall cX0_setSmall 4 none, Cond.methodLink RX1 107 yX0_addMultiple, Cond.static yX0_addMultiple, Cond.code yX0_addMultiple cX0_addMultiple 9 (some .long), Cond.constantLong RX0 15 (4294967295), Cond.methodLink RX1 111 yX0_dropLimb, Cond.static yX0_dropLimb, Cond.code yX0_dropLimb cX0_dropLimb 5 (some .long), Cond.methodLink RX1 63 yX0_copy, Cond.static yX0_copy, Cond.code yX0_copy cX0_copy 4 none]
def wsX2_addMod_r3 : List Cond := [Cond.methodLink RX1 115 yX1_bringBelow, Cond.instanceMethod yX1_bringBelow, Cond.selects RX1 yX1_bringBelow yX1_bringBelow, Cond.code yX1_bringBelow cX1_bringBelow 4 none, Cond.methodLink RX1 103 yX0_order, Cond.static yX0_order, Cond.code yX0_order cX0_order 4 (some .int), Cond.methodLink RX1 137 yX0_subtract, Cond.static yX0_subtract, Cond.code yX0_subtract cX0_subtract 7 (some .boolean), Cond.methodLink RX1 79 yX1_addBelow, Cond.instanceMethod yX1_addBelow, Cond.selects RX1 yX1_addBelow yX1_addBelow, Cond.code yX1_addBelow cX1_addBelow 6 none, Cond.methodLink RX1 141 yX0_add, Cond.static yX0_add, Cond.code yX0_add cX0_add 7 (some .long)]
def wsX2_addMod : List Cond := .code yX2_addMod cX2_addMod 4 (some .boolean) :: ((wsX2_addMod_r1 ++ (wsX2_addMod_r2 ++ wsX2_addMod_r3)) ++ wsX20 ++ wsX10)
def wsX2_subMod_r1 : List Cond := [Cond.fieldLink RX2 35 "ModEngine" "ring" "LModEngine$Ring;", Cond.fieldLink RX2 27 "ModEngine" "registers" "[[I", Cond.methodLink RX2 65 yX2_canWork, Cond.instanceMethod yX2_canWork, Cond.selects RX2 yX2_canWork yX2_canWork, Cond.initialized RX2, Cond.code yX2_canWork cX2_canWork 4 (some .boolean), Cond.fieldLink RX2 39 "ModEngine" "isReady" "Z", Cond.methodLink RX2 58 yX2_hasRegister, Cond.instanceMethod yX2_hasRegister, Cond.selects RX2 yX2_hasRegister yX2_hasRegister, Cond.code yX2_hasRegister cX2_hasRegister 2 (some .boolean), Cond.fieldLink RX2 22 "ModEngine" "count" "I", Cond.methodLink RX2 73 yX1_difference, Cond.instanceMethod yX1_difference, Cond.selects RX1 yX1_difference yX1_difference, Cond.initialized RX1, Cond.code yX1_difference cX1_difference 4 none, Cond.fieldLink RX1 34 "ModEngine$Ring" "left" "[I", Cond.fieldLink RX1 37 "ModEngine$Ring" "right" "[I", Cond.methodLink RX1 75 yX1_residue, Cond.instanceMethod yX1_residue, Cond.selects RX1 yX1_residue yX1_residue, Cond.code yX1_residue cX1_residue 3 none]
def wsX2_subMod_r2 : List Cond := [Cond.fieldLink RX1 28 "ModEngine$Ring" "rSquared" "[I", Cond.fieldLink RX1 22 "ModEngine$Ring" "one" "[I", Cond.methodLink RX1 71 yX1_montgomery, Cond.instanceMethod yX1_montgomery, Cond.selects RX1 yX1_montgomery yX1_montgomery, Cond.code yX1_montgomery cX1_montgomery 7 none, Cond.fieldLink RX1 31 "ModEngine$Ring" "running" "[I", Cond.fieldLink RX1 9 "ModEngine$Ring" "k" "I", Cond.fieldLink RX1 18 "ModEngine$Ring" "modulus" "[I", Cond.fieldLink RX1 46 "ModEngine$Ring" "minusInverse" "I", Cond.methodLink RX1 92 yX0_setSmall, Cond.static yX0_setSmall, Cond.initialized RX0, Cond.code yX0_setSmall cX0_setSmall 4 none, Cond.methodLink RX1 107 yX0_addMultiple, Cond.static yX0_addMultiple, Cond.code yX0_addMultiple cX0_addMultiple 9 (some .long), Cond.constantLong RX0 15 (4294967295), Cond.methodLink RX1 111 yX0_dropLimb, Cond.static yX0_dropLimb, Cond.code yX0_dropLimb cX0_dropLimb 5 (some .long), Cond.methodLink RX1 63 yX0_copy, Cond.static yX0_copy, Cond.code yX0_copy cX0_copy 4 none]
def wsX2_subMod_r3 : List Cond := [Cond.methodLink RX1 115 yX1_bringBelow, Cond.instanceMethod yX1_bringBelow, Cond.selects RX1 yX1_bringBelow yX1_bringBelow, Cond.code yX1_bringBelow cX1_bringBelow 4 none, Cond.methodLink RX1 103 yX0_order, Cond.static yX0_order, Cond.code yX0_order cX0_order 4 (some .int), Cond.methodLink RX1 137 yX0_subtract, Cond.static yX0_subtract, Cond.code yX0_subtract cX0_subtract 7 (some .boolean), Cond.methodLink RX1 82 yX1_subtractBelow, Cond.instanceMethod yX1_subtractBelow, Cond.selects RX1 yX1_subtractBelow yX1_subtractBelow, Cond.code yX1_subtractBelow cX1_subtractBelow 4 none, Cond.methodLink RX1 141 yX0_add, Cond.static yX0_add, Cond.code yX0_add cX0_add 7 (some .long)]
def wsX2_subMod : List Cond := .code yX2_subMod cX2_subMod 4 (some .boolean) :: ((wsX2_subMod_r1 ++ (wsX2_subMod_r2 ++ wsX2_subMod_r3)) ++ wsX20 ++ wsX10)
def wsX2_mulMod_r1 : List Cond := [Cond.fieldLink RX2 35 "ModEngine" "ring" "LModEngine$Ring;", Cond.fieldLink RX2 27 "ModEngine" "registers" "[[I", Cond.methodLink RX2 65 yX2_canWork, Cond.instanceMethod yX2_canWork, Cond.selects RX2 yX2_canWork yX2_canWork, Cond.initialized RX2, Cond.code yX2_canWork cX2_canWork 4 (some .boolean), Cond.fieldLink RX2 39 "ModEngine" "isReady" "Z", Cond.methodLink RX2 58 yX2_hasRegister, Cond.instanceMethod yX2_hasRegister, Cond.selects RX2 yX2_hasRegister yX2_hasRegister, Cond.code yX2_hasRegister cX2_hasRegister 2 (some .boolean), Cond.fieldLink RX2 22 "ModEngine" "count" "I", Cond.methodLink RX2 76 yX1_product, Cond.instanceMethod yX1_product, Cond.selects RX1 yX1_product yX1_product, Cond.initialized RX1, Cond.code yX1_product cX1_product 4 none, Cond.fieldLink RX1 34 "ModEngine$Ring" "left" "[I", Cond.fieldLink RX1 28 "ModEngine$Ring" "rSquared" "[I", Cond.methodLink RX1 71 yX1_montgomery, Cond.instanceMethod yX1_montgomery, Cond.selects RX1 yX1_montgomery yX1_montgomery, Cond.code yX1_montgomery cX1_montgomery 7 none]
def wsX2_mulMod_r2 : List Cond := [Cond.fieldLink RX1 31 "ModEngine$Ring" "running" "[I", Cond.fieldLink RX1 9 "ModEngine$Ring" "k" "I", Cond.fieldLink RX1 18 "ModEngine$Ring" "modulus" "[I", Cond.fieldLink RX1 46 "ModEngine$Ring" "minusInverse" "I", Cond.methodLink RX1 92 yX0_setSmall, Cond.static yX0_setSmall, Cond.initialized RX0, Cond.code yX0_setSmall cX0_setSmall 4 none, Cond.methodLink RX1 107 yX0_addMultiple, Cond.static yX0_addMultiple, Cond.code yX0_addMultiple cX0_addMultiple 9 (some .long), Cond.constantLong RX0 15 (4294967295), Cond.methodLink RX1 111 yX0_dropLimb, Cond.static yX0_dropLimb, Cond.code yX0_dropLimb cX0_dropLimb 5 (some .long), Cond.methodLink RX1 63 yX0_copy, Cond.static yX0_copy, Cond.code yX0_copy cX0_copy 4 none, Cond.methodLink RX1 115 yX1_bringBelow, Cond.instanceMethod yX1_bringBelow, Cond.selects RX1 yX1_bringBelow yX1_bringBelow, Cond.code yX1_bringBelow cX1_bringBelow 4 none, Cond.methodLink RX1 103 yX0_order, Cond.static yX0_order]
def wsX2_mulMod_r3 : List Cond := [Cond.code yX0_order cX0_order 4 (some .int), Cond.methodLink RX1 137 yX0_subtract, Cond.static yX0_subtract, Cond.code yX0_subtract cX0_subtract 7 (some .boolean)]
def wsX2_mulMod : List Cond := .code yX2_mulMod cX2_mulMod 4 (some .boolean) :: ((wsX2_mulMod_r1 ++ (wsX2_mulMod_r2 ++ wsX2_mulMod_r3)) ++ wsX20 ++ wsX10)
def wsX2_montMod_r1 : List Cond := [Cond.fieldLink RX2 35 "ModEngine" "ring" "LModEngine$Ring;", Cond.fieldLink RX2 27 "ModEngine" "registers" "[[I", Cond.methodLink RX2 65 yX2_canWork, Cond.instanceMethod yX2_canWork, Cond.selects RX2 yX2_canWork yX2_canWork, Cond.initialized RX2, Cond.code yX2_canWork cX2_canWork 4 (some .boolean), Cond.fieldLink RX2 39 "ModEngine" "isReady" "Z", Cond.methodLink RX2 58 yX2_hasRegister, Cond.instanceMethod yX2_hasRegister, Cond.selects RX2 yX2_hasRegister yX2_hasRegister, Cond.code yX2_hasRegister cX2_hasRegister 2 (some .boolean), Cond.fieldLink RX2 22 "ModEngine" "count" "I", Cond.methodLink RX2 79 yX1_productByR, Cond.instanceMethod yX1_productByR, Cond.selects RX1 yX1_productByR yX1_productByR, Cond.initialized RX1, Cond.code yX1_productByR cX1_productByR 4 none, Cond.fieldLink RX1 34 "ModEngine$Ring" "left" "[I", Cond.fieldLink RX1 22 "ModEngine$Ring" "one" "[I", Cond.methodLink RX1 85 yX1_product, Cond.instanceMethod yX1_product, Cond.selects RX1 yX1_product yX1_product, Cond.code yX1_product cX1_product 4 none]
def wsX2_montMod_r2 : List Cond := [Cond.fieldLink RX1 28 "ModEngine$Ring" "rSquared" "[I", Cond.methodLink RX1 71 yX1_montgomery, Cond.instanceMethod yX1_montgomery, Cond.selects RX1 yX1_montgomery yX1_montgomery, Cond.code yX1_montgomery cX1_montgomery 7 none, Cond.fieldLink RX1 31 "ModEngine$Ring" "running" "[I", Cond.fieldLink RX1 9 "ModEngine$Ring" "k" "I", Cond.fieldLink RX1 18 "ModEngine$Ring" "modulus" "[I", Cond.fieldLink RX1 46 "ModEngine$Ring" "minusInverse" "I", Cond.methodLink RX1 92 yX0_setSmall, Cond.static yX0_setSmall, Cond.initialized RX0, Cond.code yX0_setSmall cX0_setSmall 4 none, Cond.methodLink RX1 107 yX0_addMultiple, Cond.static yX0_addMultiple, Cond.code yX0_addMultiple cX0_addMultiple 9 (some .long), Cond.constantLong RX0 15 (4294967295), Cond.methodLink RX1 111 yX0_dropLimb, Cond.static yX0_dropLimb, Cond.code yX0_dropLimb cX0_dropLimb 5 (some .long), Cond.methodLink RX1 63 yX0_copy, Cond.static yX0_copy, Cond.code yX0_copy cX0_copy 4 none, Cond.methodLink RX1 115 yX1_bringBelow]
def wsX2_montMod_r3 : List Cond := [Cond.instanceMethod yX1_bringBelow, Cond.selects RX1 yX1_bringBelow yX1_bringBelow, Cond.code yX1_bringBelow cX1_bringBelow 4 none, Cond.methodLink RX1 103 yX0_order, Cond.static yX0_order, Cond.code yX0_order cX0_order 4 (some .int), Cond.methodLink RX1 137 yX0_subtract, Cond.static yX0_subtract, Cond.code yX0_subtract cX0_subtract 7 (some .boolean)]
def wsX2_montMod : List Cond := .code yX2_montMod cX2_montMod 4 (some .boolean) :: ((wsX2_montMod_r1 ++ (wsX2_montMod_r2 ++ wsX2_montMod_r3)) ++ wsX20 ++ wsX10)
def wsX2_powMod_r1 : List Cond := [Cond.fieldLink RX2 35 "ModEngine" "ring" "LModEngine$Ring;", Cond.fieldLink RX2 27 "ModEngine" "registers" "[[I", Cond.methodLink RX2 65 yX2_canWork, Cond.instanceMethod yX2_canWork, Cond.selects RX2 yX2_canWork yX2_canWork, Cond.initialized RX2, Cond.code yX2_canWork cX2_canWork 4 (some .boolean), Cond.fieldLink RX2 39 "ModEngine" "isReady" "Z", Cond.methodLink RX2 58 yX2_hasRegister, Cond.instanceMethod yX2_hasRegister, Cond.selects RX2 yX2_hasRegister yX2_hasRegister, Cond.code yX2_hasRegister cX2_hasRegister 2 (some .boolean), Cond.fieldLink RX2 22 "ModEngine" "count" "I", Cond.methodLink RX2 82 yX1_power, Cond.instanceMethod yX1_power, Cond.selects RX1 yX1_power yX1_power, Cond.initialized RX1, Cond.code yX1_power cX1_power 4 none, Cond.fieldLink RX1 34 "ModEngine$Ring" "left" "[I", Cond.fieldLink RX1 28 "ModEngine$Ring" "rSquared" "[I", Cond.fieldLink RX1 37 "ModEngine$Ring" "right" "[I", Cond.fieldLink RX1 22 "ModEngine$Ring" "one" "[I", Cond.methodLink RX1 71 yX1_montgomery, Cond.instanceMethod yX1_montgomery]
def wsX2_powMod_r2 : List Cond := [Cond.selects RX1 yX1_montgomery yX1_montgomery, Cond.code yX1_montgomery cX1_montgomery 7 none, Cond.fieldLink RX1 31 "ModEngine$Ring" "running" "[I", Cond.fieldLink RX1 9 "ModEngine$Ring" "k" "I", Cond.fieldLink RX1 18 "ModEngine$Ring" "modulus" "[I", Cond.fieldLink RX1 46 "ModEngine$Ring" "minusInverse" "I", Cond.methodLink RX1 92 yX0_setSmall, Cond.static yX0_setSmall, Cond.initialized RX0, Cond.code yX0_setSmall cX0_setSmall 4 none, Cond.methodLink RX1 107 yX0_addMultiple, Cond.static yX0_addMultiple, Cond.code yX0_addMultiple cX0_addMultiple 9 (some .long), Cond.constantLong RX0 15 (4294967295), Cond.methodLink RX1 111 yX0_dropLimb, Cond.static yX0_dropLimb, Cond.code yX0_dropLimb cX0_dropLimb 5 (some .long), Cond.methodLink RX1 63 yX0_copy, Cond.static yX0_copy, Cond.code yX0_copy cX0_copy 4 none, Cond.methodLink RX1 115 yX1_bringBelow, Cond.instanceMethod yX1_bringBelow, Cond.selects RX1 yX1_bringBelow yX1_bringBelow, Cond.code yX1_bringBelow cX1_bringBelow 4 none]
def wsX2_powMod_r3 : List Cond := [Cond.methodLink RX1 103 yX0_order, Cond.static yX0_order, Cond.code yX0_order cX0_order 4 (some .int), Cond.methodLink RX1 137 yX0_subtract, Cond.static yX0_subtract, Cond.code yX0_subtract cX0_subtract 7 (some .boolean), Cond.methodLink RX1 88 yX1_raise, Cond.instanceMethod yX1_raise, Cond.selects RX1 yX1_raise yX1_raise, Cond.code yX1_raise cX1_raise 6 none, Cond.fieldLink RX1 25 "ModEngine$Ring" "unit" "[I", Cond.methodLink RX1 119 yX0_highestBit, Cond.static yX0_highestBit, Cond.code yX0_highestBit cX0_highestBit 3 (some .int), Cond.methodLink RX0 9 yX0_isBitSet, Cond.static yX0_isBitSet, Cond.code yX0_isBitSet cX0_isBitSet 2 (some .boolean), Cond.methodLink RX1 123 yX0_isBitSet]
def wsX2_powMod : List Cond := .code yX2_powMod cX2_powMod 4 (some .boolean) :: ((wsX2_powMod_r1 ++ (wsX2_powMod_r2 ++ wsX2_powMod_r3)) ++ wsX20 ++ wsX10)
def wsX2_invMod_r1 : List Cond := [Cond.fieldLink RX2 35 "ModEngine" "ring" "LModEngine$Ring;", Cond.fieldLink RX2 27 "ModEngine" "registers" "[[I", Cond.methodLink RX2 65 yX2_canWork, Cond.instanceMethod yX2_canWork, Cond.selects RX2 yX2_canWork yX2_canWork, Cond.initialized RX2, Cond.code yX2_canWork cX2_canWork 4 (some .boolean), Cond.fieldLink RX2 39 "ModEngine" "isReady" "Z", Cond.methodLink RX2 58 yX2_hasRegister, Cond.instanceMethod yX2_hasRegister, Cond.selects RX2 yX2_hasRegister yX2_hasRegister, Cond.code yX2_hasRegister cX2_hasRegister 2 (some .boolean), Cond.fieldLink RX2 22 "ModEngine" "count" "I", Cond.methodLink RX2 85 yX1_invert, Cond.instanceMethod yX1_invert, Cond.selects RX1 yX1_invert yX1_invert, Cond.initialized RX1, Cond.code yX1_invert cX1_invert 5 (some .boolean), Cond.fieldLink RX1 34 "ModEngine$Ring" "left" "[I", Cond.fieldLink RX1 37 "ModEngine$Ring" "right" "[I", Cond.fieldLink RX1 18 "ModEngine$Ring" "modulus" "[I", Cond.fieldLink RX1 9 "ModEngine$Ring" "k" "I", Cond.fieldLink RX1 40 "ModEngine$Ring" "leftShare" "[I", Cond.fieldLink RX1 22 "ModEngine$Ring" "one" "[I"]
def wsX2_invMod_r2 : List Cond := [Cond.fieldLink RX1 43 "ModEngine$Ring" "rightShare" "[I", Cond.fieldLink RX1 15 "ModEngine$Ring" "bits" "I", Cond.methodLink RX1 75 yX1_residue, Cond.instanceMethod yX1_residue, Cond.selects RX1 yX1_residue yX1_residue, Cond.code yX1_residue cX1_residue 3 none, Cond.fieldLink RX1 28 "ModEngine$Ring" "rSquared" "[I", Cond.methodLink RX1 71 yX1_montgomery, Cond.instanceMethod yX1_montgomery, Cond.selects RX1 yX1_montgomery yX1_montgomery, Cond.code yX1_montgomery cX1_montgomery 7 none, Cond.fieldLink RX1 31 "ModEngine$Ring" "running" "[I", Cond.fieldLink RX1 46 "ModEngine$Ring" "minusInverse" "I", Cond.methodLink RX1 92 yX0_setSmall, Cond.static yX0_setSmall, Cond.initialized RX0, Cond.code yX0_setSmall cX0_setSmall 4 none, Cond.methodLink RX1 107 yX0_addMultiple, Cond.static yX0_addMultiple, Cond.code yX0_addMultiple cX0_addMultiple 9 (some .long), Cond.constantLong RX0 15 (4294967295), Cond.methodLink RX1 111 yX0_dropLimb, Cond.static yX0_dropLimb, Cond.code yX0_dropLimb cX0_dropLimb 5 (some .long)]
def wsX2_invMod_r3 : List Cond := [Cond.methodLink RX1 63 yX0_copy, Cond.static yX0_copy, Cond.code yX0_copy cX0_copy 4 none, Cond.methodLink RX1 115 yX1_bringBelow, Cond.instanceMethod yX1_bringBelow, Cond.selects RX1 yX1_bringBelow yX1_bringBelow, Cond.code yX1_bringBelow cX1_bringBelow 4 none, Cond.methodLink RX1 103 yX0_order, Cond.static yX0_order, Cond.code yX0_order cX0_order 4 (some .int), Cond.methodLink RX1 137 yX0_subtract, Cond.static yX0_subtract, Cond.code yX0_subtract cX0_subtract 7 (some .boolean), Cond.methodLink RX1 55 yX0_isSmall, Cond.static yX0_isSmall, Cond.code yX0_isSmall cX0_isSmall 4 (some .boolean), Cond.methodLink RX1 96 yX1_stepTowardsDivisor, Cond.instanceMethod yX1_stepTowardsDivisor, Cond.selects RX1 yX1_stepTowardsDivisor yX1_stepTowardsDivisor, Cond.code yX1_stepTowardsDivisor cX1_stepTowardsDivisor 1 none, Cond.methodLink RX1 49 yX0_isOdd, Cond.static yX0_isOdd, Cond.code yX0_isOdd cX0_isOdd 1 (some .boolean), Cond.methodLink RX1 127 yX0_halve]
def wsX2_invMod_r4 : List Cond := [Cond.static yX0_halve, Cond.code yX0_halve cX0_halve 9 none, Cond.methodLink RX1 131 yX1_halveBelow, Cond.instanceMethod yX1_halveBelow, Cond.selects RX1 yX1_halveBelow yX1_halveBelow, Cond.code yX1_halveBelow cX1_halveBelow 4 none, Cond.methodLink RX1 141 yX0_add, Cond.static yX0_add, Cond.code yX0_add cX0_add 7 (some .long), Cond.methodLink RX1 134 yX0_swap, Cond.static yX0_swap, Cond.code yX0_swap cX0_swap 5 none, Cond.methodLink RX1 82 yX1_subtractBelow, Cond.instanceMethod yX1_subtractBelow, Cond.selects RX1 yX1_subtractBelow yX1_subtractBelow, Cond.code yX1_subtractBelow cX1_subtractBelow 4 none]
def wsX2_invMod : List Cond := .code yX2_invMod cX2_invMod 3 (some .int) :: ((wsX2_invMod_r1 ++ (wsX2_invMod_r2 ++ (wsX2_invMod_r3 ++ wsX2_invMod_r4))) ++ wsX20 ++ wsX10)
def wsX2_witness_r1 : List Cond := [Cond.fieldLink RX2 39 "ModEngine" "isReady" "Z", Cond.fieldLink RX2 35 "ModEngine" "ring" "LModEngine$Ring;", Cond.fieldLink RX2 27 "ModEngine" "registers" "[[I", Cond.methodLink RX2 58 yX2_hasRegister, Cond.instanceMethod yX2_hasRegister, Cond.selects RX2 yX2_hasRegister yX2_hasRegister, Cond.initialized RX2, Cond.code yX2_hasRegister cX2_hasRegister 2 (some .boolean), Cond.fieldLink RX2 22 "ModEngine" "count" "I", Cond.methodLink RX2 89 yX1_isProvedCompositeBy, Cond.instanceMethod yX1_isProvedCompositeBy, Cond.selects RX1 yX1_isProvedCompositeBy yX1_isProvedCompositeBy, Cond.initialized RX1, Cond.code yX1_isProvedCompositeBy cX1_isProvedCompositeBy 5 (some .boolean), Cond.fieldLink RX1 34 "ModEngine$Ring" "left" "[I", Cond.fieldLink RX1 28 "ModEngine$Ring" "rSquared" "[I", Cond.fieldLink RX1 9 "ModEngine$Ring" "k" "I", Cond.fieldLink RX1 40 "ModEngine$Ring" "leftShare" "[I", Cond.fieldLink RX1 18 "ModEngine$Ring" "modulus" "[I", Cond.fieldLink RX1 25 "ModEngine$Ring" "unit" "[I", Cond.fieldLink RX1 37 "ModEngine$Ring" "right" "[I", Cond.methodLink RX1 71 yX1_montgomery, Cond.instanceMethod yX1_montgomery, Cond.selects RX1 yX1_montgomery yX1_montgomery]
def wsX2_witness_r2 : List Cond := [Cond.code yX1_montgomery cX1_montgomery 7 none, Cond.fieldLink RX1 31 "ModEngine$Ring" "running" "[I", Cond.fieldLink RX1 46 "ModEngine$Ring" "minusInverse" "I", Cond.methodLink RX1 92 yX0_setSmall, Cond.static yX0_setSmall, Cond.initialized RX0, Cond.code yX0_setSmall cX0_setSmall 4 none, Cond.methodLink RX1 107 yX0_addMultiple, Cond.static yX0_addMultiple, Cond.code yX0_addMultiple cX0_addMultiple 9 (some .long), Cond.constantLong RX0 15 (4294967295), Cond.methodLink RX1 111 yX0_dropLimb, Cond.static yX0_dropLimb, Cond.code yX0_dropLimb cX0_dropLimb 5 (some .long), Cond.methodLink RX1 63 yX0_copy, Cond.static yX0_copy, Cond.code yX0_copy cX0_copy 4 none, Cond.methodLink RX1 115 yX1_bringBelow, Cond.instanceMethod yX1_bringBelow, Cond.selects RX1 yX1_bringBelow yX1_bringBelow, Cond.code yX1_bringBelow cX1_bringBelow 4 none, Cond.methodLink RX1 103 yX0_order, Cond.static yX0_order, Cond.code yX0_order cX0_order 4 (some .int)]
def wsX2_witness_r3 : List Cond := [Cond.methodLink RX1 137 yX0_subtract, Cond.static yX0_subtract, Cond.code yX0_subtract cX0_subtract 7 (some .boolean), Cond.methodLink RX1 55 yX0_isSmall, Cond.static yX0_isSmall, Cond.code yX0_isSmall cX0_isSmall 4 (some .boolean), Cond.methodLink RX1 99 yX1_twosInModulusLessOne, Cond.instanceMethod yX1_twosInModulusLessOne, Cond.selects RX1 yX1_twosInModulusLessOne yX1_twosInModulusLessOne, Cond.code yX1_twosInModulusLessOne cX1_twosInModulusLessOne 2 (some .int), Cond.fieldLink RX1 15 "ModEngine$Ring" "bits" "I", Cond.methodLink RX1 123 yX0_isBitSet, Cond.static yX0_isBitSet, Cond.code yX0_isBitSet cX0_isBitSet 2 (some .boolean), Cond.methodLink RX1 82 yX1_subtractBelow, Cond.instanceMethod yX1_subtractBelow, Cond.selects RX1 yX1_subtractBelow yX1_subtractBelow, Cond.code yX1_subtractBelow cX1_subtractBelow 4 none, Cond.methodLink RX1 141 yX0_add, Cond.static yX0_add, Cond.code yX0_add cX0_add 7 (some .long), Cond.methodLink RX1 88 yX1_raise, Cond.instanceMethod yX1_raise, Cond.selects RX1 yX1_raise yX1_raise]
def wsX2_witness_r4 : List Cond := [Cond.code yX1_raise cX1_raise 6 none, Cond.methodLink RX1 119 yX0_highestBit, Cond.static yX0_highestBit, Cond.code yX0_highestBit cX0_highestBit 3 (some .int), Cond.methodLink RX0 9 yX0_isBitSet]
def wsX2_witness : List Cond := .code yX2_witness cX2_witness 2 (some .int) :: ((wsX2_witness_r1 ++ (wsX2_witness_r2 ++ (wsX2_witness_r3 ++ wsX2_witness_r4))) ++ wsX20 ++ wsX10)
def wsX2_compare : List Cond := .code yX2_compare cX2_compare 3 (some .int) :: ([.fieldLink RX2 27 "ModEngine" "registers" "[[I", .fieldLink RX2 18 "ModEngine" "limbs" "I", .methodLink RX2 58 yX2_hasRegister, .instanceMethod yX2_hasRegister, .selects RX2 yX2_hasRegister yX2_hasRegister, .initialized RX2, .code yX2_hasRegister cX2_hasRegister 2 (some .boolean), .fieldLink RX2 22 "ModEngine" "count" "I", .methodLink RX2 93 yX0_order, .static yX0_order, .initialized RX0, .code yX0_order cX0_order 4 (some .int), .constantLong RX0 15 (4294967295)] ++ wsX20)
def wsX3_within : List Cond := .code yX3_within cX3_within 1 (some .int) :: ([])
def wsX3_init : List Cond := .code yX3_init cX3_init 3 none :: ([.methodLink RX3 1 objectInit, .instanceMethod objectInit, .code objectInit ⟨#[0xb1]⟩ 1 none, .arrayClass .long, .fieldLink RX3 7 "ModEngineModel" "held" "[J", .fieldLink RX3 13 "ModEngineModel" "modulus" "[J", .fieldLink RX3 16 "ModEngineModel" "first" "[J", .fieldLink RX3 19 "ModEngineModel" "second" "[J", .fieldLink RX3 22 "ModEngineModel" "result" "[J", .fieldLink RX3 25 "ModEngineModel" "factor" "[J", .fieldLink RX3 28 "ModEngineModel" "base" "[J", .fieldLink RX3 31 "ModEngineModel" "power" "[J", .fieldLink RX3 38 "ModEngineModel" "limbs" "I", .fieldLink RX3 42 "ModEngineModel" "registers" "I", .methodLink RX3 34 yX3_within, .static yX3_within, .initialized RX3, .code yX3_within cX3_within 1 (some .int)] ++ wsX30)
def wsX3_isLimb : List Cond := .code yX3_isLimb cX3_isLimb 2 (some .boolean) :: ([.fieldLink RX3 38 "ModEngineModel" "limbs" "I"] ++ wsX30)
def wsX3_isRegister : List Cond := .code yX3_isRegister cX3_isRegister 2 (some .boolean) :: ([.fieldLink RX3 42 "ModEngineModel" "registers" "I"] ++ wsX30)
def wsX3_placeOf : List Cond := .code yX3_placeOf cX3_placeOf 2 (some .int) :: ([])
def wsX3_placeOfModulus : List Cond := .code yX3_placeOfModulus cX3_placeOfModulus 1 (some .int) :: ([])
def wsX3_pokeMod : List Cond := .code yX3_pokeMod cX3_pokeMod 3 (some .boolean) :: ([.fieldLink RX3 7 "ModEngineModel" "held" "[J", .constantLong RX3 53 (4294967295), .fieldLink RX3 55 "ModEngineModel" "isReady" "Z", .methodLink RX3 45 yX3_isLimb, .instanceMethod yX3_isLimb, .selects RX3 yX3_isLimb yX3_isLimb, .initialized RX3, .code yX3_isLimb cX3_isLimb 2 (some .boolean), .fieldLink RX3 38 "ModEngineModel" "limbs" "I", .methodLink RX3 49 yX3_placeOfModulus, .instanceMethod yX3_placeOfModulus, .selects RX3 yX3_placeOfModulus yX3_placeOfModulus, .code yX3_placeOfModulus cX3_placeOfModulus 1 (some .int)] ++ wsX30)
def wsX3_peekMod : List Cond := .code yX3_peekMod cX3_peekMod 2 (some .int) :: ([.fieldLink RX3 7 "ModEngineModel" "held" "[J", .methodLink RX3 45 yX3_isLimb, .instanceMethod yX3_isLimb, .selects RX3 yX3_isLimb yX3_isLimb, .initialized RX3, .code yX3_isLimb cX3_isLimb 2 (some .boolean), .fieldLink RX3 38 "ModEngineModel" "limbs" "I", .methodLink RX3 49 yX3_placeOfModulus, .instanceMethod yX3_placeOfModulus, .selects RX3 yX3_placeOfModulus yX3_placeOfModulus, .code yX3_placeOfModulus cX3_placeOfModulus 1 (some .int)] ++ wsX30)
def wsX3_read : List Cond := .code yX3_read cX3_read 4 none :: ([.fieldLink RX3 7 "ModEngineModel" "held" "[J"] ++ wsX30)
def wsX3_init_ : List Cond := .code yX3_init_ cX3_init_ 3 (some .int) :: ([.fieldLink RX3 13 "ModEngineModel" "modulus" "[J", .constantLong RX3 63 (2), .constantLong RX3 65 (3), .fieldLink RX3 55 "ModEngineModel" "isReady" "Z", .methodLink RX3 49 yX3_placeOfModulus, .instanceMethod yX3_placeOfModulus, .selects RX3 yX3_placeOfModulus yX3_placeOfModulus, .initialized RX3, .code yX3_placeOfModulus cX3_placeOfModulus 1 (some .int), .methodLink RX3 59 yX3_read, .instanceMethod yX3_read, .selects RX3 yX3_read yX3_read, .code yX3_read cX3_read 4 none, .fieldLink RX3 7 "ModEngineModel" "held" "[J"] ++ wsX30)
def wsX3_ready : List Cond := .code yX3_ready cX3_ready 1 (some .boolean) :: ([.fieldLink RX3 55 "ModEngineModel" "isReady" "Z"] ++ wsX30)
def wsX3_poke : List Cond := .code yX3_poke cX3_poke 4 (some .boolean) :: ([.fieldLink RX3 7 "ModEngineModel" "held" "[J", .constantLong RX3 53 (4294967295), .methodLink RX3 67 yX3_isRegister, .instanceMethod yX3_isRegister, .selects RX3 yX3_isRegister yX3_isRegister, .initialized RX3, .code yX3_isRegister cX3_isRegister 2 (some .boolean), .fieldLink RX3 42 "ModEngineModel" "registers" "I", .methodLink RX3 45 yX3_isLimb, .instanceMethod yX3_isLimb, .selects RX3 yX3_isLimb yX3_isLimb, .code yX3_isLimb cX3_isLimb 2 (some .boolean), .fieldLink RX3 38 "ModEngineModel" "limbs" "I", .methodLink RX3 70 yX3_placeOf, .instanceMethod yX3_placeOf, .selects RX3 yX3_placeOf yX3_placeOf, .code yX3_placeOf cX3_placeOf 2 (some .int)] ++ wsX30)
def wsX3_peek : List Cond := .code yX3_peek cX3_peek 3 (some .int) :: ([.fieldLink RX3 7 "ModEngineModel" "held" "[J", .methodLink RX3 67 yX3_isRegister, .instanceMethod yX3_isRegister, .selects RX3 yX3_isRegister yX3_isRegister, .initialized RX3, .code yX3_isRegister cX3_isRegister 2 (some .boolean), .fieldLink RX3 42 "ModEngineModel" "registers" "I", .methodLink RX3 45 yX3_isLimb, .instanceMethod yX3_isLimb, .selects RX3 yX3_isLimb yX3_isLimb, .code yX3_isLimb cX3_isLimb 2 (some .boolean), .fieldLink RX3 38 "ModEngineModel" "limbs" "I", .methodLink RX3 70 yX3_placeOf, .instanceMethod yX3_placeOf, .selects RX3 yX3_placeOf yX3_placeOf, .code yX3_placeOf cX3_placeOf 2 (some .int)] ++ wsX30)
def wsX3_write : List Cond := .code yX3_write cX3_write 4 none :: ([.fieldLink RX3 7 "ModEngineModel" "held" "[J", .methodLink RX3 70 yX3_placeOf, .instanceMethod yX3_placeOf, .selects RX3 yX3_placeOf yX3_placeOf, .initialized RX3, .code yX3_placeOf cX3_placeOf 2 (some .int)] ++ wsX30)
def wsX3_copy : List Cond := .code yX3_copy cX3_copy 3 none :: ([])
def wsX3_be : List Cond := .code yX3_be cX3_be 4 none :: ([])
def wsX3_compared : List Cond := .code yX3_compared cX3_compared 3 (some .int) :: ([])
def wsX3_isNought : List Cond := .code yX3_isNought cX3_isNought 3 (some .boolean) :: ([])
def wsX3_isOne : List Cond := .code yX3_isOne cX3_isOne 3 (some .boolean) :: ([])
def wsX3_plus : List Cond := .code yX3_plus cX3_plus 7 none :: ([.constantLong RX3 53 (4294967295)])
def wsX3_minus : List Cond := .code yX3_minus cX3_minus 7 none :: ([.constantLong RX3 53 (4294967295)])
def wsX3_half : List Cond := .code yX3_half cX3_half 6 none :: ([])
def wsX3_bit : List Cond := .code yX3_bit cX3_bit 2 (some .boolean) :: ([])
def wsX3_bits : List Cond := .code yX3_bits cX3_bits 1 (some .int) :: ([.fieldLink RX3 38 "ModEngineModel" "limbs" "I"] ++ wsX30)
def wsX3_sum : List Cond := .code yX3_sum cX3_sum 3 none :: ([.fieldLink RX3 13 "ModEngineModel" "modulus" "[J", .methodLink RX3 73 yX3_plus, .static yX3_plus, .initialized RX3, .code yX3_plus cX3_plus 7 none, .constantLong RX3 53 (4294967295), .methodLink RX3 77 yX3_compared, .static yX3_compared, .code yX3_compared cX3_compared 3 (some .int), .methodLink RX3 81 yX3_minus, .static yX3_minus, .code yX3_minus cX3_minus 7 none] ++ wsX30)
def wsX3_difference : List Cond := .code yX3_difference cX3_difference 3 none :: ([.fieldLink RX3 13 "ModEngineModel" "modulus" "[J", .methodLink RX3 77 yX3_compared, .static yX3_compared, .initialized RX3, .code yX3_compared cX3_compared 3 (some .int), .methodLink RX3 73 yX3_plus, .static yX3_plus, .code yX3_plus cX3_plus 7 none, .constantLong RX3 53 (4294967295), .methodLink RX3 81 yX3_minus, .static yX3_minus, .code yX3_minus cX3_minus 7 none] ++ wsX30)
def wsX3_rest_r1 : List Cond := [Cond.fieldLink RX3 25 "ModEngineModel" "factor" "[J", Cond.fieldLink RX3 13 "ModEngineModel" "modulus" "[J", Cond.methodLink RX3 84 yX3_copy, Cond.static yX3_copy, Cond.initialized RX3, Cond.code yX3_copy cX3_copy 3 none, Cond.methodLink RX3 87 yX3_be, Cond.static yX3_be, Cond.code yX3_be cX3_be 4 none, Cond.methodLink RX3 91 yX3_bits, Cond.instanceMethod yX3_bits, Cond.selects RX3 yX3_bits yX3_bits, Cond.code yX3_bits cX3_bits 1 (some .int), Cond.fieldLink RX3 38 "ModEngineModel" "limbs" "I", Cond.methodLink RX3 73 yX3_plus, Cond.static yX3_plus, Cond.code yX3_plus cX3_plus 7 none, Cond.constantLong RX3 53 (4294967295), Cond.methodLink RX3 94 yX3_bit, Cond.static yX3_bit, Cond.code yX3_bit cX3_bit 2 (some .boolean), Cond.methodLink RX3 77 yX3_compared, Cond.static yX3_compared, Cond.code yX3_compared cX3_compared 3 (some .int)]
def wsX3_rest_r2 : List Cond := [Cond.methodLink RX3 81 yX3_minus, Cond.static yX3_minus, Cond.code yX3_minus cX3_minus 7 none]
def wsX3_rest : List Cond := .code yX3_rest cX3_rest 3 none :: ((wsX3_rest_r1 ++ wsX3_rest_r2) ++ wsX30)
def wsX3_product_r1 : List Cond := [Cond.fieldLink RX3 25 "ModEngineModel" "factor" "[J", Cond.fieldLink RX3 19 "ModEngineModel" "second" "[J", Cond.methodLink RX3 84 yX3_copy, Cond.static yX3_copy, Cond.initialized RX3, Cond.code yX3_copy cX3_copy 3 none, Cond.methodLink RX3 87 yX3_be, Cond.static yX3_be, Cond.code yX3_be cX3_be 4 none, Cond.methodLink RX3 91 yX3_bits, Cond.instanceMethod yX3_bits, Cond.selects RX3 yX3_bits yX3_bits, Cond.code yX3_bits cX3_bits 1 (some .int), Cond.fieldLink RX3 38 "ModEngineModel" "limbs" "I", Cond.methodLink RX3 98 yX3_sum, Cond.instanceMethod yX3_sum, Cond.selects RX3 yX3_sum yX3_sum, Cond.code yX3_sum cX3_sum 3 none, Cond.fieldLink RX3 13 "ModEngineModel" "modulus" "[J", Cond.methodLink RX3 73 yX3_plus, Cond.static yX3_plus, Cond.code yX3_plus cX3_plus 7 none, Cond.constantLong RX3 53 (4294967295), Cond.methodLink RX3 77 yX3_compared]
def wsX3_product_r2 : List Cond := [Cond.static yX3_compared, Cond.code yX3_compared cX3_compared 3 (some .int), Cond.methodLink RX3 81 yX3_minus, Cond.static yX3_minus, Cond.code yX3_minus cX3_minus 7 none, Cond.methodLink RX3 94 yX3_bit, Cond.static yX3_bit, Cond.code yX3_bit cX3_bit 2 (some .boolean)]
def wsX3_product : List Cond := .code yX3_product cX3_product 4 none :: ((wsX3_product_r1 ++ wsX3_product_r2) ++ wsX30)
def wsX3_halfOf : List Cond := .code yX3_halfOf cX3_halfOf 2 none :: ([.fieldLink RX3 13 "ModEngineModel" "modulus" "[J", .methodLink RX3 94 yX3_bit, .static yX3_bit, .initialized RX3, .code yX3_bit cX3_bit 2 (some .boolean), .methodLink RX3 73 yX3_plus, .static yX3_plus, .code yX3_plus cX3_plus 7 none, .constantLong RX3 53 (4294967295), .methodLink RX3 101 yX3_half, .static yX3_half, .code yX3_half cX3_half 6 none] ++ wsX30)
def wsX3_isAsked : List Cond := .code yX3_isAsked cX3_isAsked 4 (some .boolean) :: ([.fieldLink RX3 55 "ModEngineModel" "isReady" "Z", .methodLink RX3 67 yX3_isRegister, .instanceMethod yX3_isRegister, .selects RX3 yX3_isRegister yX3_isRegister, .initialized RX3, .code yX3_isRegister cX3_isRegister 2 (some .boolean), .fieldLink RX3 42 "ModEngineModel" "registers" "I"] ++ wsX30)
def wsX3_takes_r1 : List Cond := [Cond.fieldLink RX3 13 "ModEngineModel" "modulus" "[J", Cond.fieldLink RX3 16 "ModEngineModel" "first" "[J", Cond.fieldLink RX3 22 "ModEngineModel" "result" "[J", Cond.methodLink RX3 49 yX3_placeOfModulus, Cond.instanceMethod yX3_placeOfModulus, Cond.selects RX3 yX3_placeOfModulus yX3_placeOfModulus, Cond.initialized RX3, Cond.code yX3_placeOfModulus cX3_placeOfModulus 1 (some .int), Cond.methodLink RX3 59 yX3_read, Cond.instanceMethod yX3_read, Cond.selects RX3 yX3_read yX3_read, Cond.code yX3_read cX3_read 4 none, Cond.fieldLink RX3 7 "ModEngineModel" "held" "[J", Cond.methodLink RX3 70 yX3_placeOf, Cond.instanceMethod yX3_placeOf, Cond.selects RX3 yX3_placeOf yX3_placeOf, Cond.code yX3_placeOf cX3_placeOf 2 (some .int), Cond.methodLink RX3 105 yX3_rest, Cond.instanceMethod yX3_rest, Cond.selects RX3 yX3_rest yX3_rest, Cond.code yX3_rest cX3_rest 3 none, Cond.fieldLink RX3 25 "ModEngineModel" "factor" "[J", Cond.methodLink RX3 84 yX3_copy, Cond.static yX3_copy]
def wsX3_takes_r2 : List Cond := [Cond.code yX3_copy cX3_copy 3 none, Cond.methodLink RX3 87 yX3_be, Cond.static yX3_be, Cond.code yX3_be cX3_be 4 none, Cond.methodLink RX3 91 yX3_bits, Cond.instanceMethod yX3_bits, Cond.selects RX3 yX3_bits yX3_bits, Cond.code yX3_bits cX3_bits 1 (some .int), Cond.fieldLink RX3 38 "ModEngineModel" "limbs" "I", Cond.methodLink RX3 73 yX3_plus, Cond.static yX3_plus, Cond.code yX3_plus cX3_plus 7 none, Cond.constantLong RX3 53 (4294967295), Cond.methodLink RX3 94 yX3_bit, Cond.static yX3_bit, Cond.code yX3_bit cX3_bit 2 (some .boolean), Cond.methodLink RX3 77 yX3_compared, Cond.static yX3_compared, Cond.code yX3_compared cX3_compared 3 (some .int), Cond.methodLink RX3 81 yX3_minus, Cond.static yX3_minus, Cond.code yX3_minus cX3_minus 7 none]
def wsX3_takes : List Cond := .code yX3_takes cX3_takes 3 none :: ((wsX3_takes_r1 ++ wsX3_takes_r2) ++ wsX30)
def wsX3_reduce_r1 : List Cond := [Cond.fieldLink RX3 16 "ModEngineModel" "first" "[J", Cond.methodLink RX3 108 yX3_isAsked, Cond.instanceMethod yX3_isAsked, Cond.selects RX3 yX3_isAsked yX3_isAsked, Cond.initialized RX3, Cond.code yX3_isAsked cX3_isAsked 4 (some .boolean), Cond.fieldLink RX3 55 "ModEngineModel" "isReady" "Z", Cond.methodLink RX3 67 yX3_isRegister, Cond.instanceMethod yX3_isRegister, Cond.selects RX3 yX3_isRegister yX3_isRegister, Cond.code yX3_isRegister cX3_isRegister 2 (some .boolean), Cond.fieldLink RX3 42 "ModEngineModel" "registers" "I", Cond.methodLink RX3 112 yX3_takes, Cond.instanceMethod yX3_takes, Cond.selects RX3 yX3_takes yX3_takes, Cond.code yX3_takes cX3_takes 3 none, Cond.fieldLink RX3 13 "ModEngineModel" "modulus" "[J", Cond.fieldLink RX3 22 "ModEngineModel" "result" "[J", Cond.methodLink RX3 49 yX3_placeOfModulus, Cond.instanceMethod yX3_placeOfModulus, Cond.selects RX3 yX3_placeOfModulus yX3_placeOfModulus, Cond.code yX3_placeOfModulus cX3_placeOfModulus 1 (some .int), Cond.methodLink RX3 59 yX3_read, Cond.instanceMethod yX3_read]
def wsX3_reduce_r2 : List Cond := [Cond.selects RX3 yX3_read yX3_read, Cond.code yX3_read cX3_read 4 none, Cond.fieldLink RX3 7 "ModEngineModel" "held" "[J", Cond.methodLink RX3 70 yX3_placeOf, Cond.instanceMethod yX3_placeOf, Cond.selects RX3 yX3_placeOf yX3_placeOf, Cond.code yX3_placeOf cX3_placeOf 2 (some .int), Cond.methodLink RX3 105 yX3_rest, Cond.instanceMethod yX3_rest, Cond.selects RX3 yX3_rest yX3_rest, Cond.code yX3_rest cX3_rest 3 none, Cond.fieldLink RX3 25 "ModEngineModel" "factor" "[J", Cond.methodLink RX3 84 yX3_copy, Cond.static yX3_copy, Cond.code yX3_copy cX3_copy 3 none, Cond.methodLink RX3 87 yX3_be, Cond.static yX3_be, Cond.code yX3_be cX3_be 4 none, Cond.methodLink RX3 91 yX3_bits, Cond.instanceMethod yX3_bits, Cond.selects RX3 yX3_bits yX3_bits, Cond.code yX3_bits cX3_bits 1 (some .int), Cond.fieldLink RX3 38 "ModEngineModel" "limbs" "I", Cond.methodLink RX3 73 yX3_plus]
def wsX3_reduce_r3 : List Cond := [Cond.static yX3_plus, Cond.code yX3_plus cX3_plus 7 none, Cond.constantLong RX3 53 (4294967295), Cond.methodLink RX3 94 yX3_bit, Cond.static yX3_bit, Cond.code yX3_bit cX3_bit 2 (some .boolean), Cond.methodLink RX3 77 yX3_compared, Cond.static yX3_compared, Cond.code yX3_compared cX3_compared 3 (some .int), Cond.methodLink RX3 81 yX3_minus, Cond.static yX3_minus, Cond.code yX3_minus cX3_minus 7 none, Cond.methodLink RX3 116 yX3_write, Cond.instanceMethod yX3_write, Cond.selects RX3 yX3_write yX3_write, Cond.code yX3_write cX3_write 4 none]
def wsX3_reduce : List Cond := .code yX3_reduce cX3_reduce 2 (some .boolean) :: ((wsX3_reduce_r1 ++ (wsX3_reduce_r2 ++ wsX3_reduce_r3)) ++ wsX30)
def wsX3_addMod_r1 : List Cond := [Cond.fieldLink RX3 16 "ModEngineModel" "first" "[J", Cond.fieldLink RX3 22 "ModEngineModel" "result" "[J", Cond.methodLink RX3 108 yX3_isAsked, Cond.instanceMethod yX3_isAsked, Cond.selects RX3 yX3_isAsked yX3_isAsked, Cond.initialized RX3, Cond.code yX3_isAsked cX3_isAsked 4 (some .boolean), Cond.fieldLink RX3 55 "ModEngineModel" "isReady" "Z", Cond.methodLink RX3 67 yX3_isRegister, Cond.instanceMethod yX3_isRegister, Cond.selects RX3 yX3_isRegister yX3_isRegister, Cond.code yX3_isRegister cX3_isRegister 2 (some .boolean), Cond.fieldLink RX3 42 "ModEngineModel" "registers" "I", Cond.methodLink RX3 112 yX3_takes, Cond.instanceMethod yX3_takes, Cond.selects RX3 yX3_takes yX3_takes, Cond.code yX3_takes cX3_takes 3 none, Cond.fieldLink RX3 13 "ModEngineModel" "modulus" "[J", Cond.methodLink RX3 49 yX3_placeOfModulus, Cond.instanceMethod yX3_placeOfModulus, Cond.selects RX3 yX3_placeOfModulus yX3_placeOfModulus, Cond.code yX3_placeOfModulus cX3_placeOfModulus 1 (some .int), Cond.methodLink RX3 59 yX3_read, Cond.instanceMethod yX3_read]
def wsX3_addMod_r2 : List Cond := [Cond.selects RX3 yX3_read yX3_read, Cond.code yX3_read cX3_read 4 none, Cond.fieldLink RX3 7 "ModEngineModel" "held" "[J", Cond.methodLink RX3 70 yX3_placeOf, Cond.instanceMethod yX3_placeOf, Cond.selects RX3 yX3_placeOf yX3_placeOf, Cond.code yX3_placeOf cX3_placeOf 2 (some .int), Cond.methodLink RX3 105 yX3_rest, Cond.instanceMethod yX3_rest, Cond.selects RX3 yX3_rest yX3_rest, Cond.code yX3_rest cX3_rest 3 none, Cond.fieldLink RX3 25 "ModEngineModel" "factor" "[J", Cond.methodLink RX3 84 yX3_copy, Cond.static yX3_copy, Cond.code yX3_copy cX3_copy 3 none, Cond.methodLink RX3 87 yX3_be, Cond.static yX3_be, Cond.code yX3_be cX3_be 4 none, Cond.methodLink RX3 91 yX3_bits, Cond.instanceMethod yX3_bits, Cond.selects RX3 yX3_bits yX3_bits, Cond.code yX3_bits cX3_bits 1 (some .int), Cond.fieldLink RX3 38 "ModEngineModel" "limbs" "I", Cond.methodLink RX3 73 yX3_plus]
def wsX3_addMod_r3 : List Cond := [Cond.static yX3_plus, Cond.code yX3_plus cX3_plus 7 none, Cond.constantLong RX3 53 (4294967295), Cond.methodLink RX3 94 yX3_bit, Cond.static yX3_bit, Cond.code yX3_bit cX3_bit 2 (some .boolean), Cond.methodLink RX3 77 yX3_compared, Cond.static yX3_compared, Cond.code yX3_compared cX3_compared 3 (some .int), Cond.methodLink RX3 81 yX3_minus, Cond.static yX3_minus, Cond.code yX3_minus cX3_minus 7 none, Cond.methodLink RX3 98 yX3_sum, Cond.instanceMethod yX3_sum, Cond.selects RX3 yX3_sum yX3_sum, Cond.code yX3_sum cX3_sum 3 none, Cond.methodLink RX3 116 yX3_write, Cond.instanceMethod yX3_write, Cond.selects RX3 yX3_write yX3_write, Cond.code yX3_write cX3_write 4 none]
def wsX3_addMod : List Cond := .code yX3_addMod cX3_addMod 4 (some .boolean) :: ((wsX3_addMod_r1 ++ (wsX3_addMod_r2 ++ wsX3_addMod_r3)) ++ wsX30)
def wsX3_subMod_r1 : List Cond := [Cond.fieldLink RX3 16 "ModEngineModel" "first" "[J", Cond.fieldLink RX3 22 "ModEngineModel" "result" "[J", Cond.methodLink RX3 108 yX3_isAsked, Cond.instanceMethod yX3_isAsked, Cond.selects RX3 yX3_isAsked yX3_isAsked, Cond.initialized RX3, Cond.code yX3_isAsked cX3_isAsked 4 (some .boolean), Cond.fieldLink RX3 55 "ModEngineModel" "isReady" "Z", Cond.methodLink RX3 67 yX3_isRegister, Cond.instanceMethod yX3_isRegister, Cond.selects RX3 yX3_isRegister yX3_isRegister, Cond.code yX3_isRegister cX3_isRegister 2 (some .boolean), Cond.fieldLink RX3 42 "ModEngineModel" "registers" "I", Cond.methodLink RX3 112 yX3_takes, Cond.instanceMethod yX3_takes, Cond.selects RX3 yX3_takes yX3_takes, Cond.code yX3_takes cX3_takes 3 none, Cond.fieldLink RX3 13 "ModEngineModel" "modulus" "[J", Cond.methodLink RX3 49 yX3_placeOfModulus, Cond.instanceMethod yX3_placeOfModulus, Cond.selects RX3 yX3_placeOfModulus yX3_placeOfModulus, Cond.code yX3_placeOfModulus cX3_placeOfModulus 1 (some .int), Cond.methodLink RX3 59 yX3_read, Cond.instanceMethod yX3_read]
def wsX3_subMod_r2 : List Cond := [Cond.selects RX3 yX3_read yX3_read, Cond.code yX3_read cX3_read 4 none, Cond.fieldLink RX3 7 "ModEngineModel" "held" "[J", Cond.methodLink RX3 70 yX3_placeOf, Cond.instanceMethod yX3_placeOf, Cond.selects RX3 yX3_placeOf yX3_placeOf, Cond.code yX3_placeOf cX3_placeOf 2 (some .int), Cond.methodLink RX3 105 yX3_rest, Cond.instanceMethod yX3_rest, Cond.selects RX3 yX3_rest yX3_rest, Cond.code yX3_rest cX3_rest 3 none, Cond.fieldLink RX3 25 "ModEngineModel" "factor" "[J", Cond.methodLink RX3 84 yX3_copy, Cond.static yX3_copy, Cond.code yX3_copy cX3_copy 3 none, Cond.methodLink RX3 87 yX3_be, Cond.static yX3_be, Cond.code yX3_be cX3_be 4 none, Cond.methodLink RX3 91 yX3_bits, Cond.instanceMethod yX3_bits, Cond.selects RX3 yX3_bits yX3_bits, Cond.code yX3_bits cX3_bits 1 (some .int), Cond.fieldLink RX3 38 "ModEngineModel" "limbs" "I", Cond.methodLink RX3 73 yX3_plus]
def wsX3_subMod_r3 : List Cond := [Cond.static yX3_plus, Cond.code yX3_plus cX3_plus 7 none, Cond.constantLong RX3 53 (4294967295), Cond.methodLink RX3 94 yX3_bit, Cond.static yX3_bit, Cond.code yX3_bit cX3_bit 2 (some .boolean), Cond.methodLink RX3 77 yX3_compared, Cond.static yX3_compared, Cond.code yX3_compared cX3_compared 3 (some .int), Cond.methodLink RX3 81 yX3_minus, Cond.static yX3_minus, Cond.code yX3_minus cX3_minus 7 none, Cond.methodLink RX3 120 yX3_difference, Cond.instanceMethod yX3_difference, Cond.selects RX3 yX3_difference yX3_difference, Cond.code yX3_difference cX3_difference 3 none, Cond.methodLink RX3 116 yX3_write, Cond.instanceMethod yX3_write, Cond.selects RX3 yX3_write yX3_write, Cond.code yX3_write cX3_write 4 none]
def wsX3_subMod : List Cond := .code yX3_subMod cX3_subMod 4 (some .boolean) :: ((wsX3_subMod_r1 ++ (wsX3_subMod_r2 ++ wsX3_subMod_r3)) ++ wsX30)
def wsX3_mulMod_r1 : List Cond := [Cond.fieldLink RX3 16 "ModEngineModel" "first" "[J", Cond.fieldLink RX3 22 "ModEngineModel" "result" "[J", Cond.methodLink RX3 108 yX3_isAsked, Cond.instanceMethod yX3_isAsked, Cond.selects RX3 yX3_isAsked yX3_isAsked, Cond.initialized RX3, Cond.code yX3_isAsked cX3_isAsked 4 (some .boolean), Cond.fieldLink RX3 55 "ModEngineModel" "isReady" "Z", Cond.methodLink RX3 67 yX3_isRegister, Cond.instanceMethod yX3_isRegister, Cond.selects RX3 yX3_isRegister yX3_isRegister, Cond.code yX3_isRegister cX3_isRegister 2 (some .boolean), Cond.fieldLink RX3 42 "ModEngineModel" "registers" "I", Cond.methodLink RX3 112 yX3_takes, Cond.instanceMethod yX3_takes, Cond.selects RX3 yX3_takes yX3_takes, Cond.code yX3_takes cX3_takes 3 none, Cond.fieldLink RX3 13 "ModEngineModel" "modulus" "[J", Cond.methodLink RX3 49 yX3_placeOfModulus, Cond.instanceMethod yX3_placeOfModulus, Cond.selects RX3 yX3_placeOfModulus yX3_placeOfModulus, Cond.code yX3_placeOfModulus cX3_placeOfModulus 1 (some .int), Cond.methodLink RX3 59 yX3_read, Cond.instanceMethod yX3_read]
def wsX3_mulMod_r2 : List Cond := [Cond.selects RX3 yX3_read yX3_read, Cond.code yX3_read cX3_read 4 none, Cond.fieldLink RX3 7 "ModEngineModel" "held" "[J", Cond.methodLink RX3 70 yX3_placeOf, Cond.instanceMethod yX3_placeOf, Cond.selects RX3 yX3_placeOf yX3_placeOf, Cond.code yX3_placeOf cX3_placeOf 2 (some .int), Cond.methodLink RX3 105 yX3_rest, Cond.instanceMethod yX3_rest, Cond.selects RX3 yX3_rest yX3_rest, Cond.code yX3_rest cX3_rest 3 none, Cond.fieldLink RX3 25 "ModEngineModel" "factor" "[J", Cond.methodLink RX3 84 yX3_copy, Cond.static yX3_copy, Cond.code yX3_copy cX3_copy 3 none, Cond.methodLink RX3 87 yX3_be, Cond.static yX3_be, Cond.code yX3_be cX3_be 4 none, Cond.methodLink RX3 91 yX3_bits, Cond.instanceMethod yX3_bits, Cond.selects RX3 yX3_bits yX3_bits, Cond.code yX3_bits cX3_bits 1 (some .int), Cond.fieldLink RX3 38 "ModEngineModel" "limbs" "I", Cond.methodLink RX3 73 yX3_plus]
def wsX3_mulMod_r3 : List Cond := [Cond.static yX3_plus, Cond.code yX3_plus cX3_plus 7 none, Cond.constantLong RX3 53 (4294967295), Cond.methodLink RX3 94 yX3_bit, Cond.static yX3_bit, Cond.code yX3_bit cX3_bit 2 (some .boolean), Cond.methodLink RX3 77 yX3_compared, Cond.static yX3_compared, Cond.code yX3_compared cX3_compared 3 (some .int), Cond.methodLink RX3 81 yX3_minus, Cond.static yX3_minus, Cond.code yX3_minus cX3_minus 7 none, Cond.methodLink RX3 123 yX3_product, Cond.instanceMethod yX3_product, Cond.selects RX3 yX3_product yX3_product, Cond.code yX3_product cX3_product 4 none, Cond.fieldLink RX3 19 "ModEngineModel" "second" "[J", Cond.methodLink RX3 98 yX3_sum, Cond.instanceMethod yX3_sum, Cond.selects RX3 yX3_sum yX3_sum, Cond.code yX3_sum cX3_sum 3 none, Cond.methodLink RX3 116 yX3_write, Cond.instanceMethod yX3_write, Cond.selects RX3 yX3_write yX3_write]
def wsX3_mulMod_r4 : List Cond := [Cond.code yX3_write cX3_write 4 none]
def wsX3_mulMod : List Cond := .code yX3_mulMod cX3_mulMod 4 (some .boolean) :: ((wsX3_mulMod_r1 ++ (wsX3_mulMod_r2 ++ (wsX3_mulMod_r3 ++ wsX3_mulMod_r4))) ++ wsX30)
def wsX3_montMod_r1 : List Cond := [Cond.fieldLink RX3 16 "ModEngineModel" "first" "[J", Cond.fieldLink RX3 22 "ModEngineModel" "result" "[J", Cond.methodLink RX3 108 yX3_isAsked, Cond.instanceMethod yX3_isAsked, Cond.selects RX3 yX3_isAsked yX3_isAsked, Cond.initialized RX3, Cond.code yX3_isAsked cX3_isAsked 4 (some .boolean), Cond.fieldLink RX3 55 "ModEngineModel" "isReady" "Z", Cond.methodLink RX3 67 yX3_isRegister, Cond.instanceMethod yX3_isRegister, Cond.selects RX3 yX3_isRegister yX3_isRegister, Cond.code yX3_isRegister cX3_isRegister 2 (some .boolean), Cond.fieldLink RX3 42 "ModEngineModel" "registers" "I", Cond.methodLink RX3 112 yX3_takes, Cond.instanceMethod yX3_takes, Cond.selects RX3 yX3_takes yX3_takes, Cond.code yX3_takes cX3_takes 3 none, Cond.fieldLink RX3 13 "ModEngineModel" "modulus" "[J", Cond.methodLink RX3 49 yX3_placeOfModulus, Cond.instanceMethod yX3_placeOfModulus, Cond.selects RX3 yX3_placeOfModulus yX3_placeOfModulus, Cond.code yX3_placeOfModulus cX3_placeOfModulus 1 (some .int), Cond.methodLink RX3 59 yX3_read, Cond.instanceMethod yX3_read]
def wsX3_montMod_r2 : List Cond := [Cond.selects RX3 yX3_read yX3_read, Cond.code yX3_read cX3_read 4 none, Cond.fieldLink RX3 7 "ModEngineModel" "held" "[J", Cond.methodLink RX3 70 yX3_placeOf, Cond.instanceMethod yX3_placeOf, Cond.selects RX3 yX3_placeOf yX3_placeOf, Cond.code yX3_placeOf cX3_placeOf 2 (some .int), Cond.methodLink RX3 105 yX3_rest, Cond.instanceMethod yX3_rest, Cond.selects RX3 yX3_rest yX3_rest, Cond.code yX3_rest cX3_rest 3 none, Cond.fieldLink RX3 25 "ModEngineModel" "factor" "[J", Cond.methodLink RX3 84 yX3_copy, Cond.static yX3_copy, Cond.code yX3_copy cX3_copy 3 none, Cond.methodLink RX3 87 yX3_be, Cond.static yX3_be, Cond.code yX3_be cX3_be 4 none, Cond.methodLink RX3 91 yX3_bits, Cond.instanceMethod yX3_bits, Cond.selects RX3 yX3_bits yX3_bits, Cond.code yX3_bits cX3_bits 1 (some .int), Cond.fieldLink RX3 38 "ModEngineModel" "limbs" "I", Cond.methodLink RX3 73 yX3_plus]
def wsX3_montMod_r3 : List Cond := [Cond.static yX3_plus, Cond.code yX3_plus cX3_plus 7 none, Cond.constantLong RX3 53 (4294967295), Cond.methodLink RX3 94 yX3_bit, Cond.static yX3_bit, Cond.code yX3_bit cX3_bit 2 (some .boolean), Cond.methodLink RX3 77 yX3_compared, Cond.static yX3_compared, Cond.code yX3_compared cX3_compared 3 (some .int), Cond.methodLink RX3 81 yX3_minus, Cond.static yX3_minus, Cond.code yX3_minus cX3_minus 7 none, Cond.methodLink RX3 123 yX3_product, Cond.instanceMethod yX3_product, Cond.selects RX3 yX3_product yX3_product, Cond.code yX3_product cX3_product 4 none, Cond.fieldLink RX3 19 "ModEngineModel" "second" "[J", Cond.methodLink RX3 98 yX3_sum, Cond.instanceMethod yX3_sum, Cond.selects RX3 yX3_sum yX3_sum, Cond.code yX3_sum cX3_sum 3 none, Cond.methodLink RX3 126 yX3_halfOf, Cond.instanceMethod yX3_halfOf, Cond.selects RX3 yX3_halfOf yX3_halfOf]
def wsX3_montMod_r4 : List Cond := [Cond.code yX3_halfOf cX3_halfOf 2 none, Cond.methodLink RX3 101 yX3_half, Cond.static yX3_half, Cond.code yX3_half cX3_half 6 none, Cond.methodLink RX3 116 yX3_write, Cond.instanceMethod yX3_write, Cond.selects RX3 yX3_write yX3_write, Cond.code yX3_write cX3_write 4 none]
def wsX3_montMod : List Cond := .code yX3_montMod cX3_montMod 5 (some .boolean) :: ((wsX3_montMod_r1 ++ (wsX3_montMod_r2 ++ (wsX3_montMod_r3 ++ wsX3_montMod_r4))) ++ wsX30)
def wsX3_raise_r1 : List Cond := [Cond.fieldLink RX3 28 "ModEngineModel" "base" "[J", Cond.fieldLink RX3 31 "ModEngineModel" "power" "[J", Cond.methodLink RX3 84 yX3_copy, Cond.static yX3_copy, Cond.initialized RX3, Cond.code yX3_copy cX3_copy 3 none, Cond.methodLink RX3 87 yX3_be, Cond.static yX3_be, Cond.code yX3_be cX3_be 4 none, Cond.methodLink RX3 91 yX3_bits, Cond.instanceMethod yX3_bits, Cond.selects RX3 yX3_bits yX3_bits, Cond.code yX3_bits cX3_bits 1 (some .int), Cond.fieldLink RX3 38 "ModEngineModel" "limbs" "I", Cond.methodLink RX3 94 yX3_bit, Cond.static yX3_bit, Cond.code yX3_bit cX3_bit 2 (some .boolean), Cond.methodLink RX3 123 yX3_product, Cond.instanceMethod yX3_product, Cond.selects RX3 yX3_product yX3_product, Cond.code yX3_product cX3_product 4 none, Cond.fieldLink RX3 25 "ModEngineModel" "factor" "[J", Cond.fieldLink RX3 19 "ModEngineModel" "second" "[J", Cond.methodLink RX3 98 yX3_sum]
def wsX3_raise_r2 : List Cond := [Cond.instanceMethod yX3_sum, Cond.selects RX3 yX3_sum yX3_sum, Cond.code yX3_sum cX3_sum 3 none, Cond.fieldLink RX3 13 "ModEngineModel" "modulus" "[J", Cond.methodLink RX3 73 yX3_plus, Cond.static yX3_plus, Cond.code yX3_plus cX3_plus 7 none, Cond.constantLong RX3 53 (4294967295), Cond.methodLink RX3 77 yX3_compared, Cond.static yX3_compared, Cond.code yX3_compared cX3_compared 3 (some .int), Cond.methodLink RX3 81 yX3_minus, Cond.static yX3_minus, Cond.code yX3_minus cX3_minus 7 none]
def wsX3_raise : List Cond := .code yX3_raise cX3_raise 3 none :: ((wsX3_raise_r1 ++ wsX3_raise_r2) ++ wsX30)
def wsX3_powMod_r1 : List Cond := [Cond.fieldLink RX3 31 "ModEngineModel" "power" "[J", Cond.fieldLink RX3 16 "ModEngineModel" "first" "[J", Cond.methodLink RX3 108 yX3_isAsked, Cond.instanceMethod yX3_isAsked, Cond.selects RX3 yX3_isAsked yX3_isAsked, Cond.initialized RX3, Cond.code yX3_isAsked cX3_isAsked 4 (some .boolean), Cond.fieldLink RX3 55 "ModEngineModel" "isReady" "Z", Cond.methodLink RX3 67 yX3_isRegister, Cond.instanceMethod yX3_isRegister, Cond.selects RX3 yX3_isRegister yX3_isRegister, Cond.code yX3_isRegister cX3_isRegister 2 (some .boolean), Cond.fieldLink RX3 42 "ModEngineModel" "registers" "I", Cond.methodLink RX3 112 yX3_takes, Cond.instanceMethod yX3_takes, Cond.selects RX3 yX3_takes yX3_takes, Cond.code yX3_takes cX3_takes 3 none, Cond.fieldLink RX3 13 "ModEngineModel" "modulus" "[J", Cond.fieldLink RX3 22 "ModEngineModel" "result" "[J", Cond.methodLink RX3 49 yX3_placeOfModulus, Cond.instanceMethod yX3_placeOfModulus, Cond.selects RX3 yX3_placeOfModulus yX3_placeOfModulus, Cond.code yX3_placeOfModulus cX3_placeOfModulus 1 (some .int), Cond.methodLink RX3 59 yX3_read]
def wsX3_powMod_r2 : List Cond := [Cond.instanceMethod yX3_read, Cond.selects RX3 yX3_read yX3_read, Cond.code yX3_read cX3_read 4 none, Cond.fieldLink RX3 7 "ModEngineModel" "held" "[J", Cond.methodLink RX3 70 yX3_placeOf, Cond.instanceMethod yX3_placeOf, Cond.selects RX3 yX3_placeOf yX3_placeOf, Cond.code yX3_placeOf cX3_placeOf 2 (some .int), Cond.methodLink RX3 105 yX3_rest, Cond.instanceMethod yX3_rest, Cond.selects RX3 yX3_rest yX3_rest, Cond.code yX3_rest cX3_rest 3 none, Cond.fieldLink RX3 25 "ModEngineModel" "factor" "[J", Cond.methodLink RX3 84 yX3_copy, Cond.static yX3_copy, Cond.code yX3_copy cX3_copy 3 none, Cond.methodLink RX3 87 yX3_be, Cond.static yX3_be, Cond.code yX3_be cX3_be 4 none, Cond.methodLink RX3 91 yX3_bits, Cond.instanceMethod yX3_bits, Cond.selects RX3 yX3_bits yX3_bits, Cond.code yX3_bits cX3_bits 1 (some .int), Cond.fieldLink RX3 38 "ModEngineModel" "limbs" "I"]
def wsX3_powMod_r3 : List Cond := [Cond.methodLink RX3 73 yX3_plus, Cond.static yX3_plus, Cond.code yX3_plus cX3_plus 7 none, Cond.constantLong RX3 53 (4294967295), Cond.methodLink RX3 94 yX3_bit, Cond.static yX3_bit, Cond.code yX3_bit cX3_bit 2 (some .boolean), Cond.methodLink RX3 77 yX3_compared, Cond.static yX3_compared, Cond.code yX3_compared cX3_compared 3 (some .int), Cond.methodLink RX3 81 yX3_minus, Cond.static yX3_minus, Cond.code yX3_minus cX3_minus 7 none, Cond.methodLink RX3 129 yX3_raise, Cond.instanceMethod yX3_raise, Cond.selects RX3 yX3_raise yX3_raise, Cond.code yX3_raise cX3_raise 3 none, Cond.fieldLink RX3 28 "ModEngineModel" "base" "[J", Cond.methodLink RX3 123 yX3_product, Cond.instanceMethod yX3_product, Cond.selects RX3 yX3_product yX3_product, Cond.code yX3_product cX3_product 4 none, Cond.fieldLink RX3 19 "ModEngineModel" "second" "[J", Cond.methodLink RX3 98 yX3_sum]
def wsX3_powMod_r4 : List Cond := [Cond.instanceMethod yX3_sum, Cond.selects RX3 yX3_sum yX3_sum, Cond.code yX3_sum cX3_sum 3 none, Cond.methodLink RX3 116 yX3_write, Cond.instanceMethod yX3_write, Cond.selects RX3 yX3_write yX3_write, Cond.code yX3_write cX3_write 4 none]
def wsX3_powMod : List Cond := .code yX3_powMod cX3_powMod 4 (some .boolean) :: ((wsX3_powMod_r1 ++ (wsX3_powMod_r2 ++ (wsX3_powMod_r3 ++ wsX3_powMod_r4))) ++ wsX30)
def wsX3_invMod_r1 : List Cond := [Cond.fieldLink RX3 28 "ModEngineModel" "base" "[J", Cond.fieldLink RX3 13 "ModEngineModel" "modulus" "[J", Cond.fieldLink RX3 22 "ModEngineModel" "result" "[J", Cond.fieldLink RX3 31 "ModEngineModel" "power" "[J", Cond.fieldLink RX3 16 "ModEngineModel" "first" "[J", Cond.methodLink RX3 108 yX3_isAsked, Cond.instanceMethod yX3_isAsked, Cond.selects RX3 yX3_isAsked yX3_isAsked, Cond.initialized RX3, Cond.code yX3_isAsked cX3_isAsked 4 (some .boolean), Cond.fieldLink RX3 55 "ModEngineModel" "isReady" "Z", Cond.methodLink RX3 67 yX3_isRegister, Cond.instanceMethod yX3_isRegister, Cond.selects RX3 yX3_isRegister yX3_isRegister, Cond.code yX3_isRegister cX3_isRegister 2 (some .boolean), Cond.fieldLink RX3 42 "ModEngineModel" "registers" "I", Cond.methodLink RX3 112 yX3_takes, Cond.instanceMethod yX3_takes, Cond.selects RX3 yX3_takes yX3_takes, Cond.code yX3_takes cX3_takes 3 none, Cond.methodLink RX3 49 yX3_placeOfModulus, Cond.instanceMethod yX3_placeOfModulus, Cond.selects RX3 yX3_placeOfModulus yX3_placeOfModulus, Cond.code yX3_placeOfModulus cX3_placeOfModulus 1 (some .int)]
def wsX3_invMod_r2 : List Cond := [Cond.methodLink RX3 59 yX3_read, Cond.instanceMethod yX3_read, Cond.selects RX3 yX3_read yX3_read, Cond.code yX3_read cX3_read 4 none, Cond.fieldLink RX3 7 "ModEngineModel" "held" "[J", Cond.methodLink RX3 70 yX3_placeOf, Cond.instanceMethod yX3_placeOf, Cond.selects RX3 yX3_placeOf yX3_placeOf, Cond.code yX3_placeOf cX3_placeOf 2 (some .int), Cond.methodLink RX3 105 yX3_rest, Cond.instanceMethod yX3_rest, Cond.selects RX3 yX3_rest yX3_rest, Cond.code yX3_rest cX3_rest 3 none, Cond.fieldLink RX3 25 "ModEngineModel" "factor" "[J", Cond.methodLink RX3 84 yX3_copy, Cond.static yX3_copy, Cond.code yX3_copy cX3_copy 3 none, Cond.methodLink RX3 87 yX3_be, Cond.static yX3_be, Cond.code yX3_be cX3_be 4 none, Cond.methodLink RX3 91 yX3_bits, Cond.instanceMethod yX3_bits, Cond.selects RX3 yX3_bits yX3_bits, Cond.code yX3_bits cX3_bits 1 (some .int)]
def wsX3_invMod_r3 : List Cond := [Cond.fieldLink RX3 38 "ModEngineModel" "limbs" "I", Cond.methodLink RX3 73 yX3_plus, Cond.static yX3_plus, Cond.code yX3_plus cX3_plus 7 none, Cond.constantLong RX3 53 (4294967295), Cond.methodLink RX3 94 yX3_bit, Cond.static yX3_bit, Cond.code yX3_bit cX3_bit 2 (some .boolean), Cond.methodLink RX3 77 yX3_compared, Cond.static yX3_compared, Cond.code yX3_compared cX3_compared 3 (some .int), Cond.methodLink RX3 81 yX3_minus, Cond.static yX3_minus, Cond.code yX3_minus cX3_minus 7 none, Cond.methodLink RX3 132 yX3_isNought, Cond.static yX3_isNought, Cond.code yX3_isNought cX3_isNought 3 (some .boolean), Cond.methodLink RX3 101 yX3_half, Cond.static yX3_half, Cond.code yX3_half cX3_half 6 none, Cond.methodLink RX3 126 yX3_halfOf, Cond.instanceMethod yX3_halfOf, Cond.selects RX3 yX3_halfOf yX3_halfOf, Cond.code yX3_halfOf cX3_halfOf 2 none]
def wsX3_invMod_r4 : List Cond := [Cond.methodLink RX3 120 yX3_difference, Cond.instanceMethod yX3_difference, Cond.selects RX3 yX3_difference yX3_difference, Cond.code yX3_difference cX3_difference 3 none, Cond.methodLink RX3 136 yX3_isOne, Cond.static yX3_isOne, Cond.code yX3_isOne cX3_isOne 3 (some .boolean), Cond.methodLink RX3 116 yX3_write, Cond.instanceMethod yX3_write, Cond.selects RX3 yX3_write yX3_write, Cond.code yX3_write cX3_write 4 none]
def wsX3_invMod : List Cond := .code yX3_invMod cX3_invMod 3 (some .int) :: ((wsX3_invMod_r1 ++ (wsX3_invMod_r2 ++ (wsX3_invMod_r3 ++ wsX3_invMod_r4))) ++ wsX30)
def wsX3_witness_r1 : List Cond := [Cond.fieldLink RX3 16 "ModEngineModel" "first" "[J", Cond.fieldLink RX3 31 "ModEngineModel" "power" "[J", Cond.fieldLink RX3 13 "ModEngineModel" "modulus" "[J", Cond.fieldLink RX3 22 "ModEngineModel" "result" "[J", Cond.methodLink RX3 108 yX3_isAsked, Cond.instanceMethod yX3_isAsked, Cond.selects RX3 yX3_isAsked yX3_isAsked, Cond.initialized RX3, Cond.code yX3_isAsked cX3_isAsked 4 (some .boolean), Cond.fieldLink RX3 55 "ModEngineModel" "isReady" "Z", Cond.methodLink RX3 67 yX3_isRegister, Cond.instanceMethod yX3_isRegister, Cond.selects RX3 yX3_isRegister yX3_isRegister, Cond.code yX3_isRegister cX3_isRegister 2 (some .boolean), Cond.fieldLink RX3 42 "ModEngineModel" "registers" "I", Cond.methodLink RX3 112 yX3_takes, Cond.instanceMethod yX3_takes, Cond.selects RX3 yX3_takes yX3_takes, Cond.code yX3_takes cX3_takes 3 none, Cond.methodLink RX3 49 yX3_placeOfModulus, Cond.instanceMethod yX3_placeOfModulus, Cond.selects RX3 yX3_placeOfModulus yX3_placeOfModulus, Cond.code yX3_placeOfModulus cX3_placeOfModulus 1 (some .int), Cond.methodLink RX3 59 yX3_read]
def wsX3_witness_r2 : List Cond := [Cond.instanceMethod yX3_read, Cond.selects RX3 yX3_read yX3_read, Cond.code yX3_read cX3_read 4 none, Cond.fieldLink RX3 7 "ModEngineModel" "held" "[J", Cond.methodLink RX3 70 yX3_placeOf, Cond.instanceMethod yX3_placeOf, Cond.selects RX3 yX3_placeOf yX3_placeOf, Cond.code yX3_placeOf cX3_placeOf 2 (some .int), Cond.methodLink RX3 105 yX3_rest, Cond.instanceMethod yX3_rest, Cond.selects RX3 yX3_rest yX3_rest, Cond.code yX3_rest cX3_rest 3 none, Cond.fieldLink RX3 25 "ModEngineModel" "factor" "[J", Cond.methodLink RX3 84 yX3_copy, Cond.static yX3_copy, Cond.code yX3_copy cX3_copy 3 none, Cond.methodLink RX3 87 yX3_be, Cond.static yX3_be, Cond.code yX3_be cX3_be 4 none, Cond.methodLink RX3 91 yX3_bits, Cond.instanceMethod yX3_bits, Cond.selects RX3 yX3_bits yX3_bits, Cond.code yX3_bits cX3_bits 1 (some .int), Cond.fieldLink RX3 38 "ModEngineModel" "limbs" "I"]
def wsX3_witness_r3 : List Cond := [Cond.methodLink RX3 73 yX3_plus, Cond.static yX3_plus, Cond.code yX3_plus cX3_plus 7 none, Cond.constantLong RX3 53 (4294967295), Cond.methodLink RX3 94 yX3_bit, Cond.static yX3_bit, Cond.code yX3_bit cX3_bit 2 (some .boolean), Cond.methodLink RX3 77 yX3_compared, Cond.static yX3_compared, Cond.code yX3_compared cX3_compared 3 (some .int), Cond.methodLink RX3 81 yX3_minus, Cond.static yX3_minus, Cond.code yX3_minus cX3_minus 7 none, Cond.methodLink RX3 132 yX3_isNought, Cond.static yX3_isNought, Cond.code yX3_isNought cX3_isNought 3 (some .boolean), Cond.methodLink RX3 101 yX3_half, Cond.static yX3_half, Cond.code yX3_half cX3_half 6 none, Cond.methodLink RX3 129 yX3_raise, Cond.instanceMethod yX3_raise, Cond.selects RX3 yX3_raise yX3_raise, Cond.code yX3_raise cX3_raise 3 none, Cond.fieldLink RX3 28 "ModEngineModel" "base" "[J"]
def wsX3_witness_r4 : List Cond := [Cond.methodLink RX3 123 yX3_product, Cond.instanceMethod yX3_product, Cond.selects RX3 yX3_product yX3_product, Cond.code yX3_product cX3_product 4 none, Cond.fieldLink RX3 19 "ModEngineModel" "second" "[J", Cond.methodLink RX3 98 yX3_sum, Cond.instanceMethod yX3_sum, Cond.selects RX3 yX3_sum yX3_sum, Cond.code yX3_sum cX3_sum 3 none, Cond.methodLink RX3 136 yX3_isOne, Cond.static yX3_isOne, Cond.code yX3_isOne cX3_isOne 3 (some .boolean)]
def wsX3_witness : List Cond := .code yX3_witness cX3_witness 4 (some .int) :: ((wsX3_witness_r1 ++ (wsX3_witness_r2 ++ (wsX3_witness_r3 ++ wsX3_witness_r4))) ++ wsX30)
def wsX3_compare : List Cond := .code yX3_compare cX3_compare 3 (some .int) :: ([.fieldLink RX3 16 "ModEngineModel" "first" "[J", .fieldLink RX3 19 "ModEngineModel" "second" "[J", .methodLink RX3 67 yX3_isRegister, .instanceMethod yX3_isRegister, .selects RX3 yX3_isRegister yX3_isRegister, .initialized RX3, .code yX3_isRegister cX3_isRegister 2 (some .boolean), .fieldLink RX3 42 "ModEngineModel" "registers" "I", .methodLink RX3 70 yX3_placeOf, .instanceMethod yX3_placeOf, .selects RX3 yX3_placeOf yX3_placeOf, .code yX3_placeOf cX3_placeOf 2 (some .int), .methodLink RX3 59 yX3_read, .instanceMethod yX3_read, .selects RX3 yX3_read yX3_read, .code yX3_read cX3_read 4 none, .fieldLink RX3 7 "ModEngineModel" "held" "[J", .methodLink RX3 77 yX3_compared, .static yX3_compared, .code yX3_compared cX3_compared 3 (some .int)] ++ wsX30)
def wsJ9_max_7cf53 : List Cond := .code yJ9_max_7cf53 cJ9_max_7cf53 2 (some .int) :: ([])
def wsJ9_min_7cf53 : List Cond := .code yJ9_min_7cf53 cJ9_min_7cf53 2 (some .int) :: ([])
def wsL_cell : List Cond := .code yL_cell cL_cell 2 (some .int) :: ([])
def wsL_law_r1 : List Cond := [Cond.classLink RL 7 RX2, Cond.instantiable RX2 5, Cond.initialized RX2, Cond.classLink RL 18 RX3, Cond.instantiable RX3 11, Cond.initialized RX3, Cond.methodLink RL 9 yL_cell, Cond.static yL_cell, Cond.initialized RL, Cond.code yL_cell cL_cell 2 (some .int), Cond.methodLink RL 15 yX2_init, Cond.instanceMethod yX2_init, Cond.code yX2_init cX2_init 3 none, Cond.methodLink RX2 1 objectInit, Cond.instanceMethod objectInit, Cond.code objectInit ⟨#[0xb1]⟩ 1 none, Cond.methodLink RX2 9 Lib.Math.min.name, Cond.static Lib.Math.min.name, Cond.initialized "java/lang/Math", Cond.code Lib.Math.min.name Lib.Math.min.code 2 (some .int), Cond.methodLink RX2 15 Lib.Math.max.name, Cond.static Lib.Math.max.name, Cond.code Lib.Math.max.name Lib.Math.max.code 2 (some .int), Cond.fieldLink RX2 18 "ModEngine" "limbs" "I"]
def wsL_law_r2 : List Cond := [Cond.fieldLink RX2 22 "ModEngine" "count" "I", Cond.classLink RX2 25 "[[I", Cond.arrayClass .int, Cond.fieldLink RX2 27 "ModEngine" "registers" "[[I", Cond.classLink RX2 30 RX1, Cond.instantiable RX1 12, Cond.initialized RX1, Cond.fieldLink RX2 35 "ModEngine" "ring" "LModEngine$Ring;", Cond.fieldLink RX2 39 "ModEngine" "isReady" "Z", Cond.methodLink RX2 32 yX1_init, Cond.instanceMethod yX1_init, Cond.code yX1_init cX1_init 2 none, Cond.methodLink RX1 3 objectInit, Cond.fieldLink RX1 9 "ModEngine$Ring" "k" "I", Cond.fieldLink RX1 15 "ModEngine$Ring" "bits" "I", Cond.fieldLink RX1 18 "ModEngine$Ring" "modulus" "[I", Cond.fieldLink RX1 22 "ModEngine$Ring" "one" "[I", Cond.fieldLink RX1 25 "ModEngine$Ring" "unit" "[I", Cond.fieldLink RX1 28 "ModEngine$Ring" "rSquared" "[I", Cond.fieldLink RX1 31 "ModEngine$Ring" "running" "[I", Cond.fieldLink RX1 34 "ModEngine$Ring" "left" "[I", Cond.fieldLink RX1 37 "ModEngine$Ring" "right" "[I", Cond.fieldLink RX1 40 "ModEngine$Ring" "leftShare" "[I", Cond.fieldLink RX1 43 "ModEngine$Ring" "rightShare" "[I"]
def wsL_law_r3 : List Cond := [Cond.fieldLink RX1 46 "ModEngine$Ring" "minusInverse" "I", Cond.methodLink RL 20 yX3_init, Cond.instanceMethod yX3_init, Cond.code yX3_init cX3_init 3 none, Cond.methodLink RX3 1 objectInit, Cond.arrayClass .long, Cond.fieldLink RX3 7 "ModEngineModel" "held" "[J", Cond.fieldLink RX3 13 "ModEngineModel" "modulus" "[J", Cond.fieldLink RX3 16 "ModEngineModel" "first" "[J", Cond.fieldLink RX3 19 "ModEngineModel" "second" "[J", Cond.fieldLink RX3 22 "ModEngineModel" "result" "[J", Cond.fieldLink RX3 25 "ModEngineModel" "factor" "[J", Cond.fieldLink RX3 28 "ModEngineModel" "base" "[J", Cond.fieldLink RX3 31 "ModEngineModel" "power" "[J", Cond.fieldLink RX3 38 "ModEngineModel" "limbs" "I", Cond.fieldLink RX3 42 "ModEngineModel" "registers" "I", Cond.methodLink RX3 34 yX3_within, Cond.static yX3_within, Cond.code yX3_within cX3_within 1 (some .int), Cond.methodLink RL 21 yX2_pokeMod, Cond.instanceMethod yX2_pokeMod, Cond.selects RX2 yX2_pokeMod yX2_pokeMod, Cond.code yX2_pokeMod cX2_pokeMod 3 (some .boolean), Cond.fieldLink RX2 47 "ModEngine$Ring" "modulus" "[I"]
def wsL_law_r4 : List Cond := [Cond.methodLink RX2 43 yX2_hasLimb, Cond.instanceMethod yX2_hasLimb, Cond.selects RX2 yX2_hasLimb yX2_hasLimb, Cond.code yX2_hasLimb cX2_hasLimb 2 (some .boolean), Cond.methodLink RL 25 yX3_pokeMod, Cond.instanceMethod yX3_pokeMod, Cond.selects RX3 yX3_pokeMod yX3_pokeMod, Cond.code yX3_pokeMod cX3_pokeMod 3 (some .boolean), Cond.constantLong RX3 53 (4294967295), Cond.fieldLink RX3 55 "ModEngineModel" "isReady" "Z", Cond.methodLink RX3 45 yX3_isLimb, Cond.instanceMethod yX3_isLimb, Cond.selects RX3 yX3_isLimb yX3_isLimb, Cond.code yX3_isLimb cX3_isLimb 2 (some .boolean), Cond.methodLink RX3 49 yX3_placeOfModulus, Cond.instanceMethod yX3_placeOfModulus, Cond.selects RX3 yX3_placeOfModulus yX3_placeOfModulus, Cond.code yX3_placeOfModulus cX3_placeOfModulus 1 (some .int), Cond.methodLink RL 26 yX2_peekMod, Cond.instanceMethod yX2_peekMod, Cond.selects RX2 yX2_peekMod yX2_peekMod, Cond.code yX2_peekMod cX2_peekMod 2 (some .int), Cond.methodLink RL 30 yX3_peekMod, Cond.instanceMethod yX3_peekMod]
def wsL_law_r5 : List Cond := [Cond.selects RX3 yX3_peekMod yX3_peekMod, Cond.code yX3_peekMod cX3_peekMod 2 (some .int), Cond.methodLink RL 31 yX2_init_, Cond.instanceMethod yX2_init_, Cond.selects RX2 yX2_init_ yX2_init_, Cond.code yX2_init_ cX2_init_ 1 (some .int), Cond.methodLink RX2 51 yX1_hasFitModulus, Cond.instanceMethod yX1_hasFitModulus, Cond.selects RX1 yX1_hasFitModulus yX1_hasFitModulus, Cond.code yX1_hasFitModulus cX1_hasFitModulus 1 (some .boolean), Cond.methodLink RX1 49 yX0_isOdd, Cond.static yX0_isOdd, Cond.initialized RX0, Cond.code yX0_isOdd cX0_isOdd 1 (some .boolean), Cond.methodLink RX1 55 yX0_isSmall, Cond.static yX0_isSmall, Cond.code yX0_isSmall cX0_isSmall 4 (some .boolean), Cond.methodLink RX2 55 yX1_prepare, Cond.instanceMethod yX1_prepare, Cond.selects RX1 yX1_prepare yX1_prepare, Cond.code yX1_prepare cX1_prepare 1 none, Cond.methodLink RX1 59 yX1_inverseOfLimb, Cond.static yX1_inverseOfLimb, Cond.code yX1_inverseOfLimb cX1_inverseOfLimb 3 (some .int)]
def wsL_law_r6 : List Cond := [Cond.methodLink RX1 63 yX0_copy, Cond.static yX0_copy, Cond.code yX0_copy cX0_copy 4 none, Cond.methodLink RX1 67 yX1_doubleOften, Cond.instanceMethod yX1_doubleOften, Cond.selects RX1 yX1_doubleOften yX1_doubleOften, Cond.code yX1_doubleOften cX1_doubleOften 3 none, Cond.methodLink RX1 79 yX1_addBelow, Cond.instanceMethod yX1_addBelow, Cond.selects RX1 yX1_addBelow yX1_addBelow, Cond.code yX1_addBelow cX1_addBelow 6 none, Cond.methodLink RX1 141 yX0_add, Cond.static yX0_add, Cond.code yX0_add cX0_add 7 (some .long), Cond.constantLong RX0 15 (4294967295), Cond.methodLink RX1 115 yX1_bringBelow, Cond.instanceMethod yX1_bringBelow, Cond.selects RX1 yX1_bringBelow yX1_bringBelow, Cond.code yX1_bringBelow cX1_bringBelow 4 none, Cond.methodLink RX1 103 yX0_order, Cond.static yX0_order, Cond.code yX0_order cX0_order 4 (some .int), Cond.methodLink RX1 137 yX0_subtract, Cond.static yX0_subtract]
def wsL_law_r7 : List Cond := [Cond.code yX0_subtract cX0_subtract 7 (some .boolean), Cond.methodLink RL 35 yX3_init_, Cond.instanceMethod yX3_init_, Cond.selects RX3 yX3_init_ yX3_init_, Cond.code yX3_init_ cX3_init_ 3 (some .int), Cond.constantLong RX3 63 (2), Cond.constantLong RX3 65 (3), Cond.methodLink RX3 59 yX3_read, Cond.instanceMethod yX3_read, Cond.selects RX3 yX3_read yX3_read, Cond.code yX3_read cX3_read 4 none, Cond.methodLink RL 36 yX2_ready, Cond.instanceMethod yX2_ready, Cond.selects RX2 yX2_ready yX2_ready, Cond.code yX2_ready cX2_ready 1 (some .boolean), Cond.methodLink RL 40 yX3_ready, Cond.instanceMethod yX3_ready, Cond.selects RX3 yX3_ready yX3_ready, Cond.code yX3_ready cX3_ready 1 (some .boolean), Cond.methodLink RL 41 yX2_poke, Cond.instanceMethod yX2_poke, Cond.selects RX2 yX2_poke yX2_poke, Cond.code yX2_poke cX2_poke 4 (some .boolean), Cond.methodLink RX2 58 yX2_hasRegister]
def wsL_law_r8 : List Cond := [Cond.instanceMethod yX2_hasRegister, Cond.selects RX2 yX2_hasRegister yX2_hasRegister, Cond.code yX2_hasRegister cX2_hasRegister 2 (some .boolean), Cond.methodLink RL 45 yX3_poke, Cond.instanceMethod yX3_poke, Cond.selects RX3 yX3_poke yX3_poke, Cond.code yX3_poke cX3_poke 4 (some .boolean), Cond.methodLink RX3 67 yX3_isRegister, Cond.instanceMethod yX3_isRegister, Cond.selects RX3 yX3_isRegister yX3_isRegister, Cond.code yX3_isRegister cX3_isRegister 2 (some .boolean), Cond.methodLink RX3 70 yX3_placeOf, Cond.instanceMethod yX3_placeOf, Cond.selects RX3 yX3_placeOf yX3_placeOf, Cond.code yX3_placeOf cX3_placeOf 2 (some .int), Cond.methodLink RL 46 yX2_peek, Cond.instanceMethod yX2_peek, Cond.selects RX2 yX2_peek yX2_peek, Cond.code yX2_peek cX2_peek 3 (some .int), Cond.methodLink RL 50 yX3_peek, Cond.instanceMethod yX3_peek, Cond.selects RX3 yX3_peek yX3_peek, Cond.code yX3_peek cX3_peek 3 (some .int), Cond.methodLink RL 51 yX2_reduce]
def wsL_law_r9 : List Cond := [Cond.instanceMethod yX2_reduce, Cond.selects RX2 yX2_reduce yX2_reduce, Cond.code yX2_reduce cX2_reduce 2 (some .boolean), Cond.methodLink RX2 61 yX1_residue, Cond.instanceMethod yX1_residue, Cond.selects RX1 yX1_residue yX1_residue, Cond.code yX1_residue cX1_residue 3 none, Cond.methodLink RX1 71 yX1_montgomery, Cond.instanceMethod yX1_montgomery, Cond.selects RX1 yX1_montgomery yX1_montgomery, Cond.code yX1_montgomery cX1_montgomery 7 none, Cond.methodLink RX1 92 yX0_setSmall, Cond.static yX0_setSmall, Cond.code yX0_setSmall cX0_setSmall 4 none, Cond.methodLink RX1 107 yX0_addMultiple, Cond.static yX0_addMultiple, Cond.code yX0_addMultiple cX0_addMultiple 9 (some .long), Cond.methodLink RX1 111 yX0_dropLimb, Cond.static yX0_dropLimb, Cond.code yX0_dropLimb cX0_dropLimb 5 (some .long), Cond.methodLink RL 55 yX3_reduce, Cond.instanceMethod yX3_reduce, Cond.selects RX3 yX3_reduce yX3_reduce, Cond.code yX3_reduce cX3_reduce 2 (some .boolean)]
def wsL_law_r10 : List Cond := [Cond.methodLink RX3 108 yX3_isAsked, Cond.instanceMethod yX3_isAsked, Cond.selects RX3 yX3_isAsked yX3_isAsked, Cond.code yX3_isAsked cX3_isAsked 4 (some .boolean), Cond.methodLink RX3 112 yX3_takes, Cond.instanceMethod yX3_takes, Cond.selects RX3 yX3_takes yX3_takes, Cond.code yX3_takes cX3_takes 3 none, Cond.methodLink RX3 105 yX3_rest, Cond.instanceMethod yX3_rest, Cond.selects RX3 yX3_rest yX3_rest, Cond.code yX3_rest cX3_rest 3 none, Cond.methodLink RX3 84 yX3_copy, Cond.static yX3_copy, Cond.code yX3_copy cX3_copy 3 none, Cond.methodLink RX3 87 yX3_be, Cond.static yX3_be, Cond.code yX3_be cX3_be 4 none, Cond.methodLink RX3 91 yX3_bits, Cond.instanceMethod yX3_bits, Cond.selects RX3 yX3_bits yX3_bits, Cond.code yX3_bits cX3_bits 1 (some .int), Cond.methodLink RX3 73 yX3_plus, Cond.static yX3_plus]
def wsL_law_r11 : List Cond := [Cond.code yX3_plus cX3_plus 7 none, Cond.methodLink RX3 94 yX3_bit, Cond.static yX3_bit, Cond.code yX3_bit cX3_bit 2 (some .boolean), Cond.methodLink RX3 77 yX3_compared, Cond.static yX3_compared, Cond.code yX3_compared cX3_compared 3 (some .int), Cond.methodLink RX3 81 yX3_minus, Cond.static yX3_minus, Cond.code yX3_minus cX3_minus 7 none, Cond.methodLink RX3 116 yX3_write, Cond.instanceMethod yX3_write, Cond.selects RX3 yX3_write yX3_write, Cond.code yX3_write cX3_write 4 none, Cond.methodLink RL 56 yX2_addMod, Cond.instanceMethod yX2_addMod, Cond.selects RX2 yX2_addMod yX2_addMod, Cond.code yX2_addMod cX2_addMod 4 (some .boolean), Cond.methodLink RX2 65 yX2_canWork, Cond.instanceMethod yX2_canWork, Cond.selects RX2 yX2_canWork yX2_canWork, Cond.code yX2_canWork cX2_canWork 4 (some .boolean), Cond.methodLink RX2 69 yX1_sum, Cond.instanceMethod yX1_sum]
def wsL_law_r12 : List Cond := [Cond.selects RX1 yX1_sum yX1_sum, Cond.code yX1_sum cX1_sum 4 none, Cond.methodLink RX1 75 yX1_residue, Cond.methodLink RL 59 yX3_addMod, Cond.instanceMethod yX3_addMod, Cond.selects RX3 yX3_addMod yX3_addMod, Cond.code yX3_addMod cX3_addMod 4 (some .boolean), Cond.methodLink RX3 98 yX3_sum, Cond.instanceMethod yX3_sum, Cond.selects RX3 yX3_sum yX3_sum, Cond.code yX3_sum cX3_sum 3 none, Cond.methodLink RL 60 yX2_subMod, Cond.instanceMethod yX2_subMod, Cond.selects RX2 yX2_subMod yX2_subMod, Cond.code yX2_subMod cX2_subMod 4 (some .boolean), Cond.methodLink RX2 73 yX1_difference, Cond.instanceMethod yX1_difference, Cond.selects RX1 yX1_difference yX1_difference, Cond.code yX1_difference cX1_difference 4 none, Cond.methodLink RX1 82 yX1_subtractBelow, Cond.instanceMethod yX1_subtractBelow, Cond.selects RX1 yX1_subtractBelow yX1_subtractBelow, Cond.code yX1_subtractBelow cX1_subtractBelow 4 none, Cond.methodLink RL 63 yX3_subMod]
def wsL_law_r13 : List Cond := [Cond.instanceMethod yX3_subMod, Cond.selects RX3 yX3_subMod yX3_subMod, Cond.code yX3_subMod cX3_subMod 4 (some .boolean), Cond.methodLink RX3 120 yX3_difference, Cond.instanceMethod yX3_difference, Cond.selects RX3 yX3_difference yX3_difference, Cond.code yX3_difference cX3_difference 3 none, Cond.methodLink RL 64 yX2_mulMod, Cond.instanceMethod yX2_mulMod, Cond.selects RX2 yX2_mulMod yX2_mulMod, Cond.code yX2_mulMod cX2_mulMod 4 (some .boolean), Cond.methodLink RX2 76 yX1_product, Cond.instanceMethod yX1_product, Cond.selects RX1 yX1_product yX1_product, Cond.code yX1_product cX1_product 4 none, Cond.methodLink RL 67 yX3_mulMod, Cond.instanceMethod yX3_mulMod, Cond.selects RX3 yX3_mulMod yX3_mulMod, Cond.code yX3_mulMod cX3_mulMod 4 (some .boolean), Cond.methodLink RX3 123 yX3_product, Cond.instanceMethod yX3_product, Cond.selects RX3 yX3_product yX3_product, Cond.code yX3_product cX3_product 4 none, Cond.methodLink RL 68 yX2_montMod]
def wsL_law_r14 : List Cond := [Cond.instanceMethod yX2_montMod, Cond.selects RX2 yX2_montMod yX2_montMod, Cond.code yX2_montMod cX2_montMod 4 (some .boolean), Cond.methodLink RX2 79 yX1_productByR, Cond.instanceMethod yX1_productByR, Cond.selects RX1 yX1_productByR yX1_productByR, Cond.code yX1_productByR cX1_productByR 4 none, Cond.methodLink RX1 85 yX1_product, Cond.methodLink RL 71 yX3_montMod, Cond.instanceMethod yX3_montMod, Cond.selects RX3 yX3_montMod yX3_montMod, Cond.code yX3_montMod cX3_montMod 5 (some .boolean), Cond.methodLink RX3 126 yX3_halfOf, Cond.instanceMethod yX3_halfOf, Cond.selects RX3 yX3_halfOf yX3_halfOf, Cond.code yX3_halfOf cX3_halfOf 2 none, Cond.methodLink RX3 101 yX3_half, Cond.static yX3_half, Cond.code yX3_half cX3_half 6 none, Cond.methodLink RL 72 yX2_powMod, Cond.instanceMethod yX2_powMod, Cond.selects RX2 yX2_powMod yX2_powMod, Cond.code yX2_powMod cX2_powMod 4 (some .boolean), Cond.methodLink RX2 82 yX1_power]
def wsL_law_r15 : List Cond := [Cond.instanceMethod yX1_power, Cond.selects RX1 yX1_power yX1_power, Cond.code yX1_power cX1_power 4 none, Cond.methodLink RX1 88 yX1_raise, Cond.instanceMethod yX1_raise, Cond.selects RX1 yX1_raise yX1_raise, Cond.code yX1_raise cX1_raise 6 none, Cond.methodLink RX1 119 yX0_highestBit, Cond.static yX0_highestBit, Cond.code yX0_highestBit cX0_highestBit 3 (some .int), Cond.methodLink RX0 9 yX0_isBitSet, Cond.static yX0_isBitSet, Cond.code yX0_isBitSet cX0_isBitSet 2 (some .boolean), Cond.methodLink RX1 123 yX0_isBitSet, Cond.methodLink RL 75 yX3_powMod, Cond.instanceMethod yX3_powMod, Cond.selects RX3 yX3_powMod yX3_powMod, Cond.code yX3_powMod cX3_powMod 4 (some .boolean), Cond.methodLink RX3 129 yX3_raise, Cond.instanceMethod yX3_raise, Cond.selects RX3 yX3_raise yX3_raise, Cond.code yX3_raise cX3_raise 3 none, Cond.methodLink RL 76 yX2_invMod, Cond.instanceMethod yX2_invMod]
def wsL_law_r16 : List Cond := [Cond.selects RX2 yX2_invMod yX2_invMod, Cond.code yX2_invMod cX2_invMod 3 (some .int), Cond.methodLink RX2 85 yX1_invert, Cond.instanceMethod yX1_invert, Cond.selects RX1 yX1_invert yX1_invert, Cond.code yX1_invert cX1_invert 5 (some .boolean), Cond.methodLink RX1 96 yX1_stepTowardsDivisor, Cond.instanceMethod yX1_stepTowardsDivisor, Cond.selects RX1 yX1_stepTowardsDivisor yX1_stepTowardsDivisor, Cond.code yX1_stepTowardsDivisor cX1_stepTowardsDivisor 1 none, Cond.methodLink RX1 127 yX0_halve, Cond.static yX0_halve, Cond.code yX0_halve cX0_halve 9 none, Cond.methodLink RX1 131 yX1_halveBelow, Cond.instanceMethod yX1_halveBelow, Cond.selects RX1 yX1_halveBelow yX1_halveBelow, Cond.code yX1_halveBelow cX1_halveBelow 4 none, Cond.methodLink RX1 134 yX0_swap, Cond.static yX0_swap, Cond.code yX0_swap cX0_swap 5 none, Cond.methodLink RL 79 yX3_invMod, Cond.instanceMethod yX3_invMod, Cond.selects RX3 yX3_invMod yX3_invMod, Cond.code yX3_invMod cX3_invMod 3 (some .int)]
def wsL_law_r17 : List Cond := [Cond.methodLink RX3 132 yX3_isNought, Cond.static yX3_isNought, Cond.code yX3_isNought cX3_isNought 3 (some .boolean), Cond.methodLink RX3 136 yX3_isOne, Cond.static yX3_isOne, Cond.code yX3_isOne cX3_isOne 3 (some .boolean), Cond.methodLink RL 80 yX2_witness, Cond.instanceMethod yX2_witness, Cond.selects RX2 yX2_witness yX2_witness, Cond.code yX2_witness cX2_witness 2 (some .int), Cond.methodLink RX2 89 yX1_isProvedCompositeBy, Cond.instanceMethod yX1_isProvedCompositeBy, Cond.selects RX1 yX1_isProvedCompositeBy yX1_isProvedCompositeBy, Cond.code yX1_isProvedCompositeBy cX1_isProvedCompositeBy 5 (some .boolean), Cond.methodLink RX1 99 yX1_twosInModulusLessOne, Cond.instanceMethod yX1_twosInModulusLessOne, Cond.selects RX1 yX1_twosInModulusLessOne yX1_twosInModulusLessOne, Cond.code yX1_twosInModulusLessOne cX1_twosInModulusLessOne 2 (some .int), Cond.methodLink RL 83 yX3_witness, Cond.instanceMethod yX3_witness, Cond.selects RX3 yX3_witness yX3_witness, Cond.code yX3_witness cX3_witness 4 (some .int), Cond.methodLink RL 84 yX2_compare, Cond.instanceMethod yX2_compare]
def wsL_law_r18 : List Cond := [Cond.selects RX2 yX2_compare yX2_compare, Cond.code yX2_compare cX2_compare 3 (some .int), Cond.methodLink RX2 93 yX0_order, Cond.methodLink RL 87 yX3_compare, Cond.instanceMethod yX3_compare, Cond.selects RX3 yX3_compare yX3_compare, Cond.code yX3_compare cX3_compare 3 (some .int)]
def wsL_law : List Cond := (wsL_law_r1 ++ (wsL_law_r2 ++ (wsL_law_r3 ++ (wsL_law_r4 ++ (wsL_law_r5 ++ (wsL_law_r6 ++ (wsL_law_r7 ++ (wsL_law_r8 ++ (wsL_law_r9 ++ (wsL_law_r10 ++ (wsL_law_r11 ++ (wsL_law_r12 ++ (wsL_law_r13 ++ (wsL_law_r14 ++ (wsL_law_r15 ++ (wsL_law_r16 ++ (wsL_law_r17 ++ wsL_law_r18))))))))))))))))) ++ wsX20 ++ wsX30 ++ wsX10 ++ ([] : List Cond)
set_option maxRecDepth 20000 in
theorem wsL_law_in : ∀ w ∈ wsL_law, w ∈ lw_tbl := fun w h => (goodIn_p wsL_law [307, 37, 40, 43, 46, 53, 312, 316, 113, 117, 355, 359, 363, 121, 368, 125, 129, 132, 135, 139, 142, 145, 149, 153, 156, 161, 164, 167, 372, 376, 171, 382, 175, 179, 386, 390, 394, 183, 398, 187, 191, 195, 198, 201, 204, 402, 406, 410, 414, 417, 420, 424, 427, 430, 433, 436, 440, 208, 212, 216, 444, 448, 221, 225, 229, 452, 456, 233, 237, 460, 464, 241, 245, 468, 472, 475, 250, 254, 258, 261, 264, 479, 483, 269, 273, 277, 280, 284, 287, 487, 490, 493, 291, 295, 299, 497, 303, 501] (by decide +kernel) (by decide +kernel) w h).1
theorem inX0 : ∀ w ∈ wsX00, w ∈ lw_tbl := by decide +kernel
theorem inlX1 : ∀ w ∈ wsX10, w ∈ wsL_law := fun _ h => List.mem_append_left _ (List.mem_append_right _ h)
theorem inX1 : ∀ w ∈ wsX10, w ∈ lw_tbl := fun w h => wsL_law_in w (inlX1 w h)
theorem inlX2 : ∀ w ∈ wsX20, w ∈ wsL_law := fun _ h => List.mem_append_left _ (List.mem_append_left _ (List.mem_append_left _ (List.mem_append_right _ h)))
theorem inX2 : ∀ w ∈ wsX20, w ∈ lw_tbl := fun w h => wsL_law_in w (inlX2 w h)
theorem inlX3 : ∀ w ∈ wsX30, w ∈ wsL_law := fun _ h => List.mem_append_left _ (List.mem_append_left _ (List.mem_append_right _ h))
theorem inX3 : ∀ w ∈ wsX30, w ∈ lw_tbl := fun w h => wsL_law_in w (inlX3 w h)
theorem inJ9 : ∀ w ∈ wsJ90, w ∈ lw_tbl := by decide +kernel
theorem dX0_copy_0 : decode cX0_copy 0 = .ok (.iconst 0, 1) := by decide +kernel
theorem dX0_copy_1 : decode cX0_copy 1 = .ok (.istore_n 3, 1) := by decide +kernel
theorem dX0_copy_2 : decode cX0_copy 2 = .ok (.iload_n 3, 1) := by decide +kernel
theorem dX0_copy_3 : decode cX0_copy 3 = .ok (.iload_n 2, 1) := by decide +kernel
theorem dX0_copy_4 : decode cX0_copy 4 = .ok (.if_icmp .ge 15, 3) := by decide +kernel
theorem dX0_copy_7 : decode cX0_copy 7 = .ok (.aload_n 0, 1) := by decide +kernel
theorem dX0_copy_8 : decode cX0_copy 8 = .ok (.iload_n 3, 1) := by decide +kernel
theorem dX0_copy_9 : decode cX0_copy 9 = .ok (.aload_n 1, 1) := by decide +kernel
theorem dX0_copy_10 : decode cX0_copy 10 = .ok (.iload_n 3, 1) := by decide +kernel
theorem dX0_copy_11 : decode cX0_copy 11 = .ok (.iaload, 1) := by decide +kernel
theorem dX0_copy_12 : decode cX0_copy 12 = .ok (.iastore, 1) := by decide +kernel
theorem dX0_copy_13 : decode cX0_copy 13 = .ok (.iinc 3 1, 3) := by decide +kernel
theorem dX0_copy_16 : decode cX0_copy 16 = .ok (.goto (-14), 3) := by decide +kernel
theorem dX0_copy_19 : decode cX0_copy 19 = .ok (.return_, 1) := by decide +kernel
theorem dX0_swap_0 : decode cX0_swap 0 = .ok (.iconst 0, 1) := by decide +kernel
theorem dX0_swap_1 : decode cX0_swap 1 = .ok (.istore_n 3, 1) := by decide +kernel
theorem dX0_swap_2 : decode cX0_swap 2 = .ok (.iload_n 3, 1) := by decide +kernel
theorem dX0_swap_3 : decode cX0_swap 3 = .ok (.iload_n 2, 1) := by decide +kernel
theorem dX0_swap_4 : decode cX0_swap 4 = .ok (.if_icmp .ge 25, 3) := by decide +kernel
theorem dX0_swap_7 : decode cX0_swap 7 = .ok (.aload_n 0, 1) := by decide +kernel
theorem dX0_swap_8 : decode cX0_swap 8 = .ok (.iload_n 3, 1) := by decide +kernel
theorem dX0_swap_9 : decode cX0_swap 9 = .ok (.iaload, 1) := by decide +kernel
theorem dX0_swap_10 : decode cX0_swap 10 = .ok (.istore 4, 2) := by decide +kernel
theorem dX0_swap_12 : decode cX0_swap 12 = .ok (.aload_n 0, 1) := by decide +kernel
theorem dX0_swap_13 : decode cX0_swap 13 = .ok (.iload_n 3, 1) := by decide +kernel
theorem dX0_swap_14 : decode cX0_swap 14 = .ok (.aload_n 1, 1) := by decide +kernel
theorem dX0_swap_15 : decode cX0_swap 15 = .ok (.iload_n 3, 1) := by decide +kernel
theorem dX0_swap_16 : decode cX0_swap 16 = .ok (.iaload, 1) := by decide +kernel
theorem dX0_swap_17 : decode cX0_swap 17 = .ok (.iastore, 1) := by decide +kernel
theorem dX0_swap_18 : decode cX0_swap 18 = .ok (.aload_n 1, 1) := by decide +kernel
theorem dX0_swap_19 : decode cX0_swap 19 = .ok (.iload_n 3, 1) := by decide +kernel
theorem dX0_swap_20 : decode cX0_swap 20 = .ok (.iload 4, 2) := by decide +kernel
theorem dX0_swap_22 : decode cX0_swap 22 = .ok (.iastore, 1) := by decide +kernel
theorem dX0_swap_23 : decode cX0_swap 23 = .ok (.iinc 3 1, 3) := by decide +kernel
theorem dX0_swap_26 : decode cX0_swap 26 = .ok (.goto (-24), 3) := by decide +kernel
theorem dX0_swap_29 : decode cX0_swap 29 = .ok (.return_, 1) := by decide +kernel
theorem dX0_setSmall_0 : decode cX0_setSmall 0 = .ok (.iconst 1, 1) := by decide +kernel
theorem dX0_setSmall_1 : decode cX0_setSmall 1 = .ok (.istore_n 3, 1) := by decide +kernel
theorem dX0_setSmall_2 : decode cX0_setSmall 2 = .ok (.iload_n 3, 1) := by decide +kernel
theorem dX0_setSmall_3 : decode cX0_setSmall 3 = .ok (.iload_n 2, 1) := by decide +kernel
theorem dX0_setSmall_4 : decode cX0_setSmall 4 = .ok (.if_icmp .ge 13, 3) := by decide +kernel
theorem dX0_setSmall_7 : decode cX0_setSmall 7 = .ok (.aload_n 0, 1) := by decide +kernel
theorem dX0_setSmall_8 : decode cX0_setSmall 8 = .ok (.iload_n 3, 1) := by decide +kernel
theorem dX0_setSmall_9 : decode cX0_setSmall 9 = .ok (.iconst 0, 1) := by decide +kernel
theorem dX0_setSmall_10 : decode cX0_setSmall 10 = .ok (.iastore, 1) := by decide +kernel
theorem dX0_setSmall_11 : decode cX0_setSmall 11 = .ok (.iinc 3 1, 3) := by decide +kernel
theorem dX0_setSmall_14 : decode cX0_setSmall 14 = .ok (.goto (-12), 3) := by decide +kernel
theorem dX0_setSmall_17 : decode cX0_setSmall 17 = .ok (.aload_n 0, 1) := by decide +kernel
theorem dX0_setSmall_18 : decode cX0_setSmall 18 = .ok (.iconst 0, 1) := by decide +kernel
theorem dX0_setSmall_19 : decode cX0_setSmall 19 = .ok (.iload_n 1, 1) := by decide +kernel
theorem dX0_setSmall_20 : decode cX0_setSmall 20 = .ok (.iastore, 1) := by decide +kernel
theorem dX0_setSmall_21 : decode cX0_setSmall 21 = .ok (.return_, 1) := by decide +kernel
theorem dX0_isSmall_0 : decode cX0_isSmall 0 = .ok (.iconst 1, 1) := by decide +kernel
theorem dX0_isSmall_1 : decode cX0_isSmall 1 = .ok (.istore_n 3, 1) := by decide +kernel
theorem dX0_isSmall_2 : decode cX0_isSmall 2 = .ok (.iload_n 3, 1) := by decide +kernel
theorem dX0_isSmall_3 : decode cX0_isSmall 3 = .ok (.iload_n 2, 1) := by decide +kernel
theorem dX0_isSmall_4 : decode cX0_isSmall 4 = .ok (.if_icmp .ge 17, 3) := by decide +kernel
theorem dX0_isSmall_7 : decode cX0_isSmall 7 = .ok (.aload_n 0, 1) := by decide +kernel
theorem dX0_isSmall_8 : decode cX0_isSmall 8 = .ok (.iload_n 3, 1) := by decide +kernel
theorem dX0_isSmall_9 : decode cX0_isSmall 9 = .ok (.iaload, 1) := by decide +kernel
theorem dX0_isSmall_10 : decode cX0_isSmall 10 = .ok (.ifCond .eq 5, 3) := by decide +kernel
theorem dX0_isSmall_13 : decode cX0_isSmall 13 = .ok (.iconst 0, 1) := by decide +kernel
theorem dX0_isSmall_14 : decode cX0_isSmall 14 = .ok (.ireturn, 1) := by decide +kernel
theorem dX0_isSmall_15 : decode cX0_isSmall 15 = .ok (.iinc 3 1, 3) := by decide +kernel
theorem dX0_isSmall_18 : decode cX0_isSmall 18 = .ok (.goto (-16), 3) := by decide +kernel
theorem dX0_isSmall_21 : decode cX0_isSmall 21 = .ok (.aload_n 0, 1) := by decide +kernel
theorem dX0_isSmall_22 : decode cX0_isSmall 22 = .ok (.iconst 0, 1) := by decide +kernel
theorem dX0_isSmall_23 : decode cX0_isSmall 23 = .ok (.iaload, 1) := by decide +kernel
theorem dX0_isSmall_24 : decode cX0_isSmall 24 = .ok (.iload_n 1, 1) := by decide +kernel
theorem dX0_isSmall_25 : decode cX0_isSmall 25 = .ok (.if_icmp .ne 7, 3) := by decide +kernel
theorem dX0_isSmall_28 : decode cX0_isSmall 28 = .ok (.iconst 1, 1) := by decide +kernel
theorem dX0_isSmall_29 : decode cX0_isSmall 29 = .ok (.goto 4, 3) := by decide +kernel
theorem dX0_isSmall_32 : decode cX0_isSmall 32 = .ok (.iconst 0, 1) := by decide +kernel
theorem dX0_isSmall_33 : decode cX0_isSmall 33 = .ok (.ireturn, 1) := by decide +kernel
theorem dX0_isOdd_0 : decode cX0_isOdd 0 = .ok (.aload_n 0, 1) := by decide +kernel
theorem dX0_isOdd_1 : decode cX0_isOdd 1 = .ok (.iconst 0, 1) := by decide +kernel
theorem dX0_isOdd_2 : decode cX0_isOdd 2 = .ok (.iaload, 1) := by decide +kernel
theorem dX0_isOdd_3 : decode cX0_isOdd 3 = .ok (.iconst 1, 1) := by decide +kernel
theorem dX0_isOdd_4 : decode cX0_isOdd 4 = .ok (.iand, 1) := by decide +kernel
theorem dX0_isOdd_5 : decode cX0_isOdd 5 = .ok (.ifCond .eq 7, 3) := by decide +kernel
theorem dX0_isOdd_8 : decode cX0_isOdd 8 = .ok (.iconst 1, 1) := by decide +kernel
theorem dX0_isOdd_9 : decode cX0_isOdd 9 = .ok (.goto 4, 3) := by decide +kernel
theorem dX0_isOdd_12 : decode cX0_isOdd 12 = .ok (.iconst 0, 1) := by decide +kernel
theorem dX0_isOdd_13 : decode cX0_isOdd 13 = .ok (.ireturn, 1) := by decide +kernel
theorem dX0_isBitSet_0 : decode cX0_isBitSet 0 = .ok (.aload_n 0, 1) := by decide +kernel
theorem dX0_isBitSet_1 : decode cX0_isBitSet 1 = .ok (.iload_n 1, 1) := by decide +kernel
theorem dX0_isBitSet_2 : decode cX0_isBitSet 2 = .ok (.bipush 32, 2) := by decide +kernel
theorem dX0_isBitSet_4 : decode cX0_isBitSet 4 = .ok (.idiv, 1) := by decide +kernel
theorem dX0_isBitSet_5 : decode cX0_isBitSet 5 = .ok (.iaload, 1) := by decide +kernel
theorem dX0_isBitSet_6 : decode cX0_isBitSet 6 = .ok (.iload_n 1, 1) := by decide +kernel
theorem dX0_isBitSet_7 : decode cX0_isBitSet 7 = .ok (.bipush 32, 2) := by decide +kernel
theorem dX0_isBitSet_9 : decode cX0_isBitSet 9 = .ok (.irem, 1) := by decide +kernel
theorem dX0_isBitSet_10 : decode cX0_isBitSet 10 = .ok (.iushr, 1) := by decide +kernel
theorem dX0_isBitSet_11 : decode cX0_isBitSet 11 = .ok (.iconst 1, 1) := by decide +kernel
theorem dX0_isBitSet_12 : decode cX0_isBitSet 12 = .ok (.iand, 1) := by decide +kernel
theorem dX0_isBitSet_13 : decode cX0_isBitSet 13 = .ok (.ifCond .eq 7, 3) := by decide +kernel
theorem dX0_isBitSet_16 : decode cX0_isBitSet 16 = .ok (.iconst 1, 1) := by decide +kernel
theorem dX0_isBitSet_17 : decode cX0_isBitSet 17 = .ok (.goto 4, 3) := by decide +kernel
theorem dX0_isBitSet_20 : decode cX0_isBitSet 20 = .ok (.iconst 0, 1) := by decide +kernel
theorem dX0_isBitSet_21 : decode cX0_isBitSet 21 = .ok (.ireturn, 1) := by decide +kernel
set_option maxRecDepth 20000 in
theorem ggX0_highestBit_X0_isBitSet : GoodIn wsX0_highestBit wsX0_isBitSet := goodIn_r _ [4] (by decide +kernel) (by decide +kernel)
set_option maxRecDepth 20000 in
theorem gX0_highestBit_X0_isBitSet : GoodIn wsX0_highestBit (va_wsS RX0 9 yX0_isBitSet wsX0_isBitSet) := goodIn_app (goodIn_of _ (by decide +kernel)) ggX0_highestBit_X0_isBitSet
theorem dX0_highestBit_0 : decode cX0_highestBit 0 = .ok (.iload_n 1, 1) := by decide +kernel
theorem dX0_highestBit_1 : decode cX0_highestBit 1 = .ok (.bipush 32, 2) := by decide +kernel
theorem dX0_highestBit_3 : decode cX0_highestBit 3 = .ok (.imul, 1) := by decide +kernel
theorem dX0_highestBit_4 : decode cX0_highestBit 4 = .ok (.iconst 1, 1) := by decide +kernel
theorem dX0_highestBit_5 : decode cX0_highestBit 5 = .ok (.isub, 1) := by decide +kernel
theorem dX0_highestBit_6 : decode cX0_highestBit 6 = .ok (.istore_n 2, 1) := by decide +kernel
theorem dX0_highestBit_7 : decode cX0_highestBit 7 = .ok (.iload_n 2, 1) := by decide +kernel
theorem dX0_highestBit_8 : decode cX0_highestBit 8 = .ok (.ifCond .lt 19, 3) := by decide +kernel
theorem dX0_highestBit_11 : decode cX0_highestBit 11 = .ok (.aload_n 0, 1) := by decide +kernel
theorem dX0_highestBit_12 : decode cX0_highestBit 12 = .ok (.iload_n 2, 1) := by decide +kernel
theorem dX0_highestBit_13 : decode cX0_highestBit 13 = .ok (.invokestatic 9, 3) := by decide +kernel
theorem dX0_highestBit_16 : decode cX0_highestBit 16 = .ok (.ifCond .eq 5, 3) := by decide +kernel
theorem dX0_highestBit_19 : decode cX0_highestBit 19 = .ok (.iload_n 2, 1) := by decide +kernel
theorem dX0_highestBit_20 : decode cX0_highestBit 20 = .ok (.ireturn, 1) := by decide +kernel
theorem dX0_highestBit_21 : decode cX0_highestBit 21 = .ok (.iinc 2 (-1), 3) := by decide +kernel
theorem dX0_highestBit_24 : decode cX0_highestBit 24 = .ok (.goto (-17), 3) := by decide +kernel
theorem dX0_highestBit_27 : decode cX0_highestBit 27 = .ok (.iconst (-1), 1) := by decide +kernel
theorem dX0_highestBit_28 : decode cX0_highestBit 28 = .ok (.ireturn, 1) := by decide +kernel
theorem dX0_order_0 : decode cX0_order 0 = .ok (.iload_n 2, 1) := by decide +kernel
theorem dX0_order_1 : decode cX0_order 1 = .ok (.iconst 1, 1) := by decide +kernel
theorem dX0_order_2 : decode cX0_order 2 = .ok (.isub, 1) := by decide +kernel
theorem dX0_order_3 : decode cX0_order 3 = .ok (.istore_n 3, 1) := by decide +kernel
theorem dX0_order_4 : decode cX0_order 4 = .ok (.iload_n 3, 1) := by decide +kernel
theorem dX0_order_5 : decode cX0_order 5 = .ok (.ifCond .lt 44, 3) := by decide +kernel
theorem dX0_order_8 : decode cX0_order 8 = .ok (.aload_n 0, 1) := by decide +kernel
theorem dX0_order_9 : decode cX0_order 9 = .ok (.iload_n 3, 1) := by decide +kernel
theorem dX0_order_10 : decode cX0_order 10 = .ok (.iaload, 1) := by decide +kernel
theorem dX0_order_11 : decode cX0_order 11 = .ok (.aload_n 1, 1) := by decide +kernel
theorem dX0_order_12 : decode cX0_order 12 = .ok (.iload_n 3, 1) := by decide +kernel
theorem dX0_order_13 : decode cX0_order 13 = .ok (.iaload, 1) := by decide +kernel
theorem dX0_order_14 : decode cX0_order 14 = .ok (.if_icmp .eq 29, 3) := by decide +kernel
theorem dX0_order_17 : decode cX0_order 17 = .ok (.aload_n 0, 1) := by decide +kernel
theorem dX0_order_18 : decode cX0_order 18 = .ok (.iload_n 3, 1) := by decide +kernel
theorem dX0_order_19 : decode cX0_order 19 = .ok (.iaload, 1) := by decide +kernel
theorem dX0_order_20 : decode cX0_order 20 = .ok (.i2l, 1) := by decide +kernel
theorem dX0_order_21 : decode cX0_order 21 = .ok (.ldc2_w 15, 3) := by decide +kernel
theorem dX0_order_24 : decode cX0_order 24 = .ok (.land, 1) := by decide +kernel
theorem dX0_order_25 : decode cX0_order 25 = .ok (.aload_n 1, 1) := by decide +kernel
theorem dX0_order_26 : decode cX0_order 26 = .ok (.iload_n 3, 1) := by decide +kernel
theorem dX0_order_27 : decode cX0_order 27 = .ok (.iaload, 1) := by decide +kernel
theorem dX0_order_28 : decode cX0_order 28 = .ok (.i2l, 1) := by decide +kernel
theorem dX0_order_29 : decode cX0_order 29 = .ok (.ldc2_w 15, 3) := by decide +kernel
theorem dX0_order_32 : decode cX0_order 32 = .ok (.land, 1) := by decide +kernel
theorem dX0_order_33 : decode cX0_order 33 = .ok (.lcmp, 1) := by decide +kernel
theorem dX0_order_34 : decode cX0_order 34 = .ok (.ifCond .ge 7, 3) := by decide +kernel
theorem dX0_order_37 : decode cX0_order 37 = .ok (.iconst (-1), 1) := by decide +kernel
theorem dX0_order_38 : decode cX0_order 38 = .ok (.goto 4, 3) := by decide +kernel
theorem dX0_order_41 : decode cX0_order 41 = .ok (.iconst 1, 1) := by decide +kernel
theorem dX0_order_42 : decode cX0_order 42 = .ok (.ireturn, 1) := by decide +kernel
theorem dX0_order_43 : decode cX0_order 43 = .ok (.iinc 3 (-1), 3) := by decide +kernel
theorem dX0_order_46 : decode cX0_order 46 = .ok (.goto (-42), 3) := by decide +kernel
theorem dX0_order_49 : decode cX0_order 49 = .ok (.iconst 0, 1) := by decide +kernel
theorem dX0_order_50 : decode cX0_order 50 = .ok (.ireturn, 1) := by decide +kernel
theorem dX0_add_0 : decode cX0_add 0 = .ok (.lconst 0, 1) := by decide +kernel
theorem dX0_add_1 : decode cX0_add 1 = .ok (.lstore 4, 2) := by decide +kernel
theorem dX0_add_3 : decode cX0_add 3 = .ok (.iconst 0, 1) := by decide +kernel
theorem dX0_add_4 : decode cX0_add 4 = .ok (.istore 6, 2) := by decide +kernel
theorem dX0_add_6 : decode cX0_add 6 = .ok (.iload 6, 2) := by decide +kernel
theorem dX0_add_8 : decode cX0_add 8 = .ok (.iload_n 3, 1) := by decide +kernel
theorem dX0_add_9 : decode cX0_add 9 = .ok (.if_icmp .ge 47, 3) := by decide +kernel
theorem dX0_add_12 : decode cX0_add 12 = .ok (.lload 4, 2) := by decide +kernel
theorem dX0_add_14 : decode cX0_add 14 = .ok (.aload_n 1, 1) := by decide +kernel
theorem dX0_add_15 : decode cX0_add 15 = .ok (.iload 6, 2) := by decide +kernel
theorem dX0_add_17 : decode cX0_add 17 = .ok (.iaload, 1) := by decide +kernel
theorem dX0_add_18 : decode cX0_add 18 = .ok (.i2l, 1) := by decide +kernel
theorem dX0_add_19 : decode cX0_add 19 = .ok (.ldc2_w 15, 3) := by decide +kernel
theorem dX0_add_22 : decode cX0_add 22 = .ok (.land, 1) := by decide +kernel
theorem dX0_add_23 : decode cX0_add 23 = .ok (.aload_n 2, 1) := by decide +kernel
theorem dX0_add_24 : decode cX0_add 24 = .ok (.iload 6, 2) := by decide +kernel
theorem dX0_add_26 : decode cX0_add 26 = .ok (.iaload, 1) := by decide +kernel
theorem dX0_add_27 : decode cX0_add 27 = .ok (.i2l, 1) := by decide +kernel
theorem dX0_add_28 : decode cX0_add 28 = .ok (.ldc2_w 15, 3) := by decide +kernel
theorem dX0_add_31 : decode cX0_add 31 = .ok (.land, 1) := by decide +kernel
theorem dX0_add_32 : decode cX0_add 32 = .ok (.ladd, 1) := by decide +kernel
theorem dX0_add_33 : decode cX0_add 33 = .ok (.ladd, 1) := by decide +kernel
theorem dX0_add_34 : decode cX0_add 34 = .ok (.lstore 4, 2) := by decide +kernel
theorem dX0_add_36 : decode cX0_add 36 = .ok (.aload_n 0, 1) := by decide +kernel
theorem dX0_add_37 : decode cX0_add 37 = .ok (.iload 6, 2) := by decide +kernel
theorem dX0_add_39 : decode cX0_add 39 = .ok (.lload 4, 2) := by decide +kernel
theorem dX0_add_41 : decode cX0_add 41 = .ok (.l2i, 1) := by decide +kernel
theorem dX0_add_42 : decode cX0_add 42 = .ok (.iastore, 1) := by decide +kernel
theorem dX0_add_43 : decode cX0_add 43 = .ok (.lload 4, 2) := by decide +kernel
theorem dX0_add_45 : decode cX0_add 45 = .ok (.bipush 32, 2) := by decide +kernel
theorem dX0_add_47 : decode cX0_add 47 = .ok (.lushr, 1) := by decide +kernel
theorem dX0_add_48 : decode cX0_add 48 = .ok (.lstore 4, 2) := by decide +kernel
theorem dX0_add_50 : decode cX0_add 50 = .ok (.iinc 6 1, 3) := by decide +kernel
theorem dX0_add_53 : decode cX0_add 53 = .ok (.goto (-47), 3) := by decide +kernel
theorem dX0_add_56 : decode cX0_add 56 = .ok (.lload 4, 2) := by decide +kernel
theorem dX0_add_58 : decode cX0_add 58 = .ok (.lreturn, 1) := by decide +kernel
theorem dX0_subtract_0 : decode cX0_subtract 0 = .ok (.lconst 0, 1) := by decide +kernel
theorem dX0_subtract_1 : decode cX0_subtract 1 = .ok (.lstore 4, 2) := by decide +kernel
theorem dX0_subtract_3 : decode cX0_subtract 3 = .ok (.iconst 0, 1) := by decide +kernel
theorem dX0_subtract_4 : decode cX0_subtract 4 = .ok (.istore 6, 2) := by decide +kernel
theorem dX0_subtract_6 : decode cX0_subtract 6 = .ok (.iload 6, 2) := by decide +kernel
theorem dX0_subtract_8 : decode cX0_subtract 8 = .ok (.iload_n 3, 1) := by decide +kernel
theorem dX0_subtract_9 : decode cX0_subtract 9 = .ok (.if_icmp .ge 47, 3) := by decide +kernel
theorem dX0_subtract_12 : decode cX0_subtract 12 = .ok (.lload 4, 2) := by decide +kernel
theorem dX0_subtract_14 : decode cX0_subtract 14 = .ok (.aload_n 1, 1) := by decide +kernel
theorem dX0_subtract_15 : decode cX0_subtract 15 = .ok (.iload 6, 2) := by decide +kernel
theorem dX0_subtract_17 : decode cX0_subtract 17 = .ok (.iaload, 1) := by decide +kernel
theorem dX0_subtract_18 : decode cX0_subtract 18 = .ok (.i2l, 1) := by decide +kernel
theorem dX0_subtract_19 : decode cX0_subtract 19 = .ok (.ldc2_w 15, 3) := by decide +kernel
theorem dX0_subtract_22 : decode cX0_subtract 22 = .ok (.land, 1) := by decide +kernel
theorem dX0_subtract_23 : decode cX0_subtract 23 = .ok (.aload_n 2, 1) := by decide +kernel
theorem dX0_subtract_24 : decode cX0_subtract 24 = .ok (.iload 6, 2) := by decide +kernel
theorem dX0_subtract_26 : decode cX0_subtract 26 = .ok (.iaload, 1) := by decide +kernel
theorem dX0_subtract_27 : decode cX0_subtract 27 = .ok (.i2l, 1) := by decide +kernel
theorem dX0_subtract_28 : decode cX0_subtract 28 = .ok (.ldc2_w 15, 3) := by decide +kernel
theorem dX0_subtract_31 : decode cX0_subtract 31 = .ok (.land, 1) := by decide +kernel
theorem dX0_subtract_32 : decode cX0_subtract 32 = .ok (.lsub, 1) := by decide +kernel
theorem dX0_subtract_33 : decode cX0_subtract 33 = .ok (.ladd, 1) := by decide +kernel
theorem dX0_subtract_34 : decode cX0_subtract 34 = .ok (.lstore 4, 2) := by decide +kernel
theorem dX0_subtract_36 : decode cX0_subtract 36 = .ok (.aload_n 0, 1) := by decide +kernel
theorem dX0_subtract_37 : decode cX0_subtract 37 = .ok (.iload 6, 2) := by decide +kernel
theorem dX0_subtract_39 : decode cX0_subtract 39 = .ok (.lload 4, 2) := by decide +kernel
theorem dX0_subtract_41 : decode cX0_subtract 41 = .ok (.l2i, 1) := by decide +kernel
theorem dX0_subtract_42 : decode cX0_subtract 42 = .ok (.iastore, 1) := by decide +kernel
theorem dX0_subtract_43 : decode cX0_subtract 43 = .ok (.lload 4, 2) := by decide +kernel
theorem dX0_subtract_45 : decode cX0_subtract 45 = .ok (.bipush 32, 2) := by decide +kernel
theorem dX0_subtract_47 : decode cX0_subtract 47 = .ok (.lshr, 1) := by decide +kernel
theorem dX0_subtract_48 : decode cX0_subtract 48 = .ok (.lstore 4, 2) := by decide +kernel
theorem dX0_subtract_50 : decode cX0_subtract 50 = .ok (.iinc 6 1, 3) := by decide +kernel
theorem dX0_subtract_53 : decode cX0_subtract 53 = .ok (.goto (-47), 3) := by decide +kernel
theorem dX0_subtract_56 : decode cX0_subtract 56 = .ok (.lload 4, 2) := by decide +kernel
theorem dX0_subtract_58 : decode cX0_subtract 58 = .ok (.lconst 0, 1) := by decide +kernel
theorem dX0_subtract_59 : decode cX0_subtract 59 = .ok (.lcmp, 1) := by decide +kernel
theorem dX0_subtract_60 : decode cX0_subtract 60 = .ok (.ifCond .eq 7, 3) := by decide +kernel
theorem dX0_subtract_63 : decode cX0_subtract 63 = .ok (.iconst 1, 1) := by decide +kernel
theorem dX0_subtract_64 : decode cX0_subtract 64 = .ok (.goto 4, 3) := by decide +kernel
theorem dX0_subtract_67 : decode cX0_subtract 67 = .ok (.iconst 0, 1) := by decide +kernel
theorem dX0_subtract_68 : decode cX0_subtract 68 = .ok (.ireturn, 1) := by decide +kernel
theorem dX0_addMultiple_0 : decode cX0_addMultiple 0 = .ok (.iload_n 2, 1) := by decide +kernel
theorem dX0_addMultiple_1 : decode cX0_addMultiple 1 = .ok (.i2l, 1) := by decide +kernel
theorem dX0_addMultiple_2 : decode cX0_addMultiple 2 = .ok (.ldc2_w 15, 3) := by decide +kernel
theorem dX0_addMultiple_5 : decode cX0_addMultiple 5 = .ok (.land, 1) := by decide +kernel
theorem dX0_addMultiple_6 : decode cX0_addMultiple 6 = .ok (.lstore 4, 2) := by decide +kernel
theorem dX0_addMultiple_8 : decode cX0_addMultiple 8 = .ok (.lconst 0, 1) := by decide +kernel
theorem dX0_addMultiple_9 : decode cX0_addMultiple 9 = .ok (.lstore 6, 2) := by decide +kernel
theorem dX0_addMultiple_11 : decode cX0_addMultiple 11 = .ok (.iconst 0, 1) := by decide +kernel
theorem dX0_addMultiple_12 : decode cX0_addMultiple 12 = .ok (.istore 8, 2) := by decide +kernel
theorem dX0_addMultiple_14 : decode cX0_addMultiple 14 = .ok (.iload 8, 2) := by decide +kernel
theorem dX0_addMultiple_16 : decode cX0_addMultiple 16 = .ok (.iload_n 3, 1) := by decide +kernel
theorem dX0_addMultiple_17 : decode cX0_addMultiple 17 = .ok (.if_icmp .ge 50, 3) := by decide +kernel
theorem dX0_addMultiple_20 : decode cX0_addMultiple 20 = .ok (.lload 6, 2) := by decide +kernel
theorem dX0_addMultiple_22 : decode cX0_addMultiple 22 = .ok (.lload 4, 2) := by decide +kernel
theorem dX0_addMultiple_24 : decode cX0_addMultiple 24 = .ok (.aload_n 1, 1) := by decide +kernel
theorem dX0_addMultiple_25 : decode cX0_addMultiple 25 = .ok (.iload 8, 2) := by decide +kernel
theorem dX0_addMultiple_27 : decode cX0_addMultiple 27 = .ok (.iaload, 1) := by decide +kernel
theorem dX0_addMultiple_28 : decode cX0_addMultiple 28 = .ok (.i2l, 1) := by decide +kernel
theorem dX0_addMultiple_29 : decode cX0_addMultiple 29 = .ok (.ldc2_w 15, 3) := by decide +kernel
theorem dX0_addMultiple_32 : decode cX0_addMultiple 32 = .ok (.land, 1) := by decide +kernel
theorem dX0_addMultiple_33 : decode cX0_addMultiple 33 = .ok (.lmul, 1) := by decide +kernel
theorem dX0_addMultiple_34 : decode cX0_addMultiple 34 = .ok (.aload_n 0, 1) := by decide +kernel
theorem dX0_addMultiple_35 : decode cX0_addMultiple 35 = .ok (.iload 8, 2) := by decide +kernel
theorem dX0_addMultiple_37 : decode cX0_addMultiple 37 = .ok (.iaload, 1) := by decide +kernel
theorem dX0_addMultiple_38 : decode cX0_addMultiple 38 = .ok (.i2l, 1) := by decide +kernel
theorem dX0_addMultiple_39 : decode cX0_addMultiple 39 = .ok (.ldc2_w 15, 3) := by decide +kernel
theorem dX0_addMultiple_42 : decode cX0_addMultiple 42 = .ok (.land, 1) := by decide +kernel
theorem dX0_addMultiple_43 : decode cX0_addMultiple 43 = .ok (.ladd, 1) := by decide +kernel
theorem dX0_addMultiple_44 : decode cX0_addMultiple 44 = .ok (.ladd, 1) := by decide +kernel
theorem dX0_addMultiple_45 : decode cX0_addMultiple 45 = .ok (.lstore 6, 2) := by decide +kernel
theorem dX0_addMultiple_47 : decode cX0_addMultiple 47 = .ok (.aload_n 0, 1) := by decide +kernel
theorem dX0_addMultiple_48 : decode cX0_addMultiple 48 = .ok (.iload 8, 2) := by decide +kernel
theorem dX0_addMultiple_50 : decode cX0_addMultiple 50 = .ok (.lload 6, 2) := by decide +kernel
theorem dX0_addMultiple_52 : decode cX0_addMultiple 52 = .ok (.l2i, 1) := by decide +kernel
theorem dX0_addMultiple_53 : decode cX0_addMultiple 53 = .ok (.iastore, 1) := by decide +kernel
theorem dX0_addMultiple_54 : decode cX0_addMultiple 54 = .ok (.lload 6, 2) := by decide +kernel
theorem dX0_addMultiple_56 : decode cX0_addMultiple 56 = .ok (.bipush 32, 2) := by decide +kernel
theorem dX0_addMultiple_58 : decode cX0_addMultiple 58 = .ok (.lushr, 1) := by decide +kernel
theorem dX0_addMultiple_59 : decode cX0_addMultiple 59 = .ok (.lstore 6, 2) := by decide +kernel
theorem dX0_addMultiple_61 : decode cX0_addMultiple 61 = .ok (.iinc 8 1, 3) := by decide +kernel
theorem dX0_addMultiple_64 : decode cX0_addMultiple 64 = .ok (.goto (-50), 3) := by decide +kernel
theorem dX0_addMultiple_67 : decode cX0_addMultiple 67 = .ok (.lload 6, 2) := by decide +kernel
theorem dX0_addMultiple_69 : decode cX0_addMultiple 69 = .ok (.lreturn, 1) := by decide +kernel
theorem dX0_dropLimb_0 : decode cX0_dropLimb 0 = .ok (.iconst 1, 1) := by decide +kernel
theorem dX0_dropLimb_1 : decode cX0_dropLimb 1 = .ok (.istore 4, 2) := by decide +kernel
theorem dX0_dropLimb_3 : decode cX0_dropLimb 3 = .ok (.iload 4, 2) := by decide +kernel
theorem dX0_dropLimb_5 : decode cX0_dropLimb 5 = .ok (.iload_n 3, 1) := by decide +kernel
theorem dX0_dropLimb_6 : decode cX0_dropLimb 6 = .ok (.if_icmp .ge 19, 3) := by decide +kernel
theorem dX0_dropLimb_9 : decode cX0_dropLimb 9 = .ok (.aload_n 0, 1) := by decide +kernel
theorem dX0_dropLimb_10 : decode cX0_dropLimb 10 = .ok (.iload 4, 2) := by decide +kernel
theorem dX0_dropLimb_12 : decode cX0_dropLimb 12 = .ok (.iconst 1, 1) := by decide +kernel
theorem dX0_dropLimb_13 : decode cX0_dropLimb 13 = .ok (.isub, 1) := by decide +kernel
theorem dX0_dropLimb_14 : decode cX0_dropLimb 14 = .ok (.aload_n 0, 1) := by decide +kernel
theorem dX0_dropLimb_15 : decode cX0_dropLimb 15 = .ok (.iload 4, 2) := by decide +kernel
theorem dX0_dropLimb_17 : decode cX0_dropLimb 17 = .ok (.iaload, 1) := by decide +kernel
theorem dX0_dropLimb_18 : decode cX0_dropLimb 18 = .ok (.iastore, 1) := by decide +kernel
theorem dX0_dropLimb_19 : decode cX0_dropLimb 19 = .ok (.iinc 4 1, 3) := by decide +kernel
theorem dX0_dropLimb_22 : decode cX0_dropLimb 22 = .ok (.goto (-19), 3) := by decide +kernel
theorem dX0_dropLimb_25 : decode cX0_dropLimb 25 = .ok (.aload_n 0, 1) := by decide +kernel
theorem dX0_dropLimb_26 : decode cX0_dropLimb 26 = .ok (.iload_n 3, 1) := by decide +kernel
theorem dX0_dropLimb_27 : decode cX0_dropLimb 27 = .ok (.iconst 1, 1) := by decide +kernel
theorem dX0_dropLimb_28 : decode cX0_dropLimb 28 = .ok (.isub, 1) := by decide +kernel
theorem dX0_dropLimb_29 : decode cX0_dropLimb 29 = .ok (.lload_n 1, 1) := by decide +kernel
theorem dX0_dropLimb_30 : decode cX0_dropLimb 30 = .ok (.l2i, 1) := by decide +kernel
theorem dX0_dropLimb_31 : decode cX0_dropLimb 31 = .ok (.iastore, 1) := by decide +kernel
theorem dX0_dropLimb_32 : decode cX0_dropLimb 32 = .ok (.lload_n 1, 1) := by decide +kernel
theorem dX0_dropLimb_33 : decode cX0_dropLimb 33 = .ok (.bipush 32, 2) := by decide +kernel
theorem dX0_dropLimb_35 : decode cX0_dropLimb 35 = .ok (.lushr, 1) := by decide +kernel
theorem dX0_dropLimb_36 : decode cX0_dropLimb 36 = .ok (.lreturn, 1) := by decide +kernel
theorem dX0_halve_0 : decode cX0_halve 0 = .ok (.lload_n 1, 1) := by decide +kernel
theorem dX0_halve_1 : decode cX0_halve 1 = .ok (.lstore 4, 2) := by decide +kernel
theorem dX0_halve_3 : decode cX0_halve 3 = .ok (.iload_n 3, 1) := by decide +kernel
theorem dX0_halve_4 : decode cX0_halve 4 = .ok (.iconst 1, 1) := by decide +kernel
theorem dX0_halve_5 : decode cX0_halve 5 = .ok (.isub, 1) := by decide +kernel
theorem dX0_halve_6 : decode cX0_halve 6 = .ok (.istore 6, 2) := by decide +kernel
theorem dX0_halve_8 : decode cX0_halve 8 = .ok (.iload 6, 2) := by decide +kernel
theorem dX0_halve_10 : decode cX0_halve 10 = .ok (.ifCond .lt 41, 3) := by decide +kernel
theorem dX0_halve_13 : decode cX0_halve 13 = .ok (.lload 4, 2) := by decide +kernel
theorem dX0_halve_15 : decode cX0_halve 15 = .ok (.bipush 32, 2) := by decide +kernel
theorem dX0_halve_17 : decode cX0_halve 17 = .ok (.lshl, 1) := by decide +kernel
theorem dX0_halve_18 : decode cX0_halve 18 = .ok (.aload_n 0, 1) := by decide +kernel
theorem dX0_halve_19 : decode cX0_halve 19 = .ok (.iload 6, 2) := by decide +kernel
theorem dX0_halve_21 : decode cX0_halve 21 = .ok (.iaload, 1) := by decide +kernel
theorem dX0_halve_22 : decode cX0_halve 22 = .ok (.i2l, 1) := by decide +kernel
theorem dX0_halve_23 : decode cX0_halve 23 = .ok (.ldc2_w 15, 3) := by decide +kernel
theorem dX0_halve_26 : decode cX0_halve 26 = .ok (.land, 1) := by decide +kernel
theorem dX0_halve_27 : decode cX0_halve 27 = .ok (.lor, 1) := by decide +kernel
theorem dX0_halve_28 : decode cX0_halve 28 = .ok (.lstore 7, 2) := by decide +kernel
theorem dX0_halve_30 : decode cX0_halve 30 = .ok (.aload_n 0, 1) := by decide +kernel
theorem dX0_halve_31 : decode cX0_halve 31 = .ok (.iload 6, 2) := by decide +kernel
theorem dX0_halve_33 : decode cX0_halve 33 = .ok (.lload 7, 2) := by decide +kernel
theorem dX0_halve_35 : decode cX0_halve 35 = .ok (.iconst 1, 1) := by decide +kernel
theorem dX0_halve_36 : decode cX0_halve 36 = .ok (.lushr, 1) := by decide +kernel
theorem dX0_halve_37 : decode cX0_halve 37 = .ok (.l2i, 1) := by decide +kernel
theorem dX0_halve_38 : decode cX0_halve 38 = .ok (.iastore, 1) := by decide +kernel
theorem dX0_halve_39 : decode cX0_halve 39 = .ok (.lload 7, 2) := by decide +kernel
theorem dX0_halve_41 : decode cX0_halve 41 = .ok (.lconst 1, 1) := by decide +kernel
theorem dX0_halve_42 : decode cX0_halve 42 = .ok (.land, 1) := by decide +kernel
theorem dX0_halve_43 : decode cX0_halve 43 = .ok (.lstore 4, 2) := by decide +kernel
theorem dX0_halve_45 : decode cX0_halve 45 = .ok (.iinc 6 (-1), 3) := by decide +kernel
theorem dX0_halve_48 : decode cX0_halve 48 = .ok (.goto (-40), 3) := by decide +kernel
theorem dX0_halve_51 : decode cX0_halve 51 = .ok (.return_, 1) := by decide +kernel
theorem dX1_init_0 : decode cX1_init 0 = .ok (.aload_n 0, 1) := by decide +kernel
theorem dX1_init_1 : decode cX1_init 1 = .ok (.invokespecial 3, 3) := by decide +kernel
theorem dX1_init_4 : decode cX1_init 4 = .ok (.aload_n 0, 1) := by decide +kernel
theorem dX1_init_5 : decode cX1_init 5 = .ok (.iload_n 1, 1) := by decide +kernel
theorem dX1_init_6 : decode cX1_init 6 = .ok (.putfield 9, 3) := by decide +kernel
theorem dX1_init_9 : decode cX1_init 9 = .ok (.aload_n 0, 1) := by decide +kernel
theorem dX1_init_10 : decode cX1_init 10 = .ok (.iload_n 1, 1) := by decide +kernel
theorem dX1_init_11 : decode cX1_init 11 = .ok (.bipush 32, 2) := by decide +kernel
theorem dX1_init_13 : decode cX1_init 13 = .ok (.imul, 1) := by decide +kernel
theorem dX1_init_14 : decode cX1_init 14 = .ok (.putfield 15, 3) := by decide +kernel
theorem dX1_init_17 : decode cX1_init 17 = .ok (.aload_n 0, 1) := by decide +kernel
theorem dX1_init_18 : decode cX1_init 18 = .ok (.iload_n 1, 1) := by decide +kernel
theorem dX1_init_19 : decode cX1_init 19 = .ok (.newarray .int, 2) := by decide +kernel
theorem dX1_init_21 : decode cX1_init 21 = .ok (.putfield 18, 3) := by decide +kernel
theorem dX1_init_24 : decode cX1_init 24 = .ok (.aload_n 0, 1) := by decide +kernel
theorem dX1_init_25 : decode cX1_init 25 = .ok (.iload_n 1, 1) := by decide +kernel
theorem dX1_init_26 : decode cX1_init 26 = .ok (.newarray .int, 2) := by decide +kernel
theorem dX1_init_28 : decode cX1_init 28 = .ok (.putfield 22, 3) := by decide +kernel
theorem dX1_init_31 : decode cX1_init 31 = .ok (.aload_n 0, 1) := by decide +kernel
theorem dX1_init_32 : decode cX1_init 32 = .ok (.getfield 22, 3) := by decide +kernel
theorem dX1_init_35 : decode cX1_init 35 = .ok (.iconst 0, 1) := by decide +kernel
theorem dX1_init_36 : decode cX1_init 36 = .ok (.iconst 1, 1) := by decide +kernel
theorem dX1_init_37 : decode cX1_init 37 = .ok (.iastore, 1) := by decide +kernel
theorem dX1_init_38 : decode cX1_init 38 = .ok (.aload_n 0, 1) := by decide +kernel
theorem dX1_init_39 : decode cX1_init 39 = .ok (.iload_n 1, 1) := by decide +kernel
theorem dX1_init_40 : decode cX1_init 40 = .ok (.newarray .int, 2) := by decide +kernel
theorem dX1_init_42 : decode cX1_init 42 = .ok (.putfield 25, 3) := by decide +kernel
theorem dX1_init_45 : decode cX1_init 45 = .ok (.aload_n 0, 1) := by decide +kernel
theorem dX1_init_46 : decode cX1_init 46 = .ok (.iload_n 1, 1) := by decide +kernel
theorem dX1_init_47 : decode cX1_init 47 = .ok (.newarray .int, 2) := by decide +kernel
theorem dX1_init_49 : decode cX1_init 49 = .ok (.putfield 28, 3) := by decide +kernel
theorem dX1_init_52 : decode cX1_init 52 = .ok (.aload_n 0, 1) := by decide +kernel
theorem dX1_init_53 : decode cX1_init 53 = .ok (.iload_n 1, 1) := by decide +kernel
theorem dX1_init_54 : decode cX1_init 54 = .ok (.newarray .int, 2) := by decide +kernel
theorem dX1_init_56 : decode cX1_init 56 = .ok (.putfield 31, 3) := by decide +kernel
theorem dX1_init_59 : decode cX1_init 59 = .ok (.aload_n 0, 1) := by decide +kernel
theorem dX1_init_60 : decode cX1_init 60 = .ok (.iload_n 1, 1) := by decide +kernel
theorem dX1_init_61 : decode cX1_init 61 = .ok (.newarray .int, 2) := by decide +kernel
theorem dX1_init_63 : decode cX1_init 63 = .ok (.putfield 34, 3) := by decide +kernel
theorem dX1_init_66 : decode cX1_init 66 = .ok (.aload_n 0, 1) := by decide +kernel
theorem dX1_init_67 : decode cX1_init 67 = .ok (.iload_n 1, 1) := by decide +kernel
theorem dX1_init_68 : decode cX1_init 68 = .ok (.newarray .int, 2) := by decide +kernel
theorem dX1_init_70 : decode cX1_init 70 = .ok (.putfield 37, 3) := by decide +kernel
theorem dX1_init_73 : decode cX1_init 73 = .ok (.aload_n 0, 1) := by decide +kernel
theorem dX1_init_74 : decode cX1_init 74 = .ok (.iload_n 1, 1) := by decide +kernel
theorem dX1_init_75 : decode cX1_init 75 = .ok (.newarray .int, 2) := by decide +kernel
theorem dX1_init_77 : decode cX1_init 77 = .ok (.putfield 40, 3) := by decide +kernel
theorem dX1_init_80 : decode cX1_init 80 = .ok (.aload_n 0, 1) := by decide +kernel
theorem dX1_init_81 : decode cX1_init 81 = .ok (.iload_n 1, 1) := by decide +kernel
theorem dX1_init_82 : decode cX1_init 82 = .ok (.newarray .int, 2) := by decide +kernel
theorem dX1_init_84 : decode cX1_init 84 = .ok (.putfield 43, 3) := by decide +kernel
theorem dX1_init_87 : decode cX1_init 87 = .ok (.aload_n 0, 1) := by decide +kernel
theorem dX1_init_88 : decode cX1_init 88 = .ok (.iconst 0, 1) := by decide +kernel
theorem dX1_init_89 : decode cX1_init 89 = .ok (.putfield 46, 3) := by decide +kernel
theorem dX1_init_92 : decode cX1_init 92 = .ok (.return_, 1) := by decide +kernel
set_option maxRecDepth 20000 in
theorem ggX1_hasFitModulus_X0_isOdd : GoodIn wsX1_hasFitModulus wsX0_isOdd := goodIn_r _ [6] (by decide +kernel) (by decide +kernel)
set_option maxRecDepth 20000 in
theorem gX1_hasFitModulus_X0_isOdd : GoodIn wsX1_hasFitModulus (va_wsS RX1 49 yX0_isOdd wsX0_isOdd) := goodIn_app (goodIn_of _ (by decide +kernel)) ggX1_hasFitModulus_X0_isOdd
set_option maxRecDepth 20000 in
theorem ggX1_hasFitModulus_X0_isSmall : GoodIn wsX1_hasFitModulus wsX0_isSmall := goodIn_r _ [9] (by decide +kernel) (by decide +kernel)
set_option maxRecDepth 20000 in
theorem gX1_hasFitModulus_X0_isSmall : GoodIn wsX1_hasFitModulus (va_wsS RX1 55 yX0_isSmall wsX0_isSmall) := goodIn_app (goodIn_of _ (by decide +kernel)) ggX1_hasFitModulus_X0_isSmall
theorem dX1_hasFitModulus_0 : decode cX1_hasFitModulus 0 = .ok (.aload_n 0, 1) := by decide +kernel
theorem dX1_hasFitModulus_1 : decode cX1_hasFitModulus 1 = .ok (.getfield 18, 3) := by decide +kernel
theorem dX1_hasFitModulus_4 : decode cX1_hasFitModulus 4 = .ok (.invokestatic 49, 3) := by decide +kernel
theorem dX1_hasFitModulus_7 : decode cX1_hasFitModulus 7 = .ok (.ifCond .eq 22, 3) := by decide +kernel
theorem dX1_hasFitModulus_10 : decode cX1_hasFitModulus 10 = .ok (.aload_n 0, 1) := by decide +kernel
theorem dX1_hasFitModulus_11 : decode cX1_hasFitModulus 11 = .ok (.getfield 18, 3) := by decide +kernel
theorem dX1_hasFitModulus_14 : decode cX1_hasFitModulus 14 = .ok (.iconst 1, 1) := by decide +kernel
theorem dX1_hasFitModulus_15 : decode cX1_hasFitModulus 15 = .ok (.aload_n 0, 1) := by decide +kernel
theorem dX1_hasFitModulus_16 : decode cX1_hasFitModulus 16 = .ok (.getfield 9, 3) := by decide +kernel
theorem dX1_hasFitModulus_19 : decode cX1_hasFitModulus 19 = .ok (.invokestatic 55, 3) := by decide +kernel
theorem dX1_hasFitModulus_22 : decode cX1_hasFitModulus 22 = .ok (.ifCond .ne 7, 3) := by decide +kernel
theorem dX1_hasFitModulus_25 : decode cX1_hasFitModulus 25 = .ok (.iconst 1, 1) := by decide +kernel
theorem dX1_hasFitModulus_26 : decode cX1_hasFitModulus 26 = .ok (.goto 4, 3) := by decide +kernel
theorem dX1_hasFitModulus_29 : decode cX1_hasFitModulus 29 = .ok (.iconst 0, 1) := by decide +kernel
theorem dX1_hasFitModulus_30 : decode cX1_hasFitModulus 30 = .ok (.ireturn, 1) := by decide +kernel
set_option maxRecDepth 20000 in
theorem ggX1_prepare_X1_inverseOfLimb : GoodIn wsX1_prepare wsX1_inverseOfLimb := goodIn_r _ [10] (by decide +kernel) (by decide +kernel)
set_option maxRecDepth 20000 in
theorem gX1_prepare_X1_inverseOfLimb : GoodIn wsX1_prepare (va_wsS RX1 59 yX1_inverseOfLimb wsX1_inverseOfLimb) := goodIn_app (goodIn_of _ (by decide +kernel)) ggX1_prepare_X1_inverseOfLimb
set_option maxRecDepth 20000 in
theorem ggX1_prepare_X0_copy : GoodIn wsX1_prepare wsX0_copy := goodIn_r _ [14] (by decide +kernel) (by decide +kernel)
set_option maxRecDepth 20000 in
theorem gX1_prepare_X0_copy : GoodIn wsX1_prepare (va_wsS RX1 63 yX0_copy wsX0_copy) := goodIn_app (goodIn_of _ (by decide +kernel)) ggX1_prepare_X0_copy
set_option maxRecDepth 20000 in
theorem ggX1_prepare_X1_doubleOften : GoodIn wsX1_prepare wsX1_doubleOften := goodIn_r _ [18, 19, 20, 21, 22, 9, 23, 5, 24, 25, 13, 26, 27, 28, 29, 30, 31, 1, 32, 33, 34, 35, 36, 37, 38, 39, 40, 41, 42, 43, 44, 45, 46, 47, 48, 49] (by decide +kernel) (by decide +kernel)
set_option maxRecDepth 20000 in
theorem gX1_prepare_X1_doubleOften : GoodIn wsX1_prepare (wsV RX1 67 RX1 yX1_doubleOften wsX1_doubleOften) := goodIn_app (goodIn_of _ (by decide +kernel)) ggX1_prepare_X1_doubleOften
theorem dX1_prepare_0 : decode cX1_prepare 0 = .ok (.aload_n 0, 1) := by decide +kernel
theorem dX1_prepare_1 : decode cX1_prepare 1 = .ok (.aload_n 0, 1) := by decide +kernel
theorem dX1_prepare_2 : decode cX1_prepare 2 = .ok (.getfield 18, 3) := by decide +kernel
theorem dX1_prepare_5 : decode cX1_prepare 5 = .ok (.iconst 0, 1) := by decide +kernel
theorem dX1_prepare_6 : decode cX1_prepare 6 = .ok (.iaload, 1) := by decide +kernel
theorem dX1_prepare_7 : decode cX1_prepare 7 = .ok (.invokestatic 59, 3) := by decide +kernel
theorem dX1_prepare_10 : decode cX1_prepare 10 = .ok (.ineg, 1) := by decide +kernel
theorem dX1_prepare_11 : decode cX1_prepare 11 = .ok (.putfield 46, 3) := by decide +kernel
theorem dX1_prepare_14 : decode cX1_prepare 14 = .ok (.aload_n 0, 1) := by decide +kernel
theorem dX1_prepare_15 : decode cX1_prepare 15 = .ok (.getfield 25, 3) := by decide +kernel
theorem dX1_prepare_18 : decode cX1_prepare 18 = .ok (.aload_n 0, 1) := by decide +kernel
theorem dX1_prepare_19 : decode cX1_prepare 19 = .ok (.getfield 22, 3) := by decide +kernel
theorem dX1_prepare_22 : decode cX1_prepare 22 = .ok (.aload_n 0, 1) := by decide +kernel
theorem dX1_prepare_23 : decode cX1_prepare 23 = .ok (.getfield 9, 3) := by decide +kernel
theorem dX1_prepare_26 : decode cX1_prepare 26 = .ok (.invokestatic 63, 3) := by decide +kernel
theorem dX1_prepare_29 : decode cX1_prepare 29 = .ok (.aload_n 0, 1) := by decide +kernel
theorem dX1_prepare_30 : decode cX1_prepare 30 = .ok (.aload_n 0, 1) := by decide +kernel
theorem dX1_prepare_31 : decode cX1_prepare 31 = .ok (.getfield 25, 3) := by decide +kernel
theorem dX1_prepare_34 : decode cX1_prepare 34 = .ok (.invokevirtual 67, 3) := by decide +kernel
theorem dX1_prepare_37 : decode cX1_prepare 37 = .ok (.aload_n 0, 1) := by decide +kernel
theorem dX1_prepare_38 : decode cX1_prepare 38 = .ok (.getfield 28, 3) := by decide +kernel
theorem dX1_prepare_41 : decode cX1_prepare 41 = .ok (.aload_n 0, 1) := by decide +kernel
theorem dX1_prepare_42 : decode cX1_prepare 42 = .ok (.getfield 25, 3) := by decide +kernel
theorem dX1_prepare_45 : decode cX1_prepare 45 = .ok (.aload_n 0, 1) := by decide +kernel
theorem dX1_prepare_46 : decode cX1_prepare 46 = .ok (.getfield 9, 3) := by decide +kernel
theorem dX1_prepare_49 : decode cX1_prepare 49 = .ok (.invokestatic 63, 3) := by decide +kernel
theorem dX1_prepare_52 : decode cX1_prepare 52 = .ok (.aload_n 0, 1) := by decide +kernel
theorem dX1_prepare_53 : decode cX1_prepare 53 = .ok (.aload_n 0, 1) := by decide +kernel
theorem dX1_prepare_54 : decode cX1_prepare 54 = .ok (.getfield 28, 3) := by decide +kernel
theorem dX1_prepare_57 : decode cX1_prepare 57 = .ok (.invokevirtual 67, 3) := by decide +kernel
theorem dX1_prepare_60 : decode cX1_prepare 60 = .ok (.return_, 1) := by decide +kernel
set_option maxRecDepth 20000 in
theorem ggX1_residue_X1_montgomery : GoodIn wsX1_residue wsX1_montgomery := goodIn_r _ [7, 8, 9, 10, 11, 12, 13, 14, 15, 16, 17, 18, 19, 20, 21, 22, 23, 24, 25, 26, 27, 28, 6, 29, 30, 31, 32, 33, 34, 35, 36, 37, 38, 39, 40, 41, 42, 43, 44, 45, 46, 47] (by decide +kernel) (by decide +kernel)
set_option maxRecDepth 20000 in
theorem gX1_residue_X1_montgomery : GoodIn wsX1_residue (wsV RX1 71 RX1 yX1_montgomery wsX1_montgomery) := goodIn_app (goodIn_of _ (by decide +kernel)) ggX1_residue_X1_montgomery
theorem dX1_residue_0 : decode cX1_residue 0 = .ok (.aload_n 0, 1) := by decide +kernel
theorem dX1_residue_1 : decode cX1_residue 1 = .ok (.aload_n 1, 1) := by decide +kernel
theorem dX1_residue_2 : decode cX1_residue 2 = .ok (.aload_n 2, 1) := by decide +kernel
theorem dX1_residue_3 : decode cX1_residue 3 = .ok (.aload_n 0, 1) := by decide +kernel
theorem dX1_residue_4 : decode cX1_residue 4 = .ok (.getfield 28, 3) := by decide +kernel
theorem dX1_residue_7 : decode cX1_residue 7 = .ok (.invokevirtual 71, 3) := by decide +kernel
theorem dX1_residue_10 : decode cX1_residue 10 = .ok (.aload_n 0, 1) := by decide +kernel
theorem dX1_residue_11 : decode cX1_residue 11 = .ok (.aload_n 1, 1) := by decide +kernel
theorem dX1_residue_12 : decode cX1_residue 12 = .ok (.aload_n 1, 1) := by decide +kernel
theorem dX1_residue_13 : decode cX1_residue 13 = .ok (.aload_n 0, 1) := by decide +kernel
theorem dX1_residue_14 : decode cX1_residue 14 = .ok (.getfield 22, 3) := by decide +kernel
theorem dX1_residue_17 : decode cX1_residue 17 = .ok (.invokevirtual 71, 3) := by decide +kernel
theorem dX1_residue_20 : decode cX1_residue 20 = .ok (.return_, 1) := by decide +kernel
set_option maxRecDepth 20000 in
theorem ggX1_sum_X1_residue : GoodIn wsX1_sum wsX1_residue := goodIn_r _ [7, 8, 9, 10, 11, 12, 6, 13, 14, 15, 16, 17, 18, 19, 20, 21, 22, 23, 24, 25, 26, 27, 28, 29, 30, 31, 32, 33, 34, 35, 36, 37, 38, 39, 40, 41, 49, 50, 51, 52, 53, 54, 55, 56, 57, 58, 59, 60] (by decide +kernel) (by decide +kernel)
set_option maxRecDepth 20000 in
theorem gX1_sum_X1_residue : GoodIn wsX1_sum (wsV RX1 75 RX1 yX1_residue wsX1_residue) := goodIn_app (goodIn_of _ (by decide +kernel)) ggX1_sum_X1_residue
set_option maxRecDepth 20000 in
theorem ggX1_sum_X1_addBelow : GoodIn wsX1_sum wsX1_addBelow := goodIn_r _ [45, 15, 46, 47, 20, 48, 25, 32, 33, 34, 6, 35, 16, 36, 37, 38, 39, 40, 41, 49, 50, 51, 52, 53, 54, 55, 56, 57, 58, 59, 60] (by decide +kernel) (by decide +kernel)
set_option maxRecDepth 20000 in
theorem gX1_sum_X1_addBelow : GoodIn wsX1_sum (wsV RX1 79 RX1 yX1_addBelow wsX1_addBelow) := goodIn_app (goodIn_of _ (by decide +kernel)) ggX1_sum_X1_addBelow
theorem dX1_sum_0 : decode cX1_sum 0 = .ok (.aload_n 0, 1) := by decide +kernel
theorem dX1_sum_1 : decode cX1_sum 1 = .ok (.aload_n 0, 1) := by decide +kernel
theorem dX1_sum_2 : decode cX1_sum 2 = .ok (.getfield 34, 3) := by decide +kernel
theorem dX1_sum_5 : decode cX1_sum 5 = .ok (.aload_n 2, 1) := by decide +kernel
theorem dX1_sum_6 : decode cX1_sum 6 = .ok (.invokevirtual 75, 3) := by decide +kernel
theorem dX1_sum_9 : decode cX1_sum 9 = .ok (.aload_n 0, 1) := by decide +kernel
theorem dX1_sum_10 : decode cX1_sum 10 = .ok (.aload_n 0, 1) := by decide +kernel
theorem dX1_sum_11 : decode cX1_sum 11 = .ok (.getfield 37, 3) := by decide +kernel
theorem dX1_sum_14 : decode cX1_sum 14 = .ok (.aload_n 3, 1) := by decide +kernel
theorem dX1_sum_15 : decode cX1_sum 15 = .ok (.invokevirtual 75, 3) := by decide +kernel
theorem dX1_sum_18 : decode cX1_sum 18 = .ok (.aload_n 0, 1) := by decide +kernel
theorem dX1_sum_19 : decode cX1_sum 19 = .ok (.aload_n 1, 1) := by decide +kernel
theorem dX1_sum_20 : decode cX1_sum 20 = .ok (.aload_n 0, 1) := by decide +kernel
theorem dX1_sum_21 : decode cX1_sum 21 = .ok (.getfield 34, 3) := by decide +kernel
theorem dX1_sum_24 : decode cX1_sum 24 = .ok (.aload_n 0, 1) := by decide +kernel
theorem dX1_sum_25 : decode cX1_sum 25 = .ok (.getfield 37, 3) := by decide +kernel
theorem dX1_sum_28 : decode cX1_sum 28 = .ok (.invokevirtual 79, 3) := by decide +kernel
theorem dX1_sum_31 : decode cX1_sum 31 = .ok (.return_, 1) := by decide +kernel
set_option maxRecDepth 20000 in
theorem ggX1_difference_X1_residue : GoodIn wsX1_difference wsX1_residue := goodIn_r _ [7, 8, 9, 10, 11, 12, 6, 13, 14, 15, 16, 17, 18, 19, 20, 21, 22, 23, 24, 25, 26, 27, 28, 29, 30, 31, 32, 33, 34, 35, 36, 37, 38, 39, 40, 41, 49, 50, 51, 52, 53, 54, 55, 56, 57, 58, 59, 60] (by decide +kernel) (by decide +kernel)
set_option maxRecDepth 20000 in
theorem gX1_difference_X1_residue : GoodIn wsX1_difference (wsV RX1 75 RX1 yX1_residue wsX1_residue) := goodIn_app (goodIn_of _ (by decide +kernel)) ggX1_difference_X1_residue
set_option maxRecDepth 20000 in
theorem ggX1_difference_X1_subtractBelow : GoodIn wsX1_difference wsX1_subtractBelow := goodIn_r _ [45, 15, 16, 39, 40, 20, 41, 25, 46, 47, 48, 49, 50, 51, 52, 53, 54, 55, 56, 57, 58, 59, 60] (by decide +kernel) (by decide +kernel)
set_option maxRecDepth 20000 in
theorem gX1_difference_X1_subtractBelow : GoodIn wsX1_difference (wsV RX1 82 RX1 yX1_subtractBelow wsX1_subtractBelow) := goodIn_app (goodIn_of _ (by decide +kernel)) ggX1_difference_X1_subtractBelow
theorem dX1_difference_0 : decode cX1_difference 0 = .ok (.aload_n 0, 1) := by decide +kernel
theorem dX1_difference_1 : decode cX1_difference 1 = .ok (.aload_n 0, 1) := by decide +kernel
theorem dX1_difference_2 : decode cX1_difference 2 = .ok (.getfield 34, 3) := by decide +kernel
theorem dX1_difference_5 : decode cX1_difference 5 = .ok (.aload_n 2, 1) := by decide +kernel
theorem dX1_difference_6 : decode cX1_difference 6 = .ok (.invokevirtual 75, 3) := by decide +kernel
theorem dX1_difference_9 : decode cX1_difference 9 = .ok (.aload_n 0, 1) := by decide +kernel
theorem dX1_difference_10 : decode cX1_difference 10 = .ok (.aload_n 0, 1) := by decide +kernel
theorem dX1_difference_11 : decode cX1_difference 11 = .ok (.getfield 37, 3) := by decide +kernel
theorem dX1_difference_14 : decode cX1_difference 14 = .ok (.aload_n 3, 1) := by decide +kernel
theorem dX1_difference_15 : decode cX1_difference 15 = .ok (.invokevirtual 75, 3) := by decide +kernel
theorem dX1_difference_18 : decode cX1_difference 18 = .ok (.aload_n 0, 1) := by decide +kernel
theorem dX1_difference_19 : decode cX1_difference 19 = .ok (.aload_n 1, 1) := by decide +kernel
theorem dX1_difference_20 : decode cX1_difference 20 = .ok (.aload_n 0, 1) := by decide +kernel
theorem dX1_difference_21 : decode cX1_difference 21 = .ok (.getfield 34, 3) := by decide +kernel
theorem dX1_difference_24 : decode cX1_difference 24 = .ok (.aload_n 0, 1) := by decide +kernel
theorem dX1_difference_25 : decode cX1_difference 25 = .ok (.getfield 37, 3) := by decide +kernel
theorem dX1_difference_28 : decode cX1_difference 28 = .ok (.invokevirtual 82, 3) := by decide +kernel
theorem dX1_difference_31 : decode cX1_difference 31 = .ok (.return_, 1) := by decide +kernel
set_option maxRecDepth 20000 in
theorem ggX1_product_X1_montgomery : GoodIn wsX1_product wsX1_montgomery := goodIn_r _ [7, 8, 9, 10, 11, 12, 13, 14, 15, 16, 17, 18, 19, 20, 21, 22, 23, 24, 25, 26, 27, 28, 6, 29, 30, 31, 32, 33, 34, 35, 36, 37, 38, 39, 40, 41, 42, 43, 44, 45, 46, 47] (by decide +kernel) (by decide +kernel)
set_option maxRecDepth 20000 in
theorem gX1_product_X1_montgomery : GoodIn wsX1_product (wsV RX1 71 RX1 yX1_montgomery wsX1_montgomery) := goodIn_app (goodIn_of _ (by decide +kernel)) ggX1_product_X1_montgomery
theorem dX1_product_0 : decode cX1_product 0 = .ok (.aload_n 0, 1) := by decide +kernel
theorem dX1_product_1 : decode cX1_product 1 = .ok (.aload_n 0, 1) := by decide +kernel
theorem dX1_product_2 : decode cX1_product 2 = .ok (.getfield 34, 3) := by decide +kernel
theorem dX1_product_5 : decode cX1_product 5 = .ok (.aload_n 2, 1) := by decide +kernel
theorem dX1_product_6 : decode cX1_product 6 = .ok (.aload_n 0, 1) := by decide +kernel
theorem dX1_product_7 : decode cX1_product 7 = .ok (.getfield 28, 3) := by decide +kernel
theorem dX1_product_10 : decode cX1_product 10 = .ok (.invokevirtual 71, 3) := by decide +kernel
theorem dX1_product_13 : decode cX1_product 13 = .ok (.aload_n 0, 1) := by decide +kernel
theorem dX1_product_14 : decode cX1_product 14 = .ok (.aload_n 1, 1) := by decide +kernel
theorem dX1_product_15 : decode cX1_product 15 = .ok (.aload_n 0, 1) := by decide +kernel
theorem dX1_product_16 : decode cX1_product 16 = .ok (.getfield 34, 3) := by decide +kernel
theorem dX1_product_19 : decode cX1_product 19 = .ok (.aload_n 3, 1) := by decide +kernel
theorem dX1_product_20 : decode cX1_product 20 = .ok (.invokevirtual 71, 3) := by decide +kernel
theorem dX1_product_23 : decode cX1_product 23 = .ok (.return_, 1) := by decide +kernel
set_option maxRecDepth 20000 in
theorem ggX1_productByR_X1_product : GoodIn wsX1_productByR wsX1_product := goodIn_r _ [7, 1, 8, 9, 10, 11, 6, 12, 13, 14, 15, 16, 17, 18, 19, 20, 21, 22, 23, 24, 25, 26, 27, 28, 29, 30, 31, 32, 33, 34, 35, 36, 37, 38, 39, 40, 41, 42, 43, 44, 45, 46, 47, 48, 49, 50, 51, 52] (by decide +kernel) (by decide +kernel)
set_option maxRecDepth 20000 in
theorem gX1_productByR_X1_product : GoodIn wsX1_productByR (wsV RX1 85 RX1 yX1_product wsX1_product) := goodIn_app (goodIn_of _ (by decide +kernel)) ggX1_productByR_X1_product
set_option maxRecDepth 20000 in
theorem ggX1_productByR_X1_montgomery : GoodIn wsX1_productByR wsX1_montgomery := goodIn_r _ [12, 13, 14, 15, 16, 17, 18, 19, 20, 21, 22, 23, 24, 25, 26, 27, 28, 29, 30, 31, 32, 33, 6, 34, 35, 36, 37, 38, 39, 40, 41, 42, 43, 44, 45, 46, 47, 48, 49, 50, 51, 52] (by decide +kernel) (by decide +kernel)
set_option maxRecDepth 20000 in
theorem gX1_productByR_X1_montgomery : GoodIn wsX1_productByR (wsV RX1 71 RX1 yX1_montgomery wsX1_montgomery) := goodIn_app (goodIn_of _ (by decide +kernel)) ggX1_productByR_X1_montgomery
theorem dX1_productByR_0 : decode cX1_productByR 0 = .ok (.aload_n 0, 1) := by decide +kernel
theorem dX1_productByR_1 : decode cX1_productByR 1 = .ok (.aload_n 0, 1) := by decide +kernel
theorem dX1_productByR_2 : decode cX1_productByR 2 = .ok (.getfield 34, 3) := by decide +kernel
theorem dX1_productByR_5 : decode cX1_productByR 5 = .ok (.aload_n 2, 1) := by decide +kernel
theorem dX1_productByR_6 : decode cX1_productByR 6 = .ok (.aload_n 3, 1) := by decide +kernel
theorem dX1_productByR_7 : decode cX1_productByR 7 = .ok (.invokevirtual 85, 3) := by decide +kernel
theorem dX1_productByR_10 : decode cX1_productByR 10 = .ok (.aload_n 0, 1) := by decide +kernel
theorem dX1_productByR_11 : decode cX1_productByR 11 = .ok (.aload_n 1, 1) := by decide +kernel
theorem dX1_productByR_12 : decode cX1_productByR 12 = .ok (.aload_n 0, 1) := by decide +kernel
theorem dX1_productByR_13 : decode cX1_productByR 13 = .ok (.getfield 34, 3) := by decide +kernel
theorem dX1_productByR_16 : decode cX1_productByR 16 = .ok (.aload_n 0, 1) := by decide +kernel
theorem dX1_productByR_17 : decode cX1_productByR 17 = .ok (.getfield 22, 3) := by decide +kernel
theorem dX1_productByR_20 : decode cX1_productByR 20 = .ok (.invokevirtual 71, 3) := by decide +kernel
theorem dX1_productByR_23 : decode cX1_productByR 23 = .ok (.return_, 1) := by decide +kernel
set_option maxRecDepth 20000 in
theorem ggX1_power_X1_montgomery : GoodIn wsX1_power wsX1_montgomery := goodIn_r _ [9, 10, 11, 12, 13, 14, 15, 16, 17, 18, 19, 20, 21, 22, 23, 24, 25, 26, 27, 28, 29, 30, 8, 31, 32, 33, 34, 35, 36, 37, 50, 51, 52, 53, 54, 55, 56, 57, 58, 59, 60, 61] (by decide +kernel) (by decide +kernel)
set_option maxRecDepth 20000 in
theorem gX1_power_X1_montgomery : GoodIn wsX1_power (wsV RX1 71 RX1 yX1_montgomery wsX1_montgomery) := goodIn_app (goodIn_of _ (by decide +kernel)) ggX1_power_X1_montgomery
set_option maxRecDepth 20000 in
theorem ggX1_power_X1_raise : GoodIn wsX1_power wsX1_raise := goodIn_r _ [41, 42, 11, 25, 26, 16, 27, 43, 44, 45, 46, 47, 48, 5, 6, 7, 8, 9, 10, 12, 13, 14, 15, 17, 18, 19, 20, 21, 22, 23, 24, 28, 29, 30, 31, 32, 33, 34, 35, 36, 37, 49, 50, 51, 52, 53, 54, 55, 56, 57, 58, 59, 60, 61] (by decide +kernel) (by decide +kernel)
set_option maxRecDepth 20000 in
theorem gX1_power_X1_raise : GoodIn wsX1_power (wsV RX1 88 RX1 yX1_raise wsX1_raise) := goodIn_app (goodIn_of _ (by decide +kernel)) ggX1_power_X1_raise
theorem dX1_power_0 : decode cX1_power 0 = .ok (.aload_n 0, 1) := by decide +kernel
theorem dX1_power_1 : decode cX1_power 1 = .ok (.aload_n 0, 1) := by decide +kernel
theorem dX1_power_2 : decode cX1_power 2 = .ok (.getfield 34, 3) := by decide +kernel
theorem dX1_power_5 : decode cX1_power 5 = .ok (.aload_n 2, 1) := by decide +kernel
theorem dX1_power_6 : decode cX1_power 6 = .ok (.aload_n 0, 1) := by decide +kernel
theorem dX1_power_7 : decode cX1_power 7 = .ok (.getfield 28, 3) := by decide +kernel
theorem dX1_power_10 : decode cX1_power 10 = .ok (.invokevirtual 71, 3) := by decide +kernel
theorem dX1_power_13 : decode cX1_power 13 = .ok (.aload_n 0, 1) := by decide +kernel
theorem dX1_power_14 : decode cX1_power 14 = .ok (.aload_n 0, 1) := by decide +kernel
theorem dX1_power_15 : decode cX1_power 15 = .ok (.getfield 37, 3) := by decide +kernel
theorem dX1_power_18 : decode cX1_power 18 = .ok (.aload_n 0, 1) := by decide +kernel
theorem dX1_power_19 : decode cX1_power 19 = .ok (.getfield 34, 3) := by decide +kernel
theorem dX1_power_22 : decode cX1_power 22 = .ok (.aload_n 3, 1) := by decide +kernel
theorem dX1_power_23 : decode cX1_power 23 = .ok (.iconst 0, 1) := by decide +kernel
theorem dX1_power_24 : decode cX1_power 24 = .ok (.invokevirtual 88, 3) := by decide +kernel
theorem dX1_power_27 : decode cX1_power 27 = .ok (.aload_n 0, 1) := by decide +kernel
theorem dX1_power_28 : decode cX1_power 28 = .ok (.aload_n 1, 1) := by decide +kernel
theorem dX1_power_29 : decode cX1_power 29 = .ok (.aload_n 0, 1) := by decide +kernel
theorem dX1_power_30 : decode cX1_power 30 = .ok (.getfield 37, 3) := by decide +kernel
theorem dX1_power_33 : decode cX1_power 33 = .ok (.aload_n 0, 1) := by decide +kernel
theorem dX1_power_34 : decode cX1_power 34 = .ok (.getfield 22, 3) := by decide +kernel
theorem dX1_power_37 : decode cX1_power 37 = .ok (.invokevirtual 71, 3) := by decide +kernel
theorem dX1_power_40 : decode cX1_power 40 = .ok (.return_, 1) := by decide +kernel
set_option maxRecDepth 20000 in
theorem ggX1_invert_X1_residue : GoodIn wsX1_invert wsX1_residue := goodIn_r _ [13, 14, 6, 15, 16, 17, 12, 18, 19, 4, 3, 20, 21, 22, 23, 24, 25, 26, 27, 28, 29, 30, 31, 32, 33, 34, 35, 36, 37, 38, 39, 40, 41, 42, 43, 44, 72, 73, 74, 75, 76, 77, 78, 79, 80, 81, 82, 83] (by decide +kernel) (by decide +kernel)
set_option maxRecDepth 20000 in
theorem gX1_invert_X1_residue : GoodIn wsX1_invert (wsV RX1 75 RX1 yX1_residue wsX1_residue) := goodIn_app (goodIn_of _ (by decide +kernel)) ggX1_invert_X1_residue
set_option maxRecDepth 20000 in
theorem ggX1_invert_X0_copy : GoodIn wsX1_invert wsX0_copy := goodIn_r _ [34] (by decide +kernel) (by decide +kernel)
set_option maxRecDepth 20000 in
theorem gX1_invert_X0_copy : GoodIn wsX1_invert (va_wsS RX1 63 yX0_copy wsX0_copy) := goodIn_app (goodIn_of _ (by decide +kernel)) ggX1_invert_X0_copy
set_option maxRecDepth 20000 in
theorem ggX1_invert_X0_setSmall : GoodIn wsX1_invert wsX0_setSmall := goodIn_r _ [24] (by decide +kernel) (by decide +kernel)
set_option maxRecDepth 20000 in
theorem gX1_invert_X0_setSmall : GoodIn wsX1_invert (va_wsS RX1 92 yX0_setSmall wsX0_setSmall) := goodIn_app (goodIn_of _ (by decide +kernel)) ggX1_invert_X0_setSmall
set_option maxRecDepth 20000 in
theorem ggX1_invert_X0_isSmall : GoodIn wsX1_invert wsX0_isSmall := goodIn_r _ [47] (by decide +kernel) (by decide +kernel)
set_option maxRecDepth 20000 in
theorem gX1_invert_X0_isSmall : GoodIn wsX1_invert (va_wsS RX1 55 yX0_isSmall wsX0_isSmall) := goodIn_app (goodIn_of _ (by decide +kernel)) ggX1_invert_X0_isSmall
set_option maxRecDepth 20000 in
theorem ggX1_invert_X1_stepTowardsDivisor : GoodIn wsX1_invert wsX1_stepTowardsDivisor := goodIn_r _ [51, 1, 4, 5, 2, 7, 52, 53, 23, 54, 55, 56, 57, 28, 58, 59, 60, 12, 61, 3, 62, 63, 64, 39, 40, 41, 65, 66, 67, 42, 43, 44, 68, 69, 70, 71, 72, 73, 74, 75, 76, 77, 78, 79, 80, 81, 82, 83] (by decide +kernel) (by decide +kernel)
set_option maxRecDepth 20000 in
theorem gX1_invert_X1_stepTowardsDivisor : GoodIn wsX1_invert (wsV RX1 96 RX1 yX1_stepTowardsDivisor wsX1_stepTowardsDivisor) := goodIn_app (goodIn_of _ (by decide +kernel)) ggX1_invert_X1_stepTowardsDivisor
theorem dX1_invert_0 : decode cX1_invert 0 = .ok (.aload_n 0, 1) := by decide +kernel
theorem dX1_invert_1 : decode cX1_invert 1 = .ok (.aload_n 0, 1) := by decide +kernel
theorem dX1_invert_2 : decode cX1_invert 2 = .ok (.getfield 34, 3) := by decide +kernel
theorem dX1_invert_5 : decode cX1_invert 5 = .ok (.aload_n 2, 1) := by decide +kernel
theorem dX1_invert_6 : decode cX1_invert 6 = .ok (.invokevirtual 75, 3) := by decide +kernel
theorem dX1_invert_9 : decode cX1_invert 9 = .ok (.aload_n 0, 1) := by decide +kernel
theorem dX1_invert_10 : decode cX1_invert 10 = .ok (.getfield 37, 3) := by decide +kernel
theorem dX1_invert_13 : decode cX1_invert 13 = .ok (.aload_n 0, 1) := by decide +kernel
theorem dX1_invert_14 : decode cX1_invert 14 = .ok (.getfield 18, 3) := by decide +kernel
theorem dX1_invert_17 : decode cX1_invert 17 = .ok (.aload_n 0, 1) := by decide +kernel
theorem dX1_invert_18 : decode cX1_invert 18 = .ok (.getfield 9, 3) := by decide +kernel
theorem dX1_invert_21 : decode cX1_invert 21 = .ok (.invokestatic 63, 3) := by decide +kernel
theorem dX1_invert_24 : decode cX1_invert 24 = .ok (.aload_n 0, 1) := by decide +kernel
theorem dX1_invert_25 : decode cX1_invert 25 = .ok (.getfield 40, 3) := by decide +kernel
theorem dX1_invert_28 : decode cX1_invert 28 = .ok (.aload_n 0, 1) := by decide +kernel
theorem dX1_invert_29 : decode cX1_invert 29 = .ok (.getfield 22, 3) := by decide +kernel
theorem dX1_invert_32 : decode cX1_invert 32 = .ok (.aload_n 0, 1) := by decide +kernel
theorem dX1_invert_33 : decode cX1_invert 33 = .ok (.getfield 9, 3) := by decide +kernel
theorem dX1_invert_36 : decode cX1_invert 36 = .ok (.invokestatic 63, 3) := by decide +kernel
theorem dX1_invert_39 : decode cX1_invert 39 = .ok (.aload_n 0, 1) := by decide +kernel
theorem dX1_invert_40 : decode cX1_invert 40 = .ok (.getfield 43, 3) := by decide +kernel
theorem dX1_invert_43 : decode cX1_invert 43 = .ok (.iconst 0, 1) := by decide +kernel
theorem dX1_invert_44 : decode cX1_invert 44 = .ok (.aload_n 0, 1) := by decide +kernel
theorem dX1_invert_45 : decode cX1_invert 45 = .ok (.getfield 9, 3) := by decide +kernel
theorem dX1_invert_48 : decode cX1_invert 48 = .ok (.invokestatic 92, 3) := by decide +kernel
theorem dX1_invert_51 : decode cX1_invert 51 = .ok (.iconst 4, 1) := by decide +kernel
theorem dX1_invert_52 : decode cX1_invert 52 = .ok (.aload_n 0, 1) := by decide +kernel
theorem dX1_invert_53 : decode cX1_invert 53 = .ok (.getfield 15, 3) := by decide +kernel
theorem dX1_invert_56 : decode cX1_invert 56 = .ok (.imul, 1) := by decide +kernel
theorem dX1_invert_57 : decode cX1_invert 57 = .ok (.iconst 2, 1) := by decide +kernel
theorem dX1_invert_58 : decode cX1_invert 58 = .ok (.iadd, 1) := by decide +kernel
theorem dX1_invert_59 : decode cX1_invert 59 = .ok (.istore_n 3, 1) := by decide +kernel
theorem dX1_invert_60 : decode cX1_invert 60 = .ok (.iconst 0, 1) := by decide +kernel
theorem dX1_invert_61 : decode cX1_invert 61 = .ok (.istore 4, 2) := by decide +kernel
theorem dX1_invert_63 : decode cX1_invert 63 = .ok (.iload 4, 2) := by decide +kernel
theorem dX1_invert_65 : decode cX1_invert 65 = .ok (.iload_n 3, 1) := by decide +kernel
theorem dX1_invert_66 : decode cX1_invert 66 = .ok (.if_icmp .ge 28, 3) := by decide +kernel
theorem dX1_invert_69 : decode cX1_invert 69 = .ok (.aload_n 0, 1) := by decide +kernel
theorem dX1_invert_70 : decode cX1_invert 70 = .ok (.getfield 34, 3) := by decide +kernel
theorem dX1_invert_73 : decode cX1_invert 73 = .ok (.iconst 0, 1) := by decide +kernel
theorem dX1_invert_74 : decode cX1_invert 74 = .ok (.aload_n 0, 1) := by decide +kernel
theorem dX1_invert_75 : decode cX1_invert 75 = .ok (.getfield 9, 3) := by decide +kernel
theorem dX1_invert_78 : decode cX1_invert 78 = .ok (.invokestatic 55, 3) := by decide +kernel
theorem dX1_invert_81 : decode cX1_invert 81 = .ok (.ifCond .ne 13, 3) := by decide +kernel
theorem dX1_invert_84 : decode cX1_invert 84 = .ok (.aload_n 0, 1) := by decide +kernel
theorem dX1_invert_85 : decode cX1_invert 85 = .ok (.invokevirtual 96, 3) := by decide +kernel
theorem dX1_invert_88 : decode cX1_invert 88 = .ok (.iinc 4 1, 3) := by decide +kernel
theorem dX1_invert_91 : decode cX1_invert 91 = .ok (.goto (-28), 3) := by decide +kernel
theorem dX1_invert_94 : decode cX1_invert 94 = .ok (.aload_n 0, 1) := by decide +kernel
theorem dX1_invert_95 : decode cX1_invert 95 = .ok (.getfield 37, 3) := by decide +kernel
theorem dX1_invert_98 : decode cX1_invert 98 = .ok (.iconst 1, 1) := by decide +kernel
theorem dX1_invert_99 : decode cX1_invert 99 = .ok (.aload_n 0, 1) := by decide +kernel
theorem dX1_invert_100 : decode cX1_invert 100 = .ok (.getfield 9, 3) := by decide +kernel
theorem dX1_invert_103 : decode cX1_invert 103 = .ok (.invokestatic 55, 3) := by decide +kernel
theorem dX1_invert_106 : decode cX1_invert 106 = .ok (.ifCond .ne 5, 3) := by decide +kernel
theorem dX1_invert_109 : decode cX1_invert 109 = .ok (.iconst 0, 1) := by decide +kernel
theorem dX1_invert_110 : decode cX1_invert 110 = .ok (.ireturn, 1) := by decide +kernel
theorem dX1_invert_111 : decode cX1_invert 111 = .ok (.aload_n 1, 1) := by decide +kernel
theorem dX1_invert_112 : decode cX1_invert 112 = .ok (.aload_n 0, 1) := by decide +kernel
theorem dX1_invert_113 : decode cX1_invert 113 = .ok (.getfield 43, 3) := by decide +kernel
theorem dX1_invert_116 : decode cX1_invert 116 = .ok (.aload_n 0, 1) := by decide +kernel
theorem dX1_invert_117 : decode cX1_invert 117 = .ok (.getfield 9, 3) := by decide +kernel
theorem dX1_invert_120 : decode cX1_invert 120 = .ok (.invokestatic 63, 3) := by decide +kernel
theorem dX1_invert_123 : decode cX1_invert 123 = .ok (.iconst 1, 1) := by decide +kernel
theorem dX1_invert_124 : decode cX1_invert 124 = .ok (.ireturn, 1) := by decide +kernel
set_option maxRecDepth 20000 in
theorem ggX1_isProvedCompositeBy_X1_montgomery : GoodIn wsX1_isProvedCompositeBy wsX1_montgomery := goodIn_r _ [12, 13, 3, 5, 14, 15, 16, 17, 18, 19, 20, 21, 22, 23, 24, 25, 26, 27, 28, 29, 30, 31, 11, 32, 33, 34, 35, 36, 37, 38, 65, 66, 67, 68, 69, 70, 71, 72, 73, 74, 75, 76] (by decide +kernel) (by decide +kernel)
set_option maxRecDepth 20000 in
theorem gX1_isProvedCompositeBy_X1_montgomery : GoodIn wsX1_isProvedCompositeBy (wsV RX1 71 RX1 yX1_montgomery wsX1_montgomery) := goodIn_app (goodIn_of _ (by decide +kernel)) ggX1_isProvedCompositeBy_X1_montgomery
set_option maxRecDepth 20000 in
theorem ggX1_isProvedCompositeBy_X0_isSmall : GoodIn wsX1_isProvedCompositeBy wsX0_isSmall := goodIn_r _ [41] (by decide +kernel) (by decide +kernel)
set_option maxRecDepth 20000 in
theorem gX1_isProvedCompositeBy_X0_isSmall : GoodIn wsX1_isProvedCompositeBy (va_wsS RX1 55 yX0_isSmall wsX0_isSmall) := goodIn_app (goodIn_of _ (by decide +kernel)) ggX1_isProvedCompositeBy_X0_isSmall
set_option maxRecDepth 20000 in
theorem ggX1_isProvedCompositeBy_X1_twosInModulusLessOne : GoodIn wsX1_isProvedCompositeBy wsX1_twosInModulusLessOne := goodIn_r _ [45, 46, 5, 47, 48, 17, 49, 65, 66, 67, 68, 69, 70, 71, 72, 73, 74, 75, 76] (by decide +kernel) (by decide +kernel)
set_option maxRecDepth 20000 in
theorem gX1_isProvedCompositeBy_X1_twosInModulusLessOne : GoodIn wsX1_isProvedCompositeBy (wsV RX1 99 RX1 yX1_twosInModulusLessOne wsX1_twosInModulusLessOne) := goodIn_app (goodIn_of _ (by decide +kernel)) ggX1_isProvedCompositeBy_X1_twosInModulusLessOne
set_option maxRecDepth 20000 in
theorem ggX1_isProvedCompositeBy_X1_subtractBelow : GoodIn wsX1_isProvedCompositeBy wsX1_subtractBelow := goodIn_r _ [53, 3, 5, 36, 37, 17, 38, 22, 54, 55, 56, 65, 66, 67, 68, 69, 70, 71, 72, 73, 74, 75, 76] (by decide +kernel) (by decide +kernel)
set_option maxRecDepth 20000 in
theorem gX1_isProvedCompositeBy_X1_subtractBelow : GoodIn wsX1_isProvedCompositeBy (wsV RX1 82 RX1 yX1_subtractBelow wsX1_subtractBelow) := goodIn_app (goodIn_of _ (by decide +kernel)) ggX1_isProvedCompositeBy_X1_subtractBelow
set_option maxRecDepth 20000 in
theorem ggX1_isProvedCompositeBy_X1_raise : GoodIn wsX1_isProvedCompositeBy wsX1_raise := goodIn_r _ [60, 6, 3, 26, 27, 17, 28, 61, 62, 63, 64, 48, 49, 8, 9, 10, 11, 12, 13, 5, 14, 15, 16, 18, 19, 20, 21, 22, 23, 24, 25, 29, 30, 31, 32, 33, 34, 35, 36, 37, 38, 47, 65, 66, 67, 68, 69, 70, 71, 72, 73, 74, 75, 76] (by decide +kernel) (by decide +kernel)
set_option maxRecDepth 20000 in
theorem gX1_isProvedCompositeBy_X1_raise : GoodIn wsX1_isProvedCompositeBy (wsV RX1 88 RX1 yX1_raise wsX1_raise) := goodIn_app (goodIn_of _ (by decide +kernel)) ggX1_isProvedCompositeBy_X1_raise
set_option maxRecDepth 20000 in
theorem ggX1_isProvedCompositeBy_X0_order : GoodIn wsX1_isProvedCompositeBy wsX0_order := goodIn_r _ [35, 22] (by decide +kernel) (by decide +kernel)
set_option maxRecDepth 20000 in
theorem gX1_isProvedCompositeBy_X0_order : GoodIn wsX1_isProvedCompositeBy (va_wsS RX1 103 yX0_order wsX0_order) := goodIn_app (goodIn_of _ (by decide +kernel)) ggX1_isProvedCompositeBy_X0_order
theorem dX1_isProvedCompositeBy_0 : decode cX1_isProvedCompositeBy 0 = .ok (.aload_n 0, 1) := by decide +kernel
theorem dX1_isProvedCompositeBy_1 : decode cX1_isProvedCompositeBy 1 = .ok (.aload_n 0, 1) := by decide +kernel
theorem dX1_isProvedCompositeBy_2 : decode cX1_isProvedCompositeBy 2 = .ok (.getfield 34, 3) := by decide +kernel
theorem dX1_isProvedCompositeBy_5 : decode cX1_isProvedCompositeBy 5 = .ok (.aload_n 1, 1) := by decide +kernel
theorem dX1_isProvedCompositeBy_6 : decode cX1_isProvedCompositeBy 6 = .ok (.aload_n 0, 1) := by decide +kernel
theorem dX1_isProvedCompositeBy_7 : decode cX1_isProvedCompositeBy 7 = .ok (.getfield 28, 3) := by decide +kernel
theorem dX1_isProvedCompositeBy_10 : decode cX1_isProvedCompositeBy 10 = .ok (.invokevirtual 71, 3) := by decide +kernel
theorem dX1_isProvedCompositeBy_13 : decode cX1_isProvedCompositeBy 13 = .ok (.aload_n 0, 1) := by decide +kernel
theorem dX1_isProvedCompositeBy_14 : decode cX1_isProvedCompositeBy 14 = .ok (.getfield 34, 3) := by decide +kernel
theorem dX1_isProvedCompositeBy_17 : decode cX1_isProvedCompositeBy 17 = .ok (.iconst 0, 1) := by decide +kernel
theorem dX1_isProvedCompositeBy_18 : decode cX1_isProvedCompositeBy 18 = .ok (.aload_n 0, 1) := by decide +kernel
theorem dX1_isProvedCompositeBy_19 : decode cX1_isProvedCompositeBy 19 = .ok (.getfield 9, 3) := by decide +kernel
theorem dX1_isProvedCompositeBy_22 : decode cX1_isProvedCompositeBy 22 = .ok (.invokestatic 55, 3) := by decide +kernel
theorem dX1_isProvedCompositeBy_25 : decode cX1_isProvedCompositeBy 25 = .ok (.ifCond .eq 5, 3) := by decide +kernel
theorem dX1_isProvedCompositeBy_28 : decode cX1_isProvedCompositeBy 28 = .ok (.iconst 0, 1) := by decide +kernel
theorem dX1_isProvedCompositeBy_29 : decode cX1_isProvedCompositeBy 29 = .ok (.ireturn, 1) := by decide +kernel
theorem dX1_isProvedCompositeBy_30 : decode cX1_isProvedCompositeBy 30 = .ok (.aload_n 0, 1) := by decide +kernel
theorem dX1_isProvedCompositeBy_31 : decode cX1_isProvedCompositeBy 31 = .ok (.invokevirtual 99, 3) := by decide +kernel
theorem dX1_isProvedCompositeBy_34 : decode cX1_isProvedCompositeBy 34 = .ok (.istore_n 2, 1) := by decide +kernel
theorem dX1_isProvedCompositeBy_35 : decode cX1_isProvedCompositeBy 35 = .ok (.aload_n 0, 1) := by decide +kernel
theorem dX1_isProvedCompositeBy_36 : decode cX1_isProvedCompositeBy 36 = .ok (.getfield 40, 3) := by decide +kernel
theorem dX1_isProvedCompositeBy_39 : decode cX1_isProvedCompositeBy 39 = .ok (.astore_n 3, 1) := by decide +kernel
theorem dX1_isProvedCompositeBy_40 : decode cX1_isProvedCompositeBy 40 = .ok (.aload_n 0, 1) := by decide +kernel
theorem dX1_isProvedCompositeBy_41 : decode cX1_isProvedCompositeBy 41 = .ok (.aload_n 3, 1) := by decide +kernel
theorem dX1_isProvedCompositeBy_42 : decode cX1_isProvedCompositeBy 42 = .ok (.aload_n 0, 1) := by decide +kernel
theorem dX1_isProvedCompositeBy_43 : decode cX1_isProvedCompositeBy 43 = .ok (.getfield 18, 3) := by decide +kernel
theorem dX1_isProvedCompositeBy_46 : decode cX1_isProvedCompositeBy 46 = .ok (.aload_n 0, 1) := by decide +kernel
theorem dX1_isProvedCompositeBy_47 : decode cX1_isProvedCompositeBy 47 = .ok (.getfield 25, 3) := by decide +kernel
theorem dX1_isProvedCompositeBy_50 : decode cX1_isProvedCompositeBy 50 = .ok (.invokevirtual 82, 3) := by decide +kernel
theorem dX1_isProvedCompositeBy_53 : decode cX1_isProvedCompositeBy 53 = .ok (.aload_n 0, 1) := by decide +kernel
theorem dX1_isProvedCompositeBy_54 : decode cX1_isProvedCompositeBy 54 = .ok (.aload_n 0, 1) := by decide +kernel
theorem dX1_isProvedCompositeBy_55 : decode cX1_isProvedCompositeBy 55 = .ok (.getfield 37, 3) := by decide +kernel
theorem dX1_isProvedCompositeBy_58 : decode cX1_isProvedCompositeBy 58 = .ok (.aload_n 0, 1) := by decide +kernel
theorem dX1_isProvedCompositeBy_59 : decode cX1_isProvedCompositeBy 59 = .ok (.getfield 34, 3) := by decide +kernel
theorem dX1_isProvedCompositeBy_62 : decode cX1_isProvedCompositeBy 62 = .ok (.aload_n 0, 1) := by decide +kernel
theorem dX1_isProvedCompositeBy_63 : decode cX1_isProvedCompositeBy 63 = .ok (.getfield 18, 3) := by decide +kernel
theorem dX1_isProvedCompositeBy_66 : decode cX1_isProvedCompositeBy 66 = .ok (.iload_n 2, 1) := by decide +kernel
theorem dX1_isProvedCompositeBy_67 : decode cX1_isProvedCompositeBy 67 = .ok (.invokevirtual 88, 3) := by decide +kernel
theorem dX1_isProvedCompositeBy_70 : decode cX1_isProvedCompositeBy 70 = .ok (.aload_n 0, 1) := by decide +kernel
theorem dX1_isProvedCompositeBy_71 : decode cX1_isProvedCompositeBy 71 = .ok (.getfield 37, 3) := by decide +kernel
theorem dX1_isProvedCompositeBy_74 : decode cX1_isProvedCompositeBy 74 = .ok (.aload_n 0, 1) := by decide +kernel
theorem dX1_isProvedCompositeBy_75 : decode cX1_isProvedCompositeBy 75 = .ok (.getfield 25, 3) := by decide +kernel
theorem dX1_isProvedCompositeBy_78 : decode cX1_isProvedCompositeBy 78 = .ok (.aload_n 0, 1) := by decide +kernel
theorem dX1_isProvedCompositeBy_79 : decode cX1_isProvedCompositeBy 79 = .ok (.getfield 9, 3) := by decide +kernel
theorem dX1_isProvedCompositeBy_82 : decode cX1_isProvedCompositeBy 82 = .ok (.invokestatic 103, 3) := by decide +kernel
theorem dX1_isProvedCompositeBy_85 : decode cX1_isProvedCompositeBy 85 = .ok (.ifCond .ne 5, 3) := by decide +kernel
theorem dX1_isProvedCompositeBy_88 : decode cX1_isProvedCompositeBy 88 = .ok (.iconst 0, 1) := by decide +kernel
theorem dX1_isProvedCompositeBy_89 : decode cX1_isProvedCompositeBy 89 = .ok (.ireturn, 1) := by decide +kernel
theorem dX1_isProvedCompositeBy_90 : decode cX1_isProvedCompositeBy 90 = .ok (.iconst 0, 1) := by decide +kernel
theorem dX1_isProvedCompositeBy_91 : decode cX1_isProvedCompositeBy 91 = .ok (.istore 4, 2) := by decide +kernel
theorem dX1_isProvedCompositeBy_93 : decode cX1_isProvedCompositeBy 93 = .ok (.iload 4, 2) := by decide +kernel
theorem dX1_isProvedCompositeBy_95 : decode cX1_isProvedCompositeBy 95 = .ok (.iload_n 2, 1) := by decide +kernel
theorem dX1_isProvedCompositeBy_96 : decode cX1_isProvedCompositeBy 96 = .ok (.if_icmp .ge 42, 3) := by decide +kernel
theorem dX1_isProvedCompositeBy_99 : decode cX1_isProvedCompositeBy 99 = .ok (.aload_n 0, 1) := by decide +kernel
theorem dX1_isProvedCompositeBy_100 : decode cX1_isProvedCompositeBy 100 = .ok (.getfield 37, 3) := by decide +kernel
theorem dX1_isProvedCompositeBy_103 : decode cX1_isProvedCompositeBy 103 = .ok (.aload_n 3, 1) := by decide +kernel
theorem dX1_isProvedCompositeBy_104 : decode cX1_isProvedCompositeBy 104 = .ok (.aload_n 0, 1) := by decide +kernel
theorem dX1_isProvedCompositeBy_105 : decode cX1_isProvedCompositeBy 105 = .ok (.getfield 9, 3) := by decide +kernel
theorem dX1_isProvedCompositeBy_108 : decode cX1_isProvedCompositeBy 108 = .ok (.invokestatic 103, 3) := by decide +kernel
theorem dX1_isProvedCompositeBy_111 : decode cX1_isProvedCompositeBy 111 = .ok (.ifCond .ne 5, 3) := by decide +kernel
theorem dX1_isProvedCompositeBy_114 : decode cX1_isProvedCompositeBy 114 = .ok (.iconst 0, 1) := by decide +kernel
theorem dX1_isProvedCompositeBy_115 : decode cX1_isProvedCompositeBy 115 = .ok (.ireturn, 1) := by decide +kernel
theorem dX1_isProvedCompositeBy_116 : decode cX1_isProvedCompositeBy 116 = .ok (.aload_n 0, 1) := by decide +kernel
theorem dX1_isProvedCompositeBy_117 : decode cX1_isProvedCompositeBy 117 = .ok (.aload_n 0, 1) := by decide +kernel
theorem dX1_isProvedCompositeBy_118 : decode cX1_isProvedCompositeBy 118 = .ok (.getfield 37, 3) := by decide +kernel
theorem dX1_isProvedCompositeBy_121 : decode cX1_isProvedCompositeBy 121 = .ok (.aload_n 0, 1) := by decide +kernel
theorem dX1_isProvedCompositeBy_122 : decode cX1_isProvedCompositeBy 122 = .ok (.getfield 37, 3) := by decide +kernel
theorem dX1_isProvedCompositeBy_125 : decode cX1_isProvedCompositeBy 125 = .ok (.aload_n 0, 1) := by decide +kernel
theorem dX1_isProvedCompositeBy_126 : decode cX1_isProvedCompositeBy 126 = .ok (.getfield 37, 3) := by decide +kernel
theorem dX1_isProvedCompositeBy_129 : decode cX1_isProvedCompositeBy 129 = .ok (.invokevirtual 71, 3) := by decide +kernel
theorem dX1_isProvedCompositeBy_132 : decode cX1_isProvedCompositeBy 132 = .ok (.iinc 4 1, 3) := by decide +kernel
theorem dX1_isProvedCompositeBy_135 : decode cX1_isProvedCompositeBy 135 = .ok (.goto (-42), 3) := by decide +kernel
theorem dX1_isProvedCompositeBy_138 : decode cX1_isProvedCompositeBy 138 = .ok (.iconst 1, 1) := by decide +kernel
theorem dX1_isProvedCompositeBy_139 : decode cX1_isProvedCompositeBy 139 = .ok (.ireturn, 1) := by decide +kernel
set_option maxRecDepth 20000 in
theorem ggX1_montgomery_X0_setSmall : GoodIn wsX1_montgomery wsX0_setSmall := goodIn_r _ [8] (by decide +kernel) (by decide +kernel)
set_option maxRecDepth 20000 in
theorem gX1_montgomery_X0_setSmall : GoodIn wsX1_montgomery (va_wsS RX1 92 yX0_setSmall wsX0_setSmall) := goodIn_app (goodIn_of _ (by decide +kernel)) ggX1_montgomery_X0_setSmall
set_option maxRecDepth 20000 in
theorem ggX1_montgomery_X0_addMultiple : GoodIn wsX1_montgomery wsX0_addMultiple := goodIn_r _ [11, 12] (by decide +kernel) (by decide +kernel)
set_option maxRecDepth 20000 in
theorem gX1_montgomery_X0_addMultiple : GoodIn wsX1_montgomery (va_wsS RX1 107 yX0_addMultiple wsX0_addMultiple) := goodIn_app (goodIn_of _ (by decide +kernel)) ggX1_montgomery_X0_addMultiple
set_option maxRecDepth 20000 in
theorem ggX1_montgomery_X0_dropLimb : GoodIn wsX1_montgomery wsX0_dropLimb := goodIn_r _ [15] (by decide +kernel) (by decide +kernel)
set_option maxRecDepth 20000 in
theorem gX1_montgomery_X0_dropLimb : GoodIn wsX1_montgomery (va_wsS RX1 111 yX0_dropLimb wsX0_dropLimb) := goodIn_app (goodIn_of _ (by decide +kernel)) ggX1_montgomery_X0_dropLimb
set_option maxRecDepth 20000 in
theorem ggX1_montgomery_X0_copy : GoodIn wsX1_montgomery wsX0_copy := goodIn_r _ [18] (by decide +kernel) (by decide +kernel)
set_option maxRecDepth 20000 in
theorem gX1_montgomery_X0_copy : GoodIn wsX1_montgomery (va_wsS RX1 63 yX0_copy wsX0_copy) := goodIn_app (goodIn_of _ (by decide +kernel)) ggX1_montgomery_X0_copy
set_option maxRecDepth 20000 in
theorem ggX1_montgomery_X1_bringBelow : GoodIn wsX1_montgomery wsX1_bringBelow := goodIn_r _ [23, 3, 2, 24, 25, 7, 26, 12, 27, 28, 29, 30, 31, 32, 33, 34, 35, 36, 37, 38, 39, 40, 41] (by decide +kernel) (by decide +kernel)
set_option maxRecDepth 20000 in
theorem gX1_montgomery_X1_bringBelow : GoodIn wsX1_montgomery (wsV RX1 115 RX1 yX1_bringBelow wsX1_bringBelow) := goodIn_app (goodIn_of _ (by decide +kernel)) ggX1_montgomery_X1_bringBelow
theorem dX1_montgomery_0 : decode cX1_montgomery 0 = .ok (.aload_n 0, 1) := by decide +kernel
theorem dX1_montgomery_1 : decode cX1_montgomery 1 = .ok (.getfield 31, 3) := by decide +kernel
theorem dX1_montgomery_4 : decode cX1_montgomery 4 = .ok (.iconst 0, 1) := by decide +kernel
theorem dX1_montgomery_5 : decode cX1_montgomery 5 = .ok (.aload_n 0, 1) := by decide +kernel
theorem dX1_montgomery_6 : decode cX1_montgomery 6 = .ok (.getfield 9, 3) := by decide +kernel
theorem dX1_montgomery_9 : decode cX1_montgomery 9 = .ok (.invokestatic 92, 3) := by decide +kernel
theorem dX1_montgomery_12 : decode cX1_montgomery 12 = .ok (.lconst 0, 1) := by decide +kernel
theorem dX1_montgomery_13 : decode cX1_montgomery 13 = .ok (.lstore 4, 2) := by decide +kernel
theorem dX1_montgomery_15 : decode cX1_montgomery 15 = .ok (.iconst 0, 1) := by decide +kernel
theorem dX1_montgomery_16 : decode cX1_montgomery 16 = .ok (.istore 6, 2) := by decide +kernel
theorem dX1_montgomery_18 : decode cX1_montgomery 18 = .ok (.iload 6, 2) := by decide +kernel
theorem dX1_montgomery_20 : decode cX1_montgomery 20 = .ok (.aload_n 0, 1) := by decide +kernel
theorem dX1_montgomery_21 : decode cX1_montgomery 21 = .ok (.getfield 9, 3) := by decide +kernel
theorem dX1_montgomery_24 : decode cX1_montgomery 24 = .ok (.if_icmp .ge 76, 3) := by decide +kernel
theorem dX1_montgomery_27 : decode cX1_montgomery 27 = .ok (.lload 4, 2) := by decide +kernel
end
section
theorem dX1_montgomery_29 : decode cX1_montgomery 29 = .ok (.aload_n 0, 1) := by decide +kernel
theorem dX1_montgomery_30 : decode cX1_montgomery 30 = .ok (.getfield 31, 3) := by decide +kernel
theorem dX1_montgomery_33 : decode cX1_montgomery 33 = .ok (.aload_n 3, 1) := by decide +kernel
theorem dX1_montgomery_34 : decode cX1_montgomery 34 = .ok (.aload_n 2, 1) := by decide +kernel
theorem dX1_montgomery_35 : decode cX1_montgomery 35 = .ok (.iload 6, 2) := by decide +kernel
theorem dX1_montgomery_37 : decode cX1_montgomery 37 = .ok (.iaload, 1) := by decide +kernel
theorem dX1_montgomery_38 : decode cX1_montgomery 38 = .ok (.aload_n 0, 1) := by decide +kernel
theorem dX1_montgomery_39 : decode cX1_montgomery 39 = .ok (.getfield 9, 3) := by decide +kernel
theorem dX1_montgomery_42 : decode cX1_montgomery 42 = .ok (.invokestatic 107, 3) := by decide +kernel
theorem dX1_montgomery_45 : decode cX1_montgomery 45 = .ok (.ladd, 1) := by decide +kernel
theorem dX1_montgomery_46 : decode cX1_montgomery 46 = .ok (.lstore 4, 2) := by decide +kernel
theorem dX1_montgomery_48 : decode cX1_montgomery 48 = .ok (.lload 4, 2) := by decide +kernel
theorem dX1_montgomery_50 : decode cX1_montgomery 50 = .ok (.aload_n 0, 1) := by decide +kernel
theorem dX1_montgomery_51 : decode cX1_montgomery 51 = .ok (.getfield 31, 3) := by decide +kernel
theorem dX1_montgomery_54 : decode cX1_montgomery 54 = .ok (.aload_n 0, 1) := by decide +kernel
theorem dX1_montgomery_55 : decode cX1_montgomery 55 = .ok (.getfield 18, 3) := by decide +kernel
theorem dX1_montgomery_58 : decode cX1_montgomery 58 = .ok (.aload_n 0, 1) := by decide +kernel
theorem dX1_montgomery_59 : decode cX1_montgomery 59 = .ok (.getfield 31, 3) := by decide +kernel
theorem dX1_montgomery_62 : decode cX1_montgomery 62 = .ok (.iconst 0, 1) := by decide +kernel
theorem dX1_montgomery_63 : decode cX1_montgomery 63 = .ok (.iaload, 1) := by decide +kernel
theorem dX1_montgomery_64 : decode cX1_montgomery 64 = .ok (.aload_n 0, 1) := by decide +kernel
theorem dX1_montgomery_65 : decode cX1_montgomery 65 = .ok (.getfield 46, 3) := by decide +kernel
theorem dX1_montgomery_68 : decode cX1_montgomery 68 = .ok (.imul, 1) := by decide +kernel
theorem dX1_montgomery_69 : decode cX1_montgomery 69 = .ok (.aload_n 0, 1) := by decide +kernel
theorem dX1_montgomery_70 : decode cX1_montgomery 70 = .ok (.getfield 9, 3) := by decide +kernel
theorem dX1_montgomery_73 : decode cX1_montgomery 73 = .ok (.invokestatic 107, 3) := by decide +kernel
theorem dX1_montgomery_76 : decode cX1_montgomery 76 = .ok (.ladd, 1) := by decide +kernel
theorem dX1_montgomery_77 : decode cX1_montgomery 77 = .ok (.lstore 4, 2) := by decide +kernel
theorem dX1_montgomery_79 : decode cX1_montgomery 79 = .ok (.aload_n 0, 1) := by decide +kernel
theorem dX1_montgomery_80 : decode cX1_montgomery 80 = .ok (.getfield 31, 3) := by decide +kernel
theorem dX1_montgomery_83 : decode cX1_montgomery 83 = .ok (.lload 4, 2) := by decide +kernel
theorem dX1_montgomery_85 : decode cX1_montgomery 85 = .ok (.aload_n 0, 1) := by decide +kernel
theorem dX1_montgomery_86 : decode cX1_montgomery 86 = .ok (.getfield 9, 3) := by decide +kernel
theorem dX1_montgomery_89 : decode cX1_montgomery 89 = .ok (.invokestatic 111, 3) := by decide +kernel
theorem dX1_montgomery_92 : decode cX1_montgomery 92 = .ok (.lstore 4, 2) := by decide +kernel
theorem dX1_montgomery_94 : decode cX1_montgomery 94 = .ok (.iinc 6 1, 3) := by decide +kernel
theorem dX1_montgomery_97 : decode cX1_montgomery 97 = .ok (.goto (-79), 3) := by decide +kernel
theorem dX1_montgomery_100 : decode cX1_montgomery 100 = .ok (.aload_n 1, 1) := by decide +kernel
theorem dX1_montgomery_101 : decode cX1_montgomery 101 = .ok (.aload_n 0, 1) := by decide +kernel
theorem dX1_montgomery_102 : decode cX1_montgomery 102 = .ok (.getfield 31, 3) := by decide +kernel
theorem dX1_montgomery_105 : decode cX1_montgomery 105 = .ok (.aload_n 0, 1) := by decide +kernel
theorem dX1_montgomery_106 : decode cX1_montgomery 106 = .ok (.getfield 9, 3) := by decide +kernel
theorem dX1_montgomery_109 : decode cX1_montgomery 109 = .ok (.invokestatic 63, 3) := by decide +kernel
theorem dX1_montgomery_112 : decode cX1_montgomery 112 = .ok (.aload_n 0, 1) := by decide +kernel
theorem dX1_montgomery_113 : decode cX1_montgomery 113 = .ok (.aload_n 1, 1) := by decide +kernel
theorem dX1_montgomery_114 : decode cX1_montgomery 114 = .ok (.lload 4, 2) := by decide +kernel
theorem dX1_montgomery_116 : decode cX1_montgomery 116 = .ok (.invokevirtual 115, 3) := by decide +kernel
theorem dX1_montgomery_119 : decode cX1_montgomery 119 = .ok (.return_, 1) := by decide +kernel
set_option maxRecDepth 20000 in
theorem ggX1_raise_X0_copy : GoodIn wsX1_raise wsX0_copy := goodIn_r _ [6] (by decide +kernel) (by decide +kernel)
set_option maxRecDepth 20000 in
theorem gX1_raise_X0_copy : GoodIn wsX1_raise (va_wsS RX1 63 yX0_copy wsX0_copy) := goodIn_app (goodIn_of _ (by decide +kernel)) ggX1_raise_X0_copy
set_option maxRecDepth 20000 in
theorem ggX1_raise_X0_highestBit : GoodIn wsX1_raise wsX0_highestBit := goodIn_r _ [9, 10, 11, 5, 12] (by decide +kernel) (by decide +kernel)
set_option maxRecDepth 20000 in
theorem gX1_raise_X0_highestBit : GoodIn wsX1_raise (va_wsS RX1 119 yX0_highestBit wsX0_highestBit) := goodIn_app (goodIn_of _ (by decide +kernel)) ggX1_raise_X0_highestBit
set_option maxRecDepth 20000 in
theorem ggX1_raise_X1_montgomery : GoodIn wsX1_raise wsX1_montgomery := goodIn_r _ [17, 18, 2, 19, 20, 21, 22, 5, 23, 24, 25, 26, 27, 28, 29, 30, 3, 4, 6, 31, 32, 33, 16, 34, 35, 36, 37, 38, 39, 40, 42, 43, 44, 45, 46, 47, 48, 49, 50, 51, 52, 53] (by decide +kernel) (by decide +kernel)
set_option maxRecDepth 20000 in
theorem gX1_raise_X1_montgomery : GoodIn wsX1_raise (wsV RX1 71 RX1 yX1_montgomery wsX1_montgomery) := goodIn_app (goodIn_of _ (by decide +kernel)) ggX1_raise_X1_montgomery
set_option maxRecDepth 20000 in
theorem ggX1_raise_X0_isBitSet : GoodIn wsX1_raise wsX0_isBitSet := goodIn_r _ [12] (by decide +kernel) (by decide +kernel)
set_option maxRecDepth 20000 in
theorem gX1_raise_X0_isBitSet : GoodIn wsX1_raise (va_wsS RX1 123 yX0_isBitSet wsX0_isBitSet) := goodIn_app (goodIn_of _ (by decide +kernel)) ggX1_raise_X0_isBitSet
theorem dX1_raise_0 : decode cX1_raise 0 = .ok (.aload_n 1, 1) := by decide +kernel
theorem dX1_raise_1 : decode cX1_raise 1 = .ok (.aload_n 0, 1) := by decide +kernel
theorem dX1_raise_2 : decode cX1_raise 2 = .ok (.getfield 25, 3) := by decide +kernel
theorem dX1_raise_5 : decode cX1_raise 5 = .ok (.aload_n 0, 1) := by decide +kernel
theorem dX1_raise_6 : decode cX1_raise 6 = .ok (.getfield 9, 3) := by decide +kernel
theorem dX1_raise_9 : decode cX1_raise 9 = .ok (.invokestatic 63, 3) := by decide +kernel
theorem dX1_raise_12 : decode cX1_raise 12 = .ok (.aload_n 3, 1) := by decide +kernel
theorem dX1_raise_13 : decode cX1_raise 13 = .ok (.aload_n 0, 1) := by decide +kernel
theorem dX1_raise_14 : decode cX1_raise 14 = .ok (.getfield 9, 3) := by decide +kernel
theorem dX1_raise_17 : decode cX1_raise 17 = .ok (.invokestatic 119, 3) := by decide +kernel
theorem dX1_raise_20 : decode cX1_raise 20 = .ok (.istore 5, 2) := by decide +kernel
theorem dX1_raise_22 : decode cX1_raise 22 = .ok (.iload 5, 2) := by decide +kernel
theorem dX1_raise_24 : decode cX1_raise 24 = .ok (.iload 4, 2) := by decide +kernel
theorem dX1_raise_26 : decode cX1_raise 26 = .ok (.if_icmp .lt 32, 3) := by decide +kernel
theorem dX1_raise_29 : decode cX1_raise 29 = .ok (.aload_n 0, 1) := by decide +kernel
theorem dX1_raise_30 : decode cX1_raise 30 = .ok (.aload_n 1, 1) := by decide +kernel
theorem dX1_raise_31 : decode cX1_raise 31 = .ok (.aload_n 1, 1) := by decide +kernel
theorem dX1_raise_32 : decode cX1_raise 32 = .ok (.aload_n 1, 1) := by decide +kernel
theorem dX1_raise_33 : decode cX1_raise 33 = .ok (.invokevirtual 71, 3) := by decide +kernel
theorem dX1_raise_36 : decode cX1_raise 36 = .ok (.aload_n 3, 1) := by decide +kernel
theorem dX1_raise_37 : decode cX1_raise 37 = .ok (.iload 5, 2) := by decide +kernel
theorem dX1_raise_39 : decode cX1_raise 39 = .ok (.invokestatic 123, 3) := by decide +kernel
theorem dX1_raise_42 : decode cX1_raise 42 = .ok (.ifCond .eq 10, 3) := by decide +kernel
theorem dX1_raise_45 : decode cX1_raise 45 = .ok (.aload_n 0, 1) := by decide +kernel
theorem dX1_raise_46 : decode cX1_raise 46 = .ok (.aload_n 1, 1) := by decide +kernel
theorem dX1_raise_47 : decode cX1_raise 47 = .ok (.aload_n 1, 1) := by decide +kernel
theorem dX1_raise_48 : decode cX1_raise 48 = .ok (.aload_n 2, 1) := by decide +kernel
theorem dX1_raise_49 : decode cX1_raise 49 = .ok (.invokevirtual 71, 3) := by decide +kernel
theorem dX1_raise_52 : decode cX1_raise 52 = .ok (.iinc 5 (-1), 3) := by decide +kernel
theorem dX1_raise_55 : decode cX1_raise 55 = .ok (.goto (-33), 3) := by decide +kernel
theorem dX1_raise_58 : decode cX1_raise 58 = .ok (.return_, 1) := by decide +kernel
set_option maxRecDepth 20000 in
theorem ggX1_stepTowardsDivisor_X0_isOdd : GoodIn wsX1_stepTowardsDivisor wsX0_isOdd := goodIn_r _ [9] (by decide +kernel) (by decide +kernel)
set_option maxRecDepth 20000 in
theorem gX1_stepTowardsDivisor_X0_isOdd : GoodIn wsX1_stepTowardsDivisor (va_wsS RX1 49 yX0_isOdd wsX0_isOdd) := goodIn_app (goodIn_of _ (by decide +kernel)) ggX1_stepTowardsDivisor_X0_isOdd
set_option maxRecDepth 20000 in
theorem ggX1_stepTowardsDivisor_X0_halve : GoodIn wsX1_stepTowardsDivisor wsX0_halve := goodIn_r _ [12, 13] (by decide +kernel) (by decide +kernel)
set_option maxRecDepth 20000 in
theorem gX1_stepTowardsDivisor_X0_halve : GoodIn wsX1_stepTowardsDivisor (va_wsS RX1 127 yX0_halve wsX0_halve) := goodIn_app (goodIn_of _ (by decide +kernel)) ggX1_stepTowardsDivisor_X0_halve
set_option maxRecDepth 20000 in
theorem ggX1_stepTowardsDivisor_X1_halveBelow : GoodIn wsX1_stepTowardsDivisor wsX1_halveBelow := goodIn_r _ [18, 19, 2, 6, 7, 8, 9, 20, 21, 22, 13, 10, 11, 12, 36, 37, 38, 39, 40, 41, 42, 43, 44, 45, 46, 47] (by decide +kernel) (by decide +kernel)
set_option maxRecDepth 20000 in
theorem gX1_stepTowardsDivisor_X1_halveBelow : GoodIn wsX1_stepTowardsDivisor (wsV RX1 131 RX1 yX1_halveBelow wsX1_halveBelow) := goodIn_app (goodIn_of _ (by decide +kernel)) ggX1_stepTowardsDivisor_X1_halveBelow
set_option maxRecDepth 20000 in
theorem ggX1_stepTowardsDivisor_X0_order : GoodIn wsX1_stepTowardsDivisor wsX0_order := goodIn_r _ [25, 13] (by decide +kernel) (by decide +kernel)
set_option maxRecDepth 20000 in
theorem gX1_stepTowardsDivisor_X0_order : GoodIn wsX1_stepTowardsDivisor (va_wsS RX1 103 yX0_order wsX0_order) := goodIn_app (goodIn_of _ (by decide +kernel)) ggX1_stepTowardsDivisor_X0_order
set_option maxRecDepth 20000 in
theorem ggX1_stepTowardsDivisor_X0_swap : GoodIn wsX1_stepTowardsDivisor wsX0_swap := goodIn_r _ [28] (by decide +kernel) (by decide +kernel)
set_option maxRecDepth 20000 in
theorem gX1_stepTowardsDivisor_X0_swap : GoodIn wsX1_stepTowardsDivisor (va_wsS RX1 134 yX0_swap wsX0_swap) := goodIn_app (goodIn_of _ (by decide +kernel)) ggX1_stepTowardsDivisor_X0_swap
set_option maxRecDepth 20000 in
theorem ggX1_stepTowardsDivisor_X0_subtract : GoodIn wsX1_stepTowardsDivisor wsX0_subtract := goodIn_r _ [31, 13] (by decide +kernel) (by decide +kernel)
set_option maxRecDepth 20000 in
theorem gX1_stepTowardsDivisor_X0_subtract : GoodIn wsX1_stepTowardsDivisor (va_wsS RX1 137 yX0_subtract wsX0_subtract) := goodIn_app (goodIn_of _ (by decide +kernel)) ggX1_stepTowardsDivisor_X0_subtract
set_option maxRecDepth 20000 in
theorem ggX1_stepTowardsDivisor_X1_subtractBelow : GoodIn wsX1_stepTowardsDivisor wsX1_subtractBelow := goodIn_r _ [35, 2, 19, 29, 30, 8, 31, 13, 20, 21, 22, 36, 37, 38, 39, 40, 41, 42, 43, 44, 45, 46, 47] (by decide +kernel) (by decide +kernel)
set_option maxRecDepth 20000 in
theorem gX1_stepTowardsDivisor_X1_subtractBelow : GoodIn wsX1_stepTowardsDivisor (wsV RX1 82 RX1 yX1_subtractBelow wsX1_subtractBelow) := goodIn_app (goodIn_of _ (by decide +kernel)) ggX1_stepTowardsDivisor_X1_subtractBelow
theorem dX1_stepTowardsDivisor_0 : decode cX1_stepTowardsDivisor 0 = .ok (.aload_n 0, 1) := by decide +kernel
theorem dX1_stepTowardsDivisor_1 : decode cX1_stepTowardsDivisor 1 = .ok (.getfield 34, 3) := by decide +kernel
theorem dX1_stepTowardsDivisor_4 : decode cX1_stepTowardsDivisor 4 = .ok (.invokestatic 49, 3) := by decide +kernel
theorem dX1_stepTowardsDivisor_7 : decode cX1_stepTowardsDivisor 7 = .ok (.ifCond .ne 24, 3) := by decide +kernel
theorem dX1_stepTowardsDivisor_10 : decode cX1_stepTowardsDivisor 10 = .ok (.aload_n 0, 1) := by decide +kernel
theorem dX1_stepTowardsDivisor_11 : decode cX1_stepTowardsDivisor 11 = .ok (.getfield 34, 3) := by decide +kernel
theorem dX1_stepTowardsDivisor_14 : decode cX1_stepTowardsDivisor 14 = .ok (.lconst 0, 1) := by decide +kernel
theorem dX1_stepTowardsDivisor_15 : decode cX1_stepTowardsDivisor 15 = .ok (.aload_n 0, 1) := by decide +kernel
theorem dX1_stepTowardsDivisor_16 : decode cX1_stepTowardsDivisor 16 = .ok (.getfield 9, 3) := by decide +kernel
theorem dX1_stepTowardsDivisor_19 : decode cX1_stepTowardsDivisor 19 = .ok (.invokestatic 127, 3) := by decide +kernel
theorem dX1_stepTowardsDivisor_22 : decode cX1_stepTowardsDivisor 22 = .ok (.aload_n 0, 1) := by decide +kernel
theorem dX1_stepTowardsDivisor_23 : decode cX1_stepTowardsDivisor 23 = .ok (.aload_n 0, 1) := by decide +kernel
theorem dX1_stepTowardsDivisor_24 : decode cX1_stepTowardsDivisor 24 = .ok (.getfield 40, 3) := by decide +kernel
theorem dX1_stepTowardsDivisor_27 : decode cX1_stepTowardsDivisor 27 = .ok (.invokevirtual 131, 3) := by decide +kernel
theorem dX1_stepTowardsDivisor_30 : decode cX1_stepTowardsDivisor 30 = .ok (.return_, 1) := by decide +kernel
theorem dX1_stepTowardsDivisor_31 : decode cX1_stepTowardsDivisor 31 = .ok (.aload_n 0, 1) := by decide +kernel
theorem dX1_stepTowardsDivisor_32 : decode cX1_stepTowardsDivisor 32 = .ok (.getfield 34, 3) := by decide +kernel
theorem dX1_stepTowardsDivisor_35 : decode cX1_stepTowardsDivisor 35 = .ok (.aload_n 0, 1) := by decide +kernel
theorem dX1_stepTowardsDivisor_36 : decode cX1_stepTowardsDivisor 36 = .ok (.getfield 37, 3) := by decide +kernel
theorem dX1_stepTowardsDivisor_39 : decode cX1_stepTowardsDivisor 39 = .ok (.aload_n 0, 1) := by decide +kernel
theorem dX1_stepTowardsDivisor_40 : decode cX1_stepTowardsDivisor 40 = .ok (.getfield 9, 3) := by decide +kernel
theorem dX1_stepTowardsDivisor_43 : decode cX1_stepTowardsDivisor 43 = .ok (.invokestatic 103, 3) := by decide +kernel
theorem dX1_stepTowardsDivisor_46 : decode cX1_stepTowardsDivisor 46 = .ok (.ifCond .ge 33, 3) := by decide +kernel
theorem dX1_stepTowardsDivisor_49 : decode cX1_stepTowardsDivisor 49 = .ok (.aload_n 0, 1) := by decide +kernel
theorem dX1_stepTowardsDivisor_50 : decode cX1_stepTowardsDivisor 50 = .ok (.getfield 34, 3) := by decide +kernel
theorem dX1_stepTowardsDivisor_53 : decode cX1_stepTowardsDivisor 53 = .ok (.aload_n 0, 1) := by decide +kernel
theorem dX1_stepTowardsDivisor_54 : decode cX1_stepTowardsDivisor 54 = .ok (.getfield 37, 3) := by decide +kernel
theorem dX1_stepTowardsDivisor_57 : decode cX1_stepTowardsDivisor 57 = .ok (.aload_n 0, 1) := by decide +kernel
theorem dX1_stepTowardsDivisor_58 : decode cX1_stepTowardsDivisor 58 = .ok (.getfield 9, 3) := by decide +kernel
theorem dX1_stepTowardsDivisor_61 : decode cX1_stepTowardsDivisor 61 = .ok (.invokestatic 134, 3) := by decide +kernel
theorem dX1_stepTowardsDivisor_64 : decode cX1_stepTowardsDivisor 64 = .ok (.aload_n 0, 1) := by decide +kernel
theorem dX1_stepTowardsDivisor_65 : decode cX1_stepTowardsDivisor 65 = .ok (.getfield 40, 3) := by decide +kernel
theorem dX1_stepTowardsDivisor_68 : decode cX1_stepTowardsDivisor 68 = .ok (.aload_n 0, 1) := by decide +kernel
theorem dX1_stepTowardsDivisor_69 : decode cX1_stepTowardsDivisor 69 = .ok (.getfield 43, 3) := by decide +kernel
theorem dX1_stepTowardsDivisor_72 : decode cX1_stepTowardsDivisor 72 = .ok (.aload_n 0, 1) := by decide +kernel
theorem dX1_stepTowardsDivisor_73 : decode cX1_stepTowardsDivisor 73 = .ok (.getfield 9, 3) := by decide +kernel
theorem dX1_stepTowardsDivisor_76 : decode cX1_stepTowardsDivisor 76 = .ok (.invokestatic 134, 3) := by decide +kernel
theorem dX1_stepTowardsDivisor_79 : decode cX1_stepTowardsDivisor 79 = .ok (.aload_n 0, 1) := by decide +kernel
theorem dX1_stepTowardsDivisor_80 : decode cX1_stepTowardsDivisor 80 = .ok (.getfield 34, 3) := by decide +kernel
theorem dX1_stepTowardsDivisor_83 : decode cX1_stepTowardsDivisor 83 = .ok (.aload_n 0, 1) := by decide +kernel
theorem dX1_stepTowardsDivisor_84 : decode cX1_stepTowardsDivisor 84 = .ok (.getfield 34, 3) := by decide +kernel
theorem dX1_stepTowardsDivisor_87 : decode cX1_stepTowardsDivisor 87 = .ok (.aload_n 0, 1) := by decide +kernel
theorem dX1_stepTowardsDivisor_88 : decode cX1_stepTowardsDivisor 88 = .ok (.getfield 37, 3) := by decide +kernel
theorem dX1_stepTowardsDivisor_91 : decode cX1_stepTowardsDivisor 91 = .ok (.aload_n 0, 1) := by decide +kernel
theorem dX1_stepTowardsDivisor_92 : decode cX1_stepTowardsDivisor 92 = .ok (.getfield 9, 3) := by decide +kernel
theorem dX1_stepTowardsDivisor_95 : decode cX1_stepTowardsDivisor 95 = .ok (.invokestatic 137, 3) := by decide +kernel
theorem dX1_stepTowardsDivisor_98 : decode cX1_stepTowardsDivisor 98 = .ok (.pop, 1) := by decide +kernel
theorem dX1_stepTowardsDivisor_99 : decode cX1_stepTowardsDivisor 99 = .ok (.aload_n 0, 1) := by decide +kernel
theorem dX1_stepTowardsDivisor_100 : decode cX1_stepTowardsDivisor 100 = .ok (.aload_n 0, 1) := by decide +kernel
theorem dX1_stepTowardsDivisor_101 : decode cX1_stepTowardsDivisor 101 = .ok (.getfield 40, 3) := by decide +kernel
theorem dX1_stepTowardsDivisor_104 : decode cX1_stepTowardsDivisor 104 = .ok (.aload_n 0, 1) := by decide +kernel
theorem dX1_stepTowardsDivisor_105 : decode cX1_stepTowardsDivisor 105 = .ok (.getfield 40, 3) := by decide +kernel
theorem dX1_stepTowardsDivisor_108 : decode cX1_stepTowardsDivisor 108 = .ok (.aload_n 0, 1) := by decide +kernel
theorem dX1_stepTowardsDivisor_109 : decode cX1_stepTowardsDivisor 109 = .ok (.getfield 43, 3) := by decide +kernel
theorem dX1_stepTowardsDivisor_112 : decode cX1_stepTowardsDivisor 112 = .ok (.invokevirtual 82, 3) := by decide +kernel
theorem dX1_stepTowardsDivisor_115 : decode cX1_stepTowardsDivisor 115 = .ok (.return_, 1) := by decide +kernel
set_option maxRecDepth 20000 in
theorem ggX1_addBelow_X0_add : GoodIn wsX1_addBelow wsX0_add := goodIn_r _ [5, 6] (by decide +kernel) (by decide +kernel)
set_option maxRecDepth 20000 in
theorem gX1_addBelow_X0_add : GoodIn wsX1_addBelow (va_wsS RX1 141 yX0_add wsX0_add) := goodIn_app (goodIn_of _ (by decide +kernel)) ggX1_addBelow_X0_add
set_option maxRecDepth 20000 in
theorem ggX1_addBelow_X1_bringBelow : GoodIn wsX1_addBelow wsX1_bringBelow := goodIn_r _ [11, 12, 1, 13, 14, 4, 15, 6, 16, 17, 18, 19, 20, 21, 22, 23, 24, 25, 26, 27, 28, 29, 30] (by decide +kernel) (by decide +kernel)
set_option maxRecDepth 20000 in
theorem gX1_addBelow_X1_bringBelow : GoodIn wsX1_addBelow (wsV RX1 115 RX1 yX1_bringBelow wsX1_bringBelow) := goodIn_app (goodIn_of _ (by decide +kernel)) ggX1_addBelow_X1_bringBelow
theorem dX1_addBelow_0 : decode cX1_addBelow 0 = .ok (.aload_n 1, 1) := by decide +kernel
theorem dX1_addBelow_1 : decode cX1_addBelow 1 = .ok (.aload_n 2, 1) := by decide +kernel
theorem dX1_addBelow_2 : decode cX1_addBelow 2 = .ok (.aload_n 3, 1) := by decide +kernel
theorem dX1_addBelow_3 : decode cX1_addBelow 3 = .ok (.aload_n 0, 1) := by decide +kernel
theorem dX1_addBelow_4 : decode cX1_addBelow 4 = .ok (.getfield 9, 3) := by decide +kernel
theorem dX1_addBelow_7 : decode cX1_addBelow 7 = .ok (.invokestatic 141, 3) := by decide +kernel
theorem dX1_addBelow_10 : decode cX1_addBelow 10 = .ok (.lstore 4, 2) := by decide +kernel
theorem dX1_addBelow_12 : decode cX1_addBelow 12 = .ok (.aload_n 0, 1) := by decide +kernel
theorem dX1_addBelow_13 : decode cX1_addBelow 13 = .ok (.aload_n 1, 1) := by decide +kernel
theorem dX1_addBelow_14 : decode cX1_addBelow 14 = .ok (.lload 4, 2) := by decide +kernel
theorem dX1_addBelow_16 : decode cX1_addBelow 16 = .ok (.invokevirtual 115, 3) := by decide +kernel
theorem dX1_addBelow_19 : decode cX1_addBelow 19 = .ok (.return_, 1) := by decide +kernel
set_option maxRecDepth 20000 in
theorem ggX1_subtractBelow_X0_subtract : GoodIn wsX1_subtractBelow wsX0_subtract := goodIn_r _ [6, 7] (by decide +kernel) (by decide +kernel)
set_option maxRecDepth 20000 in
theorem gX1_subtractBelow_X0_subtract : GoodIn wsX1_subtractBelow (va_wsS RX1 137 yX0_subtract wsX0_subtract) := goodIn_app (goodIn_of _ (by decide +kernel)) ggX1_subtractBelow_X0_subtract
set_option maxRecDepth 20000 in
theorem ggX1_subtractBelow_X0_add : GoodIn wsX1_subtractBelow wsX0_add := goodIn_r _ [10, 7] (by decide +kernel) (by decide +kernel)
set_option maxRecDepth 20000 in
theorem gX1_subtractBelow_X0_add : GoodIn wsX1_subtractBelow (va_wsS RX1 141 yX0_add wsX0_add) := goodIn_app (goodIn_of _ (by decide +kernel)) ggX1_subtractBelow_X0_add
theorem dX1_subtractBelow_0 : decode cX1_subtractBelow 0 = .ok (.aload_n 1, 1) := by decide +kernel
theorem dX1_subtractBelow_1 : decode cX1_subtractBelow 1 = .ok (.aload_n 2, 1) := by decide +kernel
theorem dX1_subtractBelow_2 : decode cX1_subtractBelow 2 = .ok (.aload_n 3, 1) := by decide +kernel
theorem dX1_subtractBelow_3 : decode cX1_subtractBelow 3 = .ok (.aload_n 0, 1) := by decide +kernel
theorem dX1_subtractBelow_4 : decode cX1_subtractBelow 4 = .ok (.getfield 9, 3) := by decide +kernel
theorem dX1_subtractBelow_7 : decode cX1_subtractBelow 7 = .ok (.invokestatic 137, 3) := by decide +kernel
theorem dX1_subtractBelow_10 : decode cX1_subtractBelow 10 = .ok (.ifCond .eq 17, 3) := by decide +kernel
theorem dX1_subtractBelow_13 : decode cX1_subtractBelow 13 = .ok (.aload_n 1, 1) := by decide +kernel
theorem dX1_subtractBelow_14 : decode cX1_subtractBelow 14 = .ok (.aload_n 1, 1) := by decide +kernel
theorem dX1_subtractBelow_15 : decode cX1_subtractBelow 15 = .ok (.aload_n 0, 1) := by decide +kernel
theorem dX1_subtractBelow_16 : decode cX1_subtractBelow 16 = .ok (.getfield 18, 3) := by decide +kernel
theorem dX1_subtractBelow_19 : decode cX1_subtractBelow 19 = .ok (.aload_n 0, 1) := by decide +kernel
theorem dX1_subtractBelow_20 : decode cX1_subtractBelow 20 = .ok (.getfield 9, 3) := by decide +kernel
theorem dX1_subtractBelow_23 : decode cX1_subtractBelow 23 = .ok (.invokestatic 141, 3) := by decide +kernel
theorem dX1_subtractBelow_26 : decode cX1_subtractBelow 26 = .ok (.pop2, 1) := by decide +kernel
theorem dX1_subtractBelow_27 : decode cX1_subtractBelow 27 = .ok (.return_, 1) := by decide +kernel
set_option maxRecDepth 20000 in
theorem ggX1_halveBelow_X0_isOdd : GoodIn wsX1_halveBelow wsX0_isOdd := goodIn_r _ [6] (by decide +kernel) (by decide +kernel)
set_option maxRecDepth 20000 in
theorem gX1_halveBelow_X0_isOdd : GoodIn wsX1_halveBelow (va_wsS RX1 49 yX0_isOdd wsX0_isOdd) := goodIn_app (goodIn_of _ (by decide +kernel)) ggX1_halveBelow_X0_isOdd
set_option maxRecDepth 20000 in
theorem ggX1_halveBelow_X0_add : GoodIn wsX1_halveBelow wsX0_add := goodIn_r _ [9, 10] (by decide +kernel) (by decide +kernel)
set_option maxRecDepth 20000 in
theorem gX1_halveBelow_X0_add : GoodIn wsX1_halveBelow (va_wsS RX1 141 yX0_add wsX0_add) := goodIn_app (goodIn_of _ (by decide +kernel)) ggX1_halveBelow_X0_add
set_option maxRecDepth 20000 in
theorem ggX1_halveBelow_X0_halve : GoodIn wsX1_halveBelow wsX0_halve := goodIn_r _ [13, 10] (by decide +kernel) (by decide +kernel)
set_option maxRecDepth 20000 in
theorem gX1_halveBelow_X0_halve : GoodIn wsX1_halveBelow (va_wsS RX1 127 yX0_halve wsX0_halve) := goodIn_app (goodIn_of _ (by decide +kernel)) ggX1_halveBelow_X0_halve
theorem dX1_halveBelow_0 : decode cX1_halveBelow 0 = .ok (.aload_n 1, 1) := by decide +kernel
theorem dX1_halveBelow_1 : decode cX1_halveBelow 1 = .ok (.invokestatic 49, 3) := by decide +kernel
theorem dX1_halveBelow_4 : decode cX1_halveBelow 4 = .ok (.ifCond .eq 19, 3) := by decide +kernel
theorem dX1_halveBelow_7 : decode cX1_halveBelow 7 = .ok (.aload_n 1, 1) := by decide +kernel
theorem dX1_halveBelow_8 : decode cX1_halveBelow 8 = .ok (.aload_n 1, 1) := by decide +kernel
theorem dX1_halveBelow_9 : decode cX1_halveBelow 9 = .ok (.aload_n 0, 1) := by decide +kernel
theorem dX1_halveBelow_10 : decode cX1_halveBelow 10 = .ok (.getfield 18, 3) := by decide +kernel
theorem dX1_halveBelow_13 : decode cX1_halveBelow 13 = .ok (.aload_n 0, 1) := by decide +kernel
theorem dX1_halveBelow_14 : decode cX1_halveBelow 14 = .ok (.getfield 9, 3) := by decide +kernel
theorem dX1_halveBelow_17 : decode cX1_halveBelow 17 = .ok (.invokestatic 141, 3) := by decide +kernel
theorem dX1_halveBelow_20 : decode cX1_halveBelow 20 = .ok (.goto 4, 3) := by decide +kernel
theorem dX1_halveBelow_23 : decode cX1_halveBelow 23 = .ok (.lconst 0, 1) := by decide +kernel
theorem dX1_halveBelow_24 : decode cX1_halveBelow 24 = .ok (.lstore_n 2, 1) := by decide +kernel
theorem dX1_halveBelow_25 : decode cX1_halveBelow 25 = .ok (.aload_n 1, 1) := by decide +kernel
theorem dX1_halveBelow_26 : decode cX1_halveBelow 26 = .ok (.lload_n 2, 1) := by decide +kernel
theorem dX1_halveBelow_27 : decode cX1_halveBelow 27 = .ok (.aload_n 0, 1) := by decide +kernel
theorem dX1_halveBelow_28 : decode cX1_halveBelow 28 = .ok (.getfield 9, 3) := by decide +kernel
theorem dX1_halveBelow_31 : decode cX1_halveBelow 31 = .ok (.invokestatic 127, 3) := by decide +kernel
theorem dX1_halveBelow_34 : decode cX1_halveBelow 34 = .ok (.return_, 1) := by decide +kernel
set_option maxRecDepth 20000 in
theorem ggX1_bringBelow_X0_order : GoodIn wsX1_bringBelow wsX0_order := goodIn_r _ [6, 7] (by decide +kernel) (by decide +kernel)
set_option maxRecDepth 20000 in
theorem gX1_bringBelow_X0_order : GoodIn wsX1_bringBelow (va_wsS RX1 103 yX0_order wsX0_order) := goodIn_app (goodIn_of _ (by decide +kernel)) ggX1_bringBelow_X0_order
set_option maxRecDepth 20000 in
theorem ggX1_bringBelow_X0_subtract : GoodIn wsX1_bringBelow wsX0_subtract := goodIn_r _ [10, 7] (by decide +kernel) (by decide +kernel)
set_option maxRecDepth 20000 in
theorem gX1_bringBelow_X0_subtract : GoodIn wsX1_bringBelow (va_wsS RX1 137 yX0_subtract wsX0_subtract) := goodIn_app (goodIn_of _ (by decide +kernel)) ggX1_bringBelow_X0_subtract
theorem dX1_bringBelow_0 : decode cX1_bringBelow 0 = .ok (.lload_n 2, 1) := by decide +kernel
theorem dX1_bringBelow_1 : decode cX1_bringBelow 1 = .ok (.lconst 0, 1) := by decide +kernel
theorem dX1_bringBelow_2 : decode cX1_bringBelow 2 = .ok (.lcmp, 1) := by decide +kernel
theorem dX1_bringBelow_3 : decode cX1_bringBelow 3 = .ok (.ifCond .ne 18, 3) := by decide +kernel
theorem dX1_bringBelow_6 : decode cX1_bringBelow 6 = .ok (.aload_n 1, 1) := by decide +kernel
theorem dX1_bringBelow_7 : decode cX1_bringBelow 7 = .ok (.aload_n 0, 1) := by decide +kernel
theorem dX1_bringBelow_8 : decode cX1_bringBelow 8 = .ok (.getfield 18, 3) := by decide +kernel
theorem dX1_bringBelow_11 : decode cX1_bringBelow 11 = .ok (.aload_n 0, 1) := by decide +kernel
theorem dX1_bringBelow_12 : decode cX1_bringBelow 12 = .ok (.getfield 9, 3) := by decide +kernel
theorem dX1_bringBelow_15 : decode cX1_bringBelow 15 = .ok (.invokestatic 103, 3) := by decide +kernel
theorem dX1_bringBelow_18 : decode cX1_bringBelow 18 = .ok (.ifCond .lt 17, 3) := by decide +kernel
theorem dX1_bringBelow_21 : decode cX1_bringBelow 21 = .ok (.aload_n 1, 1) := by decide +kernel
theorem dX1_bringBelow_22 : decode cX1_bringBelow 22 = .ok (.aload_n 1, 1) := by decide +kernel
theorem dX1_bringBelow_23 : decode cX1_bringBelow 23 = .ok (.aload_n 0, 1) := by decide +kernel
theorem dX1_bringBelow_24 : decode cX1_bringBelow 24 = .ok (.getfield 18, 3) := by decide +kernel
theorem dX1_bringBelow_27 : decode cX1_bringBelow 27 = .ok (.aload_n 0, 1) := by decide +kernel
theorem dX1_bringBelow_28 : decode cX1_bringBelow 28 = .ok (.getfield 9, 3) := by decide +kernel
theorem dX1_bringBelow_31 : decode cX1_bringBelow 31 = .ok (.invokestatic 137, 3) := by decide +kernel
theorem dX1_bringBelow_34 : decode cX1_bringBelow 34 = .ok (.pop, 1) := by decide +kernel
theorem dX1_bringBelow_35 : decode cX1_bringBelow 35 = .ok (.return_, 1) := by decide +kernel
set_option maxRecDepth 20000 in
theorem ggX1_doubleOften_X1_addBelow : GoodIn wsX1_doubleOften wsX1_addBelow := goodIn_r _ [6, 7, 8, 9, 10, 11, 12, 13, 14, 15, 5, 16, 17, 18, 19, 20, 21, 22, 23, 24, 25, 26, 27, 28, 29, 30, 31, 32, 33, 34, 35] (by decide +kernel) (by decide +kernel)
set_option maxRecDepth 20000 in
theorem gX1_doubleOften_X1_addBelow : GoodIn wsX1_doubleOften (wsV RX1 79 RX1 yX1_addBelow wsX1_addBelow) := goodIn_app (goodIn_of _ (by decide +kernel)) ggX1_doubleOften_X1_addBelow
theorem dX1_doubleOften_0 : decode cX1_doubleOften 0 = .ok (.iconst 0, 1) := by decide +kernel
theorem dX1_doubleOften_1 : decode cX1_doubleOften 1 = .ok (.istore_n 2, 1) := by decide +kernel
theorem dX1_doubleOften_2 : decode cX1_doubleOften 2 = .ok (.iload_n 2, 1) := by decide +kernel
theorem dX1_doubleOften_3 : decode cX1_doubleOften 3 = .ok (.aload_n 0, 1) := by decide +kernel
theorem dX1_doubleOften_4 : decode cX1_doubleOften 4 = .ok (.getfield 15, 3) := by decide +kernel
theorem dX1_doubleOften_7 : decode cX1_doubleOften 7 = .ok (.if_icmp .ge 16, 3) := by decide +kernel
theorem dX1_doubleOften_10 : decode cX1_doubleOften 10 = .ok (.aload_n 0, 1) := by decide +kernel
theorem dX1_doubleOften_11 : decode cX1_doubleOften 11 = .ok (.aload_n 1, 1) := by decide +kernel
theorem dX1_doubleOften_12 : decode cX1_doubleOften 12 = .ok (.aload_n 1, 1) := by decide +kernel
theorem dX1_doubleOften_13 : decode cX1_doubleOften 13 = .ok (.aload_n 1, 1) := by decide +kernel
theorem dX1_doubleOften_14 : decode cX1_doubleOften 14 = .ok (.invokevirtual 79, 3) := by decide +kernel
theorem dX1_doubleOften_17 : decode cX1_doubleOften 17 = .ok (.iinc 2 1, 3) := by decide +kernel
theorem dX1_doubleOften_20 : decode cX1_doubleOften 20 = .ok (.goto (-18), 3) := by decide +kernel
theorem dX1_doubleOften_23 : decode cX1_doubleOften 23 = .ok (.return_, 1) := by decide +kernel
set_option maxRecDepth 20000 in
theorem ggX1_twosInModulusLessOne_X0_isBitSet : GoodIn wsX1_twosInModulusLessOne wsX0_isBitSet := goodIn_r _ [6] (by decide +kernel) (by decide +kernel)
set_option maxRecDepth 20000 in
theorem gX1_twosInModulusLessOne_X0_isBitSet : GoodIn wsX1_twosInModulusLessOne (va_wsS RX1 123 yX0_isBitSet wsX0_isBitSet) := goodIn_app (goodIn_of _ (by decide +kernel)) ggX1_twosInModulusLessOne_X0_isBitSet
theorem dX1_twosInModulusLessOne_0 : decode cX1_twosInModulusLessOne 0 = .ok (.iconst 1, 1) := by decide +kernel
theorem dX1_twosInModulusLessOne_1 : decode cX1_twosInModulusLessOne 1 = .ok (.istore_n 1, 1) := by decide +kernel
theorem dX1_twosInModulusLessOne_2 : decode cX1_twosInModulusLessOne 2 = .ok (.iload_n 1, 1) := by decide +kernel
theorem dX1_twosInModulusLessOne_3 : decode cX1_twosInModulusLessOne 3 = .ok (.aload_n 0, 1) := by decide +kernel
theorem dX1_twosInModulusLessOne_4 : decode cX1_twosInModulusLessOne 4 = .ok (.getfield 15, 3) := by decide +kernel
theorem dX1_twosInModulusLessOne_7 : decode cX1_twosInModulusLessOne 7 = .ok (.iconst 1, 1) := by decide +kernel
theorem dX1_twosInModulusLessOne_8 : decode cX1_twosInModulusLessOne 8 = .ok (.isub, 1) := by decide +kernel
theorem dX1_twosInModulusLessOne_9 : decode cX1_twosInModulusLessOne 9 = .ok (.if_icmp .ge 20, 3) := by decide +kernel
theorem dX1_twosInModulusLessOne_12 : decode cX1_twosInModulusLessOne 12 = .ok (.aload_n 0, 1) := by decide +kernel
theorem dX1_twosInModulusLessOne_13 : decode cX1_twosInModulusLessOne 13 = .ok (.getfield 18, 3) := by decide +kernel
theorem dX1_twosInModulusLessOne_16 : decode cX1_twosInModulusLessOne 16 = .ok (.iload_n 1, 1) := by decide +kernel
theorem dX1_twosInModulusLessOne_17 : decode cX1_twosInModulusLessOne 17 = .ok (.invokestatic 123, 3) := by decide +kernel
theorem dX1_twosInModulusLessOne_20 : decode cX1_twosInModulusLessOne 20 = .ok (.ifCond .ne 9, 3) := by decide +kernel
theorem dX1_twosInModulusLessOne_23 : decode cX1_twosInModulusLessOne 23 = .ok (.iinc 1 1, 3) := by decide +kernel
theorem dX1_twosInModulusLessOne_26 : decode cX1_twosInModulusLessOne 26 = .ok (.goto (-24), 3) := by decide +kernel
theorem dX1_twosInModulusLessOne_29 : decode cX1_twosInModulusLessOne 29 = .ok (.iload_n 1, 1) := by decide +kernel
theorem dX1_twosInModulusLessOne_30 : decode cX1_twosInModulusLessOne 30 = .ok (.ireturn, 1) := by decide +kernel
theorem dX1_inverseOfLimb_0 : decode cX1_inverseOfLimb 0 = .ok (.iload_n 0, 1) := by decide +kernel
theorem dX1_inverseOfLimb_1 : decode cX1_inverseOfLimb 1 = .ok (.istore_n 1, 1) := by decide +kernel
theorem dX1_inverseOfLimb_2 : decode cX1_inverseOfLimb 2 = .ok (.iconst 0, 1) := by decide +kernel
theorem dX1_inverseOfLimb_3 : decode cX1_inverseOfLimb 3 = .ok (.istore_n 2, 1) := by decide +kernel
theorem dX1_inverseOfLimb_4 : decode cX1_inverseOfLimb 4 = .ok (.iload_n 2, 1) := by decide +kernel
theorem dX1_inverseOfLimb_5 : decode cX1_inverseOfLimb 5 = .ok (.iconst 4, 1) := by decide +kernel
theorem dX1_inverseOfLimb_6 : decode cX1_inverseOfLimb 6 = .ok (.if_icmp .ge 17, 3) := by decide +kernel
theorem dX1_inverseOfLimb_9 : decode cX1_inverseOfLimb 9 = .ok (.iload_n 1, 1) := by decide +kernel
theorem dX1_inverseOfLimb_10 : decode cX1_inverseOfLimb 10 = .ok (.iconst 2, 1) := by decide +kernel
theorem dX1_inverseOfLimb_11 : decode cX1_inverseOfLimb 11 = .ok (.iload_n 0, 1) := by decide +kernel
theorem dX1_inverseOfLimb_12 : decode cX1_inverseOfLimb 12 = .ok (.iload_n 1, 1) := by decide +kernel
theorem dX1_inverseOfLimb_13 : decode cX1_inverseOfLimb 13 = .ok (.imul, 1) := by decide +kernel
theorem dX1_inverseOfLimb_14 : decode cX1_inverseOfLimb 14 = .ok (.isub, 1) := by decide +kernel
theorem dX1_inverseOfLimb_15 : decode cX1_inverseOfLimb 15 = .ok (.imul, 1) := by decide +kernel
theorem dX1_inverseOfLimb_16 : decode cX1_inverseOfLimb 16 = .ok (.istore_n 1, 1) := by decide +kernel
theorem dX1_inverseOfLimb_17 : decode cX1_inverseOfLimb 17 = .ok (.iinc 2 1, 3) := by decide +kernel
theorem dX1_inverseOfLimb_20 : decode cX1_inverseOfLimb 20 = .ok (.goto (-16), 3) := by decide +kernel
theorem dX1_inverseOfLimb_23 : decode cX1_inverseOfLimb 23 = .ok (.iload_n 1, 1) := by decide +kernel
theorem dX1_inverseOfLimb_24 : decode cX1_inverseOfLimb 24 = .ok (.ireturn, 1) := by decide +kernel
set_option maxRecDepth 20000 in
theorem ggX2_init_X1_init : GoodIn wsX2_init wsX1_init := goodIn_r _ [23, 24, 2, 3, 25, 26, 14, 27, 28, 29, 30, 31, 32, 33, 34, 35, 36, 42, 43, 44, 45, 46, 47, 48, 49, 50, 51, 52, 53] (by decide +kernel) (by decide +kernel)
set_option maxRecDepth 20000 in
theorem gX2_init_X1_init : GoodIn wsX2_init (wsX1_init) := ggX2_init_X1_init
theorem dX2_init_0 : decode cX2_init 0 = .ok (.aload_n 0, 1) := by decide +kernel
theorem dX2_init_1 : decode cX2_init 1 = .ok (.invokespecial 1, 3) := by decide +kernel
theorem dX2_init_4 : decode cX2_init 4 = .ok (.aload_n 0, 1) := by decide +kernel
theorem dX2_init_5 : decode cX2_init 5 = .ok (.iconst 1, 1) := by decide +kernel
theorem dX2_init_6 : decode cX2_init 6 = .ok (.iload_n 1, 1) := by decide +kernel
theorem dX2_init_7 : decode cX2_init 7 = .ok (.bipush 8, 2) := by decide +kernel
theorem dX2_init_9 : decode cX2_init 9 = .ok (.invokestatic 9, 3) := by decide +kernel
theorem dX2_init_12 : decode cX2_init 12 = .ok (.invokestatic 15, 3) := by decide +kernel
theorem dX2_init_15 : decode cX2_init 15 = .ok (.putfield 18, 3) := by decide +kernel
theorem dX2_init_18 : decode cX2_init 18 = .ok (.aload_n 0, 1) := by decide +kernel
theorem dX2_init_19 : decode cX2_init 19 = .ok (.iconst 1, 1) := by decide +kernel
theorem dX2_init_20 : decode cX2_init 20 = .ok (.iload_n 2, 1) := by decide +kernel
theorem dX2_init_21 : decode cX2_init 21 = .ok (.bipush 8, 2) := by decide +kernel
theorem dX2_init_23 : decode cX2_init 23 = .ok (.invokestatic 9, 3) := by decide +kernel
theorem dX2_init_26 : decode cX2_init 26 = .ok (.invokestatic 15, 3) := by decide +kernel
theorem dX2_init_29 : decode cX2_init 29 = .ok (.putfield 22, 3) := by decide +kernel
theorem dX2_init_32 : decode cX2_init 32 = .ok (.aload_n 0, 1) := by decide +kernel
theorem dX2_init_33 : decode cX2_init 33 = .ok (.aload_n 0, 1) := by decide +kernel
theorem dX2_init_34 : decode cX2_init 34 = .ok (.getfield 22, 3) := by decide +kernel
theorem dX2_init_37 : decode cX2_init 37 = .ok (.aload_n 0, 1) := by decide +kernel
theorem dX2_init_38 : decode cX2_init 38 = .ok (.getfield 18, 3) := by decide +kernel
theorem dX2_init_41 : decode cX2_init 41 = .ok (.multianewarray 25 2, 4) := by decide +kernel
theorem dX2_init_45 : decode cX2_init 45 = .ok (.putfield 27, 3) := by decide +kernel
theorem dX2_init_48 : decode cX2_init 48 = .ok (.aload_n 0, 1) := by decide +kernel
theorem dX2_init_49 : decode cX2_init 49 = .ok (.new 30, 3) := by decide +kernel
theorem dX2_init_52 : decode cX2_init 52 = .ok (.dup, 1) := by decide +kernel
theorem dX2_init_53 : decode cX2_init 53 = .ok (.aload_n 0, 1) := by decide +kernel
theorem dX2_init_54 : decode cX2_init 54 = .ok (.getfield 18, 3) := by decide +kernel
theorem dX2_init_57 : decode cX2_init 57 = .ok (.invokespecial 32, 3) := by decide +kernel
theorem dX2_init_60 : decode cX2_init 60 = .ok (.putfield 35, 3) := by decide +kernel
theorem dX2_init_63 : decode cX2_init 63 = .ok (.aload_n 0, 1) := by decide +kernel
theorem dX2_init_64 : decode cX2_init 64 = .ok (.iconst 0, 1) := by decide +kernel
theorem dX2_init_65 : decode cX2_init 65 = .ok (.putfield 39, 3) := by decide +kernel
theorem dX2_init_68 : decode cX2_init 68 = .ok (.return_, 1) := by decide +kernel
set_option maxRecDepth 20000 in
theorem ggX2_pokeMod_X2_hasLimb : GoodIn wsX2_pokeMod wsX2_hasLimb := goodIn_r _ [8, 9, 10, 11, 12, 13, 14] (by decide +kernel) (by decide +kernel)
set_option maxRecDepth 20000 in
theorem gX2_pokeMod_X2_hasLimb : GoodIn wsX2_pokeMod (wsV RX2 43 RX2 yX2_hasLimb wsX2_hasLimb) := goodIn_app (goodIn_of _ (by decide +kernel)) ggX2_pokeMod_X2_hasLimb
theorem dX2_pokeMod_0 : decode cX2_pokeMod 0 = .ok (.aload_n 0, 1) := by decide +kernel
theorem dX2_pokeMod_1 : decode cX2_pokeMod 1 = .ok (.iload_n 1, 1) := by decide +kernel
theorem dX2_pokeMod_2 : decode cX2_pokeMod 2 = .ok (.invokevirtual 43, 3) := by decide +kernel
theorem dX2_pokeMod_5 : decode cX2_pokeMod 5 = .ok (.ifCond .ne 5, 3) := by decide +kernel
theorem dX2_pokeMod_8 : decode cX2_pokeMod 8 = .ok (.iconst 0, 1) := by decide +kernel
theorem dX2_pokeMod_9 : decode cX2_pokeMod 9 = .ok (.ireturn, 1) := by decide +kernel
theorem dX2_pokeMod_10 : decode cX2_pokeMod 10 = .ok (.aload_n 0, 1) := by decide +kernel
theorem dX2_pokeMod_11 : decode cX2_pokeMod 11 = .ok (.getfield 35, 3) := by decide +kernel
theorem dX2_pokeMod_14 : decode cX2_pokeMod 14 = .ok (.getfield 47, 3) := by decide +kernel
theorem dX2_pokeMod_17 : decode cX2_pokeMod 17 = .ok (.iload_n 1, 1) := by decide +kernel
theorem dX2_pokeMod_18 : decode cX2_pokeMod 18 = .ok (.iload_n 2, 1) := by decide +kernel
theorem dX2_pokeMod_19 : decode cX2_pokeMod 19 = .ok (.iastore, 1) := by decide +kernel
theorem dX2_pokeMod_20 : decode cX2_pokeMod 20 = .ok (.aload_n 0, 1) := by decide +kernel
theorem dX2_pokeMod_21 : decode cX2_pokeMod 21 = .ok (.iconst 0, 1) := by decide +kernel
theorem dX2_pokeMod_22 : decode cX2_pokeMod 22 = .ok (.putfield 39, 3) := by decide +kernel
theorem dX2_pokeMod_25 : decode cX2_pokeMod 25 = .ok (.iconst 1, 1) := by decide +kernel
theorem dX2_pokeMod_26 : decode cX2_pokeMod 26 = .ok (.ireturn, 1) := by decide +kernel
set_option maxRecDepth 20000 in
theorem ggX2_peekMod_X2_hasLimb : GoodIn wsX2_peekMod wsX2_hasLimb := goodIn_r _ [7, 8, 9, 10, 11, 12, 13] (by decide +kernel) (by decide +kernel)
set_option maxRecDepth 20000 in
theorem gX2_peekMod_X2_hasLimb : GoodIn wsX2_peekMod (wsV RX2 43 RX2 yX2_hasLimb wsX2_hasLimb) := goodIn_app (goodIn_of _ (by decide +kernel)) ggX2_peekMod_X2_hasLimb
theorem dX2_peekMod_0 : decode cX2_peekMod 0 = .ok (.aload_n 0, 1) := by decide +kernel
theorem dX2_peekMod_1 : decode cX2_peekMod 1 = .ok (.iload_n 1, 1) := by decide +kernel
theorem dX2_peekMod_2 : decode cX2_peekMod 2 = .ok (.invokevirtual 43, 3) := by decide +kernel
theorem dX2_peekMod_5 : decode cX2_peekMod 5 = .ok (.ifCond .eq 15, 3) := by decide +kernel
theorem dX2_peekMod_8 : decode cX2_peekMod 8 = .ok (.aload_n 0, 1) := by decide +kernel
theorem dX2_peekMod_9 : decode cX2_peekMod 9 = .ok (.getfield 35, 3) := by decide +kernel
theorem dX2_peekMod_12 : decode cX2_peekMod 12 = .ok (.getfield 47, 3) := by decide +kernel
theorem dX2_peekMod_15 : decode cX2_peekMod 15 = .ok (.iload_n 1, 1) := by decide +kernel
theorem dX2_peekMod_16 : decode cX2_peekMod 16 = .ok (.iaload, 1) := by decide +kernel
theorem dX2_peekMod_17 : decode cX2_peekMod 17 = .ok (.goto 4, 3) := by decide +kernel
theorem dX2_peekMod_20 : decode cX2_peekMod 20 = .ok (.iconst 0, 1) := by decide +kernel
theorem dX2_peekMod_21 : decode cX2_peekMod 21 = .ok (.ireturn, 1) := by decide +kernel
set_option maxRecDepth 20000 in
theorem ggX2_init__X1_hasFitModulus : GoodIn wsX2_init_ wsX1_hasFitModulus := goodIn_r _ [7, 8, 9, 10, 11, 12, 13, 14, 15, 16, 59, 60, 61, 62, 63, 64, 65, 66, 67, 68, 69, 70] (by decide +kernel) (by decide +kernel)
set_option maxRecDepth 20000 in
theorem gX2_init__X1_hasFitModulus : GoodIn wsX2_init_ (wsV RX2 51 RX1 yX1_hasFitModulus wsX1_hasFitModulus) := goodIn_app (goodIn_of _ (by decide +kernel)) ggX2_init__X1_hasFitModulus
set_option maxRecDepth 20000 in
theorem ggX2_init__X1_prepare : GoodIn wsX2_init_ wsX1_prepare := goodIn_r _ [20, 8, 21, 22, 23, 9, 24, 25, 26, 6, 27, 28, 29, 12, 30, 31, 32, 33, 34, 35, 36, 37, 38, 39, 40, 41, 42, 43, 44, 45, 46, 47, 48, 49, 50, 51, 52, 53, 59, 60, 61, 62, 63, 64, 65, 66, 67, 68, 69, 70] (by decide +kernel) (by decide +kernel)
set_option maxRecDepth 20000 in
theorem gX2_init__X1_prepare : GoodIn wsX2_init_ (wsV RX2 55 RX1 yX1_prepare wsX1_prepare) := goodIn_app (goodIn_of _ (by decide +kernel)) ggX2_init__X1_prepare
theorem dX2_init__0 : decode cX2_init_ 0 = .ok (.aload_n 0, 1) := by decide +kernel
theorem dX2_init__1 : decode cX2_init_ 1 = .ok (.getfield 35, 3) := by decide +kernel
theorem dX2_init__4 : decode cX2_init_ 4 = .ok (.invokevirtual 51, 3) := by decide +kernel
theorem dX2_init__7 : decode cX2_init_ 7 = .ok (.ifCond .ne 5, 3) := by decide +kernel
theorem dX2_init__10 : decode cX2_init_ 10 = .ok (.iconst 1, 1) := by decide +kernel
theorem dX2_init__11 : decode cX2_init_ 11 = .ok (.ireturn, 1) := by decide +kernel
theorem dX2_init__12 : decode cX2_init_ 12 = .ok (.aload_n 0, 1) := by decide +kernel
theorem dX2_init__13 : decode cX2_init_ 13 = .ok (.getfield 35, 3) := by decide +kernel
theorem dX2_init__16 : decode cX2_init_ 16 = .ok (.invokevirtual 55, 3) := by decide +kernel
theorem dX2_init__19 : decode cX2_init_ 19 = .ok (.aload_n 0, 1) := by decide +kernel
theorem dX2_init__20 : decode cX2_init_ 20 = .ok (.iconst 1, 1) := by decide +kernel
theorem dX2_init__21 : decode cX2_init_ 21 = .ok (.putfield 39, 3) := by decide +kernel
theorem dX2_init__24 : decode cX2_init_ 24 = .ok (.iconst 0, 1) := by decide +kernel
theorem dX2_init__25 : decode cX2_init_ 25 = .ok (.ireturn, 1) := by decide +kernel
theorem dX2_ready_0 : decode cX2_ready 0 = .ok (.aload_n 0, 1) := by decide +kernel
theorem dX2_ready_1 : decode cX2_ready 1 = .ok (.getfield 39, 3) := by decide +kernel
theorem dX2_ready_4 : decode cX2_ready 4 = .ok (.ireturn, 1) := by decide +kernel
set_option maxRecDepth 20000 in
theorem ggX2_poke_X2_hasRegister : GoodIn wsX2_poke wsX2_hasRegister := goodIn_r _ [6, 7, 13, 14, 15, 16, 17] (by decide +kernel) (by decide +kernel)
set_option maxRecDepth 20000 in
theorem gX2_poke_X2_hasRegister : GoodIn wsX2_poke (wsV RX2 58 RX2 yX2_hasRegister wsX2_hasRegister) := goodIn_app (goodIn_of _ (by decide +kernel)) ggX2_poke_X2_hasRegister
set_option maxRecDepth 20000 in
theorem ggX2_poke_X2_hasLimb : GoodIn wsX2_poke wsX2_hasLimb := goodIn_r _ [11, 12, 13, 14, 15, 16, 17] (by decide +kernel) (by decide +kernel)
set_option maxRecDepth 20000 in
theorem gX2_poke_X2_hasLimb : GoodIn wsX2_poke (wsV RX2 43 RX2 yX2_hasLimb wsX2_hasLimb) := goodIn_app (goodIn_of _ (by decide +kernel)) ggX2_poke_X2_hasLimb
theorem dX2_poke_0 : decode cX2_poke 0 = .ok (.aload_n 0, 1) := by decide +kernel
theorem dX2_poke_1 : decode cX2_poke 1 = .ok (.iload_n 1, 1) := by decide +kernel
theorem dX2_poke_2 : decode cX2_poke 2 = .ok (.invokevirtual 58, 3) := by decide +kernel
theorem dX2_poke_5 : decode cX2_poke 5 = .ok (.ifCond .eq 11, 3) := by decide +kernel
theorem dX2_poke_8 : decode cX2_poke 8 = .ok (.aload_n 0, 1) := by decide +kernel
theorem dX2_poke_9 : decode cX2_poke 9 = .ok (.iload_n 2, 1) := by decide +kernel
theorem dX2_poke_10 : decode cX2_poke 10 = .ok (.invokevirtual 43, 3) := by decide +kernel
theorem dX2_poke_13 : decode cX2_poke 13 = .ok (.ifCond .ne 5, 3) := by decide +kernel
theorem dX2_poke_16 : decode cX2_poke 16 = .ok (.iconst 0, 1) := by decide +kernel
theorem dX2_poke_17 : decode cX2_poke 17 = .ok (.ireturn, 1) := by decide +kernel
theorem dX2_poke_18 : decode cX2_poke 18 = .ok (.aload_n 0, 1) := by decide +kernel
theorem dX2_poke_19 : decode cX2_poke 19 = .ok (.getfield 27, 3) := by decide +kernel
theorem dX2_poke_22 : decode cX2_poke 22 = .ok (.iload_n 1, 1) := by decide +kernel
theorem dX2_poke_23 : decode cX2_poke 23 = .ok (.aaload, 1) := by decide +kernel
theorem dX2_poke_24 : decode cX2_poke 24 = .ok (.iload_n 2, 1) := by decide +kernel
theorem dX2_poke_25 : decode cX2_poke 25 = .ok (.iload_n 3, 1) := by decide +kernel
theorem dX2_poke_26 : decode cX2_poke 26 = .ok (.iastore, 1) := by decide +kernel
theorem dX2_poke_27 : decode cX2_poke 27 = .ok (.iconst 1, 1) := by decide +kernel
theorem dX2_poke_28 : decode cX2_poke 28 = .ok (.ireturn, 1) := by decide +kernel
set_option maxRecDepth 20000 in
theorem ggX2_peek_X2_hasRegister : GoodIn wsX2_peek wsX2_hasRegister := goodIn_r _ [6, 7, 13, 14, 15, 16, 17] (by decide +kernel) (by decide +kernel)
set_option maxRecDepth 20000 in
theorem gX2_peek_X2_hasRegister : GoodIn wsX2_peek (wsV RX2 58 RX2 yX2_hasRegister wsX2_hasRegister) := goodIn_app (goodIn_of _ (by decide +kernel)) ggX2_peek_X2_hasRegister
set_option maxRecDepth 20000 in
theorem ggX2_peek_X2_hasLimb : GoodIn wsX2_peek wsX2_hasLimb := goodIn_r _ [11, 12, 13, 14, 15, 16, 17] (by decide +kernel) (by decide +kernel)
set_option maxRecDepth 20000 in
theorem gX2_peek_X2_hasLimb : GoodIn wsX2_peek (wsV RX2 43 RX2 yX2_hasLimb wsX2_hasLimb) := goodIn_app (goodIn_of _ (by decide +kernel)) ggX2_peek_X2_hasLimb
theorem dX2_peek_0 : decode cX2_peek 0 = .ok (.aload_n 0, 1) := by decide +kernel
theorem dX2_peek_1 : decode cX2_peek 1 = .ok (.iload_n 1, 1) := by decide +kernel
theorem dX2_peek_2 : decode cX2_peek 2 = .ok (.invokevirtual 58, 3) := by decide +kernel
theorem dX2_peek_5 : decode cX2_peek 5 = .ok (.ifCond .eq 22, 3) := by decide +kernel
theorem dX2_peek_8 : decode cX2_peek 8 = .ok (.aload_n 0, 1) := by decide +kernel
theorem dX2_peek_9 : decode cX2_peek 9 = .ok (.iload_n 2, 1) := by decide +kernel
theorem dX2_peek_10 : decode cX2_peek 10 = .ok (.invokevirtual 43, 3) := by decide +kernel
theorem dX2_peek_13 : decode cX2_peek 13 = .ok (.ifCond .eq 14, 3) := by decide +kernel
theorem dX2_peek_16 : decode cX2_peek 16 = .ok (.aload_n 0, 1) := by decide +kernel
theorem dX2_peek_17 : decode cX2_peek 17 = .ok (.getfield 27, 3) := by decide +kernel
theorem dX2_peek_20 : decode cX2_peek 20 = .ok (.iload_n 1, 1) := by decide +kernel
theorem dX2_peek_21 : decode cX2_peek 21 = .ok (.aaload, 1) := by decide +kernel
theorem dX2_peek_22 : decode cX2_peek 22 = .ok (.iload_n 2, 1) := by decide +kernel
theorem dX2_peek_23 : decode cX2_peek 23 = .ok (.iaload, 1) := by decide +kernel
theorem dX2_peek_24 : decode cX2_peek 24 = .ok (.goto 4, 3) := by decide +kernel
theorem dX2_peek_27 : decode cX2_peek 27 = .ok (.iconst 0, 1) := by decide +kernel
theorem dX2_peek_28 : decode cX2_peek 28 = .ok (.ireturn, 1) := by decide +kernel
set_option maxRecDepth 20000 in
theorem ggX2_reduce_X2_hasRegister : GoodIn wsX2_reduce wsX2_hasRegister := goodIn_r _ [8, 9, 49, 50, 51, 52, 53] (by decide +kernel) (by decide +kernel)
set_option maxRecDepth 20000 in
theorem gX2_reduce_X2_hasRegister : GoodIn wsX2_reduce (wsV RX2 58 RX2 yX2_hasRegister wsX2_hasRegister) := goodIn_app (goodIn_of _ (by decide +kernel)) ggX2_reduce_X2_hasRegister
set_option maxRecDepth 20000 in
theorem ggX2_reduce_X1_residue : GoodIn wsX2_reduce wsX1_residue := goodIn_r _ [14, 15, 16, 17, 18, 19, 13, 20, 21, 22, 23, 24, 25, 26, 27, 28, 29, 30, 31, 32, 33, 34, 35, 36, 37, 38, 39, 40, 41, 42, 43, 44, 45, 46, 47, 48, 54, 55, 56, 57, 58, 59, 60, 61, 62, 63, 64, 65] (by decide +kernel) (by decide +kernel)
set_option maxRecDepth 20000 in
theorem gX2_reduce_X1_residue : GoodIn wsX2_reduce (wsV RX2 61 RX1 yX1_residue wsX1_residue) := goodIn_app (goodIn_of _ (by decide +kernel)) ggX2_reduce_X1_residue
theorem dX2_reduce_0 : decode cX2_reduce 0 = .ok (.aload_n 0, 1) := by decide +kernel
theorem dX2_reduce_1 : decode cX2_reduce 1 = .ok (.getfield 39, 3) := by decide +kernel
theorem dX2_reduce_4 : decode cX2_reduce 4 = .ok (.ifCond .eq 11, 3) := by decide +kernel
theorem dX2_reduce_7 : decode cX2_reduce 7 = .ok (.aload_n 0, 1) := by decide +kernel
theorem dX2_reduce_8 : decode cX2_reduce 8 = .ok (.iload_n 1, 1) := by decide +kernel
theorem dX2_reduce_9 : decode cX2_reduce 9 = .ok (.invokevirtual 58, 3) := by decide +kernel
theorem dX2_reduce_12 : decode cX2_reduce 12 = .ok (.ifCond .ne 5, 3) := by decide +kernel
theorem dX2_reduce_15 : decode cX2_reduce 15 = .ok (.iconst 0, 1) := by decide +kernel
theorem dX2_reduce_16 : decode cX2_reduce 16 = .ok (.ireturn, 1) := by decide +kernel
theorem dX2_reduce_17 : decode cX2_reduce 17 = .ok (.aload_n 0, 1) := by decide +kernel
theorem dX2_reduce_18 : decode cX2_reduce 18 = .ok (.getfield 35, 3) := by decide +kernel
theorem dX2_reduce_21 : decode cX2_reduce 21 = .ok (.aload_n 0, 1) := by decide +kernel
theorem dX2_reduce_22 : decode cX2_reduce 22 = .ok (.getfield 27, 3) := by decide +kernel
theorem dX2_reduce_25 : decode cX2_reduce 25 = .ok (.iload_n 1, 1) := by decide +kernel
theorem dX2_reduce_26 : decode cX2_reduce 26 = .ok (.aaload, 1) := by decide +kernel
theorem dX2_reduce_27 : decode cX2_reduce 27 = .ok (.aload_n 0, 1) := by decide +kernel
theorem dX2_reduce_28 : decode cX2_reduce 28 = .ok (.getfield 27, 3) := by decide +kernel
theorem dX2_reduce_31 : decode cX2_reduce 31 = .ok (.iload_n 1, 1) := by decide +kernel
theorem dX2_reduce_32 : decode cX2_reduce 32 = .ok (.aaload, 1) := by decide +kernel
theorem dX2_reduce_33 : decode cX2_reduce 33 = .ok (.invokevirtual 61, 3) := by decide +kernel
theorem dX2_reduce_36 : decode cX2_reduce 36 = .ok (.iconst 1, 1) := by decide +kernel
theorem dX2_reduce_37 : decode cX2_reduce 37 = .ok (.ireturn, 1) := by decide +kernel
set_option maxRecDepth 20000 in
theorem ggX2_addMod_X2_canWork : GoodIn wsX2_addMod wsX2_canWork := goodIn_r _ [7, 8, 9, 10, 11, 6, 12, 13, 66, 67, 68, 69, 70] (by decide +kernel) (by decide +kernel)
set_option maxRecDepth 20000 in
theorem gX2_addMod_X2_canWork : GoodIn wsX2_addMod (wsV RX2 65 RX2 yX2_canWork wsX2_canWork) := goodIn_app (goodIn_of _ (by decide +kernel)) ggX2_addMod_X2_canWork
set_option maxRecDepth 20000 in
theorem ggX2_addMod_X1_sum : GoodIn wsX2_addMod wsX1_sum := goodIn_r _ [18, 19, 20, 21, 22, 23, 17, 24, 25, 26, 27, 28, 29, 30, 31, 32, 33, 34, 35, 36, 37, 38, 39, 40, 41, 42, 43, 44, 45, 46, 47, 48, 49, 50, 51, 52, 53, 54, 55, 56, 57, 58, 59, 60, 61, 62, 63, 64, 65, 71, 72, 73, 74, 75, 76, 77, 78, 79, 80, 81, 82] (by decide +kernel) (by decide +kernel)
set_option maxRecDepth 20000 in
theorem gX2_addMod_X1_sum : GoodIn wsX2_addMod (wsV RX2 69 RX1 yX1_sum wsX1_sum) := goodIn_app (goodIn_of _ (by decide +kernel)) ggX2_addMod_X1_sum
theorem dX2_addMod_0 : decode cX2_addMod 0 = .ok (.aload_n 0, 1) := by decide +kernel
theorem dX2_addMod_1 : decode cX2_addMod 1 = .ok (.iload_n 1, 1) := by decide +kernel
theorem dX2_addMod_2 : decode cX2_addMod 2 = .ok (.iload_n 2, 1) := by decide +kernel
theorem dX2_addMod_3 : decode cX2_addMod 3 = .ok (.iload_n 3, 1) := by decide +kernel
theorem dX2_addMod_4 : decode cX2_addMod 4 = .ok (.invokevirtual 65, 3) := by decide +kernel
theorem dX2_addMod_7 : decode cX2_addMod 7 = .ok (.ifCond .ne 5, 3) := by decide +kernel
theorem dX2_addMod_10 : decode cX2_addMod 10 = .ok (.iconst 0, 1) := by decide +kernel
theorem dX2_addMod_11 : decode cX2_addMod 11 = .ok (.ireturn, 1) := by decide +kernel
theorem dX2_addMod_12 : decode cX2_addMod 12 = .ok (.aload_n 0, 1) := by decide +kernel
theorem dX2_addMod_13 : decode cX2_addMod 13 = .ok (.getfield 35, 3) := by decide +kernel
theorem dX2_addMod_16 : decode cX2_addMod 16 = .ok (.aload_n 0, 1) := by decide +kernel
theorem dX2_addMod_17 : decode cX2_addMod 17 = .ok (.getfield 27, 3) := by decide +kernel
theorem dX2_addMod_20 : decode cX2_addMod 20 = .ok (.iload_n 1, 1) := by decide +kernel
theorem dX2_addMod_21 : decode cX2_addMod 21 = .ok (.aaload, 1) := by decide +kernel
theorem dX2_addMod_22 : decode cX2_addMod 22 = .ok (.aload_n 0, 1) := by decide +kernel
theorem dX2_addMod_23 : decode cX2_addMod 23 = .ok (.getfield 27, 3) := by decide +kernel
theorem dX2_addMod_26 : decode cX2_addMod 26 = .ok (.iload_n 2, 1) := by decide +kernel
theorem dX2_addMod_27 : decode cX2_addMod 27 = .ok (.aaload, 1) := by decide +kernel
theorem dX2_addMod_28 : decode cX2_addMod 28 = .ok (.aload_n 0, 1) := by decide +kernel
theorem dX2_addMod_29 : decode cX2_addMod 29 = .ok (.getfield 27, 3) := by decide +kernel
theorem dX2_addMod_32 : decode cX2_addMod 32 = .ok (.iload_n 3, 1) := by decide +kernel
theorem dX2_addMod_33 : decode cX2_addMod 33 = .ok (.aaload, 1) := by decide +kernel
theorem dX2_addMod_34 : decode cX2_addMod 34 = .ok (.invokevirtual 69, 3) := by decide +kernel
theorem dX2_addMod_37 : decode cX2_addMod 37 = .ok (.iconst 1, 1) := by decide +kernel
theorem dX2_addMod_38 : decode cX2_addMod 38 = .ok (.ireturn, 1) := by decide +kernel
set_option maxRecDepth 20000 in
theorem ggX2_subMod_X2_canWork : GoodIn wsX2_subMod wsX2_canWork := goodIn_r _ [7, 8, 9, 10, 11, 6, 12, 13, 66, 67, 68, 69, 70] (by decide +kernel) (by decide +kernel)
set_option maxRecDepth 20000 in
theorem gX2_subMod_X2_canWork : GoodIn wsX2_subMod (wsV RX2 65 RX2 yX2_canWork wsX2_canWork) := goodIn_app (goodIn_of _ (by decide +kernel)) ggX2_subMod_X2_canWork
set_option maxRecDepth 20000 in
theorem ggX2_subMod_X1_difference : GoodIn wsX2_subMod wsX1_difference := goodIn_r _ [18, 19, 20, 21, 22, 23, 17, 24, 25, 26, 27, 28, 29, 30, 31, 32, 33, 34, 35, 36, 37, 38, 39, 40, 41, 42, 43, 44, 45, 46, 47, 48, 49, 50, 51, 52, 53, 54, 55, 56, 57, 58, 59, 60, 61, 62, 63, 64, 65, 71, 72, 73, 74, 75, 76, 77, 78, 79, 80, 81, 82] (by decide +kernel) (by decide +kernel)
set_option maxRecDepth 20000 in
theorem gX2_subMod_X1_difference : GoodIn wsX2_subMod (wsV RX2 73 RX1 yX1_difference wsX1_difference) := goodIn_app (goodIn_of _ (by decide +kernel)) ggX2_subMod_X1_difference
theorem dX2_subMod_0 : decode cX2_subMod 0 = .ok (.aload_n 0, 1) := by decide +kernel
theorem dX2_subMod_1 : decode cX2_subMod 1 = .ok (.iload_n 1, 1) := by decide +kernel
theorem dX2_subMod_2 : decode cX2_subMod 2 = .ok (.iload_n 2, 1) := by decide +kernel
theorem dX2_subMod_3 : decode cX2_subMod 3 = .ok (.iload_n 3, 1) := by decide +kernel
theorem dX2_subMod_4 : decode cX2_subMod 4 = .ok (.invokevirtual 65, 3) := by decide +kernel
theorem dX2_subMod_7 : decode cX2_subMod 7 = .ok (.ifCond .ne 5, 3) := by decide +kernel
theorem dX2_subMod_10 : decode cX2_subMod 10 = .ok (.iconst 0, 1) := by decide +kernel
theorem dX2_subMod_11 : decode cX2_subMod 11 = .ok (.ireturn, 1) := by decide +kernel
theorem dX2_subMod_12 : decode cX2_subMod 12 = .ok (.aload_n 0, 1) := by decide +kernel
theorem dX2_subMod_13 : decode cX2_subMod 13 = .ok (.getfield 35, 3) := by decide +kernel
theorem dX2_subMod_16 : decode cX2_subMod 16 = .ok (.aload_n 0, 1) := by decide +kernel
theorem dX2_subMod_17 : decode cX2_subMod 17 = .ok (.getfield 27, 3) := by decide +kernel
theorem dX2_subMod_20 : decode cX2_subMod 20 = .ok (.iload_n 1, 1) := by decide +kernel
theorem dX2_subMod_21 : decode cX2_subMod 21 = .ok (.aaload, 1) := by decide +kernel
theorem dX2_subMod_22 : decode cX2_subMod 22 = .ok (.aload_n 0, 1) := by decide +kernel
theorem dX2_subMod_23 : decode cX2_subMod 23 = .ok (.getfield 27, 3) := by decide +kernel
theorem dX2_subMod_26 : decode cX2_subMod 26 = .ok (.iload_n 2, 1) := by decide +kernel
theorem dX2_subMod_27 : decode cX2_subMod 27 = .ok (.aaload, 1) := by decide +kernel
theorem dX2_subMod_28 : decode cX2_subMod 28 = .ok (.aload_n 0, 1) := by decide +kernel
theorem dX2_subMod_29 : decode cX2_subMod 29 = .ok (.getfield 27, 3) := by decide +kernel
theorem dX2_subMod_32 : decode cX2_subMod 32 = .ok (.iload_n 3, 1) := by decide +kernel
theorem dX2_subMod_33 : decode cX2_subMod 33 = .ok (.aaload, 1) := by decide +kernel
theorem dX2_subMod_34 : decode cX2_subMod 34 = .ok (.invokevirtual 73, 3) := by decide +kernel
theorem dX2_subMod_37 : decode cX2_subMod 37 = .ok (.iconst 1, 1) := by decide +kernel
theorem dX2_subMod_38 : decode cX2_subMod 38 = .ok (.ireturn, 1) := by decide +kernel
set_option maxRecDepth 20000 in
theorem ggX2_mulMod_X2_canWork : GoodIn wsX2_mulMod wsX2_canWork := goodIn_r _ [7, 8, 9, 10, 11, 6, 12, 13, 53, 54, 55, 56, 57] (by decide +kernel) (by decide +kernel)
set_option maxRecDepth 20000 in
theorem gX2_mulMod_X2_canWork : GoodIn wsX2_mulMod (wsV RX2 65 RX2 yX2_canWork wsX2_canWork) := goodIn_app (goodIn_of _ (by decide +kernel)) ggX2_mulMod_X2_canWork
set_option maxRecDepth 20000 in
theorem ggX2_mulMod_X1_product : GoodIn wsX2_mulMod wsX1_product := goodIn_r _ [18, 19, 20, 21, 22, 23, 17, 24, 25, 26, 27, 28, 29, 30, 31, 32, 33, 34, 35, 36, 37, 38, 39, 40, 41, 42, 43, 44, 45, 46, 47, 48, 49, 50, 51, 52, 58, 59, 60, 61, 62, 63, 64, 65, 66, 67, 68, 69] (by decide +kernel) (by decide +kernel)
set_option maxRecDepth 20000 in
theorem gX2_mulMod_X1_product : GoodIn wsX2_mulMod (wsV RX2 76 RX1 yX1_product wsX1_product) := goodIn_app (goodIn_of _ (by decide +kernel)) ggX2_mulMod_X1_product
theorem dX2_mulMod_0 : decode cX2_mulMod 0 = .ok (.aload_n 0, 1) := by decide +kernel
theorem dX2_mulMod_1 : decode cX2_mulMod 1 = .ok (.iload_n 1, 1) := by decide +kernel
theorem dX2_mulMod_2 : decode cX2_mulMod 2 = .ok (.iload_n 2, 1) := by decide +kernel
theorem dX2_mulMod_3 : decode cX2_mulMod 3 = .ok (.iload_n 3, 1) := by decide +kernel
theorem dX2_mulMod_4 : decode cX2_mulMod 4 = .ok (.invokevirtual 65, 3) := by decide +kernel
theorem dX2_mulMod_7 : decode cX2_mulMod 7 = .ok (.ifCond .ne 5, 3) := by decide +kernel
theorem dX2_mulMod_10 : decode cX2_mulMod 10 = .ok (.iconst 0, 1) := by decide +kernel
theorem dX2_mulMod_11 : decode cX2_mulMod 11 = .ok (.ireturn, 1) := by decide +kernel
theorem dX2_mulMod_12 : decode cX2_mulMod 12 = .ok (.aload_n 0, 1) := by decide +kernel
theorem dX2_mulMod_13 : decode cX2_mulMod 13 = .ok (.getfield 35, 3) := by decide +kernel
theorem dX2_mulMod_16 : decode cX2_mulMod 16 = .ok (.aload_n 0, 1) := by decide +kernel
theorem dX2_mulMod_17 : decode cX2_mulMod 17 = .ok (.getfield 27, 3) := by decide +kernel
theorem dX2_mulMod_20 : decode cX2_mulMod 20 = .ok (.iload_n 1, 1) := by decide +kernel
theorem dX2_mulMod_21 : decode cX2_mulMod 21 = .ok (.aaload, 1) := by decide +kernel
theorem dX2_mulMod_22 : decode cX2_mulMod 22 = .ok (.aload_n 0, 1) := by decide +kernel
theorem dX2_mulMod_23 : decode cX2_mulMod 23 = .ok (.getfield 27, 3) := by decide +kernel
theorem dX2_mulMod_26 : decode cX2_mulMod 26 = .ok (.iload_n 2, 1) := by decide +kernel
theorem dX2_mulMod_27 : decode cX2_mulMod 27 = .ok (.aaload, 1) := by decide +kernel
theorem dX2_mulMod_28 : decode cX2_mulMod 28 = .ok (.aload_n 0, 1) := by decide +kernel
theorem dX2_mulMod_29 : decode cX2_mulMod 29 = .ok (.getfield 27, 3) := by decide +kernel
theorem dX2_mulMod_32 : decode cX2_mulMod 32 = .ok (.iload_n 3, 1) := by decide +kernel
theorem dX2_mulMod_33 : decode cX2_mulMod 33 = .ok (.aaload, 1) := by decide +kernel
theorem dX2_mulMod_34 : decode cX2_mulMod 34 = .ok (.invokevirtual 76, 3) := by decide +kernel
theorem dX2_mulMod_37 : decode cX2_mulMod 37 = .ok (.iconst 1, 1) := by decide +kernel
theorem dX2_mulMod_38 : decode cX2_mulMod 38 = .ok (.ireturn, 1) := by decide +kernel
set_option maxRecDepth 20000 in
theorem ggX2_montMod_X2_canWork : GoodIn wsX2_montMod wsX2_canWork := goodIn_r _ [7, 8, 9, 10, 11, 6, 12, 13, 58, 59, 60, 61, 62] (by decide +kernel) (by decide +kernel)
set_option maxRecDepth 20000 in
theorem gX2_montMod_X2_canWork : GoodIn wsX2_montMod (wsV RX2 65 RX2 yX2_canWork wsX2_canWork) := goodIn_app (goodIn_of _ (by decide +kernel)) ggX2_montMod_X2_canWork
set_option maxRecDepth 20000 in
theorem ggX2_montMod_X1_productByR : GoodIn wsX2_montMod wsX1_productByR := goodIn_r _ [18, 19, 20, 21, 22, 23, 17, 24, 25, 26, 27, 28, 29, 30, 31, 32, 33, 34, 35, 36, 37, 38, 39, 40, 41, 42, 43, 44, 45, 46, 47, 48, 49, 50, 51, 52, 53, 54, 55, 56, 57, 63, 64, 65, 66, 67, 68, 69, 70, 71, 72, 73, 74] (by decide +kernel) (by decide +kernel)
set_option maxRecDepth 20000 in
theorem gX2_montMod_X1_productByR : GoodIn wsX2_montMod (wsV RX2 79 RX1 yX1_productByR wsX1_productByR) := goodIn_app (goodIn_of _ (by decide +kernel)) ggX2_montMod_X1_productByR
theorem dX2_montMod_0 : decode cX2_montMod 0 = .ok (.aload_n 0, 1) := by decide +kernel
theorem dX2_montMod_1 : decode cX2_montMod 1 = .ok (.iload_n 1, 1) := by decide +kernel
theorem dX2_montMod_2 : decode cX2_montMod 2 = .ok (.iload_n 2, 1) := by decide +kernel
theorem dX2_montMod_3 : decode cX2_montMod 3 = .ok (.iload_n 3, 1) := by decide +kernel
theorem dX2_montMod_4 : decode cX2_montMod 4 = .ok (.invokevirtual 65, 3) := by decide +kernel
theorem dX2_montMod_7 : decode cX2_montMod 7 = .ok (.ifCond .ne 5, 3) := by decide +kernel
theorem dX2_montMod_10 : decode cX2_montMod 10 = .ok (.iconst 0, 1) := by decide +kernel
theorem dX2_montMod_11 : decode cX2_montMod 11 = .ok (.ireturn, 1) := by decide +kernel
theorem dX2_montMod_12 : decode cX2_montMod 12 = .ok (.aload_n 0, 1) := by decide +kernel
theorem dX2_montMod_13 : decode cX2_montMod 13 = .ok (.getfield 35, 3) := by decide +kernel
theorem dX2_montMod_16 : decode cX2_montMod 16 = .ok (.aload_n 0, 1) := by decide +kernel
theorem dX2_montMod_17 : decode cX2_montMod 17 = .ok (.getfield 27, 3) := by decide +kernel
theorem dX2_montMod_20 : decode cX2_montMod 20 = .ok (.iload_n 1, 1) := by decide +kernel
theorem dX2_montMod_21 : decode cX2_montMod 21 = .ok (.aaload, 1) := by decide +kernel
theorem dX2_montMod_22 : decode cX2_montMod 22 = .ok (.aload_n 0, 1) := by decide +kernel
theorem dX2_montMod_23 : decode cX2_montMod 23 = .ok (.getfield 27, 3) := by decide +kernel
theorem dX2_montMod_26 : decode cX2_montMod 26 = .ok (.iload_n 2, 1) := by decide +kernel
theorem dX2_montMod_27 : decode cX2_montMod 27 = .ok (.aaload, 1) := by decide +kernel
theorem dX2_montMod_28 : decode cX2_montMod 28 = .ok (.aload_n 0, 1) := by decide +kernel
theorem dX2_montMod_29 : decode cX2_montMod 29 = .ok (.getfield 27, 3) := by decide +kernel
theorem dX2_montMod_32 : decode cX2_montMod 32 = .ok (.iload_n 3, 1) := by decide +kernel
theorem dX2_montMod_33 : decode cX2_montMod 33 = .ok (.aaload, 1) := by decide +kernel
theorem dX2_montMod_34 : decode cX2_montMod 34 = .ok (.invokevirtual 79, 3) := by decide +kernel
theorem dX2_montMod_37 : decode cX2_montMod 37 = .ok (.iconst 1, 1) := by decide +kernel
theorem dX2_montMod_38 : decode cX2_montMod 38 = .ok (.ireturn, 1) := by decide +kernel
set_option maxRecDepth 20000 in
theorem ggX2_powMod_X2_canWork : GoodIn wsX2_powMod wsX2_canWork := goodIn_r _ [7, 8, 9, 10, 11, 6, 12, 13, 67, 68, 69, 70, 71] (by decide +kernel) (by decide +kernel)
set_option maxRecDepth 20000 in
theorem gX2_powMod_X2_canWork : GoodIn wsX2_powMod (wsV RX2 65 RX2 yX2_canWork wsX2_canWork) := goodIn_app (goodIn_of _ (by decide +kernel)) ggX2_powMod_X2_canWork
set_option maxRecDepth 20000 in
theorem ggX2_powMod_X1_power : GoodIn wsX2_powMod wsX1_power := goodIn_r _ [18, 19, 20, 21, 22, 23, 24, 25, 17, 26, 27, 28, 29, 30, 31, 32, 33, 34, 35, 36, 37, 38, 39, 40, 41, 42, 43, 44, 45, 46, 47, 48, 49, 50, 51, 52, 53, 54, 55, 56, 57, 58, 59, 60, 61, 62, 63, 64, 65, 66, 72, 73, 74, 75, 76, 77, 78, 79, 80, 81, 82, 83] (by decide +kernel) (by decide +kernel)
set_option maxRecDepth 20000 in
theorem gX2_powMod_X1_power : GoodIn wsX2_powMod (wsV RX2 82 RX1 yX1_power wsX1_power) := goodIn_app (goodIn_of _ (by decide +kernel)) ggX2_powMod_X1_power
theorem dX2_powMod_0 : decode cX2_powMod 0 = .ok (.aload_n 0, 1) := by decide +kernel
theorem dX2_powMod_1 : decode cX2_powMod 1 = .ok (.iload_n 1, 1) := by decide +kernel
theorem dX2_powMod_2 : decode cX2_powMod 2 = .ok (.iload_n 2, 1) := by decide +kernel
theorem dX2_powMod_3 : decode cX2_powMod 3 = .ok (.iload_n 3, 1) := by decide +kernel
theorem dX2_powMod_4 : decode cX2_powMod 4 = .ok (.invokevirtual 65, 3) := by decide +kernel
theorem dX2_powMod_7 : decode cX2_powMod 7 = .ok (.ifCond .ne 5, 3) := by decide +kernel
theorem dX2_powMod_10 : decode cX2_powMod 10 = .ok (.iconst 0, 1) := by decide +kernel
theorem dX2_powMod_11 : decode cX2_powMod 11 = .ok (.ireturn, 1) := by decide +kernel
theorem dX2_powMod_12 : decode cX2_powMod 12 = .ok (.aload_n 0, 1) := by decide +kernel
theorem dX2_powMod_13 : decode cX2_powMod 13 = .ok (.getfield 35, 3) := by decide +kernel
theorem dX2_powMod_16 : decode cX2_powMod 16 = .ok (.aload_n 0, 1) := by decide +kernel
theorem dX2_powMod_17 : decode cX2_powMod 17 = .ok (.getfield 27, 3) := by decide +kernel
theorem dX2_powMod_20 : decode cX2_powMod 20 = .ok (.iload_n 1, 1) := by decide +kernel
theorem dX2_powMod_21 : decode cX2_powMod 21 = .ok (.aaload, 1) := by decide +kernel
theorem dX2_powMod_22 : decode cX2_powMod 22 = .ok (.aload_n 0, 1) := by decide +kernel
theorem dX2_powMod_23 : decode cX2_powMod 23 = .ok (.getfield 27, 3) := by decide +kernel
theorem dX2_powMod_26 : decode cX2_powMod 26 = .ok (.iload_n 2, 1) := by decide +kernel
theorem dX2_powMod_27 : decode cX2_powMod 27 = .ok (.aaload, 1) := by decide +kernel
theorem dX2_powMod_28 : decode cX2_powMod 28 = .ok (.aload_n 0, 1) := by decide +kernel
theorem dX2_powMod_29 : decode cX2_powMod 29 = .ok (.getfield 27, 3) := by decide +kernel
theorem dX2_powMod_32 : decode cX2_powMod 32 = .ok (.iload_n 3, 1) := by decide +kernel
theorem dX2_powMod_33 : decode cX2_powMod 33 = .ok (.aaload, 1) := by decide +kernel
theorem dX2_powMod_34 : decode cX2_powMod 34 = .ok (.invokevirtual 82, 3) := by decide +kernel
theorem dX2_powMod_37 : decode cX2_powMod 37 = .ok (.iconst 1, 1) := by decide +kernel
theorem dX2_powMod_38 : decode cX2_powMod 38 = .ok (.ireturn, 1) := by decide +kernel
set_option maxRecDepth 20000 in
theorem ggX2_invMod_X2_canWork : GoodIn wsX2_invMod wsX2_canWork := goodIn_r _ [7, 8, 9, 10, 11, 6, 12, 13, 89, 90, 91, 92, 93] (by decide +kernel) (by decide +kernel)
set_option maxRecDepth 20000 in
theorem gX2_invMod_X2_canWork : GoodIn wsX2_invMod (wsV RX2 65 RX2 yX2_canWork wsX2_canWork) := goodIn_app (goodIn_of _ (by decide +kernel)) ggX2_invMod_X2_canWork
set_option maxRecDepth 20000 in
theorem ggX2_invMod_X1_invert : GoodIn wsX2_invMod wsX1_invert := goodIn_r _ [18, 19, 20, 21, 22, 23, 24, 25, 26, 27, 28, 29, 17, 30, 31, 32, 33, 34, 35, 36, 37, 38, 39, 40, 41, 42, 43, 44, 45, 46, 47, 48, 49, 50, 51, 52, 53, 54, 55, 56, 57, 58, 59, 60, 61, 62, 63, 64, 65, 66, 67, 68, 69, 70, 71, 72, 73, 74, 75, 76, 77, 78, 79, 80, 81, 82, 83, 84, 85, 86, 87, 88, 94, 95, 96, 97, 98, 99, 100, 101, 102, 103, 104, 105] (by decide +kernel) (by decide +kernel)
set_option maxRecDepth 20000 in
theorem gX2_invMod_X1_invert : GoodIn wsX2_invMod (wsV RX2 85 RX1 yX1_invert wsX1_invert) := goodIn_app (goodIn_of _ (by decide +kernel)) ggX2_invMod_X1_invert
theorem dX2_invMod_0 : decode cX2_invMod 0 = .ok (.aload_n 0, 1) := by decide +kernel
theorem dX2_invMod_1 : decode cX2_invMod 1 = .ok (.iload_n 1, 1) := by decide +kernel
theorem dX2_invMod_2 : decode cX2_invMod 2 = .ok (.iload_n 2, 1) := by decide +kernel
theorem dX2_invMod_3 : decode cX2_invMod 3 = .ok (.iload_n 2, 1) := by decide +kernel
theorem dX2_invMod_4 : decode cX2_invMod 4 = .ok (.invokevirtual 65, 3) := by decide +kernel
theorem dX2_invMod_7 : decode cX2_invMod 7 = .ok (.ifCond .ne 5, 3) := by decide +kernel
theorem dX2_invMod_10 : decode cX2_invMod 10 = .ok (.iconst 2, 1) := by decide +kernel
theorem dX2_invMod_11 : decode cX2_invMod 11 = .ok (.ireturn, 1) := by decide +kernel
theorem dX2_invMod_12 : decode cX2_invMod 12 = .ok (.aload_n 0, 1) := by decide +kernel
theorem dX2_invMod_13 : decode cX2_invMod 13 = .ok (.getfield 35, 3) := by decide +kernel
theorem dX2_invMod_16 : decode cX2_invMod 16 = .ok (.aload_n 0, 1) := by decide +kernel
theorem dX2_invMod_17 : decode cX2_invMod 17 = .ok (.getfield 27, 3) := by decide +kernel
theorem dX2_invMod_20 : decode cX2_invMod 20 = .ok (.iload_n 1, 1) := by decide +kernel
theorem dX2_invMod_21 : decode cX2_invMod 21 = .ok (.aaload, 1) := by decide +kernel
theorem dX2_invMod_22 : decode cX2_invMod 22 = .ok (.aload_n 0, 1) := by decide +kernel
theorem dX2_invMod_23 : decode cX2_invMod 23 = .ok (.getfield 27, 3) := by decide +kernel
theorem dX2_invMod_26 : decode cX2_invMod 26 = .ok (.iload_n 2, 1) := by decide +kernel
theorem dX2_invMod_27 : decode cX2_invMod 27 = .ok (.aaload, 1) := by decide +kernel
theorem dX2_invMod_28 : decode cX2_invMod 28 = .ok (.invokevirtual 85, 3) := by decide +kernel
theorem dX2_invMod_31 : decode cX2_invMod 31 = .ok (.ifCond .eq 7, 3) := by decide +kernel
theorem dX2_invMod_34 : decode cX2_invMod 34 = .ok (.iconst 0, 1) := by decide +kernel
theorem dX2_invMod_35 : decode cX2_invMod 35 = .ok (.goto 4, 3) := by decide +kernel
theorem dX2_invMod_38 : decode cX2_invMod 38 = .ok (.iconst 1, 1) := by decide +kernel
theorem dX2_invMod_39 : decode cX2_invMod 39 = .ok (.ireturn, 1) := by decide +kernel
set_option maxRecDepth 20000 in
theorem ggX2_witness_X2_hasRegister : GoodIn wsX2_witness wsX2_hasRegister := goodIn_r _ [8, 9, 78, 79, 80, 81, 82] (by decide +kernel) (by decide +kernel)
set_option maxRecDepth 20000 in
theorem gX2_witness_X2_hasRegister : GoodIn wsX2_witness (wsV RX2 58 RX2 yX2_hasRegister wsX2_hasRegister) := goodIn_app (goodIn_of _ (by decide +kernel)) ggX2_witness_X2_hasRegister
set_option maxRecDepth 20000 in
theorem ggX2_witness_X1_isProvedCompositeBy : GoodIn wsX2_witness wsX1_isProvedCompositeBy := goodIn_r _ [14, 15, 16, 17, 18, 19, 20, 21, 22, 23, 24, 13, 25, 26, 27, 28, 29, 30, 31, 32, 33, 34, 35, 36, 37, 38, 39, 40, 41, 42, 43, 44, 45, 46, 47, 48, 49, 50, 51, 52, 53, 54, 55, 56, 57, 58, 59, 60, 61, 62, 63, 64, 65, 66, 67, 68, 69, 70, 71, 72, 73, 74, 75, 76, 77, 83, 84, 85, 86, 87, 88, 89, 90, 91, 92, 93, 94] (by decide +kernel) (by decide +kernel)
set_option maxRecDepth 20000 in
theorem gX2_witness_X1_isProvedCompositeBy : GoodIn wsX2_witness (wsV RX2 89 RX1 yX1_isProvedCompositeBy wsX1_isProvedCompositeBy) := goodIn_app (goodIn_of _ (by decide +kernel)) ggX2_witness_X1_isProvedCompositeBy
theorem dX2_witness_0 : decode cX2_witness 0 = .ok (.aload_n 0, 1) := by decide +kernel
theorem dX2_witness_1 : decode cX2_witness 1 = .ok (.getfield 39, 3) := by decide +kernel
theorem dX2_witness_4 : decode cX2_witness 4 = .ok (.ifCond .eq 11, 3) := by decide +kernel
theorem dX2_witness_7 : decode cX2_witness 7 = .ok (.aload_n 0, 1) := by decide +kernel
theorem dX2_witness_8 : decode cX2_witness 8 = .ok (.iload_n 1, 1) := by decide +kernel
theorem dX2_witness_9 : decode cX2_witness 9 = .ok (.invokevirtual 58, 3) := by decide +kernel
theorem dX2_witness_12 : decode cX2_witness 12 = .ok (.ifCond .ne 5, 3) := by decide +kernel
theorem dX2_witness_15 : decode cX2_witness 15 = .ok (.iconst 2, 1) := by decide +kernel
theorem dX2_witness_16 : decode cX2_witness 16 = .ok (.ireturn, 1) := by decide +kernel
theorem dX2_witness_17 : decode cX2_witness 17 = .ok (.aload_n 0, 1) := by decide +kernel
theorem dX2_witness_18 : decode cX2_witness 18 = .ok (.getfield 35, 3) := by decide +kernel
theorem dX2_witness_21 : decode cX2_witness 21 = .ok (.aload_n 0, 1) := by decide +kernel
theorem dX2_witness_22 : decode cX2_witness 22 = .ok (.getfield 27, 3) := by decide +kernel
theorem dX2_witness_25 : decode cX2_witness 25 = .ok (.iload_n 1, 1) := by decide +kernel
theorem dX2_witness_26 : decode cX2_witness 26 = .ok (.aaload, 1) := by decide +kernel
theorem dX2_witness_27 : decode cX2_witness 27 = .ok (.invokevirtual 89, 3) := by decide +kernel
theorem dX2_witness_30 : decode cX2_witness 30 = .ok (.ifCond .eq 7, 3) := by decide +kernel
theorem dX2_witness_33 : decode cX2_witness 33 = .ok (.iconst 1, 1) := by decide +kernel
theorem dX2_witness_34 : decode cX2_witness 34 = .ok (.goto 4, 3) := by decide +kernel
theorem dX2_witness_37 : decode cX2_witness 37 = .ok (.iconst 0, 1) := by decide +kernel
theorem dX2_witness_38 : decode cX2_witness 38 = .ok (.ireturn, 1) := by decide +kernel
set_option maxRecDepth 20000 in
theorem ggX2_compare_X2_hasRegister : GoodIn wsX2_compare wsX2_hasRegister := goodIn_r _ [7, 8, 14, 15, 16, 17, 18] (by decide +kernel) (by decide +kernel)
set_option maxRecDepth 20000 in
theorem gX2_compare_X2_hasRegister : GoodIn wsX2_compare (wsV RX2 58 RX2 yX2_hasRegister wsX2_hasRegister) := goodIn_app (goodIn_of _ (by decide +kernel)) ggX2_compare_X2_hasRegister
set_option maxRecDepth 20000 in
theorem ggX2_compare_X0_order : GoodIn wsX2_compare wsX0_order := goodIn_r _ [12, 13] (by decide +kernel) (by decide +kernel)
set_option maxRecDepth 20000 in
theorem gX2_compare_X0_order : GoodIn wsX2_compare (va_wsS RX2 93 yX0_order wsX0_order) := goodIn_app (goodIn_of _ (by decide +kernel)) ggX2_compare_X0_order
theorem dX2_compare_0 : decode cX2_compare 0 = .ok (.aload_n 0, 1) := by decide +kernel
theorem dX2_compare_1 : decode cX2_compare 1 = .ok (.iload_n 1, 1) := by decide +kernel
theorem dX2_compare_2 : decode cX2_compare 2 = .ok (.invokevirtual 58, 3) := by decide +kernel
theorem dX2_compare_5 : decode cX2_compare 5 = .ok (.ifCond .eq 11, 3) := by decide +kernel
theorem dX2_compare_8 : decode cX2_compare 8 = .ok (.aload_n 0, 1) := by decide +kernel
theorem dX2_compare_9 : decode cX2_compare 9 = .ok (.iload_n 2, 1) := by decide +kernel
theorem dX2_compare_10 : decode cX2_compare 10 = .ok (.invokevirtual 58, 3) := by decide +kernel
theorem dX2_compare_13 : decode cX2_compare 13 = .ok (.ifCond .ne 5, 3) := by decide +kernel
theorem dX2_compare_16 : decode cX2_compare 16 = .ok (.iconst 2, 1) := by decide +kernel
theorem dX2_compare_17 : decode cX2_compare 17 = .ok (.ireturn, 1) := by decide +kernel
theorem dX2_compare_18 : decode cX2_compare 18 = .ok (.aload_n 0, 1) := by decide +kernel
theorem dX2_compare_19 : decode cX2_compare 19 = .ok (.getfield 27, 3) := by decide +kernel
theorem dX2_compare_22 : decode cX2_compare 22 = .ok (.iload_n 1, 1) := by decide +kernel
theorem dX2_compare_23 : decode cX2_compare 23 = .ok (.aaload, 1) := by decide +kernel
theorem dX2_compare_24 : decode cX2_compare 24 = .ok (.aload_n 0, 1) := by decide +kernel
theorem dX2_compare_25 : decode cX2_compare 25 = .ok (.getfield 27, 3) := by decide +kernel
theorem dX2_compare_28 : decode cX2_compare 28 = .ok (.iload_n 2, 1) := by decide +kernel
theorem dX2_compare_29 : decode cX2_compare 29 = .ok (.aaload, 1) := by decide +kernel
theorem dX2_compare_30 : decode cX2_compare 30 = .ok (.aload_n 0, 1) := by decide +kernel
theorem dX2_compare_31 : decode cX2_compare 31 = .ok (.getfield 18, 3) := by decide +kernel
theorem dX2_compare_34 : decode cX2_compare 34 = .ok (.invokestatic 93, 3) := by decide +kernel
theorem dX2_compare_37 : decode cX2_compare 37 = .ok (.ireturn, 1) := by decide +kernel
theorem dX2_hasLimb_0 : decode cX2_hasLimb 0 = .ok (.iload_n 1, 1) := by decide +kernel
theorem dX2_hasLimb_1 : decode cX2_hasLimb 1 = .ok (.ifCond .lt 15, 3) := by decide +kernel
theorem dX2_hasLimb_4 : decode cX2_hasLimb 4 = .ok (.iload_n 1, 1) := by decide +kernel
theorem dX2_hasLimb_5 : decode cX2_hasLimb 5 = .ok (.aload_n 0, 1) := by decide +kernel
theorem dX2_hasLimb_6 : decode cX2_hasLimb 6 = .ok (.getfield 18, 3) := by decide +kernel
theorem dX2_hasLimb_9 : decode cX2_hasLimb 9 = .ok (.if_icmp .ge 7, 3) := by decide +kernel
theorem dX2_hasLimb_12 : decode cX2_hasLimb 12 = .ok (.iconst 1, 1) := by decide +kernel
theorem dX2_hasLimb_13 : decode cX2_hasLimb 13 = .ok (.goto 4, 3) := by decide +kernel
theorem dX2_hasLimb_16 : decode cX2_hasLimb 16 = .ok (.iconst 0, 1) := by decide +kernel
theorem dX2_hasLimb_17 : decode cX2_hasLimb 17 = .ok (.ireturn, 1) := by decide +kernel
theorem dX2_hasRegister_0 : decode cX2_hasRegister 0 = .ok (.iload_n 1, 1) := by decide +kernel
theorem dX2_hasRegister_1 : decode cX2_hasRegister 1 = .ok (.ifCond .lt 15, 3) := by decide +kernel
theorem dX2_hasRegister_4 : decode cX2_hasRegister 4 = .ok (.iload_n 1, 1) := by decide +kernel
theorem dX2_hasRegister_5 : decode cX2_hasRegister 5 = .ok (.aload_n 0, 1) := by decide +kernel
theorem dX2_hasRegister_6 : decode cX2_hasRegister 6 = .ok (.getfield 22, 3) := by decide +kernel
theorem dX2_hasRegister_9 : decode cX2_hasRegister 9 = .ok (.if_icmp .ge 7, 3) := by decide +kernel
theorem dX2_hasRegister_12 : decode cX2_hasRegister 12 = .ok (.iconst 1, 1) := by decide +kernel
theorem dX2_hasRegister_13 : decode cX2_hasRegister 13 = .ok (.goto 4, 3) := by decide +kernel
theorem dX2_hasRegister_16 : decode cX2_hasRegister 16 = .ok (.iconst 0, 1) := by decide +kernel
theorem dX2_hasRegister_17 : decode cX2_hasRegister 17 = .ok (.ireturn, 1) := by decide +kernel
set_option maxRecDepth 20000 in
theorem ggX2_canWork_X2_hasRegister : GoodIn wsX2_canWork wsX2_hasRegister := goodIn_r _ [6, 7, 8, 9, 10, 11, 12] (by decide +kernel) (by decide +kernel)
set_option maxRecDepth 20000 in
theorem gX2_canWork_X2_hasRegister : GoodIn wsX2_canWork (wsV RX2 58 RX2 yX2_hasRegister wsX2_hasRegister) := goodIn_app (goodIn_of _ (by decide +kernel)) ggX2_canWork_X2_hasRegister
theorem dX2_canWork_0 : decode cX2_canWork 0 = .ok (.aload_n 0, 1) := by decide +kernel
theorem dX2_canWork_1 : decode cX2_canWork 1 = .ok (.getfield 39, 3) := by decide +kernel
theorem dX2_canWork_4 : decode cX2_canWork 4 = .ok (.ifCond .eq 31, 3) := by decide +kernel
theorem dX2_canWork_7 : decode cX2_canWork 7 = .ok (.aload_n 0, 1) := by decide +kernel
theorem dX2_canWork_8 : decode cX2_canWork 8 = .ok (.iload_n 1, 1) := by decide +kernel
theorem dX2_canWork_9 : decode cX2_canWork 9 = .ok (.invokevirtual 58, 3) := by decide +kernel
theorem dX2_canWork_12 : decode cX2_canWork 12 = .ok (.ifCond .eq 23, 3) := by decide +kernel
theorem dX2_canWork_15 : decode cX2_canWork 15 = .ok (.aload_n 0, 1) := by decide +kernel
theorem dX2_canWork_16 : decode cX2_canWork 16 = .ok (.iload_n 2, 1) := by decide +kernel
theorem dX2_canWork_17 : decode cX2_canWork 17 = .ok (.invokevirtual 58, 3) := by decide +kernel
theorem dX2_canWork_20 : decode cX2_canWork 20 = .ok (.ifCond .eq 15, 3) := by decide +kernel
theorem dX2_canWork_23 : decode cX2_canWork 23 = .ok (.aload_n 0, 1) := by decide +kernel
theorem dX2_canWork_24 : decode cX2_canWork 24 = .ok (.iload_n 3, 1) := by decide +kernel
theorem dX2_canWork_25 : decode cX2_canWork 25 = .ok (.invokevirtual 58, 3) := by decide +kernel
theorem dX2_canWork_28 : decode cX2_canWork 28 = .ok (.ifCond .eq 7, 3) := by decide +kernel
theorem dX2_canWork_31 : decode cX2_canWork 31 = .ok (.iconst 1, 1) := by decide +kernel
theorem dX2_canWork_32 : decode cX2_canWork 32 = .ok (.goto 4, 3) := by decide +kernel
theorem dX2_canWork_35 : decode cX2_canWork 35 = .ok (.iconst 0, 1) := by decide +kernel
theorem dX2_canWork_36 : decode cX2_canWork 36 = .ok (.ireturn, 1) := by decide +kernel
set_option maxRecDepth 20000 in
theorem ggX3_init_X3_within : GoodIn wsX3_init wsX3_within := goodIn_r _ [18] (by decide +kernel) (by decide +kernel)
set_option maxRecDepth 20000 in
theorem gX3_init_X3_within : GoodIn wsX3_init (va_wsS RX3 34 yX3_within wsX3_within) := goodIn_app (goodIn_of _ (by decide +kernel)) ggX3_init_X3_within
theorem dX3_init_0 : decode cX3_init 0 = .ok (.aload_n 0, 1) := by decide +kernel
theorem dX3_init_1 : decode cX3_init 1 = .ok (.invokespecial 1, 3) := by decide +kernel
theorem dX3_init_4 : decode cX3_init 4 = .ok (.aload_n 0, 1) := by decide +kernel
theorem dX3_init_5 : decode cX3_init 5 = .ok (.bipush 81, 2) := by decide +kernel
theorem dX3_init_7 : decode cX3_init 7 = .ok (.newarray .long, 2) := by decide +kernel
theorem dX3_init_9 : decode cX3_init 9 = .ok (.putfield 7, 3) := by decide +kernel
theorem dX3_init_12 : decode cX3_init 12 = .ok (.aload_n 0, 1) := by decide +kernel
theorem dX3_init_13 : decode cX3_init 13 = .ok (.bipush 9, 2) := by decide +kernel
theorem dX3_init_15 : decode cX3_init 15 = .ok (.newarray .long, 2) := by decide +kernel
theorem dX3_init_17 : decode cX3_init 17 = .ok (.putfield 13, 3) := by decide +kernel
theorem dX3_init_20 : decode cX3_init 20 = .ok (.aload_n 0, 1) := by decide +kernel
theorem dX3_init_21 : decode cX3_init 21 = .ok (.bipush 9, 2) := by decide +kernel
theorem dX3_init_23 : decode cX3_init 23 = .ok (.newarray .long, 2) := by decide +kernel
theorem dX3_init_25 : decode cX3_init 25 = .ok (.putfield 16, 3) := by decide +kernel
theorem dX3_init_28 : decode cX3_init 28 = .ok (.aload_n 0, 1) := by decide +kernel
theorem dX3_init_29 : decode cX3_init 29 = .ok (.bipush 9, 2) := by decide +kernel
theorem dX3_init_31 : decode cX3_init 31 = .ok (.newarray .long, 2) := by decide +kernel
theorem dX3_init_33 : decode cX3_init 33 = .ok (.putfield 19, 3) := by decide +kernel
theorem dX3_init_36 : decode cX3_init 36 = .ok (.aload_n 0, 1) := by decide +kernel
theorem dX3_init_37 : decode cX3_init 37 = .ok (.bipush 9, 2) := by decide +kernel
theorem dX3_init_39 : decode cX3_init 39 = .ok (.newarray .long, 2) := by decide +kernel
theorem dX3_init_41 : decode cX3_init 41 = .ok (.putfield 22, 3) := by decide +kernel
theorem dX3_init_44 : decode cX3_init 44 = .ok (.aload_n 0, 1) := by decide +kernel
theorem dX3_init_45 : decode cX3_init 45 = .ok (.bipush 9, 2) := by decide +kernel
theorem dX3_init_47 : decode cX3_init 47 = .ok (.newarray .long, 2) := by decide +kernel
theorem dX3_init_49 : decode cX3_init 49 = .ok (.putfield 25, 3) := by decide +kernel
theorem dX3_init_52 : decode cX3_init 52 = .ok (.aload_n 0, 1) := by decide +kernel
theorem dX3_init_53 : decode cX3_init 53 = .ok (.bipush 9, 2) := by decide +kernel
theorem dX3_init_55 : decode cX3_init 55 = .ok (.newarray .long, 2) := by decide +kernel
theorem dX3_init_57 : decode cX3_init 57 = .ok (.putfield 28, 3) := by decide +kernel
theorem dX3_init_60 : decode cX3_init 60 = .ok (.aload_n 0, 1) := by decide +kernel
theorem dX3_init_61 : decode cX3_init 61 = .ok (.bipush 9, 2) := by decide +kernel
theorem dX3_init_63 : decode cX3_init 63 = .ok (.newarray .long, 2) := by decide +kernel
theorem dX3_init_65 : decode cX3_init 65 = .ok (.putfield 31, 3) := by decide +kernel
theorem dX3_init_68 : decode cX3_init 68 = .ok (.aload_n 0, 1) := by decide +kernel
theorem dX3_init_69 : decode cX3_init 69 = .ok (.iload_n 1, 1) := by decide +kernel
theorem dX3_init_70 : decode cX3_init 70 = .ok (.invokestatic 34, 3) := by decide +kernel
theorem dX3_init_73 : decode cX3_init 73 = .ok (.putfield 38, 3) := by decide +kernel
theorem dX3_init_76 : decode cX3_init 76 = .ok (.aload_n 0, 1) := by decide +kernel
theorem dX3_init_77 : decode cX3_init 77 = .ok (.iload_n 2, 1) := by decide +kernel
theorem dX3_init_78 : decode cX3_init 78 = .ok (.invokestatic 34, 3) := by decide +kernel
theorem dX3_init_81 : decode cX3_init 81 = .ok (.putfield 42, 3) := by decide +kernel
theorem dX3_init_84 : decode cX3_init 84 = .ok (.return_, 1) := by decide +kernel
theorem dX3_within_0 : decode cX3_within 0 = .ok (.iload_n 0, 1) := by decide +kernel
theorem dX3_within_1 : decode cX3_within 1 = .ok (.iconst 1, 1) := by decide +kernel
theorem dX3_within_2 : decode cX3_within 2 = .ok (.if_icmp .ge 7, 3) := by decide +kernel
theorem dX3_within_5 : decode cX3_within 5 = .ok (.iconst 1, 1) := by decide +kernel
theorem dX3_within_6 : decode cX3_within 6 = .ok (.goto 15, 3) := by decide +kernel
theorem dX3_within_9 : decode cX3_within 9 = .ok (.iload_n 0, 1) := by decide +kernel
theorem dX3_within_10 : decode cX3_within 10 = .ok (.bipush 8, 2) := by decide +kernel
theorem dX3_within_12 : decode cX3_within 12 = .ok (.if_icmp .le 8, 3) := by decide +kernel
theorem dX3_within_15 : decode cX3_within 15 = .ok (.bipush 8, 2) := by decide +kernel
theorem dX3_within_17 : decode cX3_within 17 = .ok (.goto 4, 3) := by decide +kernel
theorem dX3_within_20 : decode cX3_within 20 = .ok (.iload_n 0, 1) := by decide +kernel
theorem dX3_within_21 : decode cX3_within 21 = .ok (.ireturn, 1) := by decide +kernel
theorem dX3_isLimb_0 : decode cX3_isLimb 0 = .ok (.iload_n 1, 1) := by decide +kernel
theorem dX3_isLimb_1 : decode cX3_isLimb 1 = .ok (.ifCond .lt 15, 3) := by decide +kernel
theorem dX3_isLimb_4 : decode cX3_isLimb 4 = .ok (.iload_n 1, 1) := by decide +kernel
theorem dX3_isLimb_5 : decode cX3_isLimb 5 = .ok (.aload_n 0, 1) := by decide +kernel
theorem dX3_isLimb_6 : decode cX3_isLimb 6 = .ok (.getfield 38, 3) := by decide +kernel
theorem dX3_isLimb_9 : decode cX3_isLimb 9 = .ok (.if_icmp .ge 7, 3) := by decide +kernel
theorem dX3_isLimb_12 : decode cX3_isLimb 12 = .ok (.iconst 1, 1) := by decide +kernel
theorem dX3_isLimb_13 : decode cX3_isLimb 13 = .ok (.goto 4, 3) := by decide +kernel
theorem dX3_isLimb_16 : decode cX3_isLimb 16 = .ok (.iconst 0, 1) := by decide +kernel
theorem dX3_isLimb_17 : decode cX3_isLimb 17 = .ok (.ireturn, 1) := by decide +kernel
theorem dX3_isRegister_0 : decode cX3_isRegister 0 = .ok (.iload_n 1, 1) := by decide +kernel
theorem dX3_isRegister_1 : decode cX3_isRegister 1 = .ok (.ifCond .lt 15, 3) := by decide +kernel
theorem dX3_isRegister_4 : decode cX3_isRegister 4 = .ok (.iload_n 1, 1) := by decide +kernel
theorem dX3_isRegister_5 : decode cX3_isRegister 5 = .ok (.aload_n 0, 1) := by decide +kernel
theorem dX3_isRegister_6 : decode cX3_isRegister 6 = .ok (.getfield 42, 3) := by decide +kernel
theorem dX3_isRegister_9 : decode cX3_isRegister 9 = .ok (.if_icmp .ge 7, 3) := by decide +kernel
theorem dX3_isRegister_12 : decode cX3_isRegister 12 = .ok (.iconst 1, 1) := by decide +kernel
theorem dX3_isRegister_13 : decode cX3_isRegister 13 = .ok (.goto 4, 3) := by decide +kernel
theorem dX3_isRegister_16 : decode cX3_isRegister 16 = .ok (.iconst 0, 1) := by decide +kernel
theorem dX3_isRegister_17 : decode cX3_isRegister 17 = .ok (.ireturn, 1) := by decide +kernel
theorem dX3_placeOf_0 : decode cX3_placeOf 0 = .ok (.bipush 9, 2) := by decide +kernel
theorem dX3_placeOf_2 : decode cX3_placeOf 2 = .ok (.iload_n 1, 1) := by decide +kernel
theorem dX3_placeOf_3 : decode cX3_placeOf 3 = .ok (.imul, 1) := by decide +kernel
theorem dX3_placeOf_4 : decode cX3_placeOf 4 = .ok (.ireturn, 1) := by decide +kernel
theorem dX3_placeOfModulus_0 : decode cX3_placeOfModulus 0 = .ok (.bipush 72, 2) := by decide +kernel
theorem dX3_placeOfModulus_2 : decode cX3_placeOfModulus 2 = .ok (.ireturn, 1) := by decide +kernel
set_option maxRecDepth 20000 in
theorem ggX3_pokeMod_X3_isLimb : GoodIn wsX3_pokeMod wsX3_isLimb := goodIn_r _ [8, 9, 14, 15, 16, 17, 18, 19, 20, 21, 22, 23, 24] (by decide +kernel) (by decide +kernel)
set_option maxRecDepth 20000 in
theorem gX3_pokeMod_X3_isLimb : GoodIn wsX3_pokeMod (wsV RX3 45 RX3 yX3_isLimb wsX3_isLimb) := goodIn_app (goodIn_of _ (by decide +kernel)) ggX3_pokeMod_X3_isLimb
set_option maxRecDepth 20000 in
theorem ggX3_pokeMod_X3_placeOfModulus : GoodIn wsX3_pokeMod wsX3_placeOfModulus := goodIn_r _ [13] (by decide +kernel) (by decide +kernel)
set_option maxRecDepth 20000 in
theorem gX3_pokeMod_X3_placeOfModulus : GoodIn wsX3_pokeMod (wsV RX3 49 RX3 yX3_placeOfModulus wsX3_placeOfModulus) := goodIn_app (goodIn_of _ (by decide +kernel)) ggX3_pokeMod_X3_placeOfModulus
theorem dX3_pokeMod_0 : decode cX3_pokeMod 0 = .ok (.aload_n 0, 1) := by decide +kernel
theorem dX3_pokeMod_1 : decode cX3_pokeMod 1 = .ok (.iload_n 1, 1) := by decide +kernel
theorem dX3_pokeMod_2 : decode cX3_pokeMod 2 = .ok (.invokevirtual 45, 3) := by decide +kernel
theorem dX3_pokeMod_5 : decode cX3_pokeMod 5 = .ok (.ifCond .ne 5, 3) := by decide +kernel
theorem dX3_pokeMod_8 : decode cX3_pokeMod 8 = .ok (.iconst 0, 1) := by decide +kernel
theorem dX3_pokeMod_9 : decode cX3_pokeMod 9 = .ok (.ireturn, 1) := by decide +kernel
theorem dX3_pokeMod_10 : decode cX3_pokeMod 10 = .ok (.aload_n 0, 1) := by decide +kernel
theorem dX3_pokeMod_11 : decode cX3_pokeMod 11 = .ok (.getfield 7, 3) := by decide +kernel
theorem dX3_pokeMod_14 : decode cX3_pokeMod 14 = .ok (.aload_n 0, 1) := by decide +kernel
theorem dX3_pokeMod_15 : decode cX3_pokeMod 15 = .ok (.invokevirtual 49, 3) := by decide +kernel
theorem dX3_pokeMod_18 : decode cX3_pokeMod 18 = .ok (.iload_n 1, 1) := by decide +kernel
theorem dX3_pokeMod_19 : decode cX3_pokeMod 19 = .ok (.iadd, 1) := by decide +kernel
theorem dX3_pokeMod_20 : decode cX3_pokeMod 20 = .ok (.iload_n 2, 1) := by decide +kernel
theorem dX3_pokeMod_21 : decode cX3_pokeMod 21 = .ok (.i2l, 1) := by decide +kernel
theorem dX3_pokeMod_22 : decode cX3_pokeMod 22 = .ok (.ldc2_w 53, 3) := by decide +kernel
theorem dX3_pokeMod_25 : decode cX3_pokeMod 25 = .ok (.land, 1) := by decide +kernel
theorem dX3_pokeMod_26 : decode cX3_pokeMod 26 = .ok (.lastore, 1) := by decide +kernel
theorem dX3_pokeMod_27 : decode cX3_pokeMod 27 = .ok (.aload_n 0, 1) := by decide +kernel
theorem dX3_pokeMod_28 : decode cX3_pokeMod 28 = .ok (.iconst 0, 1) := by decide +kernel
theorem dX3_pokeMod_29 : decode cX3_pokeMod 29 = .ok (.putfield 55, 3) := by decide +kernel
theorem dX3_pokeMod_32 : decode cX3_pokeMod 32 = .ok (.iconst 1, 1) := by decide +kernel
theorem dX3_pokeMod_33 : decode cX3_pokeMod 33 = .ok (.ireturn, 1) := by decide +kernel
set_option maxRecDepth 20000 in
theorem ggX3_peekMod_X3_isLimb : GoodIn wsX3_peekMod wsX3_isLimb := goodIn_r _ [6, 7, 12, 13, 14, 15, 16, 17, 18, 19, 20, 21, 22] (by decide +kernel) (by decide +kernel)
set_option maxRecDepth 20000 in
theorem gX3_peekMod_X3_isLimb : GoodIn wsX3_peekMod (wsV RX3 45 RX3 yX3_isLimb wsX3_isLimb) := goodIn_app (goodIn_of _ (by decide +kernel)) ggX3_peekMod_X3_isLimb
set_option maxRecDepth 20000 in
theorem ggX3_peekMod_X3_placeOfModulus : GoodIn wsX3_peekMod wsX3_placeOfModulus := goodIn_r _ [11] (by decide +kernel) (by decide +kernel)
set_option maxRecDepth 20000 in
theorem gX3_peekMod_X3_placeOfModulus : GoodIn wsX3_peekMod (wsV RX3 49 RX3 yX3_placeOfModulus wsX3_placeOfModulus) := goodIn_app (goodIn_of _ (by decide +kernel)) ggX3_peekMod_X3_placeOfModulus
theorem dX3_peekMod_0 : decode cX3_peekMod 0 = .ok (.aload_n 0, 1) := by decide +kernel
theorem dX3_peekMod_1 : decode cX3_peekMod 1 = .ok (.iload_n 1, 1) := by decide +kernel
theorem dX3_peekMod_2 : decode cX3_peekMod 2 = .ok (.invokevirtual 45, 3) := by decide +kernel
theorem dX3_peekMod_5 : decode cX3_peekMod 5 = .ok (.ifCond .eq 18, 3) := by decide +kernel
theorem dX3_peekMod_8 : decode cX3_peekMod 8 = .ok (.aload_n 0, 1) := by decide +kernel
theorem dX3_peekMod_9 : decode cX3_peekMod 9 = .ok (.getfield 7, 3) := by decide +kernel
theorem dX3_peekMod_12 : decode cX3_peekMod 12 = .ok (.aload_n 0, 1) := by decide +kernel
theorem dX3_peekMod_13 : decode cX3_peekMod 13 = .ok (.invokevirtual 49, 3) := by decide +kernel
theorem dX3_peekMod_16 : decode cX3_peekMod 16 = .ok (.iload_n 1, 1) := by decide +kernel
theorem dX3_peekMod_17 : decode cX3_peekMod 17 = .ok (.iadd, 1) := by decide +kernel
theorem dX3_peekMod_18 : decode cX3_peekMod 18 = .ok (.laload, 1) := by decide +kernel
theorem dX3_peekMod_19 : decode cX3_peekMod 19 = .ok (.l2i, 1) := by decide +kernel
theorem dX3_peekMod_20 : decode cX3_peekMod 20 = .ok (.goto 4, 3) := by decide +kernel
theorem dX3_peekMod_23 : decode cX3_peekMod 23 = .ok (.iconst 0, 1) := by decide +kernel
theorem dX3_peekMod_24 : decode cX3_peekMod 24 = .ok (.ireturn, 1) := by decide +kernel
set_option maxRecDepth 20000 in
theorem ggX3_init__X3_placeOfModulus : GoodIn wsX3_init_ wsX3_placeOfModulus := goodIn_r _ [9] (by decide +kernel) (by decide +kernel)
set_option maxRecDepth 20000 in
theorem gX3_init__X3_placeOfModulus : GoodIn wsX3_init_ (wsV RX3 49 RX3 yX3_placeOfModulus wsX3_placeOfModulus) := goodIn_app (goodIn_of _ (by decide +kernel)) ggX3_init__X3_placeOfModulus
set_option maxRecDepth 20000 in
theorem ggX3_init__X3_read : GoodIn wsX3_init_ wsX3_read := goodIn_r _ [13, 14, 15, 16, 17, 18, 19, 20, 21, 22, 23, 24, 25] (by decide +kernel) (by decide +kernel)
set_option maxRecDepth 20000 in
theorem gX3_init__X3_read : GoodIn wsX3_init_ (wsV RX3 59 RX3 yX3_read wsX3_read) := goodIn_app (goodIn_of _ (by decide +kernel)) ggX3_init__X3_read
theorem dX3_init__0 : decode cX3_init_ 0 = .ok (.aload_n 0, 1) := by decide +kernel
theorem dX3_init__1 : decode cX3_init_ 1 = .ok (.aload_n 0, 1) := by decide +kernel
theorem dX3_init__2 : decode cX3_init_ 2 = .ok (.getfield 13, 3) := by decide +kernel
theorem dX3_init__5 : decode cX3_init_ 5 = .ok (.aload_n 0, 1) := by decide +kernel
theorem dX3_init__6 : decode cX3_init_ 6 = .ok (.invokevirtual 49, 3) := by decide +kernel
theorem dX3_init__9 : decode cX3_init_ 9 = .ok (.invokevirtual 59, 3) := by decide +kernel
theorem dX3_init__12 : decode cX3_init_ 12 = .ok (.iconst 1, 1) := by decide +kernel
theorem dX3_init__13 : decode cX3_init_ 13 = .ok (.istore_n 1, 1) := by decide +kernel
theorem dX3_init__14 : decode cX3_init_ 14 = .ok (.iconst 1, 1) := by decide +kernel
theorem dX3_init__15 : decode cX3_init_ 15 = .ok (.istore_n 2, 1) := by decide +kernel
theorem dX3_init__16 : decode cX3_init_ 16 = .ok (.iload_n 2, 1) := by decide +kernel
theorem dX3_init__17 : decode cX3_init_ 17 = .ok (.bipush 9, 2) := by decide +kernel
theorem dX3_init__19 : decode cX3_init_ 19 = .ok (.if_icmp .ge 30, 3) := by decide +kernel
theorem dX3_init__22 : decode cX3_init_ 22 = .ok (.iload_n 1, 1) := by decide +kernel
theorem dX3_init__23 : decode cX3_init_ 23 = .ok (.ifCond .eq 18, 3) := by decide +kernel
theorem dX3_init__26 : decode cX3_init_ 26 = .ok (.aload_n 0, 1) := by decide +kernel
theorem dX3_init__27 : decode cX3_init_ 27 = .ok (.getfield 13, 3) := by decide +kernel
theorem dX3_init__30 : decode cX3_init_ 30 = .ok (.iload_n 2, 1) := by decide +kernel
theorem dX3_init__31 : decode cX3_init_ 31 = .ok (.laload, 1) := by decide +kernel
theorem dX3_init__32 : decode cX3_init_ 32 = .ok (.lconst 0, 1) := by decide +kernel
theorem dX3_init__33 : decode cX3_init_ 33 = .ok (.lcmp, 1) := by decide +kernel
theorem dX3_init__34 : decode cX3_init_ 34 = .ok (.ifCond .ne 7, 3) := by decide +kernel
theorem dX3_init__37 : decode cX3_init_ 37 = .ok (.iconst 1, 1) := by decide +kernel
theorem dX3_init__38 : decode cX3_init_ 38 = .ok (.goto 4, 3) := by decide +kernel
theorem dX3_init__41 : decode cX3_init_ 41 = .ok (.iconst 0, 1) := by decide +kernel
theorem dX3_init__42 : decode cX3_init_ 42 = .ok (.istore_n 1, 1) := by decide +kernel
theorem dX3_init__43 : decode cX3_init_ 43 = .ok (.iinc 2 1, 3) := by decide +kernel
theorem dX3_init__46 : decode cX3_init_ 46 = .ok (.goto (-30), 3) := by decide +kernel
theorem dX3_init__49 : decode cX3_init_ 49 = .ok (.aload_n 0, 1) := by decide +kernel
theorem dX3_init__50 : decode cX3_init_ 50 = .ok (.getfield 13, 3) := by decide +kernel
theorem dX3_init__53 : decode cX3_init_ 53 = .ok (.iconst 0, 1) := by decide +kernel
theorem dX3_init__54 : decode cX3_init_ 54 = .ok (.laload, 1) := by decide +kernel
theorem dX3_init__55 : decode cX3_init_ 55 = .ok (.ldc2_w 63, 3) := by decide +kernel
end
section
theorem dX3_init__58 : decode cX3_init_ 58 = .ok (.lrem, 1) := by decide +kernel
theorem dX3_init__59 : decode cX3_init_ 59 = .ok (.lconst 0, 1) := by decide +kernel
theorem dX3_init__60 : decode cX3_init_ 60 = .ok (.lcmp, 1) := by decide +kernel
theorem dX3_init__61 : decode cX3_init_ 61 = .ok (.ifCond .eq 20, 3) := by decide +kernel
theorem dX3_init__64 : decode cX3_init_ 64 = .ok (.iload_n 1, 1) := by decide +kernel
theorem dX3_init__65 : decode cX3_init_ 65 = .ok (.ifCond .eq 18, 3) := by decide +kernel
theorem dX3_init__68 : decode cX3_init_ 68 = .ok (.aload_n 0, 1) := by decide +kernel
theorem dX3_init__69 : decode cX3_init_ 69 = .ok (.getfield 13, 3) := by decide +kernel
theorem dX3_init__72 : decode cX3_init_ 72 = .ok (.iconst 0, 1) := by decide +kernel
theorem dX3_init__73 : decode cX3_init_ 73 = .ok (.laload, 1) := by decide +kernel
theorem dX3_init__74 : decode cX3_init_ 74 = .ok (.ldc2_w 65, 3) := by decide +kernel
theorem dX3_init__77 : decode cX3_init_ 77 = .ok (.lcmp, 1) := by decide +kernel
theorem dX3_init__78 : decode cX3_init_ 78 = .ok (.ifCond .ge 5, 3) := by decide +kernel
theorem dX3_init__81 : decode cX3_init_ 81 = .ok (.iconst 1, 1) := by decide +kernel
theorem dX3_init__82 : decode cX3_init_ 82 = .ok (.ireturn, 1) := by decide +kernel
theorem dX3_init__83 : decode cX3_init_ 83 = .ok (.aload_n 0, 1) := by decide +kernel
theorem dX3_init__84 : decode cX3_init_ 84 = .ok (.iconst 1, 1) := by decide +kernel
theorem dX3_init__85 : decode cX3_init_ 85 = .ok (.putfield 55, 3) := by decide +kernel
theorem dX3_init__88 : decode cX3_init_ 88 = .ok (.iconst 0, 1) := by decide +kernel
theorem dX3_init__89 : decode cX3_init_ 89 = .ok (.ireturn, 1) := by decide +kernel
theorem dX3_ready_0 : decode cX3_ready 0 = .ok (.aload_n 0, 1) := by decide +kernel
theorem dX3_ready_1 : decode cX3_ready 1 = .ok (.getfield 55, 3) := by decide +kernel
theorem dX3_ready_4 : decode cX3_ready 4 = .ok (.ireturn, 1) := by decide +kernel
set_option maxRecDepth 20000 in
theorem ggX3_poke_X3_isRegister : GoodIn wsX3_poke wsX3_isRegister := goodIn_r _ [7, 8, 18, 19, 20, 21, 22, 23, 24, 25, 26, 27, 28] (by decide +kernel) (by decide +kernel)
set_option maxRecDepth 20000 in
theorem gX3_poke_X3_isRegister : GoodIn wsX3_poke (wsV RX3 67 RX3 yX3_isRegister wsX3_isRegister) := goodIn_app (goodIn_of _ (by decide +kernel)) ggX3_poke_X3_isRegister
set_option maxRecDepth 20000 in
theorem ggX3_poke_X3_isLimb : GoodIn wsX3_poke wsX3_isLimb := goodIn_r _ [12, 13, 18, 19, 20, 21, 22, 23, 24, 25, 26, 27, 28] (by decide +kernel) (by decide +kernel)
set_option maxRecDepth 20000 in
theorem gX3_poke_X3_isLimb : GoodIn wsX3_poke (wsV RX3 45 RX3 yX3_isLimb wsX3_isLimb) := goodIn_app (goodIn_of _ (by decide +kernel)) ggX3_poke_X3_isLimb
set_option maxRecDepth 20000 in
theorem ggX3_poke_X3_placeOf : GoodIn wsX3_poke wsX3_placeOf := goodIn_r _ [17] (by decide +kernel) (by decide +kernel)
set_option maxRecDepth 20000 in
theorem gX3_poke_X3_placeOf : GoodIn wsX3_poke (wsV RX3 70 RX3 yX3_placeOf wsX3_placeOf) := goodIn_app (goodIn_of _ (by decide +kernel)) ggX3_poke_X3_placeOf
theorem dX3_poke_0 : decode cX3_poke 0 = .ok (.aload_n 0, 1) := by decide +kernel
theorem dX3_poke_1 : decode cX3_poke 1 = .ok (.iload_n 1, 1) := by decide +kernel
theorem dX3_poke_2 : decode cX3_poke 2 = .ok (.invokevirtual 67, 3) := by decide +kernel
theorem dX3_poke_5 : decode cX3_poke 5 = .ok (.ifCond .eq 11, 3) := by decide +kernel
theorem dX3_poke_8 : decode cX3_poke 8 = .ok (.aload_n 0, 1) := by decide +kernel
theorem dX3_poke_9 : decode cX3_poke 9 = .ok (.iload_n 2, 1) := by decide +kernel
theorem dX3_poke_10 : decode cX3_poke 10 = .ok (.invokevirtual 45, 3) := by decide +kernel
theorem dX3_poke_13 : decode cX3_poke 13 = .ok (.ifCond .ne 5, 3) := by decide +kernel
theorem dX3_poke_16 : decode cX3_poke 16 = .ok (.iconst 0, 1) := by decide +kernel
theorem dX3_poke_17 : decode cX3_poke 17 = .ok (.ireturn, 1) := by decide +kernel
theorem dX3_poke_18 : decode cX3_poke 18 = .ok (.aload_n 0, 1) := by decide +kernel
theorem dX3_poke_19 : decode cX3_poke 19 = .ok (.getfield 7, 3) := by decide +kernel
theorem dX3_poke_22 : decode cX3_poke 22 = .ok (.aload_n 0, 1) := by decide +kernel
theorem dX3_poke_23 : decode cX3_poke 23 = .ok (.iload_n 1, 1) := by decide +kernel
theorem dX3_poke_24 : decode cX3_poke 24 = .ok (.invokevirtual 70, 3) := by decide +kernel
theorem dX3_poke_27 : decode cX3_poke 27 = .ok (.iload_n 2, 1) := by decide +kernel
theorem dX3_poke_28 : decode cX3_poke 28 = .ok (.iadd, 1) := by decide +kernel
theorem dX3_poke_29 : decode cX3_poke 29 = .ok (.iload_n 3, 1) := by decide +kernel
theorem dX3_poke_30 : decode cX3_poke 30 = .ok (.i2l, 1) := by decide +kernel
theorem dX3_poke_31 : decode cX3_poke 31 = .ok (.ldc2_w 53, 3) := by decide +kernel
theorem dX3_poke_34 : decode cX3_poke 34 = .ok (.land, 1) := by decide +kernel
theorem dX3_poke_35 : decode cX3_poke 35 = .ok (.lastore, 1) := by decide +kernel
theorem dX3_poke_36 : decode cX3_poke 36 = .ok (.iconst 1, 1) := by decide +kernel
theorem dX3_poke_37 : decode cX3_poke 37 = .ok (.ireturn, 1) := by decide +kernel
set_option maxRecDepth 20000 in
theorem ggX3_peek_X3_isRegister : GoodIn wsX3_peek wsX3_isRegister := goodIn_r _ [6, 7, 17, 18, 19, 20, 21, 22, 23, 24, 25, 26, 27] (by decide +kernel) (by decide +kernel)
set_option maxRecDepth 20000 in
theorem gX3_peek_X3_isRegister : GoodIn wsX3_peek (wsV RX3 67 RX3 yX3_isRegister wsX3_isRegister) := goodIn_app (goodIn_of _ (by decide +kernel)) ggX3_peek_X3_isRegister
set_option maxRecDepth 20000 in
theorem ggX3_peek_X3_isLimb : GoodIn wsX3_peek wsX3_isLimb := goodIn_r _ [11, 12, 17, 18, 19, 20, 21, 22, 23, 24, 25, 26, 27] (by decide +kernel) (by decide +kernel)
set_option maxRecDepth 20000 in
theorem gX3_peek_X3_isLimb : GoodIn wsX3_peek (wsV RX3 45 RX3 yX3_isLimb wsX3_isLimb) := goodIn_app (goodIn_of _ (by decide +kernel)) ggX3_peek_X3_isLimb
set_option maxRecDepth 20000 in
theorem ggX3_peek_X3_placeOf : GoodIn wsX3_peek wsX3_placeOf := goodIn_r _ [16] (by decide +kernel) (by decide +kernel)
set_option maxRecDepth 20000 in
theorem gX3_peek_X3_placeOf : GoodIn wsX3_peek (wsV RX3 70 RX3 yX3_placeOf wsX3_placeOf) := goodIn_app (goodIn_of _ (by decide +kernel)) ggX3_peek_X3_placeOf
theorem dX3_peek_0 : decode cX3_peek 0 = .ok (.aload_n 0, 1) := by decide +kernel
theorem dX3_peek_1 : decode cX3_peek 1 = .ok (.iload_n 1, 1) := by decide +kernel
theorem dX3_peek_2 : decode cX3_peek 2 = .ok (.invokevirtual 67, 3) := by decide +kernel
theorem dX3_peek_5 : decode cX3_peek 5 = .ok (.ifCond .eq 27, 3) := by decide +kernel
theorem dX3_peek_8 : decode cX3_peek 8 = .ok (.aload_n 0, 1) := by decide +kernel
theorem dX3_peek_9 : decode cX3_peek 9 = .ok (.iload_n 2, 1) := by decide +kernel
theorem dX3_peek_10 : decode cX3_peek 10 = .ok (.invokevirtual 45, 3) := by decide +kernel
theorem dX3_peek_13 : decode cX3_peek 13 = .ok (.ifCond .eq 19, 3) := by decide +kernel
theorem dX3_peek_16 : decode cX3_peek 16 = .ok (.aload_n 0, 1) := by decide +kernel
theorem dX3_peek_17 : decode cX3_peek 17 = .ok (.getfield 7, 3) := by decide +kernel
theorem dX3_peek_20 : decode cX3_peek 20 = .ok (.aload_n 0, 1) := by decide +kernel
theorem dX3_peek_21 : decode cX3_peek 21 = .ok (.iload_n 1, 1) := by decide +kernel
theorem dX3_peek_22 : decode cX3_peek 22 = .ok (.invokevirtual 70, 3) := by decide +kernel
theorem dX3_peek_25 : decode cX3_peek 25 = .ok (.iload_n 2, 1) := by decide +kernel
theorem dX3_peek_26 : decode cX3_peek 26 = .ok (.iadd, 1) := by decide +kernel
theorem dX3_peek_27 : decode cX3_peek 27 = .ok (.laload, 1) := by decide +kernel
theorem dX3_peek_28 : decode cX3_peek 28 = .ok (.l2i, 1) := by decide +kernel
theorem dX3_peek_29 : decode cX3_peek 29 = .ok (.goto 4, 3) := by decide +kernel
theorem dX3_peek_32 : decode cX3_peek 32 = .ok (.iconst 0, 1) := by decide +kernel
theorem dX3_peek_33 : decode cX3_peek 33 = .ok (.ireturn, 1) := by decide +kernel
theorem dX3_read_0 : decode cX3_read 0 = .ok (.iconst 0, 1) := by decide +kernel
theorem dX3_read_1 : decode cX3_read 1 = .ok (.istore_n 3, 1) := by decide +kernel
theorem dX3_read_2 : decode cX3_read 2 = .ok (.iload_n 3, 1) := by decide +kernel
theorem dX3_read_3 : decode cX3_read 3 = .ok (.bipush 9, 2) := by decide +kernel
theorem dX3_read_5 : decode cX3_read 5 = .ok (.if_icmp .ge 20, 3) := by decide +kernel
theorem dX3_read_8 : decode cX3_read 8 = .ok (.aload_n 1, 1) := by decide +kernel
theorem dX3_read_9 : decode cX3_read 9 = .ok (.iload_n 3, 1) := by decide +kernel
theorem dX3_read_10 : decode cX3_read 10 = .ok (.aload_n 0, 1) := by decide +kernel
theorem dX3_read_11 : decode cX3_read 11 = .ok (.getfield 7, 3) := by decide +kernel
theorem dX3_read_14 : decode cX3_read 14 = .ok (.iload_n 2, 1) := by decide +kernel
theorem dX3_read_15 : decode cX3_read 15 = .ok (.iload_n 3, 1) := by decide +kernel
theorem dX3_read_16 : decode cX3_read 16 = .ok (.iadd, 1) := by decide +kernel
theorem dX3_read_17 : decode cX3_read 17 = .ok (.laload, 1) := by decide +kernel
theorem dX3_read_18 : decode cX3_read 18 = .ok (.lastore, 1) := by decide +kernel
theorem dX3_read_19 : decode cX3_read 19 = .ok (.iinc 3 1, 3) := by decide +kernel
theorem dX3_read_22 : decode cX3_read 22 = .ok (.goto (-20), 3) := by decide +kernel
theorem dX3_read_25 : decode cX3_read 25 = .ok (.return_, 1) := by decide +kernel
set_option maxRecDepth 20000 in
theorem ggX3_write_X3_placeOf : GoodIn wsX3_write wsX3_placeOf := goodIn_r _ [6] (by decide +kernel) (by decide +kernel)
set_option maxRecDepth 20000 in
theorem gX3_write_X3_placeOf : GoodIn wsX3_write (wsV RX3 70 RX3 yX3_placeOf wsX3_placeOf) := goodIn_app (goodIn_of _ (by decide +kernel)) ggX3_write_X3_placeOf
theorem dX3_write_0 : decode cX3_write 0 = .ok (.iconst 0, 1) := by decide +kernel
theorem dX3_write_1 : decode cX3_write 1 = .ok (.istore_n 3, 1) := by decide +kernel
theorem dX3_write_2 : decode cX3_write 2 = .ok (.iload_n 3, 1) := by decide +kernel
theorem dX3_write_3 : decode cX3_write 3 = .ok (.bipush 9, 2) := by decide +kernel
theorem dX3_write_5 : decode cX3_write 5 = .ok (.if_icmp .ge 24, 3) := by decide +kernel
theorem dX3_write_8 : decode cX3_write 8 = .ok (.aload_n 0, 1) := by decide +kernel
theorem dX3_write_9 : decode cX3_write 9 = .ok (.getfield 7, 3) := by decide +kernel
theorem dX3_write_12 : decode cX3_write 12 = .ok (.aload_n 0, 1) := by decide +kernel
theorem dX3_write_13 : decode cX3_write 13 = .ok (.iload_n 1, 1) := by decide +kernel
theorem dX3_write_14 : decode cX3_write 14 = .ok (.invokevirtual 70, 3) := by decide +kernel
theorem dX3_write_17 : decode cX3_write 17 = .ok (.iload_n 3, 1) := by decide +kernel
theorem dX3_write_18 : decode cX3_write 18 = .ok (.iadd, 1) := by decide +kernel
theorem dX3_write_19 : decode cX3_write 19 = .ok (.aload_n 2, 1) := by decide +kernel
theorem dX3_write_20 : decode cX3_write 20 = .ok (.iload_n 3, 1) := by decide +kernel
theorem dX3_write_21 : decode cX3_write 21 = .ok (.laload, 1) := by decide +kernel
theorem dX3_write_22 : decode cX3_write 22 = .ok (.lastore, 1) := by decide +kernel
theorem dX3_write_23 : decode cX3_write 23 = .ok (.iinc 3 1, 3) := by decide +kernel
theorem dX3_write_26 : decode cX3_write 26 = .ok (.goto (-24), 3) := by decide +kernel
theorem dX3_write_29 : decode cX3_write 29 = .ok (.return_, 1) := by decide +kernel
theorem dX3_copy_0 : decode cX3_copy 0 = .ok (.iconst 0, 1) := by decide +kernel
theorem dX3_copy_1 : decode cX3_copy 1 = .ok (.istore_n 2, 1) := by decide +kernel
theorem dX3_copy_2 : decode cX3_copy 2 = .ok (.iload_n 2, 1) := by decide +kernel
theorem dX3_copy_3 : decode cX3_copy 3 = .ok (.bipush 9, 2) := by decide +kernel
theorem dX3_copy_5 : decode cX3_copy 5 = .ok (.if_icmp .ge 15, 3) := by decide +kernel
theorem dX3_copy_8 : decode cX3_copy 8 = .ok (.aload_n 0, 1) := by decide +kernel
theorem dX3_copy_9 : decode cX3_copy 9 = .ok (.iload_n 2, 1) := by decide +kernel
theorem dX3_copy_10 : decode cX3_copy 10 = .ok (.aload_n 1, 1) := by decide +kernel
theorem dX3_copy_11 : decode cX3_copy 11 = .ok (.iload_n 2, 1) := by decide +kernel
theorem dX3_copy_12 : decode cX3_copy 12 = .ok (.laload, 1) := by decide +kernel
theorem dX3_copy_13 : decode cX3_copy 13 = .ok (.lastore, 1) := by decide +kernel
theorem dX3_copy_14 : decode cX3_copy 14 = .ok (.iinc 2 1, 3) := by decide +kernel
theorem dX3_copy_17 : decode cX3_copy 17 = .ok (.goto (-15), 3) := by decide +kernel
theorem dX3_copy_20 : decode cX3_copy 20 = .ok (.return_, 1) := by decide +kernel
theorem dX3_be_0 : decode cX3_be 0 = .ok (.iconst 0, 1) := by decide +kernel
theorem dX3_be_1 : decode cX3_be 1 = .ok (.istore_n 3, 1) := by decide +kernel
theorem dX3_be_2 : decode cX3_be 2 = .ok (.iload_n 3, 1) := by decide +kernel
theorem dX3_be_3 : decode cX3_be 3 = .ok (.bipush 9, 2) := by decide +kernel
theorem dX3_be_5 : decode cX3_be 5 = .ok (.if_icmp .ge 21, 3) := by decide +kernel
theorem dX3_be_8 : decode cX3_be 8 = .ok (.aload_n 0, 1) := by decide +kernel
theorem dX3_be_9 : decode cX3_be 9 = .ok (.iload_n 3, 1) := by decide +kernel
theorem dX3_be_10 : decode cX3_be 10 = .ok (.iload_n 3, 1) := by decide +kernel
theorem dX3_be_11 : decode cX3_be 11 = .ok (.ifCond .ne 7, 3) := by decide +kernel
theorem dX3_be_14 : decode cX3_be 14 = .ok (.lload_n 1, 1) := by decide +kernel
theorem dX3_be_15 : decode cX3_be 15 = .ok (.goto 4, 3) := by decide +kernel
theorem dX3_be_18 : decode cX3_be 18 = .ok (.lconst 0, 1) := by decide +kernel
theorem dX3_be_19 : decode cX3_be 19 = .ok (.lastore, 1) := by decide +kernel
theorem dX3_be_20 : decode cX3_be 20 = .ok (.iinc 3 1, 3) := by decide +kernel
theorem dX3_be_23 : decode cX3_be 23 = .ok (.goto (-21), 3) := by decide +kernel
theorem dX3_be_26 : decode cX3_be 26 = .ok (.return_, 1) := by decide +kernel
theorem dX3_compared_0 : decode cX3_compared 0 = .ok (.bipush 8, 2) := by decide +kernel
theorem dX3_compared_2 : decode cX3_compared 2 = .ok (.istore_n 2, 1) := by decide +kernel
theorem dX3_compared_3 : decode cX3_compared 3 = .ok (.iload_n 2, 1) := by decide +kernel
theorem dX3_compared_4 : decode cX3_compared 4 = .ok (.ifCond .lt 35, 3) := by decide +kernel
theorem dX3_compared_7 : decode cX3_compared 7 = .ok (.aload_n 0, 1) := by decide +kernel
theorem dX3_compared_8 : decode cX3_compared 8 = .ok (.iload_n 2, 1) := by decide +kernel
theorem dX3_compared_9 : decode cX3_compared 9 = .ok (.laload, 1) := by decide +kernel
theorem dX3_compared_10 : decode cX3_compared 10 = .ok (.aload_n 1, 1) := by decide +kernel
theorem dX3_compared_11 : decode cX3_compared 11 = .ok (.iload_n 2, 1) := by decide +kernel
theorem dX3_compared_12 : decode cX3_compared 12 = .ok (.laload, 1) := by decide +kernel
theorem dX3_compared_13 : decode cX3_compared 13 = .ok (.lcmp, 1) := by decide +kernel
theorem dX3_compared_14 : decode cX3_compared 14 = .ok (.ifCond .eq 19, 3) := by decide +kernel
theorem dX3_compared_17 : decode cX3_compared 17 = .ok (.aload_n 0, 1) := by decide +kernel
theorem dX3_compared_18 : decode cX3_compared 18 = .ok (.iload_n 2, 1) := by decide +kernel
theorem dX3_compared_19 : decode cX3_compared 19 = .ok (.laload, 1) := by decide +kernel
theorem dX3_compared_20 : decode cX3_compared 20 = .ok (.aload_n 1, 1) := by decide +kernel
theorem dX3_compared_21 : decode cX3_compared 21 = .ok (.iload_n 2, 1) := by decide +kernel
theorem dX3_compared_22 : decode cX3_compared 22 = .ok (.laload, 1) := by decide +kernel
theorem dX3_compared_23 : decode cX3_compared 23 = .ok (.lcmp, 1) := by decide +kernel
theorem dX3_compared_24 : decode cX3_compared 24 = .ok (.ifCond .ge 7, 3) := by decide +kernel
theorem dX3_compared_27 : decode cX3_compared 27 = .ok (.iconst (-1), 1) := by decide +kernel
theorem dX3_compared_28 : decode cX3_compared 28 = .ok (.goto 4, 3) := by decide +kernel
theorem dX3_compared_31 : decode cX3_compared 31 = .ok (.iconst 1, 1) := by decide +kernel
theorem dX3_compared_32 : decode cX3_compared 32 = .ok (.ireturn, 1) := by decide +kernel
theorem dX3_compared_33 : decode cX3_compared 33 = .ok (.iinc 2 (-1), 3) := by decide +kernel
theorem dX3_compared_36 : decode cX3_compared 36 = .ok (.goto (-33), 3) := by decide +kernel
theorem dX3_compared_39 : decode cX3_compared 39 = .ok (.iconst 0, 1) := by decide +kernel
theorem dX3_compared_40 : decode cX3_compared 40 = .ok (.ireturn, 1) := by decide +kernel
theorem dX3_isNought_0 : decode cX3_isNought 0 = .ok (.iconst 1, 1) := by decide +kernel
theorem dX3_isNought_1 : decode cX3_isNought 1 = .ok (.istore_n 1, 1) := by decide +kernel
theorem dX3_isNought_2 : decode cX3_isNought 2 = .ok (.iconst 0, 1) := by decide +kernel
theorem dX3_isNought_3 : decode cX3_isNought 3 = .ok (.istore_n 2, 1) := by decide +kernel
theorem dX3_isNought_4 : decode cX3_isNought 4 = .ok (.iload_n 2, 1) := by decide +kernel
theorem dX3_isNought_5 : decode cX3_isNought 5 = .ok (.bipush 9, 2) := by decide +kernel
theorem dX3_isNought_7 : decode cX3_isNought 7 = .ok (.if_icmp .ge 27, 3) := by decide +kernel
theorem dX3_isNought_10 : decode cX3_isNought 10 = .ok (.iload_n 1, 1) := by decide +kernel
theorem dX3_isNought_11 : decode cX3_isNought 11 = .ok (.ifCond .eq 15, 3) := by decide +kernel
theorem dX3_isNought_14 : decode cX3_isNought 14 = .ok (.aload_n 0, 1) := by decide +kernel
theorem dX3_isNought_15 : decode cX3_isNought 15 = .ok (.iload_n 2, 1) := by decide +kernel
theorem dX3_isNought_16 : decode cX3_isNought 16 = .ok (.laload, 1) := by decide +kernel
theorem dX3_isNought_17 : decode cX3_isNought 17 = .ok (.lconst 0, 1) := by decide +kernel
theorem dX3_isNought_18 : decode cX3_isNought 18 = .ok (.lcmp, 1) := by decide +kernel
theorem dX3_isNought_19 : decode cX3_isNought 19 = .ok (.ifCond .ne 7, 3) := by decide +kernel
theorem dX3_isNought_22 : decode cX3_isNought 22 = .ok (.iconst 1, 1) := by decide +kernel
theorem dX3_isNought_23 : decode cX3_isNought 23 = .ok (.goto 4, 3) := by decide +kernel
theorem dX3_isNought_26 : decode cX3_isNought 26 = .ok (.iconst 0, 1) := by decide +kernel
theorem dX3_isNought_27 : decode cX3_isNought 27 = .ok (.istore_n 1, 1) := by decide +kernel
theorem dX3_isNought_28 : decode cX3_isNought 28 = .ok (.iinc 2 1, 3) := by decide +kernel
theorem dX3_isNought_31 : decode cX3_isNought 31 = .ok (.goto (-27), 3) := by decide +kernel
theorem dX3_isNought_34 : decode cX3_isNought 34 = .ok (.iload_n 1, 1) := by decide +kernel
theorem dX3_isNought_35 : decode cX3_isNought 35 = .ok (.ireturn, 1) := by decide +kernel
theorem dX3_isOne_0 : decode cX3_isOne 0 = .ok (.aload_n 0, 1) := by decide +kernel
theorem dX3_isOne_1 : decode cX3_isOne 1 = .ok (.iconst 0, 1) := by decide +kernel
theorem dX3_isOne_2 : decode cX3_isOne 2 = .ok (.laload, 1) := by decide +kernel
theorem dX3_isOne_3 : decode cX3_isOne 3 = .ok (.lconst 1, 1) := by decide +kernel
theorem dX3_isOne_4 : decode cX3_isOne 4 = .ok (.lcmp, 1) := by decide +kernel
theorem dX3_isOne_5 : decode cX3_isOne 5 = .ok (.ifCond .ne 7, 3) := by decide +kernel
theorem dX3_isOne_8 : decode cX3_isOne 8 = .ok (.iconst 1, 1) := by decide +kernel
theorem dX3_isOne_9 : decode cX3_isOne 9 = .ok (.goto 4, 3) := by decide +kernel
theorem dX3_isOne_12 : decode cX3_isOne 12 = .ok (.iconst 0, 1) := by decide +kernel
theorem dX3_isOne_13 : decode cX3_isOne 13 = .ok (.istore_n 1, 1) := by decide +kernel
theorem dX3_isOne_14 : decode cX3_isOne 14 = .ok (.iconst 1, 1) := by decide +kernel
theorem dX3_isOne_15 : decode cX3_isOne 15 = .ok (.istore_n 2, 1) := by decide +kernel
theorem dX3_isOne_16 : decode cX3_isOne 16 = .ok (.iload_n 2, 1) := by decide +kernel
theorem dX3_isOne_17 : decode cX3_isOne 17 = .ok (.bipush 9, 2) := by decide +kernel
theorem dX3_isOne_19 : decode cX3_isOne 19 = .ok (.if_icmp .ge 27, 3) := by decide +kernel
theorem dX3_isOne_22 : decode cX3_isOne 22 = .ok (.iload_n 1, 1) := by decide +kernel
theorem dX3_isOne_23 : decode cX3_isOne 23 = .ok (.ifCond .eq 15, 3) := by decide +kernel
theorem dX3_isOne_26 : decode cX3_isOne 26 = .ok (.aload_n 0, 1) := by decide +kernel
theorem dX3_isOne_27 : decode cX3_isOne 27 = .ok (.iload_n 2, 1) := by decide +kernel
theorem dX3_isOne_28 : decode cX3_isOne 28 = .ok (.laload, 1) := by decide +kernel
theorem dX3_isOne_29 : decode cX3_isOne 29 = .ok (.lconst 0, 1) := by decide +kernel
theorem dX3_isOne_30 : decode cX3_isOne 30 = .ok (.lcmp, 1) := by decide +kernel
theorem dX3_isOne_31 : decode cX3_isOne 31 = .ok (.ifCond .ne 7, 3) := by decide +kernel
theorem dX3_isOne_34 : decode cX3_isOne 34 = .ok (.iconst 1, 1) := by decide +kernel
theorem dX3_isOne_35 : decode cX3_isOne 35 = .ok (.goto 4, 3) := by decide +kernel
theorem dX3_isOne_38 : decode cX3_isOne 38 = .ok (.iconst 0, 1) := by decide +kernel
theorem dX3_isOne_39 : decode cX3_isOne 39 = .ok (.istore_n 1, 1) := by decide +kernel
theorem dX3_isOne_40 : decode cX3_isOne 40 = .ok (.iinc 2 1, 3) := by decide +kernel
theorem dX3_isOne_43 : decode cX3_isOne 43 = .ok (.goto (-27), 3) := by decide +kernel
theorem dX3_isOne_46 : decode cX3_isOne 46 = .ok (.iload_n 1, 1) := by decide +kernel
theorem dX3_isOne_47 : decode cX3_isOne 47 = .ok (.ireturn, 1) := by decide +kernel
theorem dX3_plus_0 : decode cX3_plus 0 = .ok (.lconst 0, 1) := by decide +kernel
theorem dX3_plus_1 : decode cX3_plus 1 = .ok (.lstore_n 2, 1) := by decide +kernel
theorem dX3_plus_2 : decode cX3_plus 2 = .ok (.iconst 0, 1) := by decide +kernel
theorem dX3_plus_3 : decode cX3_plus 3 = .ok (.istore 4, 2) := by decide +kernel
theorem dX3_plus_5 : decode cX3_plus 5 = .ok (.iload 4, 2) := by decide +kernel
theorem dX3_plus_7 : decode cX3_plus 7 = .ok (.bipush 9, 2) := by decide +kernel
theorem dX3_plus_9 : decode cX3_plus 9 = .ok (.if_icmp .ge 38, 3) := by decide +kernel
theorem dX3_plus_12 : decode cX3_plus 12 = .ok (.aload_n 0, 1) := by decide +kernel
theorem dX3_plus_13 : decode cX3_plus 13 = .ok (.iload 4, 2) := by decide +kernel
theorem dX3_plus_15 : decode cX3_plus 15 = .ok (.laload, 1) := by decide +kernel
theorem dX3_plus_16 : decode cX3_plus 16 = .ok (.aload_n 1, 1) := by decide +kernel
theorem dX3_plus_17 : decode cX3_plus 17 = .ok (.iload 4, 2) := by decide +kernel
theorem dX3_plus_19 : decode cX3_plus 19 = .ok (.laload, 1) := by decide +kernel
theorem dX3_plus_20 : decode cX3_plus 20 = .ok (.ladd, 1) := by decide +kernel
theorem dX3_plus_21 : decode cX3_plus 21 = .ok (.lload_n 2, 1) := by decide +kernel
theorem dX3_plus_22 : decode cX3_plus 22 = .ok (.ladd, 1) := by decide +kernel
theorem dX3_plus_23 : decode cX3_plus 23 = .ok (.lstore 5, 2) := by decide +kernel
theorem dX3_plus_25 : decode cX3_plus 25 = .ok (.aload_n 0, 1) := by decide +kernel
theorem dX3_plus_26 : decode cX3_plus 26 = .ok (.iload 4, 2) := by decide +kernel
theorem dX3_plus_28 : decode cX3_plus 28 = .ok (.lload 5, 2) := by decide +kernel
theorem dX3_plus_30 : decode cX3_plus 30 = .ok (.ldc2_w 53, 3) := by decide +kernel
theorem dX3_plus_33 : decode cX3_plus 33 = .ok (.land, 1) := by decide +kernel
theorem dX3_plus_34 : decode cX3_plus 34 = .ok (.lastore, 1) := by decide +kernel
theorem dX3_plus_35 : decode cX3_plus 35 = .ok (.lload 5, 2) := by decide +kernel
theorem dX3_plus_37 : decode cX3_plus 37 = .ok (.bipush 32, 2) := by decide +kernel
theorem dX3_plus_39 : decode cX3_plus 39 = .ok (.lushr, 1) := by decide +kernel
theorem dX3_plus_40 : decode cX3_plus 40 = .ok (.lstore_n 2, 1) := by decide +kernel
theorem dX3_plus_41 : decode cX3_plus 41 = .ok (.iinc 4 1, 3) := by decide +kernel
theorem dX3_plus_44 : decode cX3_plus 44 = .ok (.goto (-39), 3) := by decide +kernel
theorem dX3_plus_47 : decode cX3_plus 47 = .ok (.return_, 1) := by decide +kernel
theorem dX3_minus_0 : decode cX3_minus 0 = .ok (.lconst 0, 1) := by decide +kernel
theorem dX3_minus_1 : decode cX3_minus 1 = .ok (.lstore_n 2, 1) := by decide +kernel
theorem dX3_minus_2 : decode cX3_minus 2 = .ok (.iconst 0, 1) := by decide +kernel
theorem dX3_minus_3 : decode cX3_minus 3 = .ok (.istore 4, 2) := by decide +kernel
theorem dX3_minus_5 : decode cX3_minus 5 = .ok (.iload 4, 2) := by decide +kernel
theorem dX3_minus_7 : decode cX3_minus 7 = .ok (.bipush 9, 2) := by decide +kernel
theorem dX3_minus_9 : decode cX3_minus 9 = .ok (.if_icmp .ge 45, 3) := by decide +kernel
theorem dX3_minus_12 : decode cX3_minus 12 = .ok (.aload_n 0, 1) := by decide +kernel
theorem dX3_minus_13 : decode cX3_minus 13 = .ok (.iload 4, 2) := by decide +kernel
theorem dX3_minus_15 : decode cX3_minus 15 = .ok (.laload, 1) := by decide +kernel
theorem dX3_minus_16 : decode cX3_minus 16 = .ok (.aload_n 1, 1) := by decide +kernel
theorem dX3_minus_17 : decode cX3_minus 17 = .ok (.iload 4, 2) := by decide +kernel
theorem dX3_minus_19 : decode cX3_minus 19 = .ok (.laload, 1) := by decide +kernel
theorem dX3_minus_20 : decode cX3_minus 20 = .ok (.lsub, 1) := by decide +kernel
theorem dX3_minus_21 : decode cX3_minus 21 = .ok (.lload_n 2, 1) := by decide +kernel
theorem dX3_minus_22 : decode cX3_minus 22 = .ok (.lsub, 1) := by decide +kernel
theorem dX3_minus_23 : decode cX3_minus 23 = .ok (.lstore 5, 2) := by decide +kernel
theorem dX3_minus_25 : decode cX3_minus 25 = .ok (.aload_n 0, 1) := by decide +kernel
theorem dX3_minus_26 : decode cX3_minus 26 = .ok (.iload 4, 2) := by decide +kernel
theorem dX3_minus_28 : decode cX3_minus 28 = .ok (.lload 5, 2) := by decide +kernel
theorem dX3_minus_30 : decode cX3_minus 30 = .ok (.ldc2_w 53, 3) := by decide +kernel
theorem dX3_minus_33 : decode cX3_minus 33 = .ok (.land, 1) := by decide +kernel
theorem dX3_minus_34 : decode cX3_minus 34 = .ok (.lastore, 1) := by decide +kernel
theorem dX3_minus_35 : decode cX3_minus 35 = .ok (.lload 5, 2) := by decide +kernel
theorem dX3_minus_37 : decode cX3_minus 37 = .ok (.lconst 0, 1) := by decide +kernel
theorem dX3_minus_38 : decode cX3_minus 38 = .ok (.lcmp, 1) := by decide +kernel
theorem dX3_minus_39 : decode cX3_minus 39 = .ok (.ifCond .ge 7, 3) := by decide +kernel
theorem dX3_minus_42 : decode cX3_minus 42 = .ok (.lconst 1, 1) := by decide +kernel
theorem dX3_minus_43 : decode cX3_minus 43 = .ok (.goto 4, 3) := by decide +kernel
theorem dX3_minus_46 : decode cX3_minus 46 = .ok (.lconst 0, 1) := by decide +kernel
theorem dX3_minus_47 : decode cX3_minus 47 = .ok (.lstore_n 2, 1) := by decide +kernel
theorem dX3_minus_48 : decode cX3_minus 48 = .ok (.iinc 4 1, 3) := by decide +kernel
theorem dX3_minus_51 : decode cX3_minus 51 = .ok (.goto (-46), 3) := by decide +kernel
theorem dX3_minus_54 : decode cX3_minus 54 = .ok (.return_, 1) := by decide +kernel
theorem dX3_half_0 : decode cX3_half 0 = .ok (.lconst 0, 1) := by decide +kernel
theorem dX3_half_1 : decode cX3_half 1 = .ok (.lstore_n 1, 1) := by decide +kernel
theorem dX3_half_2 : decode cX3_half 2 = .ok (.bipush 8, 2) := by decide +kernel
theorem dX3_half_4 : decode cX3_half 4 = .ok (.istore_n 3, 1) := by decide +kernel
theorem dX3_half_5 : decode cX3_half 5 = .ok (.iload_n 3, 1) := by decide +kernel
theorem dX3_half_6 : decode cX3_half 6 = .ok (.ifCond .lt 31, 3) := by decide +kernel
theorem dX3_half_9 : decode cX3_half 9 = .ok (.aload_n 0, 1) := by decide +kernel
theorem dX3_half_10 : decode cX3_half 10 = .ok (.iload_n 3, 1) := by decide +kernel
theorem dX3_half_11 : decode cX3_half 11 = .ok (.laload, 1) := by decide +kernel
theorem dX3_half_12 : decode cX3_half 12 = .ok (.lload_n 1, 1) := by decide +kernel
theorem dX3_half_13 : decode cX3_half 13 = .ok (.bipush 32, 2) := by decide +kernel
theorem dX3_half_15 : decode cX3_half 15 = .ok (.lshl, 1) := by decide +kernel
theorem dX3_half_16 : decode cX3_half 16 = .ok (.ladd, 1) := by decide +kernel
theorem dX3_half_17 : decode cX3_half 17 = .ok (.lstore 4, 2) := by decide +kernel
theorem dX3_half_19 : decode cX3_half 19 = .ok (.aload_n 0, 1) := by decide +kernel
theorem dX3_half_20 : decode cX3_half 20 = .ok (.iload_n 3, 1) := by decide +kernel
theorem dX3_half_21 : decode cX3_half 21 = .ok (.lload 4, 2) := by decide +kernel
theorem dX3_half_23 : decode cX3_half 23 = .ok (.iconst 1, 1) := by decide +kernel
theorem dX3_half_24 : decode cX3_half 24 = .ok (.lushr, 1) := by decide +kernel
theorem dX3_half_25 : decode cX3_half 25 = .ok (.lastore, 1) := by decide +kernel
theorem dX3_half_26 : decode cX3_half 26 = .ok (.lload 4, 2) := by decide +kernel
theorem dX3_half_28 : decode cX3_half 28 = .ok (.lconst 1, 1) := by decide +kernel
theorem dX3_half_29 : decode cX3_half 29 = .ok (.land, 1) := by decide +kernel
theorem dX3_half_30 : decode cX3_half 30 = .ok (.lstore_n 1, 1) := by decide +kernel
theorem dX3_half_31 : decode cX3_half 31 = .ok (.iinc 3 (-1), 3) := by decide +kernel
theorem dX3_half_34 : decode cX3_half 34 = .ok (.goto (-29), 3) := by decide +kernel
theorem dX3_half_37 : decode cX3_half 37 = .ok (.return_, 1) := by decide +kernel
theorem dX3_bit_0 : decode cX3_bit 0 = .ok (.aload_n 0, 1) := by decide +kernel
theorem dX3_bit_1 : decode cX3_bit 1 = .ok (.iload_n 1, 1) := by decide +kernel
theorem dX3_bit_2 : decode cX3_bit 2 = .ok (.bipush 32, 2) := by decide +kernel
theorem dX3_bit_4 : decode cX3_bit 4 = .ok (.idiv, 1) := by decide +kernel
theorem dX3_bit_5 : decode cX3_bit 5 = .ok (.laload, 1) := by decide +kernel
theorem dX3_bit_6 : decode cX3_bit 6 = .ok (.iload_n 1, 1) := by decide +kernel
theorem dX3_bit_7 : decode cX3_bit 7 = .ok (.bipush 32, 2) := by decide +kernel
theorem dX3_bit_9 : decode cX3_bit 9 = .ok (.irem, 1) := by decide +kernel
theorem dX3_bit_10 : decode cX3_bit 10 = .ok (.lushr, 1) := by decide +kernel
theorem dX3_bit_11 : decode cX3_bit 11 = .ok (.lconst 1, 1) := by decide +kernel
theorem dX3_bit_12 : decode cX3_bit 12 = .ok (.land, 1) := by decide +kernel
theorem dX3_bit_13 : decode cX3_bit 13 = .ok (.lconst 1, 1) := by decide +kernel
theorem dX3_bit_14 : decode cX3_bit 14 = .ok (.lcmp, 1) := by decide +kernel
theorem dX3_bit_15 : decode cX3_bit 15 = .ok (.ifCond .ne 7, 3) := by decide +kernel
theorem dX3_bit_18 : decode cX3_bit 18 = .ok (.iconst 1, 1) := by decide +kernel
theorem dX3_bit_19 : decode cX3_bit 19 = .ok (.goto 4, 3) := by decide +kernel
theorem dX3_bit_22 : decode cX3_bit 22 = .ok (.iconst 0, 1) := by decide +kernel
theorem dX3_bit_23 : decode cX3_bit 23 = .ok (.ireturn, 1) := by decide +kernel
theorem dX3_bits_0 : decode cX3_bits 0 = .ok (.bipush 32, 2) := by decide +kernel
theorem dX3_bits_2 : decode cX3_bits 2 = .ok (.aload_n 0, 1) := by decide +kernel
theorem dX3_bits_3 : decode cX3_bits 3 = .ok (.getfield 38, 3) := by decide +kernel
theorem dX3_bits_6 : decode cX3_bits 6 = .ok (.imul, 1) := by decide +kernel
theorem dX3_bits_7 : decode cX3_bits 7 = .ok (.ireturn, 1) := by decide +kernel
set_option maxRecDepth 20000 in
theorem ggX3_sum_X3_plus : GoodIn wsX3_sum wsX3_plus := goodIn_r _ [5, 6] (by decide +kernel) (by decide +kernel)
set_option maxRecDepth 20000 in
theorem gX3_sum_X3_plus : GoodIn wsX3_sum (va_wsS RX3 73 yX3_plus wsX3_plus) := goodIn_app (goodIn_of _ (by decide +kernel)) ggX3_sum_X3_plus
set_option maxRecDepth 20000 in
theorem ggX3_sum_X3_compared : GoodIn wsX3_sum wsX3_compared := goodIn_r _ [9] (by decide +kernel) (by decide +kernel)
set_option maxRecDepth 20000 in
theorem gX3_sum_X3_compared : GoodIn wsX3_sum (va_wsS RX3 77 yX3_compared wsX3_compared) := goodIn_app (goodIn_of _ (by decide +kernel)) ggX3_sum_X3_compared
set_option maxRecDepth 20000 in
theorem ggX3_sum_X3_minus : GoodIn wsX3_sum wsX3_minus := goodIn_r _ [12, 6] (by decide +kernel) (by decide +kernel)
set_option maxRecDepth 20000 in
theorem gX3_sum_X3_minus : GoodIn wsX3_sum (va_wsS RX3 81 yX3_minus wsX3_minus) := goodIn_app (goodIn_of _ (by decide +kernel)) ggX3_sum_X3_minus
theorem dX3_sum_0 : decode cX3_sum 0 = .ok (.aload_n 1, 1) := by decide +kernel
theorem dX3_sum_1 : decode cX3_sum 1 = .ok (.aload_n 2, 1) := by decide +kernel
theorem dX3_sum_2 : decode cX3_sum 2 = .ok (.invokestatic 73, 3) := by decide +kernel
theorem dX3_sum_5 : decode cX3_sum 5 = .ok (.aload_n 1, 1) := by decide +kernel
theorem dX3_sum_6 : decode cX3_sum 6 = .ok (.aload_n 0, 1) := by decide +kernel
theorem dX3_sum_7 : decode cX3_sum 7 = .ok (.getfield 13, 3) := by decide +kernel
theorem dX3_sum_10 : decode cX3_sum 10 = .ok (.invokestatic 77, 3) := by decide +kernel
theorem dX3_sum_13 : decode cX3_sum 13 = .ok (.ifCond .lt 11, 3) := by decide +kernel
theorem dX3_sum_16 : decode cX3_sum 16 = .ok (.aload_n 1, 1) := by decide +kernel
theorem dX3_sum_17 : decode cX3_sum 17 = .ok (.aload_n 0, 1) := by decide +kernel
theorem dX3_sum_18 : decode cX3_sum 18 = .ok (.getfield 13, 3) := by decide +kernel
theorem dX3_sum_21 : decode cX3_sum 21 = .ok (.invokestatic 81, 3) := by decide +kernel
theorem dX3_sum_24 : decode cX3_sum 24 = .ok (.return_, 1) := by decide +kernel
set_option maxRecDepth 20000 in
theorem ggX3_difference_X3_compared : GoodIn wsX3_difference wsX3_compared := goodIn_r _ [5] (by decide +kernel) (by decide +kernel)
set_option maxRecDepth 20000 in
theorem gX3_difference_X3_compared : GoodIn wsX3_difference (va_wsS RX3 77 yX3_compared wsX3_compared) := goodIn_app (goodIn_of _ (by decide +kernel)) ggX3_difference_X3_compared
set_option maxRecDepth 20000 in
theorem ggX3_difference_X3_plus : GoodIn wsX3_difference wsX3_plus := goodIn_r _ [8, 9] (by decide +kernel) (by decide +kernel)
set_option maxRecDepth 20000 in
theorem gX3_difference_X3_plus : GoodIn wsX3_difference (va_wsS RX3 73 yX3_plus wsX3_plus) := goodIn_app (goodIn_of _ (by decide +kernel)) ggX3_difference_X3_plus
set_option maxRecDepth 20000 in
theorem ggX3_difference_X3_minus : GoodIn wsX3_difference wsX3_minus := goodIn_r _ [12, 9] (by decide +kernel) (by decide +kernel)
set_option maxRecDepth 20000 in
theorem gX3_difference_X3_minus : GoodIn wsX3_difference (va_wsS RX3 81 yX3_minus wsX3_minus) := goodIn_app (goodIn_of _ (by decide +kernel)) ggX3_difference_X3_minus
theorem dX3_difference_0 : decode cX3_difference 0 = .ok (.aload_n 1, 1) := by decide +kernel
theorem dX3_difference_1 : decode cX3_difference 1 = .ok (.aload_n 2, 1) := by decide +kernel
theorem dX3_difference_2 : decode cX3_difference 2 = .ok (.invokestatic 77, 3) := by decide +kernel
theorem dX3_difference_5 : decode cX3_difference 5 = .ok (.ifCond .ge 11, 3) := by decide +kernel
theorem dX3_difference_8 : decode cX3_difference 8 = .ok (.aload_n 1, 1) := by decide +kernel
theorem dX3_difference_9 : decode cX3_difference 9 = .ok (.aload_n 0, 1) := by decide +kernel
theorem dX3_difference_10 : decode cX3_difference 10 = .ok (.getfield 13, 3) := by decide +kernel
theorem dX3_difference_13 : decode cX3_difference 13 = .ok (.invokestatic 73, 3) := by decide +kernel
theorem dX3_difference_16 : decode cX3_difference 16 = .ok (.aload_n 1, 1) := by decide +kernel
theorem dX3_difference_17 : decode cX3_difference 17 = .ok (.aload_n 2, 1) := by decide +kernel
theorem dX3_difference_18 : decode cX3_difference 18 = .ok (.invokestatic 81, 3) := by decide +kernel
theorem dX3_difference_21 : decode cX3_difference 21 = .ok (.return_, 1) := by decide +kernel
set_option maxRecDepth 20000 in
theorem ggX3_rest_X3_copy : GoodIn wsX3_rest wsX3_copy := goodIn_r _ [6] (by decide +kernel) (by decide +kernel)
set_option maxRecDepth 20000 in
theorem gX3_rest_X3_copy : GoodIn wsX3_rest (va_wsS RX3 84 yX3_copy wsX3_copy) := goodIn_app (goodIn_of _ (by decide +kernel)) ggX3_rest_X3_copy
set_option maxRecDepth 20000 in
theorem ggX3_rest_X3_be : GoodIn wsX3_rest wsX3_be := goodIn_r _ [9] (by decide +kernel) (by decide +kernel)
set_option maxRecDepth 20000 in
theorem gX3_rest_X3_be : GoodIn wsX3_rest (va_wsS RX3 87 yX3_be wsX3_be) := goodIn_app (goodIn_of _ (by decide +kernel)) ggX3_rest_X3_be
set_option maxRecDepth 20000 in
theorem ggX3_rest_X3_bits : GoodIn wsX3_rest wsX3_bits := goodIn_r _ [13, 14, 28, 29, 30, 31, 32, 33, 34, 35, 36, 37, 38] (by decide +kernel) (by decide +kernel)
set_option maxRecDepth 20000 in
theorem gX3_rest_X3_bits : GoodIn wsX3_rest (wsV RX3 91 RX3 yX3_bits wsX3_bits) := goodIn_app (goodIn_of _ (by decide +kernel)) ggX3_rest_X3_bits
set_option maxRecDepth 20000 in
theorem ggX3_rest_X3_plus : GoodIn wsX3_rest wsX3_plus := goodIn_r _ [17, 18] (by decide +kernel) (by decide +kernel)
set_option maxRecDepth 20000 in
theorem gX3_rest_X3_plus : GoodIn wsX3_rest (va_wsS RX3 73 yX3_plus wsX3_plus) := goodIn_app (goodIn_of _ (by decide +kernel)) ggX3_rest_X3_plus
set_option maxRecDepth 20000 in
theorem ggX3_rest_X3_bit : GoodIn wsX3_rest wsX3_bit := goodIn_r _ [21] (by decide +kernel) (by decide +kernel)
set_option maxRecDepth 20000 in
theorem gX3_rest_X3_bit : GoodIn wsX3_rest (va_wsS RX3 94 yX3_bit wsX3_bit) := goodIn_app (goodIn_of _ (by decide +kernel)) ggX3_rest_X3_bit
set_option maxRecDepth 20000 in
theorem ggX3_rest_X3_compared : GoodIn wsX3_rest wsX3_compared := goodIn_r _ [24] (by decide +kernel) (by decide +kernel)
set_option maxRecDepth 20000 in
theorem gX3_rest_X3_compared : GoodIn wsX3_rest (va_wsS RX3 77 yX3_compared wsX3_compared) := goodIn_app (goodIn_of _ (by decide +kernel)) ggX3_rest_X3_compared
set_option maxRecDepth 20000 in
theorem ggX3_rest_X3_minus : GoodIn wsX3_rest wsX3_minus := goodIn_r _ [27, 18] (by decide +kernel) (by decide +kernel)
set_option maxRecDepth 20000 in
theorem gX3_rest_X3_minus : GoodIn wsX3_rest (va_wsS RX3 81 yX3_minus wsX3_minus) := goodIn_app (goodIn_of _ (by decide +kernel)) ggX3_rest_X3_minus
theorem dX3_rest_0 : decode cX3_rest 0 = .ok (.aload_n 0, 1) := by decide +kernel
theorem dX3_rest_1 : decode cX3_rest 1 = .ok (.getfield 25, 3) := by decide +kernel
theorem dX3_rest_4 : decode cX3_rest 4 = .ok (.aload_n 1, 1) := by decide +kernel
theorem dX3_rest_5 : decode cX3_rest 5 = .ok (.invokestatic 84, 3) := by decide +kernel
theorem dX3_rest_8 : decode cX3_rest 8 = .ok (.aload_n 1, 1) := by decide +kernel
theorem dX3_rest_9 : decode cX3_rest 9 = .ok (.lconst 0, 1) := by decide +kernel
theorem dX3_rest_10 : decode cX3_rest 10 = .ok (.invokestatic 87, 3) := by decide +kernel
theorem dX3_rest_13 : decode cX3_rest 13 = .ok (.aload_n 0, 1) := by decide +kernel
theorem dX3_rest_14 : decode cX3_rest 14 = .ok (.invokevirtual 91, 3) := by decide +kernel
theorem dX3_rest_17 : decode cX3_rest 17 = .ok (.iconst 1, 1) := by decide +kernel
theorem dX3_rest_18 : decode cX3_rest 18 = .ok (.isub, 1) := by decide +kernel
theorem dX3_rest_19 : decode cX3_rest 19 = .ok (.istore_n 2, 1) := by decide +kernel
theorem dX3_rest_20 : decode cX3_rest 20 = .ok (.iload_n 2, 1) := by decide +kernel
theorem dX3_rest_21 : decode cX3_rest 21 = .ok (.ifCond .lt 51, 3) := by decide +kernel
theorem dX3_rest_24 : decode cX3_rest 24 = .ok (.aload_n 1, 1) := by decide +kernel
theorem dX3_rest_25 : decode cX3_rest 25 = .ok (.aload_n 1, 1) := by decide +kernel
theorem dX3_rest_26 : decode cX3_rest 26 = .ok (.invokestatic 73, 3) := by decide +kernel
theorem dX3_rest_29 : decode cX3_rest 29 = .ok (.aload_n 0, 1) := by decide +kernel
theorem dX3_rest_30 : decode cX3_rest 30 = .ok (.getfield 25, 3) := by decide +kernel
theorem dX3_rest_33 : decode cX3_rest 33 = .ok (.iload_n 2, 1) := by decide +kernel
theorem dX3_rest_34 : decode cX3_rest 34 = .ok (.invokestatic 94, 3) := by decide +kernel
theorem dX3_rest_37 : decode cX3_rest 37 = .ok (.ifCond .eq 10, 3) := by decide +kernel
theorem dX3_rest_40 : decode cX3_rest 40 = .ok (.aload_n 1, 1) := by decide +kernel
theorem dX3_rest_41 : decode cX3_rest 41 = .ok (.iconst 0, 1) := by decide +kernel
theorem dX3_rest_42 : decode cX3_rest 42 = .ok (.dup2, 1) := by decide +kernel
theorem dX3_rest_43 : decode cX3_rest 43 = .ok (.laload, 1) := by decide +kernel
theorem dX3_rest_44 : decode cX3_rest 44 = .ok (.lconst 1, 1) := by decide +kernel
theorem dX3_rest_45 : decode cX3_rest 45 = .ok (.lor, 1) := by decide +kernel
theorem dX3_rest_46 : decode cX3_rest 46 = .ok (.lastore, 1) := by decide +kernel
theorem dX3_rest_47 : decode cX3_rest 47 = .ok (.aload_n 1, 1) := by decide +kernel
theorem dX3_rest_48 : decode cX3_rest 48 = .ok (.aload_n 0, 1) := by decide +kernel
theorem dX3_rest_49 : decode cX3_rest 49 = .ok (.getfield 13, 3) := by decide +kernel
theorem dX3_rest_52 : decode cX3_rest 52 = .ok (.invokestatic 77, 3) := by decide +kernel
theorem dX3_rest_55 : decode cX3_rest 55 = .ok (.ifCond .lt 11, 3) := by decide +kernel
theorem dX3_rest_58 : decode cX3_rest 58 = .ok (.aload_n 1, 1) := by decide +kernel
theorem dX3_rest_59 : decode cX3_rest 59 = .ok (.aload_n 0, 1) := by decide +kernel
theorem dX3_rest_60 : decode cX3_rest 60 = .ok (.getfield 13, 3) := by decide +kernel
theorem dX3_rest_63 : decode cX3_rest 63 = .ok (.invokestatic 81, 3) := by decide +kernel
theorem dX3_rest_66 : decode cX3_rest 66 = .ok (.iinc 2 (-1), 3) := by decide +kernel
theorem dX3_rest_69 : decode cX3_rest 69 = .ok (.goto (-49), 3) := by decide +kernel
theorem dX3_rest_72 : decode cX3_rest 72 = .ok (.return_, 1) := by decide +kernel
set_option maxRecDepth 20000 in
theorem ggX3_product_X3_copy : GoodIn wsX3_product wsX3_copy := goodIn_r _ [6] (by decide +kernel) (by decide +kernel)
set_option maxRecDepth 20000 in
theorem gX3_product_X3_copy : GoodIn wsX3_product (va_wsS RX3 84 yX3_copy wsX3_copy) := goodIn_app (goodIn_of _ (by decide +kernel)) ggX3_product_X3_copy
set_option maxRecDepth 20000 in
theorem ggX3_product_X3_be : GoodIn wsX3_product wsX3_be := goodIn_r _ [9] (by decide +kernel) (by decide +kernel)
set_option maxRecDepth 20000 in
theorem gX3_product_X3_be : GoodIn wsX3_product (va_wsS RX3 87 yX3_be wsX3_be) := goodIn_app (goodIn_of _ (by decide +kernel)) ggX3_product_X3_be
set_option maxRecDepth 20000 in
theorem ggX3_product_X3_bits : GoodIn wsX3_product wsX3_bits := goodIn_r _ [13, 14, 33, 34, 35, 36, 37, 38, 39, 40, 41, 42, 43] (by decide +kernel) (by decide +kernel)
set_option maxRecDepth 20000 in
theorem gX3_product_X3_bits : GoodIn wsX3_product (wsV RX3 91 RX3 yX3_bits wsX3_bits) := goodIn_app (goodIn_of _ (by decide +kernel)) ggX3_product_X3_bits
set_option maxRecDepth 20000 in
theorem ggX3_product_X3_sum : GoodIn wsX3_product wsX3_sum := goodIn_r _ [18, 19, 20, 21, 5, 22, 23, 24, 25, 26, 27, 28, 29, 33, 34, 35, 36, 37, 38, 39, 40, 41, 42, 43] (by decide +kernel) (by decide +kernel)
set_option maxRecDepth 20000 in
theorem gX3_product_X3_sum : GoodIn wsX3_product (wsV RX3 98 RX3 yX3_sum wsX3_sum) := goodIn_app (goodIn_of _ (by decide +kernel)) ggX3_product_X3_sum
set_option maxRecDepth 20000 in
theorem ggX3_product_X3_bit : GoodIn wsX3_product wsX3_bit := goodIn_r _ [32] (by decide +kernel) (by decide +kernel)
set_option maxRecDepth 20000 in
theorem gX3_product_X3_bit : GoodIn wsX3_product (va_wsS RX3 94 yX3_bit wsX3_bit) := goodIn_app (goodIn_of _ (by decide +kernel)) ggX3_product_X3_bit
theorem dX3_product_0 : decode cX3_product 0 = .ok (.aload_n 0, 1) := by decide +kernel
theorem dX3_product_1 : decode cX3_product 1 = .ok (.getfield 25, 3) := by decide +kernel
theorem dX3_product_4 : decode cX3_product 4 = .ok (.aload_n 1, 1) := by decide +kernel
theorem dX3_product_5 : decode cX3_product 5 = .ok (.invokestatic 84, 3) := by decide +kernel
theorem dX3_product_8 : decode cX3_product 8 = .ok (.aload_n 0, 1) := by decide +kernel
theorem dX3_product_9 : decode cX3_product 9 = .ok (.getfield 19, 3) := by decide +kernel
theorem dX3_product_12 : decode cX3_product 12 = .ok (.aload_n 2, 1) := by decide +kernel
theorem dX3_product_13 : decode cX3_product 13 = .ok (.invokestatic 84, 3) := by decide +kernel
theorem dX3_product_16 : decode cX3_product 16 = .ok (.aload_n 1, 1) := by decide +kernel
theorem dX3_product_17 : decode cX3_product 17 = .ok (.lconst 0, 1) := by decide +kernel
theorem dX3_product_18 : decode cX3_product 18 = .ok (.invokestatic 87, 3) := by decide +kernel
theorem dX3_product_21 : decode cX3_product 21 = .ok (.aload_n 0, 1) := by decide +kernel
theorem dX3_product_22 : decode cX3_product 22 = .ok (.invokevirtual 91, 3) := by decide +kernel
theorem dX3_product_25 : decode cX3_product 25 = .ok (.iconst 1, 1) := by decide +kernel
theorem dX3_product_26 : decode cX3_product 26 = .ok (.isub, 1) := by decide +kernel
theorem dX3_product_27 : decode cX3_product 27 = .ok (.istore_n 3, 1) := by decide +kernel
theorem dX3_product_28 : decode cX3_product 28 = .ok (.iload_n 3, 1) := by decide +kernel
theorem dX3_product_29 : decode cX3_product 29 = .ok (.ifCond .lt 35, 3) := by decide +kernel
theorem dX3_product_32 : decode cX3_product 32 = .ok (.aload_n 0, 1) := by decide +kernel
theorem dX3_product_33 : decode cX3_product 33 = .ok (.aload_n 1, 1) := by decide +kernel
theorem dX3_product_34 : decode cX3_product 34 = .ok (.aload_n 1, 1) := by decide +kernel
theorem dX3_product_35 : decode cX3_product 35 = .ok (.invokevirtual 98, 3) := by decide +kernel
theorem dX3_product_38 : decode cX3_product 38 = .ok (.aload_n 0, 1) := by decide +kernel
theorem dX3_product_39 : decode cX3_product 39 = .ok (.getfield 25, 3) := by decide +kernel
theorem dX3_product_42 : decode cX3_product 42 = .ok (.iload_n 3, 1) := by decide +kernel
theorem dX3_product_43 : decode cX3_product 43 = .ok (.invokestatic 94, 3) := by decide +kernel
theorem dX3_product_46 : decode cX3_product 46 = .ok (.ifCond .eq 12, 3) := by decide +kernel
theorem dX3_product_49 : decode cX3_product 49 = .ok (.aload_n 0, 1) := by decide +kernel
theorem dX3_product_50 : decode cX3_product 50 = .ok (.aload_n 1, 1) := by decide +kernel
theorem dX3_product_51 : decode cX3_product 51 = .ok (.aload_n 0, 1) := by decide +kernel
theorem dX3_product_52 : decode cX3_product 52 = .ok (.getfield 19, 3) := by decide +kernel
theorem dX3_product_55 : decode cX3_product 55 = .ok (.invokevirtual 98, 3) := by decide +kernel
theorem dX3_product_58 : decode cX3_product 58 = .ok (.iinc 3 (-1), 3) := by decide +kernel
theorem dX3_product_61 : decode cX3_product 61 = .ok (.goto (-33), 3) := by decide +kernel
theorem dX3_product_64 : decode cX3_product 64 = .ok (.return_, 1) := by decide +kernel
set_option maxRecDepth 20000 in
theorem ggX3_halfOf_X3_bit : GoodIn wsX3_halfOf wsX3_bit := goodIn_r _ [5] (by decide +kernel) (by decide +kernel)
set_option maxRecDepth 20000 in
theorem gX3_halfOf_X3_bit : GoodIn wsX3_halfOf (va_wsS RX3 94 yX3_bit wsX3_bit) := goodIn_app (goodIn_of _ (by decide +kernel)) ggX3_halfOf_X3_bit
set_option maxRecDepth 20000 in
theorem ggX3_halfOf_X3_plus : GoodIn wsX3_halfOf wsX3_plus := goodIn_r _ [8, 9] (by decide +kernel) (by decide +kernel)
set_option maxRecDepth 20000 in
theorem gX3_halfOf_X3_plus : GoodIn wsX3_halfOf (va_wsS RX3 73 yX3_plus wsX3_plus) := goodIn_app (goodIn_of _ (by decide +kernel)) ggX3_halfOf_X3_plus
set_option maxRecDepth 20000 in
theorem ggX3_halfOf_X3_half : GoodIn wsX3_halfOf wsX3_half := goodIn_r _ [12] (by decide +kernel) (by decide +kernel)
set_option maxRecDepth 20000 in
theorem gX3_halfOf_X3_half : GoodIn wsX3_halfOf (va_wsS RX3 101 yX3_half wsX3_half) := goodIn_app (goodIn_of _ (by decide +kernel)) ggX3_halfOf_X3_half
theorem dX3_halfOf_0 : decode cX3_halfOf 0 = .ok (.aload_n 1, 1) := by decide +kernel
theorem dX3_halfOf_1 : decode cX3_halfOf 1 = .ok (.iconst 0, 1) := by decide +kernel
theorem dX3_halfOf_2 : decode cX3_halfOf 2 = .ok (.invokestatic 94, 3) := by decide +kernel
theorem dX3_halfOf_5 : decode cX3_halfOf 5 = .ok (.ifCond .eq 11, 3) := by decide +kernel
theorem dX3_halfOf_8 : decode cX3_halfOf 8 = .ok (.aload_n 1, 1) := by decide +kernel
theorem dX3_halfOf_9 : decode cX3_halfOf 9 = .ok (.aload_n 0, 1) := by decide +kernel
theorem dX3_halfOf_10 : decode cX3_halfOf 10 = .ok (.getfield 13, 3) := by decide +kernel
theorem dX3_halfOf_13 : decode cX3_halfOf 13 = .ok (.invokestatic 73, 3) := by decide +kernel
theorem dX3_halfOf_16 : decode cX3_halfOf 16 = .ok (.aload_n 1, 1) := by decide +kernel
theorem dX3_halfOf_17 : decode cX3_halfOf 17 = .ok (.invokestatic 101, 3) := by decide +kernel
theorem dX3_halfOf_20 : decode cX3_halfOf 20 = .ok (.return_, 1) := by decide +kernel
set_option maxRecDepth 20000 in
theorem ggX3_isAsked_X3_isRegister : GoodIn wsX3_isAsked wsX3_isRegister := goodIn_r _ [6, 7, 8, 9, 10, 11, 12, 13, 14, 15, 16, 17, 18] (by decide +kernel) (by decide +kernel)
set_option maxRecDepth 20000 in
theorem gX3_isAsked_X3_isRegister : GoodIn wsX3_isAsked (wsV RX3 67 RX3 yX3_isRegister wsX3_isRegister) := goodIn_app (goodIn_of _ (by decide +kernel)) ggX3_isAsked_X3_isRegister
theorem dX3_isAsked_0 : decode cX3_isAsked 0 = .ok (.aload_n 0, 1) := by decide +kernel
theorem dX3_isAsked_1 : decode cX3_isAsked 1 = .ok (.getfield 55, 3) := by decide +kernel
theorem dX3_isAsked_4 : decode cX3_isAsked 4 = .ok (.ifCond .eq 31, 3) := by decide +kernel
theorem dX3_isAsked_7 : decode cX3_isAsked 7 = .ok (.aload_n 0, 1) := by decide +kernel
theorem dX3_isAsked_8 : decode cX3_isAsked 8 = .ok (.iload_n 1, 1) := by decide +kernel
theorem dX3_isAsked_9 : decode cX3_isAsked 9 = .ok (.invokevirtual 67, 3) := by decide +kernel
theorem dX3_isAsked_12 : decode cX3_isAsked 12 = .ok (.ifCond .eq 23, 3) := by decide +kernel
theorem dX3_isAsked_15 : decode cX3_isAsked 15 = .ok (.aload_n 0, 1) := by decide +kernel
theorem dX3_isAsked_16 : decode cX3_isAsked 16 = .ok (.iload_n 2, 1) := by decide +kernel
theorem dX3_isAsked_17 : decode cX3_isAsked 17 = .ok (.invokevirtual 67, 3) := by decide +kernel
theorem dX3_isAsked_20 : decode cX3_isAsked 20 = .ok (.ifCond .eq 15, 3) := by decide +kernel
theorem dX3_isAsked_23 : decode cX3_isAsked 23 = .ok (.aload_n 0, 1) := by decide +kernel
theorem dX3_isAsked_24 : decode cX3_isAsked 24 = .ok (.iload_n 3, 1) := by decide +kernel
theorem dX3_isAsked_25 : decode cX3_isAsked 25 = .ok (.invokevirtual 67, 3) := by decide +kernel
theorem dX3_isAsked_28 : decode cX3_isAsked 28 = .ok (.ifCond .eq 7, 3) := by decide +kernel
theorem dX3_isAsked_31 : decode cX3_isAsked 31 = .ok (.iconst 1, 1) := by decide +kernel
theorem dX3_isAsked_32 : decode cX3_isAsked 32 = .ok (.goto 4, 3) := by decide +kernel
theorem dX3_isAsked_35 : decode cX3_isAsked 35 = .ok (.iconst 0, 1) := by decide +kernel
theorem dX3_isAsked_36 : decode cX3_isAsked 36 = .ok (.ireturn, 1) := by decide +kernel
set_option maxRecDepth 20000 in
theorem ggX3_takes_X3_placeOfModulus : GoodIn wsX3_takes wsX3_placeOfModulus := goodIn_r _ [8] (by decide +kernel) (by decide +kernel)
set_option maxRecDepth 20000 in
theorem gX3_takes_X3_placeOfModulus : GoodIn wsX3_takes (wsV RX3 49 RX3 yX3_placeOfModulus wsX3_placeOfModulus) := goodIn_app (goodIn_of _ (by decide +kernel)) ggX3_takes_X3_placeOfModulus
set_option maxRecDepth 20000 in
theorem ggX3_takes_X3_read : GoodIn wsX3_takes wsX3_read := goodIn_r _ [12, 13, 47, 48, 49, 50, 51, 52, 53, 54, 55, 56, 57] (by decide +kernel) (by decide +kernel)
set_option maxRecDepth 20000 in
theorem gX3_takes_X3_read : GoodIn wsX3_takes (wsV RX3 59 RX3 yX3_read wsX3_read) := goodIn_app (goodIn_of _ (by decide +kernel)) ggX3_takes_X3_read
set_option maxRecDepth 20000 in
theorem ggX3_takes_X3_placeOf : GoodIn wsX3_takes wsX3_placeOf := goodIn_r _ [17] (by decide +kernel) (by decide +kernel)
set_option maxRecDepth 20000 in
theorem gX3_takes_X3_placeOf : GoodIn wsX3_takes (wsV RX3 70 RX3 yX3_placeOf wsX3_placeOf) := goodIn_app (goodIn_of _ (by decide +kernel)) ggX3_takes_X3_placeOf
set_option maxRecDepth 20000 in
theorem ggX3_takes_X3_rest : GoodIn wsX3_takes wsX3_rest := goodIn_r _ [21, 22, 1, 23, 24, 7, 25, 26, 27, 28, 29, 30, 31, 32, 33, 34, 35, 36, 37, 38, 39, 40, 41, 42, 43, 44, 45, 46, 47, 48, 49, 50, 51, 52, 53, 54, 55, 56, 57] (by decide +kernel) (by decide +kernel)
set_option maxRecDepth 20000 in
theorem gX3_takes_X3_rest : GoodIn wsX3_takes (wsV RX3 105 RX3 yX3_rest wsX3_rest) := goodIn_app (goodIn_of _ (by decide +kernel)) ggX3_takes_X3_rest
theorem dX3_takes_0 : decode cX3_takes 0 = .ok (.aload_n 0, 1) := by decide +kernel
theorem dX3_takes_1 : decode cX3_takes 1 = .ok (.aload_n 0, 1) := by decide +kernel
theorem dX3_takes_2 : decode cX3_takes 2 = .ok (.getfield 13, 3) := by decide +kernel
theorem dX3_takes_5 : decode cX3_takes 5 = .ok (.aload_n 0, 1) := by decide +kernel
theorem dX3_takes_6 : decode cX3_takes 6 = .ok (.invokevirtual 49, 3) := by decide +kernel
theorem dX3_takes_9 : decode cX3_takes 9 = .ok (.invokevirtual 59, 3) := by decide +kernel
theorem dX3_takes_12 : decode cX3_takes 12 = .ok (.aload_n 0, 1) := by decide +kernel
theorem dX3_takes_13 : decode cX3_takes 13 = .ok (.aload_n 0, 1) := by decide +kernel
theorem dX3_takes_14 : decode cX3_takes 14 = .ok (.getfield 16, 3) := by decide +kernel
theorem dX3_takes_17 : decode cX3_takes 17 = .ok (.aload_n 0, 1) := by decide +kernel
theorem dX3_takes_18 : decode cX3_takes 18 = .ok (.iload_n 1, 1) := by decide +kernel
theorem dX3_takes_19 : decode cX3_takes 19 = .ok (.invokevirtual 70, 3) := by decide +kernel
theorem dX3_takes_22 : decode cX3_takes 22 = .ok (.invokevirtual 59, 3) := by decide +kernel
theorem dX3_takes_25 : decode cX3_takes 25 = .ok (.aload_n 0, 1) := by decide +kernel
theorem dX3_takes_26 : decode cX3_takes 26 = .ok (.aload_n 0, 1) := by decide +kernel
theorem dX3_takes_27 : decode cX3_takes 27 = .ok (.getfield 16, 3) := by decide +kernel
theorem dX3_takes_30 : decode cX3_takes 30 = .ok (.invokevirtual 105, 3) := by decide +kernel
theorem dX3_takes_33 : decode cX3_takes 33 = .ok (.aload_n 0, 1) := by decide +kernel
theorem dX3_takes_34 : decode cX3_takes 34 = .ok (.aload_n 0, 1) := by decide +kernel
theorem dX3_takes_35 : decode cX3_takes 35 = .ok (.getfield 22, 3) := by decide +kernel
theorem dX3_takes_38 : decode cX3_takes 38 = .ok (.aload_n 0, 1) := by decide +kernel
theorem dX3_takes_39 : decode cX3_takes 39 = .ok (.iload_n 2, 1) := by decide +kernel
theorem dX3_takes_40 : decode cX3_takes 40 = .ok (.invokevirtual 70, 3) := by decide +kernel
theorem dX3_takes_43 : decode cX3_takes 43 = .ok (.invokevirtual 59, 3) := by decide +kernel
theorem dX3_takes_46 : decode cX3_takes 46 = .ok (.aload_n 0, 1) := by decide +kernel
theorem dX3_takes_47 : decode cX3_takes 47 = .ok (.aload_n 0, 1) := by decide +kernel
theorem dX3_takes_48 : decode cX3_takes 48 = .ok (.getfield 22, 3) := by decide +kernel
theorem dX3_takes_51 : decode cX3_takes 51 = .ok (.invokevirtual 105, 3) := by decide +kernel
theorem dX3_takes_54 : decode cX3_takes 54 = .ok (.return_, 1) := by decide +kernel
set_option maxRecDepth 20000 in
theorem ggX3_reduce_X3_isAsked : GoodIn wsX3_reduce wsX3_isAsked := goodIn_r _ [6, 7, 8, 9, 10, 5, 11, 12, 65, 66, 67, 68, 69, 70, 71, 72, 73, 74, 75] (by decide +kernel) (by decide +kernel)
set_option maxRecDepth 20000 in
theorem gX3_reduce_X3_isAsked : GoodIn wsX3_reduce (wsV RX3 108 RX3 yX3_isAsked wsX3_isAsked) := goodIn_app (goodIn_of _ (by decide +kernel)) ggX3_reduce_X3_isAsked
set_option maxRecDepth 20000 in
theorem ggX3_reduce_X3_takes : GoodIn wsX3_reduce wsX3_takes := goodIn_r _ [16, 17, 1, 18, 19, 20, 21, 5, 22, 23, 24, 25, 26, 27, 28, 29, 30, 31, 32, 33, 34, 35, 36, 37, 38, 39, 40, 41, 42, 43, 44, 45, 46, 47, 48, 49, 50, 51, 52, 53, 54, 55, 56, 57, 58, 59, 60, 65, 66, 67, 68, 69, 70, 71, 72, 73, 74, 75] (by decide +kernel) (by decide +kernel)
set_option maxRecDepth 20000 in
theorem gX3_reduce_X3_takes : GoodIn wsX3_reduce (wsV RX3 112 RX3 yX3_takes wsX3_takes) := goodIn_app (goodIn_of _ (by decide +kernel)) ggX3_reduce_X3_takes
set_option maxRecDepth 20000 in
theorem ggX3_reduce_X3_write : GoodIn wsX3_reduce wsX3_write := goodIn_r _ [64, 27, 28, 29, 30, 5, 31, 65, 66, 67, 68, 69, 70, 71, 72, 73, 74, 75] (by decide +kernel) (by decide +kernel)
set_option maxRecDepth 20000 in
theorem gX3_reduce_X3_write : GoodIn wsX3_reduce (wsV RX3 116 RX3 yX3_write wsX3_write) := goodIn_app (goodIn_of _ (by decide +kernel)) ggX3_reduce_X3_write
theorem dX3_reduce_0 : decode cX3_reduce 0 = .ok (.aload_n 0, 1) := by decide +kernel
theorem dX3_reduce_1 : decode cX3_reduce 1 = .ok (.iload_n 1, 1) := by decide +kernel
theorem dX3_reduce_2 : decode cX3_reduce 2 = .ok (.iload_n 1, 1) := by decide +kernel
theorem dX3_reduce_3 : decode cX3_reduce 3 = .ok (.iload_n 1, 1) := by decide +kernel
theorem dX3_reduce_4 : decode cX3_reduce 4 = .ok (.invokevirtual 108, 3) := by decide +kernel
theorem dX3_reduce_7 : decode cX3_reduce 7 = .ok (.ifCond .ne 5, 3) := by decide +kernel
theorem dX3_reduce_10 : decode cX3_reduce 10 = .ok (.iconst 0, 1) := by decide +kernel
theorem dX3_reduce_11 : decode cX3_reduce 11 = .ok (.ireturn, 1) := by decide +kernel
theorem dX3_reduce_12 : decode cX3_reduce 12 = .ok (.aload_n 0, 1) := by decide +kernel
theorem dX3_reduce_13 : decode cX3_reduce 13 = .ok (.iload_n 1, 1) := by decide +kernel
theorem dX3_reduce_14 : decode cX3_reduce 14 = .ok (.iload_n 1, 1) := by decide +kernel
theorem dX3_reduce_15 : decode cX3_reduce 15 = .ok (.invokevirtual 112, 3) := by decide +kernel
theorem dX3_reduce_18 : decode cX3_reduce 18 = .ok (.aload_n 0, 1) := by decide +kernel
theorem dX3_reduce_19 : decode cX3_reduce 19 = .ok (.iload_n 1, 1) := by decide +kernel
theorem dX3_reduce_20 : decode cX3_reduce 20 = .ok (.aload_n 0, 1) := by decide +kernel
theorem dX3_reduce_21 : decode cX3_reduce 21 = .ok (.getfield 16, 3) := by decide +kernel
theorem dX3_reduce_24 : decode cX3_reduce 24 = .ok (.invokevirtual 116, 3) := by decide +kernel
theorem dX3_reduce_27 : decode cX3_reduce 27 = .ok (.iconst 1, 1) := by decide +kernel
theorem dX3_reduce_28 : decode cX3_reduce 28 = .ok (.ireturn, 1) := by decide +kernel
set_option maxRecDepth 20000 in
theorem ggX3_addMod_X3_isAsked : GoodIn wsX3_addMod wsX3_isAsked := goodIn_r _ [7, 8, 9, 10, 11, 6, 12, 13, 69, 70, 71, 72, 73, 74, 75, 76, 77, 78, 79] (by decide +kernel) (by decide +kernel)
set_option maxRecDepth 20000 in
theorem gX3_addMod_X3_isAsked : GoodIn wsX3_addMod (wsV RX3 108 RX3 yX3_isAsked wsX3_isAsked) := goodIn_app (goodIn_of _ (by decide +kernel)) ggX3_addMod_X3_isAsked
set_option maxRecDepth 20000 in
theorem ggX3_addMod_X3_takes : GoodIn wsX3_addMod wsX3_takes := goodIn_r _ [17, 18, 1, 2, 19, 20, 21, 6, 22, 23, 24, 25, 26, 27, 28, 29, 30, 31, 32, 33, 34, 35, 36, 37, 38, 39, 40, 41, 42, 43, 44, 45, 46, 47, 48, 49, 50, 51, 52, 53, 54, 55, 56, 57, 58, 59, 60, 69, 70, 71, 72, 73, 74, 75, 76, 77, 78, 79] (by decide +kernel) (by decide +kernel)
set_option maxRecDepth 20000 in
theorem gX3_addMod_X3_takes : GoodIn wsX3_addMod (wsV RX3 112 RX3 yX3_takes wsX3_takes) := goodIn_app (goodIn_of _ (by decide +kernel)) ggX3_addMod_X3_takes
set_option maxRecDepth 20000 in
theorem ggX3_addMod_X3_sum : GoodIn wsX3_addMod wsX3_sum := goodIn_r _ [64, 18, 48, 49, 6, 50, 51, 55, 56, 57, 58, 59, 60, 69, 70, 71, 72, 73, 74, 75, 76, 77, 78, 79] (by decide +kernel) (by decide +kernel)
set_option maxRecDepth 20000 in
theorem gX3_addMod_X3_sum : GoodIn wsX3_addMod (wsV RX3 98 RX3 yX3_sum wsX3_sum) := goodIn_app (goodIn_of _ (by decide +kernel)) ggX3_addMod_X3_sum
set_option maxRecDepth 20000 in
theorem ggX3_addMod_X3_write : GoodIn wsX3_addMod wsX3_write := goodIn_r _ [68, 27, 28, 29, 30, 6, 31, 69, 70, 71, 72, 73, 74, 75, 76, 77, 78, 79] (by decide +kernel) (by decide +kernel)
set_option maxRecDepth 20000 in
theorem gX3_addMod_X3_write : GoodIn wsX3_addMod (wsV RX3 116 RX3 yX3_write wsX3_write) := goodIn_app (goodIn_of _ (by decide +kernel)) ggX3_addMod_X3_write
theorem dX3_addMod_0 : decode cX3_addMod 0 = .ok (.aload_n 0, 1) := by decide +kernel
theorem dX3_addMod_1 : decode cX3_addMod 1 = .ok (.iload_n 1, 1) := by decide +kernel
theorem dX3_addMod_2 : decode cX3_addMod 2 = .ok (.iload_n 2, 1) := by decide +kernel
theorem dX3_addMod_3 : decode cX3_addMod 3 = .ok (.iload_n 3, 1) := by decide +kernel
theorem dX3_addMod_4 : decode cX3_addMod 4 = .ok (.invokevirtual 108, 3) := by decide +kernel
theorem dX3_addMod_7 : decode cX3_addMod 7 = .ok (.ifCond .ne 5, 3) := by decide +kernel
theorem dX3_addMod_10 : decode cX3_addMod 10 = .ok (.iconst 0, 1) := by decide +kernel
theorem dX3_addMod_11 : decode cX3_addMod 11 = .ok (.ireturn, 1) := by decide +kernel
theorem dX3_addMod_12 : decode cX3_addMod 12 = .ok (.aload_n 0, 1) := by decide +kernel
theorem dX3_addMod_13 : decode cX3_addMod 13 = .ok (.iload_n 2, 1) := by decide +kernel
theorem dX3_addMod_14 : decode cX3_addMod 14 = .ok (.iload_n 3, 1) := by decide +kernel
theorem dX3_addMod_15 : decode cX3_addMod 15 = .ok (.invokevirtual 112, 3) := by decide +kernel
theorem dX3_addMod_18 : decode cX3_addMod 18 = .ok (.aload_n 0, 1) := by decide +kernel
theorem dX3_addMod_19 : decode cX3_addMod 19 = .ok (.aload_n 0, 1) := by decide +kernel
theorem dX3_addMod_20 : decode cX3_addMod 20 = .ok (.getfield 16, 3) := by decide +kernel
theorem dX3_addMod_23 : decode cX3_addMod 23 = .ok (.aload_n 0, 1) := by decide +kernel
theorem dX3_addMod_24 : decode cX3_addMod 24 = .ok (.getfield 22, 3) := by decide +kernel
theorem dX3_addMod_27 : decode cX3_addMod 27 = .ok (.invokevirtual 98, 3) := by decide +kernel
theorem dX3_addMod_30 : decode cX3_addMod 30 = .ok (.aload_n 0, 1) := by decide +kernel
theorem dX3_addMod_31 : decode cX3_addMod 31 = .ok (.iload_n 1, 1) := by decide +kernel
theorem dX3_addMod_32 : decode cX3_addMod 32 = .ok (.aload_n 0, 1) := by decide +kernel
theorem dX3_addMod_33 : decode cX3_addMod 33 = .ok (.getfield 16, 3) := by decide +kernel
theorem dX3_addMod_36 : decode cX3_addMod 36 = .ok (.invokevirtual 116, 3) := by decide +kernel
theorem dX3_addMod_39 : decode cX3_addMod 39 = .ok (.iconst 1, 1) := by decide +kernel
theorem dX3_addMod_40 : decode cX3_addMod 40 = .ok (.ireturn, 1) := by decide +kernel
set_option maxRecDepth 20000 in
theorem ggX3_subMod_X3_isAsked : GoodIn wsX3_subMod wsX3_isAsked := goodIn_r _ [7, 8, 9, 10, 11, 6, 12, 13, 69, 70, 71, 72, 73, 74, 75, 76, 77, 78, 79] (by decide +kernel) (by decide +kernel)
set_option maxRecDepth 20000 in
theorem gX3_subMod_X3_isAsked : GoodIn wsX3_subMod (wsV RX3 108 RX3 yX3_isAsked wsX3_isAsked) := goodIn_app (goodIn_of _ (by decide +kernel)) ggX3_subMod_X3_isAsked
set_option maxRecDepth 20000 in
theorem ggX3_subMod_X3_takes : GoodIn wsX3_subMod wsX3_takes := goodIn_r _ [17, 18, 1, 2, 19, 20, 21, 6, 22, 23, 24, 25, 26, 27, 28, 29, 30, 31, 32, 33, 34, 35, 36, 37, 38, 39, 40, 41, 42, 43, 44, 45, 46, 47, 48, 49, 50, 51, 52, 53, 54, 55, 56, 57, 58, 59, 60, 69, 70, 71, 72, 73, 74, 75, 76, 77, 78, 79] (by decide +kernel) (by decide +kernel)
set_option maxRecDepth 20000 in
theorem gX3_subMod_X3_takes : GoodIn wsX3_subMod (wsV RX3 112 RX3 yX3_takes wsX3_takes) := goodIn_app (goodIn_of _ (by decide +kernel)) ggX3_subMod_X3_takes
set_option maxRecDepth 20000 in
theorem ggX3_subMod_X3_difference : GoodIn wsX3_subMod wsX3_difference := goodIn_r _ [64, 18, 55, 56, 6, 57, 48, 49, 50, 51, 58, 59, 60, 69, 70, 71, 72, 73, 74, 75, 76, 77, 78, 79] (by decide +kernel) (by decide +kernel)
set_option maxRecDepth 20000 in
theorem gX3_subMod_X3_difference : GoodIn wsX3_subMod (wsV RX3 120 RX3 yX3_difference wsX3_difference) := goodIn_app (goodIn_of _ (by decide +kernel)) ggX3_subMod_X3_difference
set_option maxRecDepth 20000 in
theorem ggX3_subMod_X3_write : GoodIn wsX3_subMod wsX3_write := goodIn_r _ [68, 27, 28, 29, 30, 6, 31, 69, 70, 71, 72, 73, 74, 75, 76, 77, 78, 79] (by decide +kernel) (by decide +kernel)
set_option maxRecDepth 20000 in
theorem gX3_subMod_X3_write : GoodIn wsX3_subMod (wsV RX3 116 RX3 yX3_write wsX3_write) := goodIn_app (goodIn_of _ (by decide +kernel)) ggX3_subMod_X3_write
theorem dX3_subMod_0 : decode cX3_subMod 0 = .ok (.aload_n 0, 1) := by decide +kernel
theorem dX3_subMod_1 : decode cX3_subMod 1 = .ok (.iload_n 1, 1) := by decide +kernel
theorem dX3_subMod_2 : decode cX3_subMod 2 = .ok (.iload_n 2, 1) := by decide +kernel
theorem dX3_subMod_3 : decode cX3_subMod 3 = .ok (.iload_n 3, 1) := by decide +kernel
theorem dX3_subMod_4 : decode cX3_subMod 4 = .ok (.invokevirtual 108, 3) := by decide +kernel
theorem dX3_subMod_7 : decode cX3_subMod 7 = .ok (.ifCond .ne 5, 3) := by decide +kernel
theorem dX3_subMod_10 : decode cX3_subMod 10 = .ok (.iconst 0, 1) := by decide +kernel
theorem dX3_subMod_11 : decode cX3_subMod 11 = .ok (.ireturn, 1) := by decide +kernel
theorem dX3_subMod_12 : decode cX3_subMod 12 = .ok (.aload_n 0, 1) := by decide +kernel
theorem dX3_subMod_13 : decode cX3_subMod 13 = .ok (.iload_n 2, 1) := by decide +kernel
theorem dX3_subMod_14 : decode cX3_subMod 14 = .ok (.iload_n 3, 1) := by decide +kernel
theorem dX3_subMod_15 : decode cX3_subMod 15 = .ok (.invokevirtual 112, 3) := by decide +kernel
theorem dX3_subMod_18 : decode cX3_subMod 18 = .ok (.aload_n 0, 1) := by decide +kernel
theorem dX3_subMod_19 : decode cX3_subMod 19 = .ok (.aload_n 0, 1) := by decide +kernel
theorem dX3_subMod_20 : decode cX3_subMod 20 = .ok (.getfield 16, 3) := by decide +kernel
theorem dX3_subMod_23 : decode cX3_subMod 23 = .ok (.aload_n 0, 1) := by decide +kernel
theorem dX3_subMod_24 : decode cX3_subMod 24 = .ok (.getfield 22, 3) := by decide +kernel
theorem dX3_subMod_27 : decode cX3_subMod 27 = .ok (.invokevirtual 120, 3) := by decide +kernel
theorem dX3_subMod_30 : decode cX3_subMod 30 = .ok (.aload_n 0, 1) := by decide +kernel
theorem dX3_subMod_31 : decode cX3_subMod 31 = .ok (.iload_n 1, 1) := by decide +kernel
theorem dX3_subMod_32 : decode cX3_subMod 32 = .ok (.aload_n 0, 1) := by decide +kernel
theorem dX3_subMod_33 : decode cX3_subMod 33 = .ok (.getfield 16, 3) := by decide +kernel
theorem dX3_subMod_36 : decode cX3_subMod 36 = .ok (.invokevirtual 116, 3) := by decide +kernel
theorem dX3_subMod_39 : decode cX3_subMod 39 = .ok (.iconst 1, 1) := by decide +kernel
theorem dX3_subMod_40 : decode cX3_subMod 40 = .ok (.ireturn, 1) := by decide +kernel
set_option maxRecDepth 20000 in
theorem ggX3_mulMod_X3_isAsked : GoodIn wsX3_mulMod wsX3_isAsked := goodIn_r _ [7, 8, 9, 10, 11, 6, 12, 13, 74, 75, 76, 77, 78, 79, 80, 81, 82, 83, 84] (by decide +kernel) (by decide +kernel)
set_option maxRecDepth 20000 in
theorem gX3_mulMod_X3_isAsked : GoodIn wsX3_mulMod (wsV RX3 108 RX3 yX3_isAsked wsX3_isAsked) := goodIn_app (goodIn_of _ (by decide +kernel)) ggX3_mulMod_X3_isAsked
set_option maxRecDepth 20000 in
theorem ggX3_mulMod_X3_takes : GoodIn wsX3_mulMod wsX3_takes := goodIn_r _ [17, 18, 1, 2, 19, 20, 21, 6, 22, 23, 24, 25, 26, 27, 28, 29, 30, 31, 32, 33, 34, 35, 36, 37, 38, 39, 40, 41, 42, 43, 44, 45, 46, 47, 48, 49, 50, 51, 52, 53, 54, 55, 56, 57, 58, 59, 60, 74, 75, 76, 77, 78, 79, 80, 81, 82, 83, 84] (by decide +kernel) (by decide +kernel)
set_option maxRecDepth 20000 in
theorem gX3_mulMod_X3_takes : GoodIn wsX3_mulMod (wsV RX3 112 RX3 yX3_takes wsX3_takes) := goodIn_app (goodIn_of _ (by decide +kernel)) ggX3_mulMod_X3_takes
set_option maxRecDepth 20000 in
theorem ggX3_mulMod_X3_product : GoodIn wsX3_mulMod wsX3_product := goodIn_r _ [64, 36, 65, 37, 38, 6, 39, 40, 41, 42, 43, 44, 45, 46, 47, 66, 67, 68, 69, 18, 48, 49, 50, 51, 55, 56, 57, 58, 59, 60, 52, 53, 54, 74, 75, 76, 77, 78, 79, 80, 81, 82, 83, 84] (by decide +kernel) (by decide +kernel)
set_option maxRecDepth 20000 in
theorem gX3_mulMod_X3_product : GoodIn wsX3_mulMod (wsV RX3 123 RX3 yX3_product wsX3_product) := goodIn_app (goodIn_of _ (by decide +kernel)) ggX3_mulMod_X3_product
set_option maxRecDepth 20000 in
theorem ggX3_mulMod_X3_write : GoodIn wsX3_mulMod wsX3_write := goodIn_r _ [73, 27, 28, 29, 30, 6, 31, 74, 75, 76, 77, 78, 79, 80, 81, 82, 83, 84] (by decide +kernel) (by decide +kernel)
set_option maxRecDepth 20000 in
theorem gX3_mulMod_X3_write : GoodIn wsX3_mulMod (wsV RX3 116 RX3 yX3_write wsX3_write) := goodIn_app (goodIn_of _ (by decide +kernel)) ggX3_mulMod_X3_write
theorem dX3_mulMod_0 : decode cX3_mulMod 0 = .ok (.aload_n 0, 1) := by decide +kernel
theorem dX3_mulMod_1 : decode cX3_mulMod 1 = .ok (.iload_n 1, 1) := by decide +kernel
theorem dX3_mulMod_2 : decode cX3_mulMod 2 = .ok (.iload_n 2, 1) := by decide +kernel
theorem dX3_mulMod_3 : decode cX3_mulMod 3 = .ok (.iload_n 3, 1) := by decide +kernel
theorem dX3_mulMod_4 : decode cX3_mulMod 4 = .ok (.invokevirtual 108, 3) := by decide +kernel
theorem dX3_mulMod_7 : decode cX3_mulMod 7 = .ok (.ifCond .ne 5, 3) := by decide +kernel
theorem dX3_mulMod_10 : decode cX3_mulMod 10 = .ok (.iconst 0, 1) := by decide +kernel
theorem dX3_mulMod_11 : decode cX3_mulMod 11 = .ok (.ireturn, 1) := by decide +kernel
theorem dX3_mulMod_12 : decode cX3_mulMod 12 = .ok (.aload_n 0, 1) := by decide +kernel
theorem dX3_mulMod_13 : decode cX3_mulMod 13 = .ok (.iload_n 2, 1) := by decide +kernel
theorem dX3_mulMod_14 : decode cX3_mulMod 14 = .ok (.iload_n 3, 1) := by decide +kernel
theorem dX3_mulMod_15 : decode cX3_mulMod 15 = .ok (.invokevirtual 112, 3) := by decide +kernel
theorem dX3_mulMod_18 : decode cX3_mulMod 18 = .ok (.aload_n 0, 1) := by decide +kernel
theorem dX3_mulMod_19 : decode cX3_mulMod 19 = .ok (.aload_n 0, 1) := by decide +kernel
theorem dX3_mulMod_20 : decode cX3_mulMod 20 = .ok (.getfield 16, 3) := by decide +kernel
theorem dX3_mulMod_23 : decode cX3_mulMod 23 = .ok (.aload_n 0, 1) := by decide +kernel
theorem dX3_mulMod_24 : decode cX3_mulMod 24 = .ok (.getfield 22, 3) := by decide +kernel
theorem dX3_mulMod_27 : decode cX3_mulMod 27 = .ok (.invokevirtual 123, 3) := by decide +kernel
theorem dX3_mulMod_30 : decode cX3_mulMod 30 = .ok (.aload_n 0, 1) := by decide +kernel
theorem dX3_mulMod_31 : decode cX3_mulMod 31 = .ok (.iload_n 1, 1) := by decide +kernel
theorem dX3_mulMod_32 : decode cX3_mulMod 32 = .ok (.aload_n 0, 1) := by decide +kernel
theorem dX3_mulMod_33 : decode cX3_mulMod 33 = .ok (.getfield 16, 3) := by decide +kernel
theorem dX3_mulMod_36 : decode cX3_mulMod 36 = .ok (.invokevirtual 116, 3) := by decide +kernel
theorem dX3_mulMod_39 : decode cX3_mulMod 39 = .ok (.iconst 1, 1) := by decide +kernel
theorem dX3_mulMod_40 : decode cX3_mulMod 40 = .ok (.ireturn, 1) := by decide +kernel
set_option maxRecDepth 20000 in
theorem ggX3_montMod_X3_isAsked : GoodIn wsX3_montMod wsX3_isAsked := goodIn_r _ [7, 8, 9, 10, 11, 6, 12, 13, 81, 82, 83, 84, 85, 86, 87, 88, 89, 90, 91] (by decide +kernel) (by decide +kernel)
set_option maxRecDepth 20000 in
theorem gX3_montMod_X3_isAsked : GoodIn wsX3_montMod (wsV RX3 108 RX3 yX3_isAsked wsX3_isAsked) := goodIn_app (goodIn_of _ (by decide +kernel)) ggX3_montMod_X3_isAsked
set_option maxRecDepth 20000 in
theorem ggX3_montMod_X3_takes : GoodIn wsX3_montMod wsX3_takes := goodIn_r _ [17, 18, 1, 2, 19, 20, 21, 6, 22, 23, 24, 25, 26, 27, 28, 29, 30, 31, 32, 33, 34, 35, 36, 37, 38, 39, 40, 41, 42, 43, 44, 45, 46, 47, 48, 49, 50, 51, 52, 53, 54, 55, 56, 57, 58, 59, 60, 81, 82, 83, 84, 85, 86, 87, 88, 89, 90, 91] (by decide +kernel) (by decide +kernel)
set_option maxRecDepth 20000 in
theorem gX3_montMod_X3_takes : GoodIn wsX3_montMod (wsV RX3 112 RX3 yX3_takes wsX3_takes) := goodIn_app (goodIn_of _ (by decide +kernel)) ggX3_montMod_X3_takes
set_option maxRecDepth 20000 in
theorem ggX3_montMod_X3_product : GoodIn wsX3_montMod wsX3_product := goodIn_r _ [64, 36, 65, 37, 38, 6, 39, 40, 41, 42, 43, 44, 45, 46, 47, 66, 67, 68, 69, 18, 48, 49, 50, 51, 55, 56, 57, 58, 59, 60, 52, 53, 54, 81, 82, 83, 84, 85, 86, 87, 88, 89, 90, 91] (by decide +kernel) (by decide +kernel)
set_option maxRecDepth 20000 in
theorem gX3_montMod_X3_product : GoodIn wsX3_montMod (wsV RX3 123 RX3 yX3_product wsX3_product) := goodIn_app (goodIn_of _ (by decide +kernel)) ggX3_montMod_X3_product
set_option maxRecDepth 20000 in
theorem ggX3_montMod_X3_bits : GoodIn wsX3_montMod wsX3_bits := goodIn_r _ [46, 47, 81, 82, 83, 84, 85, 86, 87, 88, 89, 90, 91] (by decide +kernel) (by decide +kernel)
set_option maxRecDepth 20000 in
theorem gX3_montMod_X3_bits : GoodIn wsX3_montMod (wsV RX3 91 RX3 yX3_bits wsX3_bits) := goodIn_app (goodIn_of _ (by decide +kernel)) ggX3_montMod_X3_bits
set_option maxRecDepth 20000 in
theorem ggX3_montMod_X3_halfOf : GoodIn wsX3_montMod wsX3_halfOf := goodIn_r _ [73, 18, 52, 53, 6, 54, 48, 49, 50, 51, 74, 75, 76, 81, 82, 83, 84, 85, 86, 87, 88, 89, 90, 91] (by decide +kernel) (by decide +kernel)
set_option maxRecDepth 20000 in
theorem gX3_montMod_X3_halfOf : GoodIn wsX3_montMod (wsV RX3 126 RX3 yX3_halfOf wsX3_halfOf) := goodIn_app (goodIn_of _ (by decide +kernel)) ggX3_montMod_X3_halfOf
set_option maxRecDepth 20000 in
theorem ggX3_montMod_X3_write : GoodIn wsX3_montMod wsX3_write := goodIn_r _ [80, 27, 28, 29, 30, 6, 31, 81, 82, 83, 84, 85, 86, 87, 88, 89, 90, 91] (by decide +kernel) (by decide +kernel)
set_option maxRecDepth 20000 in
theorem gX3_montMod_X3_write : GoodIn wsX3_montMod (wsV RX3 116 RX3 yX3_write wsX3_write) := goodIn_app (goodIn_of _ (by decide +kernel)) ggX3_montMod_X3_write
theorem dX3_montMod_0 : decode cX3_montMod 0 = .ok (.aload_n 0, 1) := by decide +kernel
theorem dX3_montMod_1 : decode cX3_montMod 1 = .ok (.iload_n 1, 1) := by decide +kernel
theorem dX3_montMod_2 : decode cX3_montMod 2 = .ok (.iload_n 2, 1) := by decide +kernel
theorem dX3_montMod_3 : decode cX3_montMod 3 = .ok (.iload_n 3, 1) := by decide +kernel
theorem dX3_montMod_4 : decode cX3_montMod 4 = .ok (.invokevirtual 108, 3) := by decide +kernel
theorem dX3_montMod_7 : decode cX3_montMod 7 = .ok (.ifCond .ne 5, 3) := by decide +kernel
theorem dX3_montMod_10 : decode cX3_montMod 10 = .ok (.iconst 0, 1) := by decide +kernel
theorem dX3_montMod_11 : decode cX3_montMod 11 = .ok (.ireturn, 1) := by decide +kernel
theorem dX3_montMod_12 : decode cX3_montMod 12 = .ok (.aload_n 0, 1) := by decide +kernel
theorem dX3_montMod_13 : decode cX3_montMod 13 = .ok (.iload_n 2, 1) := by decide +kernel
theorem dX3_montMod_14 : decode cX3_montMod 14 = .ok (.iload_n 3, 1) := by decide +kernel
theorem dX3_montMod_15 : decode cX3_montMod 15 = .ok (.invokevirtual 112, 3) := by decide +kernel
theorem dX3_montMod_18 : decode cX3_montMod 18 = .ok (.aload_n 0, 1) := by decide +kernel
theorem dX3_montMod_19 : decode cX3_montMod 19 = .ok (.aload_n 0, 1) := by decide +kernel
theorem dX3_montMod_20 : decode cX3_montMod 20 = .ok (.getfield 16, 3) := by decide +kernel
theorem dX3_montMod_23 : decode cX3_montMod 23 = .ok (.aload_n 0, 1) := by decide +kernel
theorem dX3_montMod_24 : decode cX3_montMod 24 = .ok (.getfield 22, 3) := by decide +kernel
theorem dX3_montMod_27 : decode cX3_montMod 27 = .ok (.invokevirtual 123, 3) := by decide +kernel
theorem dX3_montMod_30 : decode cX3_montMod 30 = .ok (.iconst 0, 1) := by decide +kernel
theorem dX3_montMod_31 : decode cX3_montMod 31 = .ok (.istore 4, 2) := by decide +kernel
theorem dX3_montMod_33 : decode cX3_montMod 33 = .ok (.iload 4, 2) := by decide +kernel
theorem dX3_montMod_35 : decode cX3_montMod 35 = .ok (.aload_n 0, 1) := by decide +kernel
theorem dX3_montMod_36 : decode cX3_montMod 36 = .ok (.invokevirtual 91, 3) := by decide +kernel
theorem dX3_montMod_39 : decode cX3_montMod 39 = .ok (.if_icmp .ge 17, 3) := by decide +kernel
theorem dX3_montMod_42 : decode cX3_montMod 42 = .ok (.aload_n 0, 1) := by decide +kernel
theorem dX3_montMod_43 : decode cX3_montMod 43 = .ok (.aload_n 0, 1) := by decide +kernel
theorem dX3_montMod_44 : decode cX3_montMod 44 = .ok (.getfield 16, 3) := by decide +kernel
theorem dX3_montMod_47 : decode cX3_montMod 47 = .ok (.invokevirtual 126, 3) := by decide +kernel
theorem dX3_montMod_50 : decode cX3_montMod 50 = .ok (.iinc 4 1, 3) := by decide +kernel
theorem dX3_montMod_53 : decode cX3_montMod 53 = .ok (.goto (-20), 3) := by decide +kernel
theorem dX3_montMod_56 : decode cX3_montMod 56 = .ok (.aload_n 0, 1) := by decide +kernel
theorem dX3_montMod_57 : decode cX3_montMod 57 = .ok (.iload_n 1, 1) := by decide +kernel
theorem dX3_montMod_58 : decode cX3_montMod 58 = .ok (.aload_n 0, 1) := by decide +kernel
theorem dX3_montMod_59 : decode cX3_montMod 59 = .ok (.getfield 16, 3) := by decide +kernel
theorem dX3_montMod_62 : decode cX3_montMod 62 = .ok (.invokevirtual 116, 3) := by decide +kernel
theorem dX3_montMod_65 : decode cX3_montMod 65 = .ok (.iconst 1, 1) := by decide +kernel
theorem dX3_montMod_66 : decode cX3_montMod 66 = .ok (.ireturn, 1) := by decide +kernel
set_option maxRecDepth 20000 in
theorem ggX3_raise_X3_copy : GoodIn wsX3_raise wsX3_copy := goodIn_r _ [6] (by decide +kernel) (by decide +kernel)
set_option maxRecDepth 20000 in
theorem gX3_raise_X3_copy : GoodIn wsX3_raise (va_wsS RX3 84 yX3_copy wsX3_copy) := goodIn_app (goodIn_of _ (by decide +kernel)) ggX3_raise_X3_copy
set_option maxRecDepth 20000 in
theorem ggX3_raise_X3_be : GoodIn wsX3_raise wsX3_be := goodIn_r _ [9] (by decide +kernel) (by decide +kernel)
set_option maxRecDepth 20000 in
theorem gX3_raise_X3_be : GoodIn wsX3_raise (va_wsS RX3 87 yX3_be wsX3_be) := goodIn_app (goodIn_of _ (by decide +kernel)) ggX3_raise_X3_be
set_option maxRecDepth 20000 in
theorem ggX3_raise_X3_bits : GoodIn wsX3_raise wsX3_bits := goodIn_r _ [13, 14, 39, 40, 41, 42, 43, 44, 45, 46, 47, 48, 49] (by decide +kernel) (by decide +kernel)
set_option maxRecDepth 20000 in
theorem gX3_raise_X3_bits : GoodIn wsX3_raise (wsV RX3 91 RX3 yX3_bits wsX3_bits) := goodIn_app (goodIn_of _ (by decide +kernel)) ggX3_raise_X3_bits
set_option maxRecDepth 20000 in
theorem ggX3_raise_X3_bit : GoodIn wsX3_raise wsX3_bit := goodIn_r _ [17] (by decide +kernel) (by decide +kernel)
set_option maxRecDepth 20000 in
theorem gX3_raise_X3_bit : GoodIn wsX3_raise (va_wsS RX3 94 yX3_bit wsX3_bit) := goodIn_app (goodIn_of _ (by decide +kernel)) ggX3_raise_X3_bit
set_option maxRecDepth 20000 in
theorem ggX3_raise_X3_product : GoodIn wsX3_raise wsX3_product := goodIn_r _ [21, 22, 23, 3, 4, 5, 6, 7, 8, 9, 10, 11, 12, 13, 14, 24, 25, 26, 27, 28, 29, 30, 31, 32, 33, 34, 35, 36, 37, 38, 15, 16, 17, 39, 40, 41, 42, 43, 44, 45, 46, 47, 48, 49] (by decide +kernel) (by decide +kernel)
set_option maxRecDepth 20000 in
theorem gX3_raise_X3_product : GoodIn wsX3_raise (wsV RX3 123 RX3 yX3_product wsX3_product) := goodIn_app (goodIn_of _ (by decide +kernel)) ggX3_raise_X3_product
theorem dX3_raise_0 : decode cX3_raise 0 = .ok (.aload_n 0, 1) := by decide +kernel
theorem dX3_raise_1 : decode cX3_raise 1 = .ok (.getfield 28, 3) := by decide +kernel
theorem dX3_raise_4 : decode cX3_raise 4 = .ok (.aload_n 1, 1) := by decide +kernel
theorem dX3_raise_5 : decode cX3_raise 5 = .ok (.invokestatic 84, 3) := by decide +kernel
theorem dX3_raise_8 : decode cX3_raise 8 = .ok (.aload_n 1, 1) := by decide +kernel
theorem dX3_raise_9 : decode cX3_raise 9 = .ok (.lconst 1, 1) := by decide +kernel
theorem dX3_raise_10 : decode cX3_raise 10 = .ok (.invokestatic 87, 3) := by decide +kernel
theorem dX3_raise_13 : decode cX3_raise 13 = .ok (.iconst 0, 1) := by decide +kernel
theorem dX3_raise_14 : decode cX3_raise 14 = .ok (.istore_n 2, 1) := by decide +kernel
theorem dX3_raise_15 : decode cX3_raise 15 = .ok (.iload_n 2, 1) := by decide +kernel
theorem dX3_raise_16 : decode cX3_raise 16 = .ok (.aload_n 0, 1) := by decide +kernel
theorem dX3_raise_17 : decode cX3_raise 17 = .ok (.invokevirtual 91, 3) := by decide +kernel
theorem dX3_raise_20 : decode cX3_raise 20 = .ok (.if_icmp .ge 41, 3) := by decide +kernel
theorem dX3_raise_23 : decode cX3_raise 23 = .ok (.aload_n 0, 1) := by decide +kernel
theorem dX3_raise_24 : decode cX3_raise 24 = .ok (.getfield 31, 3) := by decide +kernel
theorem dX3_raise_27 : decode cX3_raise 27 = .ok (.iload_n 2, 1) := by decide +kernel
theorem dX3_raise_28 : decode cX3_raise 28 = .ok (.invokestatic 94, 3) := by decide +kernel
theorem dX3_raise_31 : decode cX3_raise 31 = .ok (.ifCond .eq 12, 3) := by decide +kernel
theorem dX3_raise_34 : decode cX3_raise 34 = .ok (.aload_n 0, 1) := by decide +kernel
theorem dX3_raise_35 : decode cX3_raise 35 = .ok (.aload_n 1, 1) := by decide +kernel
theorem dX3_raise_36 : decode cX3_raise 36 = .ok (.aload_n 0, 1) := by decide +kernel
theorem dX3_raise_37 : decode cX3_raise 37 = .ok (.getfield 28, 3) := by decide +kernel
theorem dX3_raise_40 : decode cX3_raise 40 = .ok (.invokevirtual 123, 3) := by decide +kernel
theorem dX3_raise_43 : decode cX3_raise 43 = .ok (.aload_n 0, 1) := by decide +kernel
theorem dX3_raise_44 : decode cX3_raise 44 = .ok (.aload_n 0, 1) := by decide +kernel
theorem dX3_raise_45 : decode cX3_raise 45 = .ok (.getfield 28, 3) := by decide +kernel
theorem dX3_raise_48 : decode cX3_raise 48 = .ok (.aload_n 0, 1) := by decide +kernel
theorem dX3_raise_49 : decode cX3_raise 49 = .ok (.getfield 28, 3) := by decide +kernel
theorem dX3_raise_52 : decode cX3_raise 52 = .ok (.invokevirtual 123, 3) := by decide +kernel
theorem dX3_raise_55 : decode cX3_raise 55 = .ok (.iinc 2 1, 3) := by decide +kernel
theorem dX3_raise_58 : decode cX3_raise 58 = .ok (.goto (-43), 3) := by decide +kernel
theorem dX3_raise_61 : decode cX3_raise 61 = .ok (.return_, 1) := by decide +kernel
set_option maxRecDepth 20000 in
theorem ggX3_powMod_X3_isAsked : GoodIn wsX3_powMod wsX3_isAsked := goodIn_r _ [7, 8, 9, 10, 11, 6, 12, 13, 80, 81, 82, 83, 84, 85, 86, 87, 88, 89, 90] (by decide +kernel) (by decide +kernel)
set_option maxRecDepth 20000 in
theorem gX3_powMod_X3_isAsked : GoodIn wsX3_powMod (wsV RX3 108 RX3 yX3_isAsked wsX3_isAsked) := goodIn_app (goodIn_of _ (by decide +kernel)) ggX3_powMod_X3_isAsked
set_option maxRecDepth 20000 in
theorem ggX3_powMod_X3_takes : GoodIn wsX3_powMod wsX3_takes := goodIn_r _ [17, 18, 2, 19, 20, 21, 22, 6, 23, 24, 25, 26, 27, 28, 29, 30, 31, 32, 33, 34, 35, 36, 37, 38, 39, 40, 41, 42, 43, 44, 45, 46, 47, 48, 49, 50, 51, 52, 53, 54, 55, 56, 57, 58, 59, 60, 61, 80, 81, 82, 83, 84, 85, 86, 87, 88, 89, 90] (by decide +kernel) (by decide +kernel)
set_option maxRecDepth 20000 in
theorem gX3_powMod_X3_takes : GoodIn wsX3_powMod (wsV RX3 112 RX3 yX3_takes wsX3_takes) := goodIn_app (goodIn_of _ (by decide +kernel)) ggX3_powMod_X3_takes
set_option maxRecDepth 20000 in
theorem ggX3_powMod_X3_placeOf : GoodIn wsX3_powMod wsX3_placeOf := goodIn_r _ [32] (by decide +kernel) (by decide +kernel)
set_option maxRecDepth 20000 in
theorem gX3_powMod_X3_placeOf : GoodIn wsX3_powMod (wsV RX3 70 RX3 yX3_placeOf wsX3_placeOf) := goodIn_app (goodIn_of _ (by decide +kernel)) ggX3_powMod_X3_placeOf
set_option maxRecDepth 20000 in
theorem ggX3_powMod_X3_read : GoodIn wsX3_powMod wsX3_read := goodIn_r _ [27, 28, 80, 81, 82, 83, 84, 85, 86, 87, 88, 89, 90] (by decide +kernel) (by decide +kernel)
set_option maxRecDepth 20000 in
theorem gX3_powMod_X3_read : GoodIn wsX3_powMod (wsV RX3 59 RX3 yX3_read wsX3_read) := goodIn_app (goodIn_of _ (by decide +kernel)) ggX3_powMod_X3_read
set_option maxRecDepth 20000 in
theorem ggX3_powMod_X3_raise : GoodIn wsX3_powMod wsX3_raise := goodIn_r _ [65, 66, 1, 38, 39, 6, 40, 41, 42, 43, 44, 45, 46, 47, 48, 53, 54, 55, 67, 68, 69, 70, 37, 71, 72, 73, 74, 75, 18, 49, 50, 51, 52, 56, 57, 58, 59, 60, 61, 80, 81, 82, 83, 84, 85, 86, 87, 88, 89, 90] (by decide +kernel) (by decide +kernel)
set_option maxRecDepth 20000 in
theorem gX3_powMod_X3_raise : GoodIn wsX3_powMod (wsV RX3 129 RX3 yX3_raise wsX3_raise) := goodIn_app (goodIn_of _ (by decide +kernel)) ggX3_powMod_X3_raise
set_option maxRecDepth 20000 in
theorem ggX3_powMod_X3_write : GoodIn wsX3_powMod wsX3_write := goodIn_r _ [79, 28, 29, 30, 31, 6, 32, 80, 81, 82, 83, 84, 85, 86, 87, 88, 89, 90] (by decide +kernel) (by decide +kernel)
set_option maxRecDepth 20000 in
theorem gX3_powMod_X3_write : GoodIn wsX3_powMod (wsV RX3 116 RX3 yX3_write wsX3_write) := goodIn_app (goodIn_of _ (by decide +kernel)) ggX3_powMod_X3_write
theorem dX3_powMod_0 : decode cX3_powMod 0 = .ok (.aload_n 0, 1) := by decide +kernel
theorem dX3_powMod_1 : decode cX3_powMod 1 = .ok (.iload_n 1, 1) := by decide +kernel
theorem dX3_powMod_2 : decode cX3_powMod 2 = .ok (.iload_n 2, 1) := by decide +kernel
theorem dX3_powMod_3 : decode cX3_powMod 3 = .ok (.iload_n 3, 1) := by decide +kernel
theorem dX3_powMod_4 : decode cX3_powMod 4 = .ok (.invokevirtual 108, 3) := by decide +kernel
theorem dX3_powMod_7 : decode cX3_powMod 7 = .ok (.ifCond .ne 5, 3) := by decide +kernel
theorem dX3_powMod_10 : decode cX3_powMod 10 = .ok (.iconst 0, 1) := by decide +kernel
theorem dX3_powMod_11 : decode cX3_powMod 11 = .ok (.ireturn, 1) := by decide +kernel
theorem dX3_powMod_12 : decode cX3_powMod 12 = .ok (.aload_n 0, 1) := by decide +kernel
theorem dX3_powMod_13 : decode cX3_powMod 13 = .ok (.iload_n 2, 1) := by decide +kernel
theorem dX3_powMod_14 : decode cX3_powMod 14 = .ok (.iload_n 2, 1) := by decide +kernel
theorem dX3_powMod_15 : decode cX3_powMod 15 = .ok (.invokevirtual 112, 3) := by decide +kernel
theorem dX3_powMod_18 : decode cX3_powMod 18 = .ok (.aload_n 0, 1) := by decide +kernel
theorem dX3_powMod_19 : decode cX3_powMod 19 = .ok (.aload_n 0, 1) := by decide +kernel
theorem dX3_powMod_20 : decode cX3_powMod 20 = .ok (.getfield 31, 3) := by decide +kernel
theorem dX3_powMod_23 : decode cX3_powMod 23 = .ok (.aload_n 0, 1) := by decide +kernel
theorem dX3_powMod_24 : decode cX3_powMod 24 = .ok (.iload_n 3, 1) := by decide +kernel
theorem dX3_powMod_25 : decode cX3_powMod 25 = .ok (.invokevirtual 70, 3) := by decide +kernel
theorem dX3_powMod_28 : decode cX3_powMod 28 = .ok (.invokevirtual 59, 3) := by decide +kernel
theorem dX3_powMod_31 : decode cX3_powMod 31 = .ok (.aload_n 0, 1) := by decide +kernel
theorem dX3_powMod_32 : decode cX3_powMod 32 = .ok (.aload_n 0, 1) := by decide +kernel
theorem dX3_powMod_33 : decode cX3_powMod 33 = .ok (.getfield 16, 3) := by decide +kernel
theorem dX3_powMod_36 : decode cX3_powMod 36 = .ok (.invokevirtual 129, 3) := by decide +kernel
theorem dX3_powMod_39 : decode cX3_powMod 39 = .ok (.aload_n 0, 1) := by decide +kernel
theorem dX3_powMod_40 : decode cX3_powMod 40 = .ok (.iload_n 1, 1) := by decide +kernel
theorem dX3_powMod_41 : decode cX3_powMod 41 = .ok (.aload_n 0, 1) := by decide +kernel
theorem dX3_powMod_42 : decode cX3_powMod 42 = .ok (.getfield 16, 3) := by decide +kernel
theorem dX3_powMod_45 : decode cX3_powMod 45 = .ok (.invokevirtual 116, 3) := by decide +kernel
theorem dX3_powMod_48 : decode cX3_powMod 48 = .ok (.iconst 1, 1) := by decide +kernel
theorem dX3_powMod_49 : decode cX3_powMod 49 = .ok (.ireturn, 1) := by decide +kernel
set_option maxRecDepth 20000 in
theorem ggX3_invMod_X3_isAsked : GoodIn wsX3_invMod wsX3_isAsked := goodIn_r _ [10, 11, 12, 13, 14, 9, 15, 16, 84, 85, 86, 87, 88, 89, 90, 91, 92, 93, 94] (by decide +kernel) (by decide +kernel)
set_option maxRecDepth 20000 in
theorem gX3_invMod_X3_isAsked : GoodIn wsX3_invMod (wsV RX3 108 RX3 yX3_isAsked wsX3_isAsked) := goodIn_app (goodIn_of _ (by decide +kernel)) ggX3_invMod_X3_isAsked
set_option maxRecDepth 20000 in
theorem ggX3_invMod_X3_takes : GoodIn wsX3_invMod wsX3_takes := goodIn_r _ [20, 2, 5, 3, 21, 22, 23, 9, 24, 25, 26, 27, 28, 29, 30, 31, 32, 33, 34, 35, 36, 37, 38, 39, 40, 41, 42, 43, 44, 45, 46, 47, 48, 49, 50, 51, 52, 53, 54, 55, 56, 57, 58, 59, 60, 61, 62, 84, 85, 86, 87, 88, 89, 90, 91, 92, 93, 94] (by decide +kernel) (by decide +kernel)
set_option maxRecDepth 20000 in
theorem gX3_invMod_X3_takes : GoodIn wsX3_invMod (wsV RX3 112 RX3 yX3_takes wsX3_takes) := goodIn_app (goodIn_of _ (by decide +kernel)) ggX3_invMod_X3_takes
set_option maxRecDepth 20000 in
theorem ggX3_invMod_X3_copy : GoodIn wsX3_invMod wsX3_copy := goodIn_r _ [41] (by decide +kernel) (by decide +kernel)
set_option maxRecDepth 20000 in
theorem gX3_invMod_X3_copy : GoodIn wsX3_invMod (va_wsS RX3 84 yX3_copy wsX3_copy) := goodIn_app (goodIn_of _ (by decide +kernel)) ggX3_invMod_X3_copy
set_option maxRecDepth 20000 in
theorem ggX3_invMod_X3_be : GoodIn wsX3_invMod wsX3_be := goodIn_r _ [44] (by decide +kernel) (by decide +kernel)
set_option maxRecDepth 20000 in
theorem gX3_invMod_X3_be : GoodIn wsX3_invMod (va_wsS RX3 87 yX3_be wsX3_be) := goodIn_app (goodIn_of _ (by decide +kernel)) ggX3_invMod_X3_be
set_option maxRecDepth 20000 in
theorem ggX3_invMod_X3_isNought : GoodIn wsX3_invMod wsX3_isNought := goodIn_r _ [65] (by decide +kernel) (by decide +kernel)
set_option maxRecDepth 20000 in
theorem gX3_invMod_X3_isNought : GoodIn wsX3_invMod (va_wsS RX3 132 yX3_isNought wsX3_isNought) := goodIn_app (goodIn_of _ (by decide +kernel)) ggX3_invMod_X3_isNought
set_option maxRecDepth 20000 in
theorem ggX3_invMod_X3_bit : GoodIn wsX3_invMod wsX3_bit := goodIn_r _ [56] (by decide +kernel) (by decide +kernel)
set_option maxRecDepth 20000 in
theorem gX3_invMod_X3_bit : GoodIn wsX3_invMod (va_wsS RX3 94 yX3_bit wsX3_bit) := goodIn_app (goodIn_of _ (by decide +kernel)) ggX3_invMod_X3_bit
set_option maxRecDepth 20000 in
theorem ggX3_invMod_X3_half : GoodIn wsX3_invMod wsX3_half := goodIn_r _ [68] (by decide +kernel) (by decide +kernel)
set_option maxRecDepth 20000 in
theorem gX3_invMod_X3_half : GoodIn wsX3_invMod (va_wsS RX3 101 yX3_half wsX3_half) := goodIn_app (goodIn_of _ (by decide +kernel)) ggX3_invMod_X3_half
set_option maxRecDepth 20000 in
theorem ggX3_invMod_X3_halfOf : GoodIn wsX3_invMod wsX3_halfOf := goodIn_r _ [72, 2, 54, 55, 9, 56, 50, 51, 52, 53, 66, 67, 68, 84, 85, 86, 87, 88, 89, 90, 91, 92, 93, 94] (by decide +kernel) (by decide +kernel)
set_option maxRecDepth 20000 in
theorem gX3_invMod_X3_halfOf : GoodIn wsX3_invMod (wsV RX3 126 RX3 yX3_halfOf wsX3_halfOf) := goodIn_app (goodIn_of _ (by decide +kernel)) ggX3_invMod_X3_halfOf
set_option maxRecDepth 20000 in
theorem ggX3_invMod_X3_compared : GoodIn wsX3_invMod wsX3_compared := goodIn_r _ [59] (by decide +kernel) (by decide +kernel)
set_option maxRecDepth 20000 in
theorem gX3_invMod_X3_compared : GoodIn wsX3_invMod (va_wsS RX3 77 yX3_compared wsX3_compared) := goodIn_app (goodIn_of _ (by decide +kernel)) ggX3_invMod_X3_compared
set_option maxRecDepth 20000 in
theorem ggX3_invMod_X3_minus : GoodIn wsX3_invMod wsX3_minus := goodIn_r _ [62, 53] (by decide +kernel) (by decide +kernel)
set_option maxRecDepth 20000 in
theorem gX3_invMod_X3_minus : GoodIn wsX3_invMod (va_wsS RX3 81 yX3_minus wsX3_minus) := goodIn_app (goodIn_of _ (by decide +kernel)) ggX3_invMod_X3_minus
set_option maxRecDepth 20000 in
theorem ggX3_invMod_X3_difference : GoodIn wsX3_invMod wsX3_difference := goodIn_r _ [76, 2, 57, 58, 9, 59, 50, 51, 52, 53, 60, 61, 62, 84, 85, 86, 87, 88, 89, 90, 91, 92, 93, 94] (by decide +kernel) (by decide +kernel)
set_option maxRecDepth 20000 in
theorem gX3_invMod_X3_difference : GoodIn wsX3_invMod (wsV RX3 120 RX3 yX3_difference wsX3_difference) := goodIn_app (goodIn_of _ (by decide +kernel)) ggX3_invMod_X3_difference
set_option maxRecDepth 20000 in
theorem ggX3_invMod_X3_isOne : GoodIn wsX3_invMod wsX3_isOne := goodIn_r _ [79] (by decide +kernel) (by decide +kernel)
set_option maxRecDepth 20000 in
theorem gX3_invMod_X3_isOne : GoodIn wsX3_invMod (va_wsS RX3 136 yX3_isOne wsX3_isOne) := goodIn_app (goodIn_of _ (by decide +kernel)) ggX3_invMod_X3_isOne
set_option maxRecDepth 20000 in
theorem ggX3_invMod_X3_write : GoodIn wsX3_invMod wsX3_write := goodIn_r _ [83, 29, 30, 31, 32, 9, 33, 84, 85, 86, 87, 88, 89, 90, 91, 92, 93, 94] (by decide +kernel) (by decide +kernel)
set_option maxRecDepth 20000 in
theorem gX3_invMod_X3_write : GoodIn wsX3_invMod (wsV RX3 116 RX3 yX3_write wsX3_write) := goodIn_app (goodIn_of _ (by decide +kernel)) ggX3_invMod_X3_write
theorem dX3_invMod_0 : decode cX3_invMod 0 = .ok (.aload_n 0, 1) := by decide +kernel
theorem dX3_invMod_1 : decode cX3_invMod 1 = .ok (.iload_n 1, 1) := by decide +kernel
theorem dX3_invMod_2 : decode cX3_invMod 2 = .ok (.iload_n 2, 1) := by decide +kernel
theorem dX3_invMod_3 : decode cX3_invMod 3 = .ok (.iload_n 2, 1) := by decide +kernel
theorem dX3_invMod_4 : decode cX3_invMod 4 = .ok (.invokevirtual 108, 3) := by decide +kernel
theorem dX3_invMod_7 : decode cX3_invMod 7 = .ok (.ifCond .ne 5, 3) := by decide +kernel
end
section
theorem dX3_invMod_10 : decode cX3_invMod 10 = .ok (.iconst 2, 1) := by decide +kernel
theorem dX3_invMod_11 : decode cX3_invMod 11 = .ok (.ireturn, 1) := by decide +kernel
theorem dX3_invMod_12 : decode cX3_invMod 12 = .ok (.aload_n 0, 1) := by decide +kernel
theorem dX3_invMod_13 : decode cX3_invMod 13 = .ok (.iload_n 2, 1) := by decide +kernel
theorem dX3_invMod_14 : decode cX3_invMod 14 = .ok (.iload_n 2, 1) := by decide +kernel
theorem dX3_invMod_15 : decode cX3_invMod 15 = .ok (.invokevirtual 112, 3) := by decide +kernel
theorem dX3_invMod_18 : decode cX3_invMod 18 = .ok (.aload_n 0, 1) := by decide +kernel
theorem dX3_invMod_19 : decode cX3_invMod 19 = .ok (.getfield 28, 3) := by decide +kernel
theorem dX3_invMod_22 : decode cX3_invMod 22 = .ok (.aload_n 0, 1) := by decide +kernel
theorem dX3_invMod_23 : decode cX3_invMod 23 = .ok (.getfield 13, 3) := by decide +kernel
theorem dX3_invMod_26 : decode cX3_invMod 26 = .ok (.invokestatic 84, 3) := by decide +kernel
theorem dX3_invMod_29 : decode cX3_invMod 29 = .ok (.aload_n 0, 1) := by decide +kernel
theorem dX3_invMod_30 : decode cX3_invMod 30 = .ok (.getfield 22, 3) := by decide +kernel
theorem dX3_invMod_33 : decode cX3_invMod 33 = .ok (.lconst 1, 1) := by decide +kernel
theorem dX3_invMod_34 : decode cX3_invMod 34 = .ok (.invokestatic 87, 3) := by decide +kernel
theorem dX3_invMod_37 : decode cX3_invMod 37 = .ok (.aload_n 0, 1) := by decide +kernel
theorem dX3_invMod_38 : decode cX3_invMod 38 = .ok (.getfield 31, 3) := by decide +kernel
theorem dX3_invMod_41 : decode cX3_invMod 41 = .ok (.lconst 0, 1) := by decide +kernel
theorem dX3_invMod_42 : decode cX3_invMod 42 = .ok (.invokestatic 87, 3) := by decide +kernel
theorem dX3_invMod_45 : decode cX3_invMod 45 = .ok (.aload_n 0, 1) := by decide +kernel
theorem dX3_invMod_46 : decode cX3_invMod 46 = .ok (.getfield 16, 3) := by decide +kernel
theorem dX3_invMod_49 : decode cX3_invMod 49 = .ok (.invokestatic 132, 3) := by decide +kernel
theorem dX3_invMod_52 : decode cX3_invMod 52 = .ok (.ifCond .ne 127, 3) := by decide +kernel
theorem dX3_invMod_55 : decode cX3_invMod 55 = .ok (.aload_n 0, 1) := by decide +kernel
theorem dX3_invMod_56 : decode cX3_invMod 56 = .ok (.getfield 16, 3) := by decide +kernel
theorem dX3_invMod_59 : decode cX3_invMod 59 = .ok (.iconst 0, 1) := by decide +kernel
theorem dX3_invMod_60 : decode cX3_invMod 60 = .ok (.invokestatic 94, 3) := by decide +kernel
theorem dX3_invMod_63 : decode cX3_invMod 63 = .ok (.ifCond .ne 21, 3) := by decide +kernel
theorem dX3_invMod_66 : decode cX3_invMod 66 = .ok (.aload_n 0, 1) := by decide +kernel
theorem dX3_invMod_67 : decode cX3_invMod 67 = .ok (.getfield 16, 3) := by decide +kernel
theorem dX3_invMod_70 : decode cX3_invMod 70 = .ok (.invokestatic 101, 3) := by decide +kernel
theorem dX3_invMod_73 : decode cX3_invMod 73 = .ok (.aload_n 0, 1) := by decide +kernel
theorem dX3_invMod_74 : decode cX3_invMod 74 = .ok (.aload_n 0, 1) := by decide +kernel
theorem dX3_invMod_75 : decode cX3_invMod 75 = .ok (.getfield 22, 3) := by decide +kernel
theorem dX3_invMod_78 : decode cX3_invMod 78 = .ok (.invokevirtual 126, 3) := by decide +kernel
theorem dX3_invMod_81 : decode cX3_invMod 81 = .ok (.goto (-36), 3) := by decide +kernel
theorem dX3_invMod_84 : decode cX3_invMod 84 = .ok (.aload_n 0, 1) := by decide +kernel
theorem dX3_invMod_85 : decode cX3_invMod 85 = .ok (.getfield 28, 3) := by decide +kernel
theorem dX3_invMod_88 : decode cX3_invMod 88 = .ok (.iconst 0, 1) := by decide +kernel
theorem dX3_invMod_89 : decode cX3_invMod 89 = .ok (.invokestatic 94, 3) := by decide +kernel
theorem dX3_invMod_92 : decode cX3_invMod 92 = .ok (.ifCond .ne 21, 3) := by decide +kernel
theorem dX3_invMod_95 : decode cX3_invMod 95 = .ok (.aload_n 0, 1) := by decide +kernel
theorem dX3_invMod_96 : decode cX3_invMod 96 = .ok (.getfield 28, 3) := by decide +kernel
theorem dX3_invMod_99 : decode cX3_invMod 99 = .ok (.invokestatic 101, 3) := by decide +kernel
theorem dX3_invMod_102 : decode cX3_invMod 102 = .ok (.aload_n 0, 1) := by decide +kernel
theorem dX3_invMod_103 : decode cX3_invMod 103 = .ok (.aload_n 0, 1) := by decide +kernel
theorem dX3_invMod_104 : decode cX3_invMod 104 = .ok (.getfield 31, 3) := by decide +kernel
theorem dX3_invMod_107 : decode cX3_invMod 107 = .ok (.invokevirtual 126, 3) := by decide +kernel
theorem dX3_invMod_110 : decode cX3_invMod 110 = .ok (.goto (-65), 3) := by decide +kernel
theorem dX3_invMod_113 : decode cX3_invMod 113 = .ok (.aload_n 0, 1) := by decide +kernel
theorem dX3_invMod_114 : decode cX3_invMod 114 = .ok (.getfield 16, 3) := by decide +kernel
theorem dX3_invMod_117 : decode cX3_invMod 117 = .ok (.aload_n 0, 1) := by decide +kernel
theorem dX3_invMod_118 : decode cX3_invMod 118 = .ok (.getfield 28, 3) := by decide +kernel
theorem dX3_invMod_121 : decode cX3_invMod 121 = .ok (.invokestatic 77, 3) := by decide +kernel
theorem dX3_invMod_124 : decode cX3_invMod 124 = .ok (.ifCond .lt 29, 3) := by decide +kernel
theorem dX3_invMod_127 : decode cX3_invMod 127 = .ok (.aload_n 0, 1) := by decide +kernel
theorem dX3_invMod_128 : decode cX3_invMod 128 = .ok (.getfield 16, 3) := by decide +kernel
theorem dX3_invMod_131 : decode cX3_invMod 131 = .ok (.aload_n 0, 1) := by decide +kernel
theorem dX3_invMod_132 : decode cX3_invMod 132 = .ok (.getfield 28, 3) := by decide +kernel
theorem dX3_invMod_135 : decode cX3_invMod 135 = .ok (.invokestatic 81, 3) := by decide +kernel
theorem dX3_invMod_138 : decode cX3_invMod 138 = .ok (.aload_n 0, 1) := by decide +kernel
theorem dX3_invMod_139 : decode cX3_invMod 139 = .ok (.aload_n 0, 1) := by decide +kernel
theorem dX3_invMod_140 : decode cX3_invMod 140 = .ok (.getfield 22, 3) := by decide +kernel
theorem dX3_invMod_143 : decode cX3_invMod 143 = .ok (.aload_n 0, 1) := by decide +kernel
theorem dX3_invMod_144 : decode cX3_invMod 144 = .ok (.getfield 31, 3) := by decide +kernel
theorem dX3_invMod_147 : decode cX3_invMod 147 = .ok (.invokevirtual 120, 3) := by decide +kernel
theorem dX3_invMod_150 : decode cX3_invMod 150 = .ok (.goto (-105), 3) := by decide +kernel
theorem dX3_invMod_153 : decode cX3_invMod 153 = .ok (.aload_n 0, 1) := by decide +kernel
theorem dX3_invMod_154 : decode cX3_invMod 154 = .ok (.getfield 28, 3) := by decide +kernel
theorem dX3_invMod_157 : decode cX3_invMod 157 = .ok (.aload_n 0, 1) := by decide +kernel
theorem dX3_invMod_158 : decode cX3_invMod 158 = .ok (.getfield 16, 3) := by decide +kernel
theorem dX3_invMod_161 : decode cX3_invMod 161 = .ok (.invokestatic 81, 3) := by decide +kernel
theorem dX3_invMod_164 : decode cX3_invMod 164 = .ok (.aload_n 0, 1) := by decide +kernel
theorem dX3_invMod_165 : decode cX3_invMod 165 = .ok (.aload_n 0, 1) := by decide +kernel
theorem dX3_invMod_166 : decode cX3_invMod 166 = .ok (.getfield 31, 3) := by decide +kernel
theorem dX3_invMod_169 : decode cX3_invMod 169 = .ok (.aload_n 0, 1) := by decide +kernel
theorem dX3_invMod_170 : decode cX3_invMod 170 = .ok (.getfield 22, 3) := by decide +kernel
theorem dX3_invMod_173 : decode cX3_invMod 173 = .ok (.invokevirtual 120, 3) := by decide +kernel
theorem dX3_invMod_176 : decode cX3_invMod 176 = .ok (.goto (-131), 3) := by decide +kernel
theorem dX3_invMod_179 : decode cX3_invMod 179 = .ok (.aload_n 0, 1) := by decide +kernel
theorem dX3_invMod_180 : decode cX3_invMod 180 = .ok (.getfield 28, 3) := by decide +kernel
theorem dX3_invMod_183 : decode cX3_invMod 183 = .ok (.invokestatic 136, 3) := by decide +kernel
theorem dX3_invMod_186 : decode cX3_invMod 186 = .ok (.ifCond .ne 5, 3) := by decide +kernel
theorem dX3_invMod_189 : decode cX3_invMod 189 = .ok (.iconst 1, 1) := by decide +kernel
theorem dX3_invMod_190 : decode cX3_invMod 190 = .ok (.ireturn, 1) := by decide +kernel
theorem dX3_invMod_191 : decode cX3_invMod 191 = .ok (.aload_n 0, 1) := by decide +kernel
theorem dX3_invMod_192 : decode cX3_invMod 192 = .ok (.iload_n 1, 1) := by decide +kernel
theorem dX3_invMod_193 : decode cX3_invMod 193 = .ok (.aload_n 0, 1) := by decide +kernel
theorem dX3_invMod_194 : decode cX3_invMod 194 = .ok (.getfield 31, 3) := by decide +kernel
theorem dX3_invMod_197 : decode cX3_invMod 197 = .ok (.invokevirtual 116, 3) := by decide +kernel
theorem dX3_invMod_200 : decode cX3_invMod 200 = .ok (.iconst 0, 1) := by decide +kernel
theorem dX3_invMod_201 : decode cX3_invMod 201 = .ok (.ireturn, 1) := by decide +kernel
set_option maxRecDepth 20000 in
theorem ggX3_witness_X3_isAsked : GoodIn wsX3_witness wsX3_isAsked := goodIn_r _ [9, 10, 11, 12, 13, 8, 14, 15, 85, 86, 87, 88, 89, 90, 91, 92, 93, 94, 95] (by decide +kernel) (by decide +kernel)
set_option maxRecDepth 20000 in
theorem gX3_witness_X3_isAsked : GoodIn wsX3_witness (wsV RX3 108 RX3 yX3_isAsked wsX3_isAsked) := goodIn_app (goodIn_of _ (by decide +kernel)) ggX3_witness_X3_isAsked
set_option maxRecDepth 20000 in
theorem ggX3_witness_X3_takes : GoodIn wsX3_witness wsX3_takes := goodIn_r _ [19, 3, 1, 4, 20, 21, 22, 8, 23, 24, 25, 26, 27, 28, 29, 30, 31, 32, 33, 34, 35, 36, 37, 38, 39, 40, 41, 42, 43, 44, 45, 46, 47, 48, 49, 50, 51, 52, 53, 54, 55, 56, 57, 58, 59, 60, 61, 85, 86, 87, 88, 89, 90, 91, 92, 93, 94, 95] (by decide +kernel) (by decide +kernel)
set_option maxRecDepth 20000 in
theorem gX3_witness_X3_takes : GoodIn wsX3_witness (wsV RX3 112 RX3 yX3_takes wsX3_takes) := goodIn_app (goodIn_of _ (by decide +kernel)) ggX3_witness_X3_takes
set_option maxRecDepth 20000 in
theorem ggX3_witness_X3_isNought : GoodIn wsX3_witness wsX3_isNought := goodIn_r _ [64] (by decide +kernel) (by decide +kernel)
set_option maxRecDepth 20000 in
theorem gX3_witness_X3_isNought : GoodIn wsX3_witness (va_wsS RX3 132 yX3_isNought wsX3_isNought) := goodIn_app (goodIn_of _ (by decide +kernel)) ggX3_witness_X3_isNought
set_option maxRecDepth 20000 in
theorem ggX3_witness_X3_copy : GoodIn wsX3_witness wsX3_copy := goodIn_r _ [40] (by decide +kernel) (by decide +kernel)
set_option maxRecDepth 20000 in
theorem gX3_witness_X3_copy : GoodIn wsX3_witness (va_wsS RX3 84 yX3_copy wsX3_copy) := goodIn_app (goodIn_of _ (by decide +kernel)) ggX3_witness_X3_copy
set_option maxRecDepth 20000 in
theorem ggX3_witness_X3_bit : GoodIn wsX3_witness wsX3_bit := goodIn_r _ [55] (by decide +kernel) (by decide +kernel)
set_option maxRecDepth 20000 in
theorem gX3_witness_X3_bit : GoodIn wsX3_witness (va_wsS RX3 94 yX3_bit wsX3_bit) := goodIn_app (goodIn_of _ (by decide +kernel)) ggX3_witness_X3_bit
set_option maxRecDepth 20000 in
theorem ggX3_witness_X3_half : GoodIn wsX3_witness wsX3_half := goodIn_r _ [67] (by decide +kernel) (by decide +kernel)
set_option maxRecDepth 20000 in
theorem gX3_witness_X3_half : GoodIn wsX3_witness (va_wsS RX3 101 yX3_half wsX3_half) := goodIn_app (goodIn_of _ (by decide +kernel)) ggX3_witness_X3_half
set_option maxRecDepth 20000 in
theorem ggX3_witness_X3_raise : GoodIn wsX3_witness wsX3_raise := goodIn_r _ [71, 72, 2, 38, 39, 8, 40, 41, 42, 43, 44, 45, 46, 47, 48, 53, 54, 55, 73, 74, 75, 76, 37, 77, 78, 79, 80, 81, 3, 49, 50, 51, 52, 56, 57, 58, 59, 60, 61, 85, 86, 87, 88, 89, 90, 91, 92, 93, 94, 95] (by decide +kernel) (by decide +kernel)
set_option maxRecDepth 20000 in
theorem gX3_witness_X3_raise : GoodIn wsX3_witness (wsV RX3 129 RX3 yX3_raise wsX3_raise) := goodIn_app (goodIn_of _ (by decide +kernel)) ggX3_witness_X3_raise
set_option maxRecDepth 20000 in
theorem ggX3_witness_X3_isOne : GoodIn wsX3_witness wsX3_isOne := goodIn_r _ [84] (by decide +kernel) (by decide +kernel)
set_option maxRecDepth 20000 in
theorem gX3_witness_X3_isOne : GoodIn wsX3_witness (va_wsS RX3 136 yX3_isOne wsX3_isOne) := goodIn_app (goodIn_of _ (by decide +kernel)) ggX3_witness_X3_isOne
set_option maxRecDepth 20000 in
theorem ggX3_witness_X3_compared : GoodIn wsX3_witness wsX3_compared := goodIn_r _ [58] (by decide +kernel) (by decide +kernel)
set_option maxRecDepth 20000 in
theorem gX3_witness_X3_compared : GoodIn wsX3_witness (va_wsS RX3 77 yX3_compared wsX3_compared) := goodIn_app (goodIn_of _ (by decide +kernel)) ggX3_witness_X3_compared
set_option maxRecDepth 20000 in
theorem ggX3_witness_X3_product : GoodIn wsX3_witness wsX3_product := goodIn_r _ [76, 37, 77, 38, 39, 8, 40, 41, 42, 43, 44, 45, 46, 47, 48, 78, 79, 80, 81, 3, 49, 50, 51, 52, 56, 57, 58, 59, 60, 61, 53, 54, 55, 85, 86, 87, 88, 89, 90, 91, 92, 93, 94, 95] (by decide +kernel) (by decide +kernel)
set_option maxRecDepth 20000 in
theorem gX3_witness_X3_product : GoodIn wsX3_witness (wsV RX3 123 RX3 yX3_product wsX3_product) := goodIn_app (goodIn_of _ (by decide +kernel)) ggX3_witness_X3_product
theorem dX3_witness_0 : decode cX3_witness 0 = .ok (.aload_n 0, 1) := by decide +kernel
theorem dX3_witness_1 : decode cX3_witness 1 = .ok (.iload_n 1, 1) := by decide +kernel
theorem dX3_witness_2 : decode cX3_witness 2 = .ok (.iload_n 1, 1) := by decide +kernel
theorem dX3_witness_3 : decode cX3_witness 3 = .ok (.iload_n 1, 1) := by decide +kernel
theorem dX3_witness_4 : decode cX3_witness 4 = .ok (.invokevirtual 108, 3) := by decide +kernel
theorem dX3_witness_7 : decode cX3_witness 7 = .ok (.ifCond .ne 5, 3) := by decide +kernel
theorem dX3_witness_10 : decode cX3_witness 10 = .ok (.iconst 2, 1) := by decide +kernel
theorem dX3_witness_11 : decode cX3_witness 11 = .ok (.ireturn, 1) := by decide +kernel
theorem dX3_witness_12 : decode cX3_witness 12 = .ok (.aload_n 0, 1) := by decide +kernel
theorem dX3_witness_13 : decode cX3_witness 13 = .ok (.iload_n 1, 1) := by decide +kernel
theorem dX3_witness_14 : decode cX3_witness 14 = .ok (.iload_n 1, 1) := by decide +kernel
theorem dX3_witness_15 : decode cX3_witness 15 = .ok (.invokevirtual 112, 3) := by decide +kernel
theorem dX3_witness_18 : decode cX3_witness 18 = .ok (.aload_n 0, 1) := by decide +kernel
theorem dX3_witness_19 : decode cX3_witness 19 = .ok (.getfield 16, 3) := by decide +kernel
theorem dX3_witness_22 : decode cX3_witness 22 = .ok (.invokestatic 132, 3) := by decide +kernel
theorem dX3_witness_25 : decode cX3_witness 25 = .ok (.ifCond .eq 5, 3) := by decide +kernel
theorem dX3_witness_28 : decode cX3_witness 28 = .ok (.iconst 0, 1) := by decide +kernel
theorem dX3_witness_29 : decode cX3_witness 29 = .ok (.ireturn, 1) := by decide +kernel
theorem dX3_witness_30 : decode cX3_witness 30 = .ok (.aload_n 0, 1) := by decide +kernel
theorem dX3_witness_31 : decode cX3_witness 31 = .ok (.getfield 31, 3) := by decide +kernel
theorem dX3_witness_34 : decode cX3_witness 34 = .ok (.aload_n 0, 1) := by decide +kernel
theorem dX3_witness_35 : decode cX3_witness 35 = .ok (.getfield 13, 3) := by decide +kernel
theorem dX3_witness_38 : decode cX3_witness 38 = .ok (.invokestatic 84, 3) := by decide +kernel
theorem dX3_witness_41 : decode cX3_witness 41 = .ok (.aload_n 0, 1) := by decide +kernel
theorem dX3_witness_42 : decode cX3_witness 42 = .ok (.getfield 31, 3) := by decide +kernel
theorem dX3_witness_45 : decode cX3_witness 45 = .ok (.iconst 0, 1) := by decide +kernel
theorem dX3_witness_46 : decode cX3_witness 46 = .ok (.dup2, 1) := by decide +kernel
theorem dX3_witness_47 : decode cX3_witness 47 = .ok (.laload, 1) := by decide +kernel
theorem dX3_witness_48 : decode cX3_witness 48 = .ok (.lconst 1, 1) := by decide +kernel
theorem dX3_witness_49 : decode cX3_witness 49 = .ok (.lsub, 1) := by decide +kernel
theorem dX3_witness_50 : decode cX3_witness 50 = .ok (.lastore, 1) := by decide +kernel
theorem dX3_witness_51 : decode cX3_witness 51 = .ok (.aload_n 0, 1) := by decide +kernel
theorem dX3_witness_52 : decode cX3_witness 52 = .ok (.getfield 22, 3) := by decide +kernel
theorem dX3_witness_55 : decode cX3_witness 55 = .ok (.aload_n 0, 1) := by decide +kernel
theorem dX3_witness_56 : decode cX3_witness 56 = .ok (.getfield 31, 3) := by decide +kernel
theorem dX3_witness_59 : decode cX3_witness 59 = .ok (.invokestatic 84, 3) := by decide +kernel
theorem dX3_witness_62 : decode cX3_witness 62 = .ok (.iconst 0, 1) := by decide +kernel
theorem dX3_witness_63 : decode cX3_witness 63 = .ok (.istore_n 2, 1) := by decide +kernel
theorem dX3_witness_64 : decode cX3_witness 64 = .ok (.aload_n 0, 1) := by decide +kernel
theorem dX3_witness_65 : decode cX3_witness 65 = .ok (.getfield 31, 3) := by decide +kernel
theorem dX3_witness_68 : decode cX3_witness 68 = .ok (.iconst 0, 1) := by decide +kernel
theorem dX3_witness_69 : decode cX3_witness 69 = .ok (.invokestatic 94, 3) := by decide +kernel
theorem dX3_witness_72 : decode cX3_witness 72 = .ok (.ifCond .ne 16, 3) := by decide +kernel
theorem dX3_witness_75 : decode cX3_witness 75 = .ok (.aload_n 0, 1) := by decide +kernel
theorem dX3_witness_76 : decode cX3_witness 76 = .ok (.getfield 31, 3) := by decide +kernel
theorem dX3_witness_79 : decode cX3_witness 79 = .ok (.invokestatic 101, 3) := by decide +kernel
theorem dX3_witness_82 : decode cX3_witness 82 = .ok (.iinc 2 1, 3) := by decide +kernel
theorem dX3_witness_85 : decode cX3_witness 85 = .ok (.goto (-21), 3) := by decide +kernel
theorem dX3_witness_88 : decode cX3_witness 88 = .ok (.aload_n 0, 1) := by decide +kernel
theorem dX3_witness_89 : decode cX3_witness 89 = .ok (.aload_n 0, 1) := by decide +kernel
theorem dX3_witness_90 : decode cX3_witness 90 = .ok (.getfield 16, 3) := by decide +kernel
theorem dX3_witness_93 : decode cX3_witness 93 = .ok (.invokevirtual 129, 3) := by decide +kernel
theorem dX3_witness_96 : decode cX3_witness 96 = .ok (.aload_n 0, 1) := by decide +kernel
theorem dX3_witness_97 : decode cX3_witness 97 = .ok (.getfield 16, 3) := by decide +kernel
theorem dX3_witness_100 : decode cX3_witness 100 = .ok (.invokestatic 136, 3) := by decide +kernel
theorem dX3_witness_103 : decode cX3_witness 103 = .ok (.ifCond .ne 17, 3) := by decide +kernel
theorem dX3_witness_106 : decode cX3_witness 106 = .ok (.aload_n 0, 1) := by decide +kernel
theorem dX3_witness_107 : decode cX3_witness 107 = .ok (.getfield 16, 3) := by decide +kernel
theorem dX3_witness_110 : decode cX3_witness 110 = .ok (.aload_n 0, 1) := by decide +kernel
theorem dX3_witness_111 : decode cX3_witness 111 = .ok (.getfield 22, 3) := by decide +kernel
theorem dX3_witness_114 : decode cX3_witness 114 = .ok (.invokestatic 77, 3) := by decide +kernel
theorem dX3_witness_117 : decode cX3_witness 117 = .ok (.ifCond .ne 5, 3) := by decide +kernel
theorem dX3_witness_120 : decode cX3_witness 120 = .ok (.iconst 0, 1) := by decide +kernel
theorem dX3_witness_121 : decode cX3_witness 121 = .ok (.ireturn, 1) := by decide +kernel
theorem dX3_witness_122 : decode cX3_witness 122 = .ok (.iconst 1, 1) := by decide +kernel
theorem dX3_witness_123 : decode cX3_witness 123 = .ok (.istore_n 3, 1) := by decide +kernel
theorem dX3_witness_124 : decode cX3_witness 124 = .ok (.iload_n 3, 1) := by decide +kernel
theorem dX3_witness_125 : decode cX3_witness 125 = .ok (.iload_n 2, 1) := by decide +kernel
theorem dX3_witness_126 : decode cX3_witness 126 = .ok (.if_icmp .ge 37, 3) := by decide +kernel
theorem dX3_witness_129 : decode cX3_witness 129 = .ok (.aload_n 0, 1) := by decide +kernel
theorem dX3_witness_130 : decode cX3_witness 130 = .ok (.aload_n 0, 1) := by decide +kernel
theorem dX3_witness_131 : decode cX3_witness 131 = .ok (.getfield 16, 3) := by decide +kernel
theorem dX3_witness_134 : decode cX3_witness 134 = .ok (.aload_n 0, 1) := by decide +kernel
theorem dX3_witness_135 : decode cX3_witness 135 = .ok (.getfield 16, 3) := by decide +kernel
theorem dX3_witness_138 : decode cX3_witness 138 = .ok (.invokevirtual 123, 3) := by decide +kernel
theorem dX3_witness_141 : decode cX3_witness 141 = .ok (.aload_n 0, 1) := by decide +kernel
theorem dX3_witness_142 : decode cX3_witness 142 = .ok (.getfield 16, 3) := by decide +kernel
theorem dX3_witness_145 : decode cX3_witness 145 = .ok (.aload_n 0, 1) := by decide +kernel
theorem dX3_witness_146 : decode cX3_witness 146 = .ok (.getfield 22, 3) := by decide +kernel
theorem dX3_witness_149 : decode cX3_witness 149 = .ok (.invokestatic 77, 3) := by decide +kernel
theorem dX3_witness_152 : decode cX3_witness 152 = .ok (.ifCond .ne 5, 3) := by decide +kernel
theorem dX3_witness_155 : decode cX3_witness 155 = .ok (.iconst 0, 1) := by decide +kernel
theorem dX3_witness_156 : decode cX3_witness 156 = .ok (.ireturn, 1) := by decide +kernel
theorem dX3_witness_157 : decode cX3_witness 157 = .ok (.iinc 3 1, 3) := by decide +kernel
theorem dX3_witness_160 : decode cX3_witness 160 = .ok (.goto (-36), 3) := by decide +kernel
theorem dX3_witness_163 : decode cX3_witness 163 = .ok (.iconst 1, 1) := by decide +kernel
theorem dX3_witness_164 : decode cX3_witness 164 = .ok (.ireturn, 1) := by decide +kernel
set_option maxRecDepth 20000 in
theorem ggX3_compare_X3_isRegister : GoodIn wsX3_compare wsX3_isRegister := goodIn_r _ [7, 8, 21, 22, 23, 24, 25, 26, 27, 28, 29, 30, 31] (by decide +kernel) (by decide +kernel)
set_option maxRecDepth 20000 in
theorem gX3_compare_X3_isRegister : GoodIn wsX3_compare (wsV RX3 67 RX3 yX3_isRegister wsX3_isRegister) := goodIn_app (goodIn_of _ (by decide +kernel)) ggX3_compare_X3_isRegister
set_option maxRecDepth 20000 in
theorem ggX3_compare_X3_placeOf : GoodIn wsX3_compare wsX3_placeOf := goodIn_r _ [12] (by decide +kernel) (by decide +kernel)
set_option maxRecDepth 20000 in
theorem gX3_compare_X3_placeOf : GoodIn wsX3_compare (wsV RX3 70 RX3 yX3_placeOf wsX3_placeOf) := goodIn_app (goodIn_of _ (by decide +kernel)) ggX3_compare_X3_placeOf
set_option maxRecDepth 20000 in
theorem ggX3_compare_X3_read : GoodIn wsX3_compare wsX3_read := goodIn_r _ [16, 17, 21, 22, 23, 24, 25, 26, 27, 28, 29, 30, 31] (by decide +kernel) (by decide +kernel)
set_option maxRecDepth 20000 in
theorem gX3_compare_X3_read : GoodIn wsX3_compare (wsV RX3 59 RX3 yX3_read wsX3_read) := goodIn_app (goodIn_of _ (by decide +kernel)) ggX3_compare_X3_read
set_option maxRecDepth 20000 in
theorem ggX3_compare_X3_compared : GoodIn wsX3_compare wsX3_compared := goodIn_r _ [20] (by decide +kernel) (by decide +kernel)
set_option maxRecDepth 20000 in
theorem gX3_compare_X3_compared : GoodIn wsX3_compare (va_wsS RX3 77 yX3_compared wsX3_compared) := goodIn_app (goodIn_of _ (by decide +kernel)) ggX3_compare_X3_compared
theorem dX3_compare_0 : decode cX3_compare 0 = .ok (.aload_n 0, 1) := by decide +kernel
theorem dX3_compare_1 : decode cX3_compare 1 = .ok (.iload_n 1, 1) := by decide +kernel
theorem dX3_compare_2 : decode cX3_compare 2 = .ok (.invokevirtual 67, 3) := by decide +kernel
theorem dX3_compare_5 : decode cX3_compare 5 = .ok (.ifCond .eq 11, 3) := by decide +kernel
theorem dX3_compare_8 : decode cX3_compare 8 = .ok (.aload_n 0, 1) := by decide +kernel
theorem dX3_compare_9 : decode cX3_compare 9 = .ok (.iload_n 2, 1) := by decide +kernel
theorem dX3_compare_10 : decode cX3_compare 10 = .ok (.invokevirtual 67, 3) := by decide +kernel
theorem dX3_compare_13 : decode cX3_compare 13 = .ok (.ifCond .ne 5, 3) := by decide +kernel
theorem dX3_compare_16 : decode cX3_compare 16 = .ok (.iconst 2, 1) := by decide +kernel
theorem dX3_compare_17 : decode cX3_compare 17 = .ok (.ireturn, 1) := by decide +kernel
theorem dX3_compare_18 : decode cX3_compare 18 = .ok (.aload_n 0, 1) := by decide +kernel
theorem dX3_compare_19 : decode cX3_compare 19 = .ok (.aload_n 0, 1) := by decide +kernel
theorem dX3_compare_20 : decode cX3_compare 20 = .ok (.getfield 16, 3) := by decide +kernel
theorem dX3_compare_23 : decode cX3_compare 23 = .ok (.aload_n 0, 1) := by decide +kernel
theorem dX3_compare_24 : decode cX3_compare 24 = .ok (.iload_n 1, 1) := by decide +kernel
theorem dX3_compare_25 : decode cX3_compare 25 = .ok (.invokevirtual 70, 3) := by decide +kernel
theorem dX3_compare_28 : decode cX3_compare 28 = .ok (.invokevirtual 59, 3) := by decide +kernel
theorem dX3_compare_31 : decode cX3_compare 31 = .ok (.aload_n 0, 1) := by decide +kernel
theorem dX3_compare_32 : decode cX3_compare 32 = .ok (.aload_n 0, 1) := by decide +kernel
theorem dX3_compare_33 : decode cX3_compare 33 = .ok (.getfield 19, 3) := by decide +kernel
theorem dX3_compare_36 : decode cX3_compare 36 = .ok (.aload_n 0, 1) := by decide +kernel
theorem dX3_compare_37 : decode cX3_compare 37 = .ok (.iload_n 2, 1) := by decide +kernel
theorem dX3_compare_38 : decode cX3_compare 38 = .ok (.invokevirtual 70, 3) := by decide +kernel
theorem dX3_compare_41 : decode cX3_compare 41 = .ok (.invokevirtual 59, 3) := by decide +kernel
theorem dX3_compare_44 : decode cX3_compare 44 = .ok (.aload_n 0, 1) := by decide +kernel
theorem dX3_compare_45 : decode cX3_compare 45 = .ok (.getfield 16, 3) := by decide +kernel
theorem dX3_compare_48 : decode cX3_compare 48 = .ok (.aload_n 0, 1) := by decide +kernel
theorem dX3_compare_49 : decode cX3_compare 49 = .ok (.getfield 19, 3) := by decide +kernel
theorem dX3_compare_52 : decode cX3_compare 52 = .ok (.invokestatic 77, 3) := by decide +kernel
theorem dX3_compare_55 : decode cX3_compare 55 = .ok (.ireturn, 1) := by decide +kernel
theorem dJ9_max_7cf53_0 : decode cJ9_max_7cf53 0 = .ok (.iload_n 0, 1) := by decide +kernel
theorem dJ9_max_7cf53_1 : decode cJ9_max_7cf53 1 = .ok (.iload_n 1, 1) := by decide +kernel
theorem dJ9_max_7cf53_2 : decode cJ9_max_7cf53 2 = .ok (.if_icmp .lt 7, 3) := by decide +kernel
theorem dJ9_max_7cf53_5 : decode cJ9_max_7cf53 5 = .ok (.iload_n 0, 1) := by decide +kernel
theorem dJ9_max_7cf53_6 : decode cJ9_max_7cf53 6 = .ok (.goto 4, 3) := by decide +kernel
theorem dJ9_max_7cf53_9 : decode cJ9_max_7cf53 9 = .ok (.iload_n 1, 1) := by decide +kernel
theorem dJ9_max_7cf53_10 : decode cJ9_max_7cf53 10 = .ok (.ireturn, 1) := by decide +kernel
theorem dJ9_min_7cf53_0 : decode cJ9_min_7cf53 0 = .ok (.iload_n 0, 1) := by decide +kernel
theorem dJ9_min_7cf53_1 : decode cJ9_min_7cf53 1 = .ok (.iload_n 1, 1) := by decide +kernel
theorem dJ9_min_7cf53_2 : decode cJ9_min_7cf53 2 = .ok (.if_icmp .gt 7, 3) := by decide +kernel
theorem dJ9_min_7cf53_5 : decode cJ9_min_7cf53 5 = .ok (.iload_n 0, 1) := by decide +kernel
theorem dJ9_min_7cf53_6 : decode cJ9_min_7cf53 6 = .ok (.goto 4, 3) := by decide +kernel
theorem dJ9_min_7cf53_9 : decode cJ9_min_7cf53 9 = .ok (.iload_n 1, 1) := by decide +kernel
theorem dJ9_min_7cf53_10 : decode cJ9_min_7cf53 10 = .ok (.ireturn, 1) := by decide +kernel
theorem dL_cell_0 : decode cL_cell 0 = .ok (.iload_n 1, 1) := by decide +kernel
theorem dL_cell_1 : decode cL_cell 1 = .ok (.aload_n 0, 1) := by decide +kernel
theorem dL_cell_2 : decode cL_cell 2 = .ok (.arraylength, 1) := by decide +kernel
theorem dL_cell_3 : decode cL_cell 3 = .ok (.if_icmp .ge 9, 3) := by decide +kernel
theorem dL_cell_6 : decode cL_cell 6 = .ok (.aload_n 0, 1) := by decide +kernel
theorem dL_cell_7 : decode cL_cell 7 = .ok (.iload_n 1, 1) := by decide +kernel
theorem dL_cell_8 : decode cL_cell 8 = .ok (.iaload, 1) := by decide +kernel
theorem dL_cell_9 : decode cL_cell 9 = .ok (.goto 4, 3) := by decide +kernel
theorem dL_cell_12 : decode cL_cell 12 = .ok (.iconst 0, 1) := by decide +kernel
theorem dL_cell_13 : decode cL_cell 13 = .ok (.ireturn, 1) := by decide +kernel
set_option maxRecDepth 20000 in
theorem ggL_law_L_cell : GoodIn wsL_law wsL_cell := goodIn_r _ [9] (by decide +kernel) (by decide +kernel)
set_option maxRecDepth 20000 in
theorem gL_law_L_cell : GoodIn wsL_law (va_wsS RL 9 yL_cell wsL_cell) := goodIn_app (goodIn_of _ (by decide +kernel)) ggL_law_L_cell
set_option maxRecDepth 20000 in
theorem ggL_law_X2_init : GoodIn wsL_law wsX2_init := goodIn_r _ [12, 13, 14, 15, 16, 17, 18, 19, 20, 21, 22, 23, 24, 25, 26, 27, 28, 29, 30, 31, 32, 33, 34, 35, 36, 37, 38, 39, 40, 41, 42, 43, 44, 45, 46, 47, 48, 415, 416, 417, 418, 419, 431, 432, 433, 434, 435, 436, 437, 438, 439, 440, 441, 442] (by decide +kernel) (by decide +kernel)
set_option maxRecDepth 20000 in
theorem gL_law_X2_init : GoodIn wsL_law (wsX2_init) := ggL_law_X2_init
set_option maxRecDepth 20000 in
theorem ggL_law_X3_init : GoodIn wsL_law wsX3_init := goodIn_r _ [51, 52, 14, 15, 53, 54, 55, 56, 57, 58, 59, 60, 61, 62, 63, 64, 65, 5, 66, 420, 421, 422, 423, 424, 425, 426, 427, 428, 429, 430] (by decide +kernel) (by decide +kernel)
set_option maxRecDepth 20000 in
theorem gL_law_X3_init : GoodIn wsL_law (wsX3_init) := ggL_law_X3_init
set_option maxRecDepth 20000 in
theorem ggL_law_X2_pokeMod : GoodIn wsL_law wsX2_pokeMod := goodIn_r _ [70, 31, 71, 32, 72, 73, 74, 2, 75, 23, 415, 416, 417, 418, 419, 431, 432, 433, 434, 435, 436, 437, 438, 439, 440, 441, 442] (by decide +kernel) (by decide +kernel)
set_option maxRecDepth 20000 in
theorem gL_law_X2_pokeMod : GoodIn wsL_law (wsV RL 21 RX2 yX2_pokeMod wsX2_pokeMod) := goodIn_app (goodIn_of _ (by decide +kernel)) ggL_law_X2_pokeMod
set_option maxRecDepth 20000 in
theorem ggL_law_X3_pokeMod : GoodIn wsL_law wsX3_pokeMod := goodIn_r _ [79, 54, 80, 81, 82, 83, 84, 5, 85, 62, 86, 87, 88, 89, 420, 421, 422, 423, 424, 425, 426, 427, 428, 429, 430] (by decide +kernel) (by decide +kernel)
set_option maxRecDepth 20000 in
theorem gL_law_X3_pokeMod : GoodIn wsL_law (wsV RL 25 RX3 yX3_pokeMod wsX3_pokeMod) := goodIn_app (goodIn_of _ (by decide +kernel)) ggL_law_X3_pokeMod
set_option maxRecDepth 20000 in
theorem ggL_law_X2_peekMod : GoodIn wsL_law wsX2_peekMod := goodIn_r _ [93, 31, 71, 72, 73, 74, 2, 75, 23, 415, 416, 417, 418, 419, 431, 432, 433, 434, 435, 436, 437, 438, 439, 440, 441, 442] (by decide +kernel) (by decide +kernel)
set_option maxRecDepth 20000 in
theorem gL_law_X2_peekMod : GoodIn wsL_law (wsV RL 26 RX2 yX2_peekMod wsX2_peekMod) := goodIn_app (goodIn_of _ (by decide +kernel)) ggL_law_X2_peekMod
set_option maxRecDepth 20000 in
theorem ggL_law_X3_peekMod : GoodIn wsL_law wsX3_peekMod := goodIn_r _ [97, 54, 82, 83, 84, 5, 85, 62, 86, 87, 88, 89, 420, 421, 422, 423, 424, 425, 426, 427, 428, 429, 430] (by decide +kernel) (by decide +kernel)
set_option maxRecDepth 20000 in
theorem gL_law_X3_peekMod : GoodIn wsL_law (wsV RL 30 RX3 yX3_peekMod wsX3_peekMod) := goodIn_app (goodIn_of _ (by decide +kernel)) ggL_law_X3_peekMod
set_option maxRecDepth 20000 in
theorem ggL_law_X2_init_ : GoodIn wsL_law wsX2_init_ := goodIn_r _ [101, 31, 32, 102, 103, 104, 30, 105, 39, 37, 106, 107, 108, 109, 110, 111, 112, 113, 114, 115, 116, 48, 41, 40, 42, 117, 118, 119, 120, 121, 122, 123, 124, 125, 126, 38, 127, 128, 129, 130, 131, 132, 133, 134, 135, 136, 137, 138, 139, 140, 141, 142, 143, 144, 415, 416, 417, 418, 419, 431, 432, 433, 434, 435, 436, 437, 438, 439, 440, 441, 442] (by decide +kernel) (by decide +kernel)
set_option maxRecDepth 20000 in
theorem gL_law_X2_init_ : GoodIn wsL_law (wsV RL 31 RX2 yX2_init_ wsX2_init_) := goodIn_app (goodIn_of _ (by decide +kernel)) ggL_law_X2_init_
set_option maxRecDepth 20000 in
theorem ggL_law_X3_init_ : GoodIn wsL_law wsX3_init_ := goodIn_r _ [148, 55, 149, 150, 81, 86, 87, 88, 5, 89, 151, 152, 153, 154, 54, 420, 421, 422, 423, 424, 425, 426, 427, 428, 429, 430] (by decide +kernel) (by decide +kernel)
set_option maxRecDepth 20000 in
theorem gL_law_X3_init_ : GoodIn wsL_law (wsV RL 35 RX3 yX3_init_ wsX3_init_) := goodIn_app (goodIn_of _ (by decide +kernel)) ggL_law_X3_init_
set_option maxRecDepth 20000 in
theorem ggL_law_X2_ready : GoodIn wsL_law wsX2_ready := goodIn_r _ [158, 32, 415, 416, 417, 418, 419] (by decide +kernel) (by decide +kernel)
set_option maxRecDepth 20000 in
theorem gL_law_X2_ready : GoodIn wsL_law (wsV RL 36 RX2 yX2_ready wsX2_ready) := goodIn_app (goodIn_of _ (by decide +kernel)) ggL_law_X2_ready
set_option maxRecDepth 20000 in
theorem ggL_law_X3_ready : GoodIn wsL_law wsX3_ready := goodIn_r _ [162, 81, 420, 421, 422, 423, 424, 425, 426, 427, 428, 429, 430] (by decide +kernel) (by decide +kernel)
set_option maxRecDepth 20000 in
theorem gL_law_X3_ready : GoodIn wsL_law (wsV RL 40 RX3 yX3_ready wsX3_ready) := goodIn_app (goodIn_of _ (by decide +kernel)) ggL_law_X3_ready
set_option maxRecDepth 20000 in
theorem ggL_law_X2_poke : GoodIn wsL_law wsX2_poke := goodIn_r _ [166, 27, 167, 168, 169, 2, 170, 24, 72, 73, 74, 75, 23, 415, 416, 417, 418, 419] (by decide +kernel) (by decide +kernel)
set_option maxRecDepth 20000 in
theorem gL_law_X2_poke : GoodIn wsL_law (wsV RL 41 RX2 yX2_poke wsX2_poke) := goodIn_app (goodIn_of _ (by decide +kernel)) ggL_law_X2_poke
set_option maxRecDepth 20000 in
theorem ggL_law_X3_poke : GoodIn wsL_law wsX3_poke := goodIn_r _ [174, 54, 80, 175, 176, 177, 5, 178, 63, 82, 83, 84, 85, 62, 179, 180, 181, 182, 420, 421, 422, 423, 424, 425, 426, 427, 428, 429, 430] (by decide +kernel) (by decide +kernel)
set_option maxRecDepth 20000 in
theorem gL_law_X3_poke : GoodIn wsL_law (wsV RL 45 RX3 yX3_poke wsX3_poke) := goodIn_app (goodIn_of _ (by decide +kernel)) ggL_law_X3_poke
set_option maxRecDepth 20000 in
theorem ggL_law_X2_peek : GoodIn wsL_law wsX2_peek := goodIn_r _ [186, 27, 167, 168, 169, 2, 170, 24, 72, 73, 74, 75, 23, 415, 416, 417, 418, 419] (by decide +kernel) (by decide +kernel)
set_option maxRecDepth 20000 in
theorem gL_law_X2_peek : GoodIn wsL_law (wsV RL 46 RX2 yX2_peek wsX2_peek) := goodIn_app (goodIn_of _ (by decide +kernel)) ggL_law_X2_peek
set_option maxRecDepth 20000 in
theorem ggL_law_X3_peek : GoodIn wsL_law wsX3_peek := goodIn_r _ [190, 54, 175, 176, 177, 5, 178, 63, 82, 83, 84, 85, 62, 179, 180, 181, 182, 420, 421, 422, 423, 424, 425, 426, 427, 428, 429, 430] (by decide +kernel) (by decide +kernel)
set_option maxRecDepth 20000 in
theorem gL_law_X3_peek : GoodIn wsL_law (wsV RL 50 RX3 yX3_peek wsX3_peek) := goodIn_app (goodIn_of _ (by decide +kernel)) ggL_law_X3_peek
set_option maxRecDepth 20000 in
theorem ggL_law_X2_reduce : GoodIn wsL_law wsX2_reduce := goodIn_r _ [194, 32, 31, 27, 167, 168, 169, 2, 170, 24, 195, 196, 197, 30, 198, 42, 40, 199, 200, 201, 202, 43, 37, 39, 48, 203, 204, 108, 205, 206, 207, 208, 134, 209, 210, 211, 120, 121, 122, 135, 136, 137, 138, 139, 140, 141, 142, 143, 144, 415, 416, 417, 418, 419, 431, 432, 433, 434, 435, 436, 437, 438, 439, 440, 441, 442] (by decide +kernel) (by decide +kernel)
set_option maxRecDepth 20000 in
theorem gL_law_X2_reduce : GoodIn wsL_law (wsV RL 51 RX2 yX2_reduce wsX2_reduce) := goodIn_app (goodIn_of _ (by decide +kernel)) ggL_law_X2_reduce
set_option maxRecDepth 20000 in
theorem ggL_law_X3_reduce : GoodIn wsL_law wsX3_reduce := goodIn_r _ [215, 56, 216, 217, 218, 5, 219, 81, 175, 176, 177, 178, 63, 220, 221, 222, 223, 55, 58, 86, 87, 88, 89, 151, 152, 153, 154, 54, 179, 180, 181, 182, 224, 225, 226, 227, 59, 228, 229, 230, 231, 232, 233, 234, 235, 236, 237, 62, 238, 239, 240, 80, 241, 242, 243, 244, 245, 246, 247, 248, 249, 250, 251, 252, 253, 420, 421, 422, 423, 424, 425, 426, 427, 428, 429, 430] (by decide +kernel) (by decide +kernel)
set_option maxRecDepth 20000 in
theorem gL_law_X3_reduce : GoodIn wsL_law (wsV RL 55 RX3 yX3_reduce wsX3_reduce) := goodIn_app (goodIn_of _ (by decide +kernel)) ggL_law_X3_reduce
set_option maxRecDepth 20000 in
theorem ggL_law_X2_addMod : GoodIn wsL_law wsX2_addMod := goodIn_r _ [257, 31, 27, 258, 259, 260, 2, 261, 32, 167, 168, 169, 170, 24, 262, 263, 264, 30, 265, 44, 45, 266, 196, 197, 198, 42, 40, 199, 200, 201, 202, 43, 37, 39, 48, 203, 204, 108, 205, 206, 207, 208, 134, 209, 210, 211, 120, 121, 122, 135, 136, 137, 138, 139, 140, 141, 142, 143, 144, 127, 128, 129, 130, 131, 132, 133, 415, 416, 417, 418, 419, 431, 432, 433, 434, 435, 436, 437, 438, 439, 440, 441, 442] (by decide +kernel) (by decide +kernel)
set_option maxRecDepth 20000 in
theorem gL_law_X2_addMod : GoodIn wsL_law (wsV RL 56 RX2 yX2_addMod wsX2_addMod) := goodIn_app (goodIn_of _ (by decide +kernel)) ggL_law_X2_addMod
set_option maxRecDepth 20000 in
theorem ggL_law_X3_addMod : GoodIn wsL_law wsX3_addMod := goodIn_r _ [270, 56, 58, 216, 217, 218, 5, 219, 81, 175, 176, 177, 178, 63, 220, 221, 222, 223, 55, 86, 87, 88, 89, 151, 152, 153, 154, 54, 179, 180, 181, 182, 224, 225, 226, 227, 59, 228, 229, 230, 231, 232, 233, 234, 235, 236, 237, 62, 238, 239, 240, 80, 241, 242, 243, 244, 245, 246, 247, 248, 249, 271, 272, 273, 274, 250, 251, 252, 253, 420, 421, 422, 423, 424, 425, 426, 427, 428, 429, 430] (by decide +kernel) (by decide +kernel)
set_option maxRecDepth 20000 in
theorem gL_law_X3_addMod : GoodIn wsL_law (wsV RL 59 RX3 yX3_addMod wsX3_addMod) := goodIn_app (goodIn_of _ (by decide +kernel)) ggL_law_X3_addMod
set_option maxRecDepth 20000 in
theorem ggL_law_X2_subMod : GoodIn wsL_law wsX2_subMod := goodIn_r _ [278, 31, 27, 258, 259, 260, 2, 261, 32, 167, 168, 169, 170, 24, 279, 280, 281, 30, 282, 44, 45, 266, 196, 197, 198, 42, 40, 199, 200, 201, 202, 43, 37, 39, 48, 203, 204, 108, 205, 206, 207, 208, 134, 209, 210, 211, 120, 121, 122, 135, 136, 137, 138, 139, 140, 141, 142, 143, 144, 283, 284, 285, 286, 131, 132, 133, 415, 416, 417, 418, 419, 431, 432, 433, 434, 435, 436, 437, 438, 439, 440, 441, 442] (by decide +kernel) (by decide +kernel)
set_option maxRecDepth 20000 in
theorem gL_law_X2_subMod : GoodIn wsL_law (wsV RL 60 RX2 yX2_subMod wsX2_subMod) := goodIn_app (goodIn_of _ (by decide +kernel)) ggL_law_X2_subMod
set_option maxRecDepth 20000 in
theorem ggL_law_X3_subMod : GoodIn wsL_law wsX3_subMod := goodIn_r _ [290, 56, 58, 216, 217, 218, 5, 219, 81, 175, 176, 177, 178, 63, 220, 221, 222, 223, 55, 86, 87, 88, 89, 151, 152, 153, 154, 54, 179, 180, 181, 182, 224, 225, 226, 227, 59, 228, 229, 230, 231, 232, 233, 234, 235, 236, 237, 62, 238, 239, 240, 80, 241, 242, 243, 244, 245, 246, 247, 248, 249, 291, 292, 293, 294, 250, 251, 252, 253, 420, 421, 422, 423, 424, 425, 426, 427, 428, 429, 430] (by decide +kernel) (by decide +kernel)
set_option maxRecDepth 20000 in
theorem gL_law_X3_subMod : GoodIn wsL_law (wsV RL 63 RX3 yX3_subMod wsX3_subMod) := goodIn_app (goodIn_of _ (by decide +kernel)) ggL_law_X3_subMod
set_option maxRecDepth 20000 in
theorem ggL_law_X2_mulMod : GoodIn wsL_law wsX2_mulMod := goodIn_r _ [298, 31, 27, 258, 259, 260, 2, 261, 32, 167, 168, 169, 170, 24, 299, 300, 301, 30, 302, 44, 42, 199, 200, 201, 202, 43, 37, 39, 48, 203, 204, 108, 205, 206, 207, 208, 134, 209, 210, 211, 120, 121, 122, 135, 136, 137, 138, 139, 140, 141, 142, 143, 144, 415, 416, 417, 418, 419, 431, 432, 433, 434, 435, 436, 437, 438, 439, 440, 441, 442] (by decide +kernel) (by decide +kernel)
set_option maxRecDepth 20000 in
theorem gL_law_X2_mulMod : GoodIn wsL_law (wsV RL 64 RX2 yX2_mulMod wsX2_mulMod) := goodIn_app (goodIn_of _ (by decide +kernel)) ggL_law_X2_mulMod
set_option maxRecDepth 20000 in
theorem ggL_law_X3_mulMod : GoodIn wsL_law wsX3_mulMod := goodIn_r _ [306, 56, 58, 216, 217, 218, 5, 219, 81, 175, 176, 177, 178, 63, 220, 221, 222, 223, 55, 86, 87, 88, 89, 151, 152, 153, 154, 54, 179, 180, 181, 182, 224, 225, 226, 227, 59, 228, 229, 230, 231, 232, 233, 234, 235, 236, 237, 62, 238, 239, 240, 80, 241, 242, 243, 244, 245, 246, 247, 248, 249, 307, 308, 309, 310, 57, 271, 272, 273, 274, 250, 251, 252, 253, 420, 421, 422, 423, 424, 425, 426, 427, 428, 429, 430] (by decide +kernel) (by decide +kernel)
set_option maxRecDepth 20000 in
theorem gL_law_X3_mulMod : GoodIn wsL_law (wsV RL 67 RX3 yX3_mulMod wsX3_mulMod) := goodIn_app (goodIn_of _ (by decide +kernel)) ggL_law_X3_mulMod
set_option maxRecDepth 20000 in
theorem ggL_law_X2_montMod : GoodIn wsL_law wsX2_montMod := goodIn_r _ [314, 31, 27, 258, 259, 260, 2, 261, 32, 167, 168, 169, 170, 24, 315, 316, 317, 30, 318, 44, 40, 319, 300, 301, 302, 42, 199, 200, 201, 202, 43, 37, 39, 48, 203, 204, 108, 205, 206, 207, 208, 134, 209, 210, 211, 120, 121, 122, 135, 136, 137, 138, 139, 140, 141, 142, 143, 144, 415, 416, 417, 418, 419, 431, 432, 433, 434, 435, 436, 437, 438, 439, 440, 441, 442] (by decide +kernel) (by decide +kernel)
set_option maxRecDepth 20000 in
theorem gL_law_X2_montMod : GoodIn wsL_law (wsV RL 68 RX2 yX2_montMod wsX2_montMod) := goodIn_app (goodIn_of _ (by decide +kernel)) ggL_law_X2_montMod
set_option maxRecDepth 20000 in
theorem ggL_law_X3_montMod : GoodIn wsL_law wsX3_montMod := goodIn_r _ [323, 56, 58, 216, 217, 218, 5, 219, 81, 175, 176, 177, 178, 63, 220, 221, 222, 223, 55, 86, 87, 88, 89, 151, 152, 153, 154, 54, 179, 180, 181, 182, 224, 225, 226, 227, 59, 228, 229, 230, 231, 232, 233, 234, 235, 236, 237, 62, 238, 239, 240, 80, 241, 242, 243, 244, 245, 246, 247, 248, 249, 307, 308, 309, 310, 57, 271, 272, 273, 274, 324, 325, 326, 327, 328, 329, 330, 250, 251, 252, 253, 420, 421, 422, 423, 424, 425, 426, 427, 428, 429, 430] (by decide +kernel) (by decide +kernel)
set_option maxRecDepth 20000 in
theorem gL_law_X3_montMod : GoodIn wsL_law (wsV RL 71 RX3 yX3_montMod wsX3_montMod) := goodIn_app (goodIn_of _ (by decide +kernel)) ggL_law_X3_montMod
set_option maxRecDepth 20000 in
theorem ggL_law_X2_powMod : GoodIn wsL_law wsX2_powMod := goodIn_r _ [334, 31, 27, 258, 259, 260, 2, 261, 32, 167, 168, 169, 170, 24, 335, 336, 337, 30, 338, 44, 42, 45, 40, 199, 200, 201, 202, 43, 37, 39, 48, 203, 204, 108, 205, 206, 207, 208, 134, 209, 210, 211, 120, 121, 122, 135, 136, 137, 138, 139, 140, 141, 142, 143, 144, 339, 340, 341, 342, 41, 343, 344, 345, 346, 347, 348, 349, 415, 416, 417, 418, 419, 431, 432, 433, 434, 435, 436, 437, 438, 439, 440, 441, 442] (by decide +kernel) (by decide +kernel)
set_option maxRecDepth 20000 in
theorem gL_law_X2_powMod : GoodIn wsL_law (wsV RL 72 RX2 yX2_powMod wsX2_powMod) := goodIn_app (goodIn_of _ (by decide +kernel)) ggL_law_X2_powMod
set_option maxRecDepth 20000 in
theorem ggL_law_X3_powMod : GoodIn wsL_law wsX3_powMod := goodIn_r _ [353, 61, 56, 216, 217, 218, 5, 219, 81, 175, 176, 177, 178, 63, 220, 221, 222, 223, 55, 58, 86, 87, 88, 89, 151, 152, 153, 154, 54, 179, 180, 181, 182, 224, 225, 226, 227, 59, 228, 229, 230, 231, 232, 233, 234, 235, 236, 237, 62, 238, 239, 240, 80, 241, 242, 243, 244, 245, 246, 247, 248, 249, 354, 355, 356, 357, 60, 307, 308, 309, 310, 57, 271, 272, 273, 274, 250, 251, 252, 253, 420, 421, 422, 423, 424, 425, 426, 427, 428, 429, 430] (by decide +kernel) (by decide +kernel)
set_option maxRecDepth 20000 in
theorem gL_law_X3_powMod : GoodIn wsL_law (wsV RL 75 RX3 yX3_powMod wsX3_powMod) := goodIn_app (goodIn_of _ (by decide +kernel)) ggL_law_X3_powMod
set_option maxRecDepth 20000 in
theorem ggL_law_X2_invMod : GoodIn wsL_law wsX2_invMod := goodIn_r _ [361, 31, 27, 258, 259, 260, 2, 261, 32, 167, 168, 169, 170, 24, 362, 363, 364, 30, 365, 44, 45, 39, 37, 46, 40, 47, 38, 266, 196, 197, 198, 42, 199, 200, 201, 202, 43, 48, 203, 204, 108, 205, 206, 207, 208, 134, 209, 210, 211, 120, 121, 122, 135, 136, 137, 138, 139, 140, 141, 142, 143, 144, 110, 111, 112, 366, 367, 368, 369, 106, 107, 109, 370, 371, 372, 373, 374, 375, 376, 131, 132, 133, 377, 378, 379, 283, 284, 285, 286, 415, 416, 417, 418, 419, 431, 432, 433, 434, 435, 436, 437, 438, 439, 440, 441, 442] (by decide +kernel) (by decide +kernel)
set_option maxRecDepth 20000 in
theorem gL_law_X2_invMod : GoodIn wsL_law (wsV RL 76 RX2 yX2_invMod wsX2_invMod) := goodIn_app (goodIn_of _ (by decide +kernel)) ggL_law_X2_invMod
set_option maxRecDepth 20000 in
theorem ggL_law_X3_invMod : GoodIn wsL_law wsX3_invMod := goodIn_r _ [383, 60, 55, 58, 61, 56, 216, 217, 218, 5, 219, 81, 175, 176, 177, 178, 63, 220, 221, 222, 223, 86, 87, 88, 89, 151, 152, 153, 154, 54, 179, 180, 181, 182, 224, 225, 226, 227, 59, 228, 229, 230, 231, 232, 233, 234, 235, 236, 237, 62, 238, 239, 240, 80, 241, 242, 243, 244, 245, 246, 247, 248, 249, 384, 385, 386, 328, 329, 330, 324, 325, 326, 327, 291, 292, 293, 294, 387, 388, 389, 250, 251, 252, 253, 420, 421, 422, 423, 424, 425, 426, 427, 428, 429, 430] (by decide +kernel) (by decide +kernel)
set_option maxRecDepth 20000 in
theorem gL_law_X3_invMod : GoodIn wsL_law (wsV RL 79 RX3 yX3_invMod wsX3_invMod) := goodIn_app (goodIn_of _ (by decide +kernel)) ggL_law_X3_invMod
set_option maxRecDepth 20000 in
theorem ggL_law_X2_witness : GoodIn wsL_law wsX2_witness := goodIn_r _ [393, 32, 31, 27, 167, 168, 169, 2, 170, 24, 394, 395, 396, 30, 397, 44, 42, 37, 46, 39, 41, 45, 199, 200, 201, 202, 43, 48, 203, 204, 108, 205, 206, 207, 208, 134, 209, 210, 211, 120, 121, 122, 135, 136, 137, 138, 139, 140, 141, 142, 143, 144, 110, 111, 112, 398, 399, 400, 401, 38, 349, 347, 348, 283, 284, 285, 286, 131, 132, 133, 339, 340, 341, 342, 343, 344, 345, 346, 415, 416, 417, 418, 419, 431, 432, 433, 434, 435, 436, 437, 438, 439, 440, 441, 442] (by decide +kernel) (by decide +kernel)
set_option maxRecDepth 20000 in
theorem gL_law_X2_witness : GoodIn wsL_law (wsV RL 80 RX2 yX2_witness wsX2_witness) := goodIn_app (goodIn_of _ (by decide +kernel)) ggL_law_X2_witness
set_option maxRecDepth 20000 in
theorem ggL_law_X3_witness : GoodIn wsL_law wsX3_witness := goodIn_r _ [405, 56, 61, 55, 58, 216, 217, 218, 5, 219, 81, 175, 176, 177, 178, 63, 220, 221, 222, 223, 86, 87, 88, 89, 151, 152, 153, 154, 54, 179, 180, 181, 182, 224, 225, 226, 227, 59, 228, 229, 230, 231, 232, 233, 234, 235, 236, 237, 62, 238, 239, 240, 80, 241, 242, 243, 244, 245, 246, 247, 248, 249, 384, 385, 386, 328, 329, 330, 354, 355, 356, 357, 60, 307, 308, 309, 310, 57, 271, 272, 273, 274, 387, 388, 389, 420, 421, 422, 423, 424, 425, 426, 427, 428, 429, 430] (by decide +kernel) (by decide +kernel)
set_option maxRecDepth 20000 in
theorem gL_law_X3_witness : GoodIn wsL_law (wsV RL 83 RX3 yX3_witness wsX3_witness) := goodIn_app (goodIn_of _ (by decide +kernel)) ggL_law_X3_witness
set_option maxRecDepth 20000 in
theorem ggL_law_X2_compare : GoodIn wsL_law wsX2_compare := goodIn_r _ [409, 27, 23, 167, 168, 169, 2, 170, 24, 410, 140, 108, 141, 134, 415, 416, 417, 418, 419] (by decide +kernel) (by decide +kernel)
set_option maxRecDepth 20000 in
theorem gL_law_X2_compare : GoodIn wsL_law (wsV RL 84 RX2 yX2_compare wsX2_compare) := goodIn_app (goodIn_of _ (by decide +kernel)) ggL_law_X2_compare
set_option maxRecDepth 20000 in
theorem ggL_law_X3_compare : GoodIn wsL_law wsX3_compare := goodIn_r _ [414, 56, 57, 175, 176, 177, 5, 178, 63, 179, 180, 181, 182, 151, 152, 153, 154, 54, 244, 245, 246, 420, 421, 422, 423, 424, 425, 426, 427, 428, 429, 430] (by decide +kernel) (by decide +kernel)
set_option maxRecDepth 20000 in
theorem gL_law_X3_compare : GoodIn wsL_law (wsV RL 87 RX3 yX3_compare wsX3_compare) := goodIn_app (goodIn_of _ (by decide +kernel)) ggL_law_X3_compare
theorem dL_law_0 : decode cL_law 0 = .ok (.new 7, 3) := by decide +kernel
theorem dL_law_3 : decode cL_law 3 = .ok (.dup, 1) := by decide +kernel
theorem dL_law_4 : decode cL_law 4 = .ok (.aload_n 0, 1) := by decide +kernel
theorem dL_law_5 : decode cL_law 5 = .ok (.iconst 0, 1) := by decide +kernel
theorem dL_law_6 : decode cL_law 6 = .ok (.invokestatic 9, 3) := by decide +kernel
theorem dL_law_9 : decode cL_law 9 = .ok (.aload_n 0, 1) := by decide +kernel
theorem dL_law_10 : decode cL_law 10 = .ok (.iconst 1, 1) := by decide +kernel
theorem dL_law_11 : decode cL_law 11 = .ok (.invokestatic 9, 3) := by decide +kernel
theorem dL_law_14 : decode cL_law 14 = .ok (.invokespecial 15, 3) := by decide +kernel
theorem dL_law_17 : decode cL_law 17 = .ok (.astore_n 1, 1) := by decide +kernel
theorem dL_law_18 : decode cL_law 18 = .ok (.new 18, 3) := by decide +kernel
theorem dL_law_21 : decode cL_law 21 = .ok (.dup, 1) := by decide +kernel
theorem dL_law_22 : decode cL_law 22 = .ok (.aload_n 0, 1) := by decide +kernel
theorem dL_law_23 : decode cL_law 23 = .ok (.iconst 0, 1) := by decide +kernel
theorem dL_law_24 : decode cL_law 24 = .ok (.invokestatic 9, 3) := by decide +kernel
theorem dL_law_27 : decode cL_law 27 = .ok (.aload_n 0, 1) := by decide +kernel
theorem dL_law_28 : decode cL_law 28 = .ok (.iconst 1, 1) := by decide +kernel
theorem dL_law_29 : decode cL_law 29 = .ok (.invokestatic 9, 3) := by decide +kernel
theorem dL_law_32 : decode cL_law 32 = .ok (.invokespecial 20, 3) := by decide +kernel
theorem dL_law_35 : decode cL_law 35 = .ok (.astore_n 2, 1) := by decide +kernel
theorem dL_law_36 : decode cL_law 36 = .ok (.iconst 2, 1) := by decide +kernel
theorem dL_law_37 : decode cL_law 37 = .ok (.istore_n 3, 1) := by decide +kernel
theorem dL_law_38 : decode cL_law 38 = .ok (.iload_n 3, 1) := by decide +kernel
theorem dL_law_39 : decode cL_law 39 = .ok (.aload_n 0, 1) := by decide +kernel
theorem dL_law_40 : decode cL_law 40 = .ok (.arraylength, 1) := by decide +kernel
theorem dL_law_41 : decode cL_law 41 = .ok (.iconst 4, 1) := by decide +kernel
theorem dL_law_42 : decode cL_law 42 = .ok (.isub, 1) := by decide +kernel
theorem dL_law_43 : decode cL_law 43 = .ok (.if_icmp .gt 576, 3) := by decide +kernel
theorem dL_law_46 : decode cL_law 46 = .ok (.aload_n 0, 1) := by decide +kernel
theorem dL_law_47 : decode cL_law 47 = .ok (.iload_n 3, 1) := by decide +kernel
theorem dL_law_48 : decode cL_law 48 = .ok (.iaload, 1) := by decide +kernel
theorem dL_law_49 : decode cL_law 49 = .ok (.bipush 15, 2) := by decide +kernel
theorem dL_law_51 : decode cL_law 51 = .ok (.iand, 1) := by decide +kernel
theorem dL_law_52 : decode cL_law 52 = .ok (.tableswitch 561 0 14 #[76, 109, 132, 145, 158, 201, 234, 257, 300, 343, 386, 429, 472, 505, 528], 76) := by decide +kernel
theorem dL_law_128 : decode cL_law 128 = .ok (.aload_n 1, 1) := by decide +kernel
theorem dL_law_129 : decode cL_law 129 = .ok (.aload_n 0, 1) := by decide +kernel
theorem dL_law_130 : decode cL_law 130 = .ok (.iload_n 3, 1) := by decide +kernel
theorem dL_law_131 : decode cL_law 131 = .ok (.iconst 1, 1) := by decide +kernel
theorem dL_law_132 : decode cL_law 132 = .ok (.iadd, 1) := by decide +kernel
theorem dL_law_133 : decode cL_law 133 = .ok (.iaload, 1) := by decide +kernel
theorem dL_law_134 : decode cL_law 134 = .ok (.aload_n 0, 1) := by decide +kernel
theorem dL_law_135 : decode cL_law 135 = .ok (.iload_n 3, 1) := by decide +kernel
theorem dL_law_136 : decode cL_law 136 = .ok (.iconst 2, 1) := by decide +kernel
theorem dL_law_137 : decode cL_law 137 = .ok (.iadd, 1) := by decide +kernel
theorem dL_law_138 : decode cL_law 138 = .ok (.iaload, 1) := by decide +kernel
theorem dL_law_139 : decode cL_law 139 = .ok (.invokevirtual 21, 3) := by decide +kernel
theorem dL_law_142 : decode cL_law 142 = .ok (.aload_n 2, 1) := by decide +kernel
theorem dL_law_143 : decode cL_law 143 = .ok (.aload_n 0, 1) := by decide +kernel
theorem dL_law_144 : decode cL_law 144 = .ok (.iload_n 3, 1) := by decide +kernel
theorem dL_law_145 : decode cL_law 145 = .ok (.iconst 1, 1) := by decide +kernel
theorem dL_law_146 : decode cL_law 146 = .ok (.iadd, 1) := by decide +kernel
theorem dL_law_147 : decode cL_law 147 = .ok (.iaload, 1) := by decide +kernel
theorem dL_law_148 : decode cL_law 148 = .ok (.aload_n 0, 1) := by decide +kernel
theorem dL_law_149 : decode cL_law 149 = .ok (.iload_n 3, 1) := by decide +kernel
theorem dL_law_150 : decode cL_law 150 = .ok (.iconst 2, 1) := by decide +kernel
theorem dL_law_151 : decode cL_law 151 = .ok (.iadd, 1) := by decide +kernel
theorem dL_law_152 : decode cL_law 152 = .ok (.iaload, 1) := by decide +kernel
theorem dL_law_153 : decode cL_law 153 = .ok (.invokevirtual 25, 3) := by decide +kernel
theorem dL_law_156 : decode cL_law 156 = .ok (.if_icmp .eq 457, 3) := by decide +kernel
theorem dL_law_159 : decode cL_law 159 = .ok (.iconst 0, 1) := by decide +kernel
theorem dL_law_160 : decode cL_law 160 = .ok (.ireturn, 1) := by decide +kernel
theorem dL_law_161 : decode cL_law 161 = .ok (.aload_n 1, 1) := by decide +kernel
theorem dL_law_162 : decode cL_law 162 = .ok (.aload_n 0, 1) := by decide +kernel
theorem dL_law_163 : decode cL_law 163 = .ok (.iload_n 3, 1) := by decide +kernel
theorem dL_law_164 : decode cL_law 164 = .ok (.iconst 1, 1) := by decide +kernel
theorem dL_law_165 : decode cL_law 165 = .ok (.iadd, 1) := by decide +kernel
theorem dL_law_166 : decode cL_law 166 = .ok (.iaload, 1) := by decide +kernel
theorem dL_law_167 : decode cL_law 167 = .ok (.invokevirtual 26, 3) := by decide +kernel
theorem dL_law_170 : decode cL_law 170 = .ok (.aload_n 2, 1) := by decide +kernel
theorem dL_law_171 : decode cL_law 171 = .ok (.aload_n 0, 1) := by decide +kernel
theorem dL_law_172 : decode cL_law 172 = .ok (.iload_n 3, 1) := by decide +kernel
theorem dL_law_173 : decode cL_law 173 = .ok (.iconst 1, 1) := by decide +kernel
theorem dL_law_174 : decode cL_law 174 = .ok (.iadd, 1) := by decide +kernel
theorem dL_law_175 : decode cL_law 175 = .ok (.iaload, 1) := by decide +kernel
theorem dL_law_176 : decode cL_law 176 = .ok (.invokevirtual 30, 3) := by decide +kernel
theorem dL_law_179 : decode cL_law 179 = .ok (.if_icmp .eq 434, 3) := by decide +kernel
theorem dL_law_182 : decode cL_law 182 = .ok (.iconst 0, 1) := by decide +kernel
theorem dL_law_183 : decode cL_law 183 = .ok (.ireturn, 1) := by decide +kernel
theorem dL_law_184 : decode cL_law 184 = .ok (.aload_n 1, 1) := by decide +kernel
theorem dL_law_185 : decode cL_law 185 = .ok (.invokevirtual 31, 3) := by decide +kernel
theorem dL_law_188 : decode cL_law 188 = .ok (.aload_n 2, 1) := by decide +kernel
theorem dL_law_189 : decode cL_law 189 = .ok (.invokevirtual 35, 3) := by decide +kernel
theorem dL_law_192 : decode cL_law 192 = .ok (.if_icmp .eq 421, 3) := by decide +kernel
theorem dL_law_195 : decode cL_law 195 = .ok (.iconst 0, 1) := by decide +kernel
theorem dL_law_196 : decode cL_law 196 = .ok (.ireturn, 1) := by decide +kernel
theorem dL_law_197 : decode cL_law 197 = .ok (.aload_n 1, 1) := by decide +kernel
theorem dL_law_198 : decode cL_law 198 = .ok (.invokevirtual 36, 3) := by decide +kernel
theorem dL_law_201 : decode cL_law 201 = .ok (.aload_n 2, 1) := by decide +kernel
theorem dL_law_202 : decode cL_law 202 = .ok (.invokevirtual 40, 3) := by decide +kernel
theorem dL_law_205 : decode cL_law 205 = .ok (.if_icmp .eq 408, 3) := by decide +kernel
theorem dL_law_208 : decode cL_law 208 = .ok (.iconst 0, 1) := by decide +kernel
theorem dL_law_209 : decode cL_law 209 = .ok (.ireturn, 1) := by decide +kernel
theorem dL_law_210 : decode cL_law 210 = .ok (.aload_n 1, 1) := by decide +kernel
theorem dL_law_211 : decode cL_law 211 = .ok (.aload_n 0, 1) := by decide +kernel
theorem dL_law_212 : decode cL_law 212 = .ok (.iload_n 3, 1) := by decide +kernel
theorem dL_law_213 : decode cL_law 213 = .ok (.iconst 1, 1) := by decide +kernel
theorem dL_law_214 : decode cL_law 214 = .ok (.iadd, 1) := by decide +kernel
theorem dL_law_215 : decode cL_law 215 = .ok (.iaload, 1) := by decide +kernel
theorem dL_law_216 : decode cL_law 216 = .ok (.aload_n 0, 1) := by decide +kernel
theorem dL_law_217 : decode cL_law 217 = .ok (.iload_n 3, 1) := by decide +kernel
theorem dL_law_218 : decode cL_law 218 = .ok (.iconst 2, 1) := by decide +kernel
theorem dL_law_219 : decode cL_law 219 = .ok (.iadd, 1) := by decide +kernel
theorem dL_law_220 : decode cL_law 220 = .ok (.iaload, 1) := by decide +kernel
theorem dL_law_221 : decode cL_law 221 = .ok (.aload_n 0, 1) := by decide +kernel
theorem dL_law_222 : decode cL_law 222 = .ok (.iload_n 3, 1) := by decide +kernel
theorem dL_law_223 : decode cL_law 223 = .ok (.iconst 3, 1) := by decide +kernel
theorem dL_law_224 : decode cL_law 224 = .ok (.iadd, 1) := by decide +kernel
theorem dL_law_225 : decode cL_law 225 = .ok (.iaload, 1) := by decide +kernel
theorem dL_law_226 : decode cL_law 226 = .ok (.invokevirtual 41, 3) := by decide +kernel
theorem dL_law_229 : decode cL_law 229 = .ok (.aload_n 2, 1) := by decide +kernel
theorem dL_law_230 : decode cL_law 230 = .ok (.aload_n 0, 1) := by decide +kernel
theorem dL_law_231 : decode cL_law 231 = .ok (.iload_n 3, 1) := by decide +kernel
theorem dL_law_232 : decode cL_law 232 = .ok (.iconst 1, 1) := by decide +kernel
theorem dL_law_233 : decode cL_law 233 = .ok (.iadd, 1) := by decide +kernel
theorem dL_law_234 : decode cL_law 234 = .ok (.iaload, 1) := by decide +kernel
theorem dL_law_235 : decode cL_law 235 = .ok (.aload_n 0, 1) := by decide +kernel
theorem dL_law_236 : decode cL_law 236 = .ok (.iload_n 3, 1) := by decide +kernel
theorem dL_law_237 : decode cL_law 237 = .ok (.iconst 2, 1) := by decide +kernel
theorem dL_law_238 : decode cL_law 238 = .ok (.iadd, 1) := by decide +kernel
theorem dL_law_239 : decode cL_law 239 = .ok (.iaload, 1) := by decide +kernel
theorem dL_law_240 : decode cL_law 240 = .ok (.aload_n 0, 1) := by decide +kernel
theorem dL_law_241 : decode cL_law 241 = .ok (.iload_n 3, 1) := by decide +kernel
theorem dL_law_242 : decode cL_law 242 = .ok (.iconst 3, 1) := by decide +kernel
theorem dL_law_243 : decode cL_law 243 = .ok (.iadd, 1) := by decide +kernel
theorem dL_law_244 : decode cL_law 244 = .ok (.iaload, 1) := by decide +kernel
theorem dL_law_245 : decode cL_law 245 = .ok (.invokevirtual 45, 3) := by decide +kernel
theorem dL_law_248 : decode cL_law 248 = .ok (.if_icmp .eq 365, 3) := by decide +kernel
theorem dL_law_251 : decode cL_law 251 = .ok (.iconst 0, 1) := by decide +kernel
theorem dL_law_252 : decode cL_law 252 = .ok (.ireturn, 1) := by decide +kernel
theorem dL_law_253 : decode cL_law 253 = .ok (.aload_n 1, 1) := by decide +kernel
theorem dL_law_254 : decode cL_law 254 = .ok (.aload_n 0, 1) := by decide +kernel
theorem dL_law_255 : decode cL_law 255 = .ok (.iload_n 3, 1) := by decide +kernel
theorem dL_law_256 : decode cL_law 256 = .ok (.iconst 1, 1) := by decide +kernel
theorem dL_law_257 : decode cL_law 257 = .ok (.iadd, 1) := by decide +kernel
theorem dL_law_258 : decode cL_law 258 = .ok (.iaload, 1) := by decide +kernel
theorem dL_law_259 : decode cL_law 259 = .ok (.aload_n 0, 1) := by decide +kernel
theorem dL_law_260 : decode cL_law 260 = .ok (.iload_n 3, 1) := by decide +kernel
theorem dL_law_261 : decode cL_law 261 = .ok (.iconst 2, 1) := by decide +kernel
theorem dL_law_262 : decode cL_law 262 = .ok (.iadd, 1) := by decide +kernel
theorem dL_law_263 : decode cL_law 263 = .ok (.iaload, 1) := by decide +kernel
theorem dL_law_264 : decode cL_law 264 = .ok (.invokevirtual 46, 3) := by decide +kernel
theorem dL_law_267 : decode cL_law 267 = .ok (.aload_n 2, 1) := by decide +kernel
theorem dL_law_268 : decode cL_law 268 = .ok (.aload_n 0, 1) := by decide +kernel
theorem dL_law_269 : decode cL_law 269 = .ok (.iload_n 3, 1) := by decide +kernel
theorem dL_law_270 : decode cL_law 270 = .ok (.iconst 1, 1) := by decide +kernel
theorem dL_law_271 : decode cL_law 271 = .ok (.iadd, 1) := by decide +kernel
theorem dL_law_272 : decode cL_law 272 = .ok (.iaload, 1) := by decide +kernel
theorem dL_law_273 : decode cL_law 273 = .ok (.aload_n 0, 1) := by decide +kernel
theorem dL_law_274 : decode cL_law 274 = .ok (.iload_n 3, 1) := by decide +kernel
theorem dL_law_275 : decode cL_law 275 = .ok (.iconst 2, 1) := by decide +kernel
theorem dL_law_276 : decode cL_law 276 = .ok (.iadd, 1) := by decide +kernel
theorem dL_law_277 : decode cL_law 277 = .ok (.iaload, 1) := by decide +kernel
theorem dL_law_278 : decode cL_law 278 = .ok (.invokevirtual 50, 3) := by decide +kernel
theorem dL_law_281 : decode cL_law 281 = .ok (.if_icmp .eq 332, 3) := by decide +kernel
theorem dL_law_284 : decode cL_law 284 = .ok (.iconst 0, 1) := by decide +kernel
theorem dL_law_285 : decode cL_law 285 = .ok (.ireturn, 1) := by decide +kernel
theorem dL_law_286 : decode cL_law 286 = .ok (.aload_n 1, 1) := by decide +kernel
theorem dL_law_287 : decode cL_law 287 = .ok (.aload_n 0, 1) := by decide +kernel
theorem dL_law_288 : decode cL_law 288 = .ok (.iload_n 3, 1) := by decide +kernel
theorem dL_law_289 : decode cL_law 289 = .ok (.iconst 1, 1) := by decide +kernel
theorem dL_law_290 : decode cL_law 290 = .ok (.iadd, 1) := by decide +kernel
theorem dL_law_291 : decode cL_law 291 = .ok (.iaload, 1) := by decide +kernel
theorem dL_law_292 : decode cL_law 292 = .ok (.invokevirtual 51, 3) := by decide +kernel
theorem dL_law_295 : decode cL_law 295 = .ok (.aload_n 2, 1) := by decide +kernel
theorem dL_law_296 : decode cL_law 296 = .ok (.aload_n 0, 1) := by decide +kernel
theorem dL_law_297 : decode cL_law 297 = .ok (.iload_n 3, 1) := by decide +kernel
theorem dL_law_298 : decode cL_law 298 = .ok (.iconst 1, 1) := by decide +kernel
theorem dL_law_299 : decode cL_law 299 = .ok (.iadd, 1) := by decide +kernel
theorem dL_law_300 : decode cL_law 300 = .ok (.iaload, 1) := by decide +kernel
theorem dL_law_301 : decode cL_law 301 = .ok (.invokevirtual 55, 3) := by decide +kernel
theorem dL_law_304 : decode cL_law 304 = .ok (.if_icmp .eq 309, 3) := by decide +kernel
theorem dL_law_307 : decode cL_law 307 = .ok (.iconst 0, 1) := by decide +kernel
theorem dL_law_308 : decode cL_law 308 = .ok (.ireturn, 1) := by decide +kernel
theorem dL_law_309 : decode cL_law 309 = .ok (.aload_n 1, 1) := by decide +kernel
theorem dL_law_310 : decode cL_law 310 = .ok (.aload_n 0, 1) := by decide +kernel
theorem dL_law_311 : decode cL_law 311 = .ok (.iload_n 3, 1) := by decide +kernel
theorem dL_law_312 : decode cL_law 312 = .ok (.iconst 1, 1) := by decide +kernel
theorem dL_law_313 : decode cL_law 313 = .ok (.iadd, 1) := by decide +kernel
theorem dL_law_314 : decode cL_law 314 = .ok (.iaload, 1) := by decide +kernel
theorem dL_law_315 : decode cL_law 315 = .ok (.aload_n 0, 1) := by decide +kernel
theorem dL_law_316 : decode cL_law 316 = .ok (.iload_n 3, 1) := by decide +kernel
theorem dL_law_317 : decode cL_law 317 = .ok (.iconst 2, 1) := by decide +kernel
theorem dL_law_318 : decode cL_law 318 = .ok (.iadd, 1) := by decide +kernel
theorem dL_law_319 : decode cL_law 319 = .ok (.iaload, 1) := by decide +kernel
theorem dL_law_320 : decode cL_law 320 = .ok (.aload_n 0, 1) := by decide +kernel
theorem dL_law_321 : decode cL_law 321 = .ok (.iload_n 3, 1) := by decide +kernel
theorem dL_law_322 : decode cL_law 322 = .ok (.iconst 3, 1) := by decide +kernel
theorem dL_law_323 : decode cL_law 323 = .ok (.iadd, 1) := by decide +kernel
theorem dL_law_324 : decode cL_law 324 = .ok (.iaload, 1) := by decide +kernel
theorem dL_law_325 : decode cL_law 325 = .ok (.invokevirtual 56, 3) := by decide +kernel
theorem dL_law_328 : decode cL_law 328 = .ok (.aload_n 2, 1) := by decide +kernel
theorem dL_law_329 : decode cL_law 329 = .ok (.aload_n 0, 1) := by decide +kernel
theorem dL_law_330 : decode cL_law 330 = .ok (.iload_n 3, 1) := by decide +kernel
theorem dL_law_331 : decode cL_law 331 = .ok (.iconst 1, 1) := by decide +kernel
theorem dL_law_332 : decode cL_law 332 = .ok (.iadd, 1) := by decide +kernel
theorem dL_law_333 : decode cL_law 333 = .ok (.iaload, 1) := by decide +kernel
theorem dL_law_334 : decode cL_law 334 = .ok (.aload_n 0, 1) := by decide +kernel
theorem dL_law_335 : decode cL_law 335 = .ok (.iload_n 3, 1) := by decide +kernel
theorem dL_law_336 : decode cL_law 336 = .ok (.iconst 2, 1) := by decide +kernel
theorem dL_law_337 : decode cL_law 337 = .ok (.iadd, 1) := by decide +kernel
theorem dL_law_338 : decode cL_law 338 = .ok (.iaload, 1) := by decide +kernel
theorem dL_law_339 : decode cL_law 339 = .ok (.aload_n 0, 1) := by decide +kernel
theorem dL_law_340 : decode cL_law 340 = .ok (.iload_n 3, 1) := by decide +kernel
theorem dL_law_341 : decode cL_law 341 = .ok (.iconst 3, 1) := by decide +kernel
theorem dL_law_342 : decode cL_law 342 = .ok (.iadd, 1) := by decide +kernel
theorem dL_law_343 : decode cL_law 343 = .ok (.iaload, 1) := by decide +kernel
theorem dL_law_344 : decode cL_law 344 = .ok (.invokevirtual 59, 3) := by decide +kernel
theorem dL_law_347 : decode cL_law 347 = .ok (.if_icmp .eq 266, 3) := by decide +kernel
theorem dL_law_350 : decode cL_law 350 = .ok (.iconst 0, 1) := by decide +kernel
theorem dL_law_351 : decode cL_law 351 = .ok (.ireturn, 1) := by decide +kernel
theorem dL_law_352 : decode cL_law 352 = .ok (.aload_n 1, 1) := by decide +kernel
theorem dL_law_353 : decode cL_law 353 = .ok (.aload_n 0, 1) := by decide +kernel
theorem dL_law_354 : decode cL_law 354 = .ok (.iload_n 3, 1) := by decide +kernel
theorem dL_law_355 : decode cL_law 355 = .ok (.iconst 1, 1) := by decide +kernel
theorem dL_law_356 : decode cL_law 356 = .ok (.iadd, 1) := by decide +kernel
theorem dL_law_357 : decode cL_law 357 = .ok (.iaload, 1) := by decide +kernel
theorem dL_law_358 : decode cL_law 358 = .ok (.aload_n 0, 1) := by decide +kernel
theorem dL_law_359 : decode cL_law 359 = .ok (.iload_n 3, 1) := by decide +kernel
theorem dL_law_360 : decode cL_law 360 = .ok (.iconst 2, 1) := by decide +kernel
theorem dL_law_361 : decode cL_law 361 = .ok (.iadd, 1) := by decide +kernel
theorem dL_law_362 : decode cL_law 362 = .ok (.iaload, 1) := by decide +kernel
theorem dL_law_363 : decode cL_law 363 = .ok (.aload_n 0, 1) := by decide +kernel
theorem dL_law_364 : decode cL_law 364 = .ok (.iload_n 3, 1) := by decide +kernel
theorem dL_law_365 : decode cL_law 365 = .ok (.iconst 3, 1) := by decide +kernel
theorem dL_law_366 : decode cL_law 366 = .ok (.iadd, 1) := by decide +kernel
theorem dL_law_367 : decode cL_law 367 = .ok (.iaload, 1) := by decide +kernel
theorem dL_law_368 : decode cL_law 368 = .ok (.invokevirtual 60, 3) := by decide +kernel
theorem dL_law_371 : decode cL_law 371 = .ok (.aload_n 2, 1) := by decide +kernel
theorem dL_law_372 : decode cL_law 372 = .ok (.aload_n 0, 1) := by decide +kernel
theorem dL_law_373 : decode cL_law 373 = .ok (.iload_n 3, 1) := by decide +kernel
theorem dL_law_374 : decode cL_law 374 = .ok (.iconst 1, 1) := by decide +kernel
theorem dL_law_375 : decode cL_law 375 = .ok (.iadd, 1) := by decide +kernel
theorem dL_law_376 : decode cL_law 376 = .ok (.iaload, 1) := by decide +kernel
theorem dL_law_377 : decode cL_law 377 = .ok (.aload_n 0, 1) := by decide +kernel
theorem dL_law_378 : decode cL_law 378 = .ok (.iload_n 3, 1) := by decide +kernel
theorem dL_law_379 : decode cL_law 379 = .ok (.iconst 2, 1) := by decide +kernel
theorem dL_law_380 : decode cL_law 380 = .ok (.iadd, 1) := by decide +kernel
theorem dL_law_381 : decode cL_law 381 = .ok (.iaload, 1) := by decide +kernel
theorem dL_law_382 : decode cL_law 382 = .ok (.aload_n 0, 1) := by decide +kernel
theorem dL_law_383 : decode cL_law 383 = .ok (.iload_n 3, 1) := by decide +kernel
theorem dL_law_384 : decode cL_law 384 = .ok (.iconst 3, 1) := by decide +kernel
theorem dL_law_385 : decode cL_law 385 = .ok (.iadd, 1) := by decide +kernel
theorem dL_law_386 : decode cL_law 386 = .ok (.iaload, 1) := by decide +kernel
theorem dL_law_387 : decode cL_law 387 = .ok (.invokevirtual 63, 3) := by decide +kernel
theorem dL_law_390 : decode cL_law 390 = .ok (.if_icmp .eq 223, 3) := by decide +kernel
theorem dL_law_393 : decode cL_law 393 = .ok (.iconst 0, 1) := by decide +kernel
theorem dL_law_394 : decode cL_law 394 = .ok (.ireturn, 1) := by decide +kernel
theorem dL_law_395 : decode cL_law 395 = .ok (.aload_n 1, 1) := by decide +kernel
theorem dL_law_396 : decode cL_law 396 = .ok (.aload_n 0, 1) := by decide +kernel
theorem dL_law_397 : decode cL_law 397 = .ok (.iload_n 3, 1) := by decide +kernel
theorem dL_law_398 : decode cL_law 398 = .ok (.iconst 1, 1) := by decide +kernel
theorem dL_law_399 : decode cL_law 399 = .ok (.iadd, 1) := by decide +kernel
theorem dL_law_400 : decode cL_law 400 = .ok (.iaload, 1) := by decide +kernel
theorem dL_law_401 : decode cL_law 401 = .ok (.aload_n 0, 1) := by decide +kernel
theorem dL_law_402 : decode cL_law 402 = .ok (.iload_n 3, 1) := by decide +kernel
theorem dL_law_403 : decode cL_law 403 = .ok (.iconst 2, 1) := by decide +kernel
theorem dL_law_404 : decode cL_law 404 = .ok (.iadd, 1) := by decide +kernel
theorem dL_law_405 : decode cL_law 405 = .ok (.iaload, 1) := by decide +kernel
theorem dL_law_406 : decode cL_law 406 = .ok (.aload_n 0, 1) := by decide +kernel
theorem dL_law_407 : decode cL_law 407 = .ok (.iload_n 3, 1) := by decide +kernel
theorem dL_law_408 : decode cL_law 408 = .ok (.iconst 3, 1) := by decide +kernel
theorem dL_law_409 : decode cL_law 409 = .ok (.iadd, 1) := by decide +kernel
theorem dL_law_410 : decode cL_law 410 = .ok (.iaload, 1) := by decide +kernel
theorem dL_law_411 : decode cL_law 411 = .ok (.invokevirtual 64, 3) := by decide +kernel
theorem dL_law_414 : decode cL_law 414 = .ok (.aload_n 2, 1) := by decide +kernel
theorem dL_law_415 : decode cL_law 415 = .ok (.aload_n 0, 1) := by decide +kernel
theorem dL_law_416 : decode cL_law 416 = .ok (.iload_n 3, 1) := by decide +kernel
theorem dL_law_417 : decode cL_law 417 = .ok (.iconst 1, 1) := by decide +kernel
theorem dL_law_418 : decode cL_law 418 = .ok (.iadd, 1) := by decide +kernel
theorem dL_law_419 : decode cL_law 419 = .ok (.iaload, 1) := by decide +kernel
theorem dL_law_420 : decode cL_law 420 = .ok (.aload_n 0, 1) := by decide +kernel
theorem dL_law_421 : decode cL_law 421 = .ok (.iload_n 3, 1) := by decide +kernel
theorem dL_law_422 : decode cL_law 422 = .ok (.iconst 2, 1) := by decide +kernel
theorem dL_law_423 : decode cL_law 423 = .ok (.iadd, 1) := by decide +kernel
theorem dL_law_424 : decode cL_law 424 = .ok (.iaload, 1) := by decide +kernel
theorem dL_law_425 : decode cL_law 425 = .ok (.aload_n 0, 1) := by decide +kernel
theorem dL_law_426 : decode cL_law 426 = .ok (.iload_n 3, 1) := by decide +kernel
theorem dL_law_427 : decode cL_law 427 = .ok (.iconst 3, 1) := by decide +kernel
theorem dL_law_428 : decode cL_law 428 = .ok (.iadd, 1) := by decide +kernel
theorem dL_law_429 : decode cL_law 429 = .ok (.iaload, 1) := by decide +kernel
theorem dL_law_430 : decode cL_law 430 = .ok (.invokevirtual 67, 3) := by decide +kernel
theorem dL_law_433 : decode cL_law 433 = .ok (.if_icmp .eq 180, 3) := by decide +kernel
theorem dL_law_436 : decode cL_law 436 = .ok (.iconst 0, 1) := by decide +kernel
theorem dL_law_437 : decode cL_law 437 = .ok (.ireturn, 1) := by decide +kernel
theorem dL_law_438 : decode cL_law 438 = .ok (.aload_n 1, 1) := by decide +kernel
theorem dL_law_439 : decode cL_law 439 = .ok (.aload_n 0, 1) := by decide +kernel
theorem dL_law_440 : decode cL_law 440 = .ok (.iload_n 3, 1) := by decide +kernel
theorem dL_law_441 : decode cL_law 441 = .ok (.iconst 1, 1) := by decide +kernel
theorem dL_law_442 : decode cL_law 442 = .ok (.iadd, 1) := by decide +kernel
theorem dL_law_443 : decode cL_law 443 = .ok (.iaload, 1) := by decide +kernel
theorem dL_law_444 : decode cL_law 444 = .ok (.aload_n 0, 1) := by decide +kernel
theorem dL_law_445 : decode cL_law 445 = .ok (.iload_n 3, 1) := by decide +kernel
theorem dL_law_446 : decode cL_law 446 = .ok (.iconst 2, 1) := by decide +kernel
theorem dL_law_447 : decode cL_law 447 = .ok (.iadd, 1) := by decide +kernel
theorem dL_law_448 : decode cL_law 448 = .ok (.iaload, 1) := by decide +kernel
theorem dL_law_449 : decode cL_law 449 = .ok (.aload_n 0, 1) := by decide +kernel
theorem dL_law_450 : decode cL_law 450 = .ok (.iload_n 3, 1) := by decide +kernel
theorem dL_law_451 : decode cL_law 451 = .ok (.iconst 3, 1) := by decide +kernel
theorem dL_law_452 : decode cL_law 452 = .ok (.iadd, 1) := by decide +kernel
theorem dL_law_453 : decode cL_law 453 = .ok (.iaload, 1) := by decide +kernel
theorem dL_law_454 : decode cL_law 454 = .ok (.invokevirtual 68, 3) := by decide +kernel
theorem dL_law_457 : decode cL_law 457 = .ok (.aload_n 2, 1) := by decide +kernel
theorem dL_law_458 : decode cL_law 458 = .ok (.aload_n 0, 1) := by decide +kernel
theorem dL_law_459 : decode cL_law 459 = .ok (.iload_n 3, 1) := by decide +kernel
theorem dL_law_460 : decode cL_law 460 = .ok (.iconst 1, 1) := by decide +kernel
theorem dL_law_461 : decode cL_law 461 = .ok (.iadd, 1) := by decide +kernel
theorem dL_law_462 : decode cL_law 462 = .ok (.iaload, 1) := by decide +kernel
theorem dL_law_463 : decode cL_law 463 = .ok (.aload_n 0, 1) := by decide +kernel
theorem dL_law_464 : decode cL_law 464 = .ok (.iload_n 3, 1) := by decide +kernel
theorem dL_law_465 : decode cL_law 465 = .ok (.iconst 2, 1) := by decide +kernel
theorem dL_law_466 : decode cL_law 466 = .ok (.iadd, 1) := by decide +kernel
theorem dL_law_467 : decode cL_law 467 = .ok (.iaload, 1) := by decide +kernel
theorem dL_law_468 : decode cL_law 468 = .ok (.aload_n 0, 1) := by decide +kernel
theorem dL_law_469 : decode cL_law 469 = .ok (.iload_n 3, 1) := by decide +kernel
theorem dL_law_470 : decode cL_law 470 = .ok (.iconst 3, 1) := by decide +kernel
theorem dL_law_471 : decode cL_law 471 = .ok (.iadd, 1) := by decide +kernel
theorem dL_law_472 : decode cL_law 472 = .ok (.iaload, 1) := by decide +kernel
theorem dL_law_473 : decode cL_law 473 = .ok (.invokevirtual 71, 3) := by decide +kernel
theorem dL_law_476 : decode cL_law 476 = .ok (.if_icmp .eq 137, 3) := by decide +kernel
theorem dL_law_479 : decode cL_law 479 = .ok (.iconst 0, 1) := by decide +kernel
theorem dL_law_480 : decode cL_law 480 = .ok (.ireturn, 1) := by decide +kernel
theorem dL_law_481 : decode cL_law 481 = .ok (.aload_n 1, 1) := by decide +kernel
theorem dL_law_482 : decode cL_law 482 = .ok (.aload_n 0, 1) := by decide +kernel
theorem dL_law_483 : decode cL_law 483 = .ok (.iload_n 3, 1) := by decide +kernel
theorem dL_law_484 : decode cL_law 484 = .ok (.iconst 1, 1) := by decide +kernel
theorem dL_law_485 : decode cL_law 485 = .ok (.iadd, 1) := by decide +kernel
theorem dL_law_486 : decode cL_law 486 = .ok (.iaload, 1) := by decide +kernel
theorem dL_law_487 : decode cL_law 487 = .ok (.aload_n 0, 1) := by decide +kernel
theorem dL_law_488 : decode cL_law 488 = .ok (.iload_n 3, 1) := by decide +kernel
theorem dL_law_489 : decode cL_law 489 = .ok (.iconst 2, 1) := by decide +kernel
theorem dL_law_490 : decode cL_law 490 = .ok (.iadd, 1) := by decide +kernel
theorem dL_law_491 : decode cL_law 491 = .ok (.iaload, 1) := by decide +kernel
theorem dL_law_492 : decode cL_law 492 = .ok (.aload_n 0, 1) := by decide +kernel
theorem dL_law_493 : decode cL_law 493 = .ok (.iload_n 3, 1) := by decide +kernel
theorem dL_law_494 : decode cL_law 494 = .ok (.iconst 3, 1) := by decide +kernel
theorem dL_law_495 : decode cL_law 495 = .ok (.iadd, 1) := by decide +kernel
theorem dL_law_496 : decode cL_law 496 = .ok (.iaload, 1) := by decide +kernel
theorem dL_law_497 : decode cL_law 497 = .ok (.invokevirtual 72, 3) := by decide +kernel
theorem dL_law_500 : decode cL_law 500 = .ok (.aload_n 2, 1) := by decide +kernel
theorem dL_law_501 : decode cL_law 501 = .ok (.aload_n 0, 1) := by decide +kernel
theorem dL_law_502 : decode cL_law 502 = .ok (.iload_n 3, 1) := by decide +kernel
theorem dL_law_503 : decode cL_law 503 = .ok (.iconst 1, 1) := by decide +kernel
theorem dL_law_504 : decode cL_law 504 = .ok (.iadd, 1) := by decide +kernel
theorem dL_law_505 : decode cL_law 505 = .ok (.iaload, 1) := by decide +kernel
theorem dL_law_506 : decode cL_law 506 = .ok (.aload_n 0, 1) := by decide +kernel
theorem dL_law_507 : decode cL_law 507 = .ok (.iload_n 3, 1) := by decide +kernel
theorem dL_law_508 : decode cL_law 508 = .ok (.iconst 2, 1) := by decide +kernel
theorem dL_law_509 : decode cL_law 509 = .ok (.iadd, 1) := by decide +kernel
theorem dL_law_510 : decode cL_law 510 = .ok (.iaload, 1) := by decide +kernel
theorem dL_law_511 : decode cL_law 511 = .ok (.aload_n 0, 1) := by decide +kernel
theorem dL_law_512 : decode cL_law 512 = .ok (.iload_n 3, 1) := by decide +kernel
theorem dL_law_513 : decode cL_law 513 = .ok (.iconst 3, 1) := by decide +kernel
theorem dL_law_514 : decode cL_law 514 = .ok (.iadd, 1) := by decide +kernel
theorem dL_law_515 : decode cL_law 515 = .ok (.iaload, 1) := by decide +kernel
theorem dL_law_516 : decode cL_law 516 = .ok (.invokevirtual 75, 3) := by decide +kernel
theorem dL_law_519 : decode cL_law 519 = .ok (.if_icmp .eq 94, 3) := by decide +kernel
theorem dL_law_522 : decode cL_law 522 = .ok (.iconst 0, 1) := by decide +kernel
theorem dL_law_523 : decode cL_law 523 = .ok (.ireturn, 1) := by decide +kernel
theorem dL_law_524 : decode cL_law 524 = .ok (.aload_n 1, 1) := by decide +kernel
theorem dL_law_525 : decode cL_law 525 = .ok (.aload_n 0, 1) := by decide +kernel
theorem dL_law_526 : decode cL_law 526 = .ok (.iload_n 3, 1) := by decide +kernel
theorem dL_law_527 : decode cL_law 527 = .ok (.iconst 1, 1) := by decide +kernel
theorem dL_law_528 : decode cL_law 528 = .ok (.iadd, 1) := by decide +kernel
theorem dL_law_529 : decode cL_law 529 = .ok (.iaload, 1) := by decide +kernel
theorem dL_law_530 : decode cL_law 530 = .ok (.aload_n 0, 1) := by decide +kernel
theorem dL_law_531 : decode cL_law 531 = .ok (.iload_n 3, 1) := by decide +kernel
theorem dL_law_532 : decode cL_law 532 = .ok (.iconst 2, 1) := by decide +kernel
theorem dL_law_533 : decode cL_law 533 = .ok (.iadd, 1) := by decide +kernel
theorem dL_law_534 : decode cL_law 534 = .ok (.iaload, 1) := by decide +kernel
theorem dL_law_535 : decode cL_law 535 = .ok (.invokevirtual 76, 3) := by decide +kernel
theorem dL_law_538 : decode cL_law 538 = .ok (.aload_n 2, 1) := by decide +kernel
theorem dL_law_539 : decode cL_law 539 = .ok (.aload_n 0, 1) := by decide +kernel
theorem dL_law_540 : decode cL_law 540 = .ok (.iload_n 3, 1) := by decide +kernel
theorem dL_law_541 : decode cL_law 541 = .ok (.iconst 1, 1) := by decide +kernel
theorem dL_law_542 : decode cL_law 542 = .ok (.iadd, 1) := by decide +kernel
theorem dL_law_543 : decode cL_law 543 = .ok (.iaload, 1) := by decide +kernel
theorem dL_law_544 : decode cL_law 544 = .ok (.aload_n 0, 1) := by decide +kernel
theorem dL_law_545 : decode cL_law 545 = .ok (.iload_n 3, 1) := by decide +kernel
theorem dL_law_546 : decode cL_law 546 = .ok (.iconst 2, 1) := by decide +kernel
theorem dL_law_547 : decode cL_law 547 = .ok (.iadd, 1) := by decide +kernel
theorem dL_law_548 : decode cL_law 548 = .ok (.iaload, 1) := by decide +kernel
theorem dL_law_549 : decode cL_law 549 = .ok (.invokevirtual 79, 3) := by decide +kernel
theorem dL_law_552 : decode cL_law 552 = .ok (.if_icmp .eq 61, 3) := by decide +kernel
theorem dL_law_555 : decode cL_law 555 = .ok (.iconst 0, 1) := by decide +kernel
theorem dL_law_556 : decode cL_law 556 = .ok (.ireturn, 1) := by decide +kernel
theorem dL_law_557 : decode cL_law 557 = .ok (.aload_n 1, 1) := by decide +kernel
theorem dL_law_558 : decode cL_law 558 = .ok (.aload_n 0, 1) := by decide +kernel
theorem dL_law_559 : decode cL_law 559 = .ok (.iload_n 3, 1) := by decide +kernel
theorem dL_law_560 : decode cL_law 560 = .ok (.iconst 1, 1) := by decide +kernel
theorem dL_law_561 : decode cL_law 561 = .ok (.iadd, 1) := by decide +kernel
theorem dL_law_562 : decode cL_law 562 = .ok (.iaload, 1) := by decide +kernel
theorem dL_law_563 : decode cL_law 563 = .ok (.invokevirtual 80, 3) := by decide +kernel
theorem dL_law_566 : decode cL_law 566 = .ok (.aload_n 2, 1) := by decide +kernel
theorem dL_law_567 : decode cL_law 567 = .ok (.aload_n 0, 1) := by decide +kernel
theorem dL_law_568 : decode cL_law 568 = .ok (.iload_n 3, 1) := by decide +kernel
theorem dL_law_569 : decode cL_law 569 = .ok (.iconst 1, 1) := by decide +kernel
theorem dL_law_570 : decode cL_law 570 = .ok (.iadd, 1) := by decide +kernel
theorem dL_law_571 : decode cL_law 571 = .ok (.iaload, 1) := by decide +kernel
theorem dL_law_572 : decode cL_law 572 = .ok (.invokevirtual 83, 3) := by decide +kernel
theorem dL_law_575 : decode cL_law 575 = .ok (.if_icmp .eq 38, 3) := by decide +kernel
theorem dL_law_578 : decode cL_law 578 = .ok (.iconst 0, 1) := by decide +kernel
theorem dL_law_579 : decode cL_law 579 = .ok (.ireturn, 1) := by decide +kernel
theorem dL_law_580 : decode cL_law 580 = .ok (.aload_n 1, 1) := by decide +kernel
theorem dL_law_581 : decode cL_law 581 = .ok (.aload_n 0, 1) := by decide +kernel
theorem dL_law_582 : decode cL_law 582 = .ok (.iload_n 3, 1) := by decide +kernel
theorem dL_law_583 : decode cL_law 583 = .ok (.iconst 1, 1) := by decide +kernel
theorem dL_law_584 : decode cL_law 584 = .ok (.iadd, 1) := by decide +kernel
theorem dL_law_585 : decode cL_law 585 = .ok (.iaload, 1) := by decide +kernel
theorem dL_law_586 : decode cL_law 586 = .ok (.aload_n 0, 1) := by decide +kernel
theorem dL_law_587 : decode cL_law 587 = .ok (.iload_n 3, 1) := by decide +kernel
theorem dL_law_588 : decode cL_law 588 = .ok (.iconst 2, 1) := by decide +kernel
theorem dL_law_589 : decode cL_law 589 = .ok (.iadd, 1) := by decide +kernel
theorem dL_law_590 : decode cL_law 590 = .ok (.iaload, 1) := by decide +kernel
theorem dL_law_591 : decode cL_law 591 = .ok (.invokevirtual 84, 3) := by decide +kernel
theorem dL_law_594 : decode cL_law 594 = .ok (.aload_n 2, 1) := by decide +kernel
theorem dL_law_595 : decode cL_law 595 = .ok (.aload_n 0, 1) := by decide +kernel
theorem dL_law_596 : decode cL_law 596 = .ok (.iload_n 3, 1) := by decide +kernel
theorem dL_law_597 : decode cL_law 597 = .ok (.iconst 1, 1) := by decide +kernel
theorem dL_law_598 : decode cL_law 598 = .ok (.iadd, 1) := by decide +kernel
theorem dL_law_599 : decode cL_law 599 = .ok (.iaload, 1) := by decide +kernel
theorem dL_law_600 : decode cL_law 600 = .ok (.aload_n 0, 1) := by decide +kernel
theorem dL_law_601 : decode cL_law 601 = .ok (.iload_n 3, 1) := by decide +kernel
theorem dL_law_602 : decode cL_law 602 = .ok (.iconst 2, 1) := by decide +kernel
theorem dL_law_603 : decode cL_law 603 = .ok (.iadd, 1) := by decide +kernel
theorem dL_law_604 : decode cL_law 604 = .ok (.iaload, 1) := by decide +kernel
theorem dL_law_605 : decode cL_law 605 = .ok (.invokevirtual 87, 3) := by decide +kernel
theorem dL_law_608 : decode cL_law 608 = .ok (.if_icmp .eq 5, 3) := by decide +kernel
theorem dL_law_611 : decode cL_law 611 = .ok (.iconst 0, 1) := by decide +kernel
theorem dL_law_612 : decode cL_law 612 = .ok (.ireturn, 1) := by decide +kernel
theorem dL_law_613 : decode cL_law 613 = .ok (.iinc 3 4, 3) := by decide +kernel
theorem dL_law_616 : decode cL_law 616 = .ok (.goto (-578), 3) := by decide +kernel
theorem dL_law_619 : decode cL_law 619 = .ok (.iconst 1, 1) := by decide +kernel
theorem dL_law_620 : decode cL_law 620 = .ok (.ireturn, 1) := by decide +kernel
abbrev vwCl : List vw_C := [(RX1, TX1, 12), (RX2, TX2, 5), (RX3, TX3, 11)]
end
section
/-- what the tables say of an array of arrays: its class is there -/
def va_AOA (ty : FieldType) (U : State) : Prop := (Cond.arrayOver (.array ty)).before #[] U = true
theorem va_AOA.of {ty : FieldType} {A : Array Value} {U : State} (h : (Cond.arrayOver (.array ty)).before A U = true) : va_AOA ty U := h
theorem va_AOA.use {ty : FieldType} {A : Array Value} {U : State} (h : va_AOA ty U) : (Cond.arrayOver (.array ty)).before A U = true := h
/-! ===== BEGIN new T[n][m]: the outer array a place, the inner ones among the pooled ===== -/
/-- f, but v at every address of l -/
def vr_up {α : Type} (f : Nat → α) (l : List Nat) (v : α) : Nat → α := fun a => if a ∈ l then v else f a
theorem vr_up_in {α : Type} {f : Nat → α} {l : List Nat} {v : α} {a : Nat} (h : a ∈ l) : vr_up f l v a = v := if_pos h
theorem vr_up_ne {α : Type} {f : Nat → α} {l : List Nat} {v : α} {a : Nat} (h : a ∉ l) : vr_up f l v a = f a := if_neg h
theorem vr_rows {L l : List Nat} {f : Nat → va_E} {e : va_E} (h : ∀ a, a ∈ l → a ∉ L) : va_pl L f ++ l.map (fun a => (a, e)) = va_pl (L ++ l) (vr_up f l e) := by
  unfold va_pl
  rw [List.map_append]
  congr 1
  · apply List.map_congr_left
    intro a ha
    rw [vr_up_ne (fun q => h a q ha)]
  · apply List.map_congr_left
    intro a ha
    rw [vr_up_in ha]
theorem vr_lay {X rows : va_W} {x : Nat × va_E} {pl : va_W} {D : va_G} {cl : List vw_C} {H : Heap} (hP : va_P D cl (((X ++ pl) ++ [x]) ++ rows) H) : va_P D cl ((X ++ [x]) ++ (pl ++ rows)) H := by
  rw [List.append_assoc (X ++ pl)] at hP
  have h := va_P.swap hP
  rw [← List.append_assoc X] at h
  have h2 := va_P.swap h
  rw [List.append_assoc (X ++ [x])] at h2
  exact h2
theorem vr_layD {X rows : va_W} {x : Nat × va_E} {pl : va_W} {A : Nat → Prop} (hD : va_D A (((X ++ pl) ++ [x]) ++ rows)) : va_D A ((X ++ [x]) ++ (pl ++ rows)) := by
  rw [List.append_assoc (X ++ pl)] at hD
  have h := va_D.swap hD
  rw [← List.append_assoc X] at h
  have h2 := va_D.swap h
  rw [List.append_assoc (X ++ [x])] at h2
  exact h2
theorem vr_outer (c : ClassId) (N h0 : Nat) : ∀ i : Nat, Jvm.Free.Multi.outerC c N h0 i = arrV c N (fun j => va_rf (if j < i then some (h0 + 1 + j) else none))
  | 0 => by
    show ({ cls := c, slots := Array.replicate N .null, vm := .none } : Cell) = _
    rw [arrV_new]
    refine congrArg (arrV c N) (funext fun j => ?_)
    simp [va_rf]
  | i + 1 => by
    show (Jvm.Free.Multi.outerC c N h0 i).setSlot i (.ref (h0 + 1 + i)) = _
    rw [vr_outer c N h0 i, arrV_store]
    refine congrArg (arrV c N) (funext fun j => ?_)
    by_cases e : j = i
    · subst e
      simp [updV, va_rf]
    · by_cases h : j < i
      · simp [updV, e, h, Nat.lt_succ_of_lt h]
      · simp [updV, e, h, show ¬ j < i + 1 by omega]
section VGM
variable {p : Program} {l : Launch} {e : Env} {R : Room} {s : State} {m : MethodId} {args : Array Value} {below : List Frame} {meth : Method} {c : Code} {H : Heap} {locs : List Loc} {cells slots : Nat} {Q : State → Prop}
variable {cc : ByteArray} {pc : Nat} {ls : Array Slot} {rest : List Value} {D : va_G} {cl : List vw_C} {A : Nat → Prop} {a : Nat} {tys : List (ClassId × FieldType)} {ws : va_W} {H0 : Heap}
theorem va_mna {X : va_W} {L : List Nat} {f : Nat → va_E} {cc : ByteArray} (hexec : p.tables.exec = Jvm.exec) (hb : c.code = cc) {own : String} {index : Nat} {ty : FieldType} {cy : ClassId} (hown : s.vm.findClass own = some m.cls) (hclink : (Cond.classLink own index ("[" ++ (FieldType.array ty).toString)).before args s = true) (hover : va_AOA ty s) (harr : (Cond.arrayClass ty).before args s = true) (hcy : s.vm.findClass (FieldType.array ty).toString = some cy)
    (hK : va_K D cl tys s) (hP : va_P D cl (X ++ va_pl L f) H) (hD : va_D A (X ++ va_pl L f)) (hS : va_S A H0 H locs) (hA : ∀ q, H0.size ≤ q → A q) {n k : Int32} {N' K' : Nat} {z : vp_A} (hn : ¬ n < 0) (hk : ¬ k < 0) (hN : n.toNatClampNeg = N') (hM : k.toNatClampNeg = K')
    (hb1 : N' * 4 ≤ 536870912) (hb2 : K' * componentBytes ty ≤ 536870912) (hb3 : K' ≤ 536870912) (hdf : fits ty (defaultValue ty) = true) (hdd : (defaultValue ty).isDefault = true) (hcells : cells + (1 + N') ≤ R.cells) (hslots : slots + (N' + N' * K') ≤ R.slots) (hz : ∀ c : ClassId, Jvm.Free.Multi.innerC c K' (defaultValue ty) = vp_cell c z) (hdg : decode cc pc = .ok (.multianewarray index 2, 4))
    (kk : ∀ (q : Nat) (r : Nat → Nat) (cA : ClassId) (H1 : Heap), (∀ i j : Nat, i < N' → j < N' → r i = r j → i = j) → (∀ i : Nat, i < N' → r i ∉ L) → va_K D cl (tys ++ [(cA, .array ty)]) s →
      va_P D cl ((X ++ [(q, .inl (cA, N', .inr (.inr (.inr (.inr (fun i => if i < N' then some (r i) else none))))))]) ++ va_pl (L ++ (List.range N').map r) (vr_up f ((List.range N').map r) (.inl (cy, z)))) H1 → va_D A ((X ++ [(q, .inl (cA, N', .inr (.inr (.inr (.inr (fun i => if i < N' then some (r i) else none))))))]) ++ va_pl (L ++ (List.range N').map r) (vr_up f ((List.range N').map r) (.inl (cy, z)))) → va_S A H0 H1 locs →
      W p l e R s m args below meth c H1 locs (cells + 1 + N') (slots + N' + N' * K') Q (F0 m (pc + 4) ls (.ref q :: rest))) : W p l e R s m args below meth c H locs cells slots Q (F0 m pc ls (.int k :: .int n :: rest)) := by
  subst hN
  subst hM
  intro T hT Xs
  obtain ⟨vm₁, cA, comp, -, fA, fC, hO, -, X', step⟩ := Xs.multianewarray2F hexec hown hclink (va_AOA.use hover) harr (g := F0 m pc ls (.int k :: .int n :: rest)) rfl (by rw [hb]; exact hdg) rfl hn hk hb1 hb2 hb3 hdf hdd hcells hslots
  have ec : some cy = some comp := hcy.symm.trans fC
  cases ec
  generalize hF : Jvm.Free.Multi.fill (T.setVm vm₁) cA cy n.toNatClampNeg k.toNatClampNeg (defaultValue ty) n.toNatClampNeg = F at X' step
  have hTh : (T.setVm vm₁).heap = H := hT
  obtain ⟨f1, f2, -, -⟩ := Jvm.Free.Multi.fill_facts (T.setVm vm₁) cA cy n.toNatClampNeg k.toNatClampNeg (defaultValue ty) n.toNatClampNeg
  rw [hF, hTh] at f1 f2
  have hold : ∀ x : Nat, x < H.size → F.heap[x]? = H[x]? := fun x hx => by
    have := Jvm.Free.Multi.fill_old (T.setVm vm₁) cA cy n.toNatClampNeg k.toNatClampNeg (defaultValue ty) (a := x) (by rw [hTh]; exact hx) n.toNatClampNeg
    rw [hF, hTh] at this
    exact this
  have hrow : ∀ j : Nat, j < n.toNatClampNeg → F.heap[H.size + 1 + j]? = some (vp_cell cy z) := fun j hj => by
    have := Jvm.Free.Multi.fill_inner (T.setVm vm₁) cA cy n.toNatClampNeg k.toNatClampNeg (defaultValue ty) n.toNatClampNeg j hj
    rw [hF, hTh, hz] at this
    exact this
  have hout : Jvm.Free.Multi.outerC cA n.toNatClampNeg H.size n.toNatClampNeg = vp_cell cA (n.toNatClampNeg, .inr (.inr (.inr (.inr (fun i => if i < n.toNatClampNeg then some (H.size + 1 + i) else none))))) := by
    rw [vp_cell_q]
    exact vr_outer cA n.toNatClampNeg H.size n.toNatClampNeg
  rw [hout] at f2
  have hlt : ∀ a, a ∈ L → a < H.size := fun a ha => by
    obtain ⟨k9, hk9⟩ := va_pl_get (X := X) (f := f) ha
    exact (hP k9 _ hk9).lt
  have hnl : ∀ i : Nat, i < n.toNatClampNeg → H.size + 1 + i ∉ L := fun i _ h => by
    have := hlt _ h
    omega
  have hnm : ∀ a, a ∈ (List.range n.toNatClampNeg).map (fun i => H.size + 1 + i) → a ∉ L := fun a ha h => by
    obtain ⟨i, -, rfl⟩ := List.mem_map.mp ha
    have := hlt _ h
    omega
  have hP0 : va_P D cl (X ++ va_pl L f) F.heap := hP.kept (fun k9 x hx => hold x.1 ((hP k9 x hx).lt))
  have hP1 : va_P D cl ((X ++ va_pl L f) ++ [(H.size, .inl (cA, n.toNatClampNeg, .inr (.inr (.inr (.inr (fun i => if i < n.toNatClampNeg then some (H.size + 1 + i) else none))))))]) F.heap := hP0.app (fun k9 x hx => by
    have h0 : k9 < 1 := (List.getElem?_eq_some_iff.mp hx).1
    rw [show k9 = 0 by omega] at hx
    cases hx
    exact f2)
  have hP2 : va_P D cl (((X ++ va_pl L f) ++ [(H.size, .inl (cA, n.toNatClampNeg, .inr (.inr (.inr (.inr (fun i => if i < n.toNatClampNeg then some (H.size + 1 + i) else none))))))]) ++ ((List.range n.toNatClampNeg).map (fun i => H.size + 1 + i)).map (fun a => (a, .inl (cy, z)))) F.heap := hP1.app (fun k9 x hx => by
    obtain ⟨a, ha, rfl⟩ := List.mem_map.mp (List.mem_of_getElem? hx)
    obtain ⟨i, hi, rfl⟩ := List.mem_map.mp ha
    exact hrow i (List.mem_range.mp hi))
  have hD2 : va_D A (((X ++ va_pl L f) ++ [(H.size, .inl (cA, n.toNatClampNeg, .inr (.inr (.inr (.inr (fun i => if i < n.toNatClampNeg then some (H.size + 1 + i) else none))))))]) ++ ((List.range n.toNatClampNeg).map (fun i => H.size + 1 + i)).map (fun a => (a, .inl (cy, z)))) := by
    have hD1 := hD.push (e := .inl (cA, n.toNatClampNeg, .inr (.inr (.inr (.inr (fun i => if i < n.toNatClampNeg then some (H.size + 1 + i) else none)))))) hP rfl (hA _ hS.1)
    generalize hW1 : (X ++ va_pl L f) ++ [(H.size, .inl (cA, n.toNatClampNeg, .inr (.inr (.inr (.inr (fun i => if i < n.toNatClampNeg then some (H.size + 1 + i) else none))))))] = W1 at hD1 hP1 ⊢
    have hle : ∀ (k9 : Nat) (x : Nat × va_E), W1[k9]? = some x → x.1 ≤ H.size := fun k9 x hx => by
      rw [← hW1] at hx
      by_cases hl : k9 < (X ++ va_pl L f).length
      · rw [List.getElem?_append_left hl] at hx
        exact Nat.le_of_lt ((hP k9 x hx).lt)
      · rw [List.getElem?_append_right (by omega)] at hx
        have h0 : k9 - (X ++ va_pl L f).length < 1 := (List.getElem?_eq_some_iff.mp hx).1
        rw [show k9 - (X ++ va_pl L f).length = 0 by omega] at hx
        cases hx
        exact Nat.le_refl _
    have hr : ∀ (k9 : Nat) (x : Nat × va_E), (((List.range n.toNatClampNeg).map (fun i => H.size + 1 + i)).map (fun a => ((a, .inl (cy, z)) : Nat × va_E)))[k9]? = some x → x.1 = H.size + 1 + k9 := fun k9 x hx => by
      rw [List.getElem?_map, List.getElem?_map] at hx
      by_cases h9 : k9 < n.toNatClampNeg
      · rw [List.getElem?_range h9] at hx
        cases hx
        rfl
      · have hn0 : (List.range n.toNatClampNeg)[k9]? = none := List.getElem?_eq_none (by rw [List.length_range]; omega)
        rw [hn0] at hx
        cases hx
    refine ⟨fun i j x y hi hj hxy => ?_, fun k9 x hx => ?_⟩
    · by_cases h1 : i < W1.length <;> by_cases h2 : j < W1.length
      · rw [List.getElem?_append_left h1] at hi
        rw [List.getElem?_append_left h2] at hj
        exact hD1.1 i j x y hi hj hxy
      · rw [List.getElem?_append_left h1] at hi
        rw [List.getElem?_append_right (by omega)] at hj
        have := hle _ _ hi
        have := hr _ _ hj
        omega
      · rw [List.getElem?_append_right (by omega)] at hi
        rw [List.getElem?_append_left h2] at hj
        have := hle _ _ hj
        have := hr _ _ hi
        omega
      · rw [List.getElem?_append_right (by omega)] at hi hj
        have := hr _ _ hi
        have := hr _ _ hj
        omega
    · by_cases h1 : k9 < W1.length
      · rw [List.getElem?_append_left h1] at hx
        exact hD1.2 k9 x hx
      · rw [List.getElem?_append_right (by omega)] at hx
        have := hr _ _ hx
        exact hA _ (by have := hS.1; omega)
  have hAr : ArrOfT s cA (.array ty) := fun N9 z9 => by
    obtain ⟨-, k9, hk9, cm9, hkk9⟩ := (hO 0 0 0).1
    exact ⟨(fun q hq => by cases hq), k9, hk9, cm9, hkk9⟩
  have hK2 : va_K D cl (tys ++ [(cA, .array ty)]) s := ⟨hK.1, fun k9 x hx => by
    by_cases hl : k9 < tys.length
    · rw [List.getElem?_append_left hl] at hx
      exact hK.2 k9 x hx
    · rw [List.getElem?_append_right (by omega)] at hx
      have h0 : k9 - tys.length < 1 := (List.getElem?_eq_some_iff.mp hx).1
      rw [show k9 - tys.length = 0 by omega] at hx
      cases hx
      exact ⟨hAr, fA⟩⟩
  obtain ⟨t, a1, b1⟩ := kk H.size (fun i => H.size + 1 + i) cA F.heap (fun i j _ _ h => by have h9 : H.size + 1 + i = H.size + 1 + j := h; omega) hnl hK2 (by rw [← vr_rows hnm]; exact vr_lay hP2) (by rw [← vr_rows hnm]; exact vr_layD hD2) ⟨by rw [f1]; have := hS.1; omega, fun x h1 h2 => (hold x (Nat.lt_of_lt_of_le h1 hS.1)).trans (hS.2.1 x h1 h2), hS.2.2⟩ F rfl X'
  refine ⟨t, step t ?_, b1⟩
  have e : T.heap.size = H.size := by rw [hT]
  rw [e]
  exact a1
end VGM
/-! ===== END ===== -/
end
section
/-! ===== the system's state in plain words, the list of its cells, and rows over it ===== -/
/-- what stays for a whole run: slots and ids, the array kinds, the addresses of the cells, limbs and registers -/
def qCfg : Type := va_G × (ClassId × ClassId × ClassId) × (Nat → Nat) × (Nat × Nat)
def qCfg.D (g : qCfg) : va_G := g.1
def qCfg.cI (g : qCfg) : ClassId := g.2.1.1
def qCfg.cJ (g : qCfg) : ClassId := g.2.1.2.1
def qCfg.cO (g : qCfg) : ClassId := g.2.1.2.2
def qCfg.P (g : qCfg) : Nat → Nat := g.2.2.1
def qCfg.k (g : qCfg) : Nat := g.2.2.2.1
def qCfg.n (g : qCfg) : Nat := g.2.2.2.2
def qCfg.N (g : qCfg) : Nat := 21 + g.n
def qCfg.ok (g : qCfg) : Prop := 1 ≤ g.k ∧ g.k ≤ 8 ∧ 1 ≤ g.n ∧ g.n ≤ 8
/-- what moves: the int rows by their numbers, minusInverse and isReady, the long rows by their numbers, the reference's isReady -/
def qSt : Type := (Nat → Nat → Int32) × (Int32 × Int32) × (Nat → Nat → Int64) × Int32
def qSt.F (σ : qSt) : Nat → Nat → Int32 := σ.1
def qSt.mi (σ : qSt) : Int32 := σ.2.1.1
def qSt.rd (σ : qSt) : Int32 := σ.2.1.2
def qSt.J (σ : qSt) : Nat → Nat → Int64 := σ.2.2.1
def qSt.rm (σ : qSt) : Int32 := σ.2.2.2
def qSt.setF (σ : qSt) (F : Nat → Nat → Int32) : qSt := (F, σ.2)
def qSt.setMi (σ : qSt) (v : Int32) : qSt := (σ.1, (v, σ.2.1.2), σ.2.2)
def qSt.setRd (σ : qSt) (v : Int32) : qSt := (σ.1, (σ.2.1.1, v), σ.2.2)
def qSt.setJ (σ : qSt) (J : Nat → Nat → Int64) : qSt := (σ.1, σ.2.1, J, σ.2.2.2)
def qSt.setRm (σ : qSt) (v : Int32) : qSt := (σ.1, σ.2.1, σ.2.2.1, v)
def cel (g : qCfg) (σ : qSt) (i : Nat) : va_E := match i with
  | 0 => .inr (1, [.int (nI g.k), .int (nI g.n), .ref (g.P 2), .ref (g.P 1), .int σ.rd])
  | 1 => .inr (0, [.ref (g.P 12), .int (nI g.k), .int (nI (32 * g.k)), .ref (g.P 13), .ref (g.P 14), .ref (g.P 15), .ref (g.P 16), .ref (g.P 17), .ref (g.P 18), .ref (g.P 19), .ref (g.P 20), .int σ.mi])
  | 2 => .inl (g.cO, g.n, .inr (.inr (.inr (.inr (fun r => if r < g.n then some (g.P (21 + r)) else none)))))
  | 3 => .inr (2, [.int (nI g.k), .int (nI g.n), .ref (g.P 4), .int σ.rm, .ref (g.P 5), .ref (g.P 6), .ref (g.P 7), .ref (g.P 8), .ref (g.P 9), .ref (g.P 10), .ref (g.P 11)])
  | 4 => .inl (g.cJ, 81, .inr (.inl (σ.J 4)))
  | j + 5 => if j + 5 < 12 then .inl (g.cJ, 9, .inr (.inl (σ.J (j + 5)))) else .inl (g.cI, g.k, .inl (σ.F (j + 5)))
theorem cel_I {g : qCfg} {σ : qSt} {i : Nat} (h : 12 ≤ i) : cel g σ i = .inl (g.cI, g.k, .inl (σ.F i)) := by
  obtain ⟨j, rfl⟩ : ∃ j, i = j + 5 := ⟨i - 5, by omega⟩
  show (if j + 5 < 12 then _ else _) = _
  rw [if_neg (by omega)]
theorem cel_J {g : qCfg} {σ : qSt} {i : Nat} (h : 5 ≤ i) (h2 : i < 12) : cel g σ i = .inl (g.cJ, 9, .inr (.inl (σ.J i))) := by
  obtain ⟨j, rfl⟩ : ∃ j, i = j + 5 := ⟨i - 5, by omega⟩
  show (if j + 5 < 12 then _ else _) = _
  rw [if_pos h2]
def wl (g : qCfg) (σ : qSt) : va_W := (List.range g.N).map (fun i => (g.P i, cel g σ i))
theorem wl_get {g : qCfg} {σ : qSt} {i : Nat} (h : i < g.N) : (wl g σ)[i]? = some (g.P i, cel g σ i) := by
  unfold wl
  rw [List.getElem?_map, List.getElem?_range h]
  rfl
theorem wl_none {g : qCfg} {σ : qSt} {i : Nat} (h : ¬ i < g.N) : (wl g σ)[i]? = none := by
  apply List.getElem?_eq_none
  unfold wl
  rw [List.length_map, List.length_range]
  omega
theorem wl_len {g : qCfg} {σ : qSt} : (wl g σ).length = g.N := by
  unfold wl
  rw [List.length_map, List.length_range]
theorem wl_in {g : qCfg} {σ : qSt} {i : Nat} {q : Nat × va_E} (h : (wl g σ)[i]? = some q) : i < g.N ∧ q = (g.P i, cel g σ i) := by
  by_cases hi : i < g.N
  · rw [wl_get hi] at h
    exact ⟨hi, (Option.some.inj h).symm⟩
  · rw [wl_none hi] at h
    cases h
theorem wl_set {g : qCfg} {σ σ' : qSt} {i : Nat} {e : va_E} (h : i < g.N) (hi : cel g σ' i = e) (ho : ∀ j, j ≠ i → cel g σ' j = cel g σ j) : (wl g σ).set i (g.P i, e) = wl g σ' := by
  apply List.ext_getElem?
  intro j
  rw [List.getElem?_set]
  by_cases hij : i = j
  · subst hij
    rw [if_pos rfl, wl_len, if_pos h, wl_get h, hi]
  · rw [if_neg hij]
    by_cases hj : j < g.N
    · rw [wl_get hj, wl_get hj, ho j (fun q => hij q.symm)]
    · rw [wl_none hj, wl_none hj]
def tyl (g : qCfg) : List (ClassId × FieldType) := [(g.cI, .int), (g.cJ, .long), (g.cO, .array .int)]
/-- the cells that a call may change: the system's, and new ones -/
def Ad (g : qCfg) (sz : Nat) : Nat → Prop := fun q => (∃ i, i < g.N ∧ q = g.P i) ∨ sz ≤ q
theorem wl_D {g : qCfg} {σ σ' : qSt} {A : Nat → Prop} (h : va_D A (wl g σ)) : va_D A (wl g σ') := by
  refine ⟨fun i j p q hi hj hpq => ?_, fun k q hk => ?_⟩
  · obtain ⟨h1, rfl⟩ := wl_in hi
    obtain ⟨h2, rfl⟩ := wl_in hj
    exact h.1 i j _ _ (wl_get h1) (wl_get h2) hpq
  · obtain ⟨h1, rfl⟩ := wl_in hk
    exact h.2 k (g.P k, cel g σ k) (wl_get h1)
theorem wl_self {g : qCfg} {σ : qSt} {sz : Nat} {A : Nat → Prop} (h : va_D A (wl g σ)) : va_D (Ad g sz) (wl g σ) := ⟨h.1, fun k q hk => by
  obtain ⟨h1, rfl⟩ := wl_in hk
  exact Or.inl ⟨k, h1, rfl⟩⟩
/-- the world in a walk: the cells, apart and in A, what was written since the start, the tables -/
def Wo (g : qCfg) (A : Nat → Prop) (s : State) (H : Heap) (locs : List Loc) (σ : qSt) : Prop := va_P g.D vwCl (wl g σ) H ∧ va_D A (wl g σ) ∧ va_S A s.heap H locs ∧ va_K g.D vwCl (tyl g) s
def qIn (g : qCfg) (σ : qSt) (sz : Nat) (U : State) : Prop := U.heap.size = sz ∧ va_P g.D vwCl (wl g σ) U.heap ∧ va_K g.D vwCl (tyl g) U ∧ va_D (fun _ => True) (wl g σ)
def qOu (g : qCfg) (sz : Nat) (σ : qSt) (t : State) : Prop := va_P g.D vwCl (wl g σ) t.heap ∧ va_K g.D vwCl (tyl g) t ∧ va_D (Ad g sz) (wl g σ)
abbrev rmm (fr lo : Nat) : Room := { frames := fr, cells := 0, slots := 0, locals := lo }
/-- contracts over the system's world: an int (or boolean), a long, nothing -/
abbrev qCI (l : Launch) (g : qCfg) (y : MethodName) (ws : List Cond) (fr lo : Nat) (As : List Value) (σ : qSt) (post : Int32 → qSt → Prop) : Prop :=
  ∀ sz : Nat, Met l y ws (rmm fr lo) (va_Pc As (qIn g σ sz)) (va_Qi post (qOu g sz) (Ad g sz)) 0 0 (Ad g sz)
abbrev qCL (l : Launch) (g : qCfg) (y : MethodName) (ws : List Cond) (fr lo : Nat) (As : List Value) (σ : qSt) (post : Int64 → qSt → Prop) : Prop :=
  ∀ sz : Nat, Met l y ws (rmm fr lo) (va_Pc As (qIn g σ sz)) (va_Ql post (qOu g sz) (Ad g sz)) 0 0 (Ad g sz)
abbrev qCV (l : Launch) (g : qCfg) (y : MethodName) (ws : List Cond) (fr lo : Nat) (As : List Value) (σ : qSt) (post : qSt → Prop) : Prop :=
  ∀ sz : Nat, Met l y ws (rmm fr lo) (va_Pc As (qIn g σ sz)) (va_Qv post (qOu g sz) (Ad g sz)) 0 0 (Ad g sz)
abbrev qFx (p : Program) (m : MethodId) (c : Code) (cc : ByteArray) (nL : Nat) (s : State) (args : Array Value) (Ts : List Cond) (own : String) (meth : Method) (ret : Option FieldType) : Prop :=
  p.tables.exec = Jvm.exec ∧ c.code = cc ∧ c.maxLocals = nL ∧ s.vm.findClass own = some m.cls ∧ (∀ w ∈ Ts, w.before args s = true) ∧ meth.sig.returnType = ret ∧ meth.locks = false
theorem q_start {l : Launch} {g : qCfg} {y : MethodName} {ws ws' : List Cond} {fr lo : Nat} {As : List Value} {σ : qSt} {Qc : Nat → Array Value → State → Outcome → State → Prop} {cc : ByteArray} {maxL : Nat} {ret : Option FieldType} (hy : plainName y.cls = true) (hw : ws = Cond.code y cc maxL ret :: ws') (hL : (lg_sl As).length ≤ maxL)
    (body : ∀ (p : Program) (e : Env) (s : State) (m : MethodId) (below : List Frame) (meth : Method) (c : Code) (ls : Array Slot), qFx p m c cc maxL s As.toArray ws y.cls meth ret → Wo g (Ad g s.heap.size) s s.heap [] σ → lv_has ls maxL (lv_args 0 As) →
      W p l e (rmm fr lo) s m As.toArray below meth c s.heap [] 0 0 (MQ below (Qc s.heap.size) As.toArray s 0 0 (Ad g s.heap.size)) (F0 m 0 ls [])) : ∀ sz : Nat, Met l y ws (rmm fr lo) (va_Pc As (qIn g σ sz)) (Qc sz) 0 0 (Ad g sz) := by
  intro sz
  refine Met.ofW (cc := cc) (maxL := maxL) (ret := ret) hy hw ?_
  intro p e s m args below meth c s₁ B hml hv
  obtain ⟨rfl, hsz, hP, hK, hD0⟩ := hv
  subst hsz
  rw [lg_entry_eq]
  exact body p e s m below meth c _ ⟨B.exec, B.bytes, hml, findClass_of_methodNamed B.named, atoms_spec (ws := ws) B.pre, B.returns, B.notSynchronized⟩ ⟨hP, wl_self hD0, va_S.rf, hK⟩ (lv_entry As hL)
section QR
variable {p : Program} {l : Launch} {e : Env} {R : Room} {s : State} {m : MethodId} {args : Array Value} {below : List Frame} {meth : Method} {c : Code} {H : Heap} {locs : List Loc} {cells slots : Nat} {Q : State → Prop}
variable {cc : ByteArray} {pc : Nat} {ls : Array Slot} {rest st : List Value} {A : Nat → Prop} {g : qCfg} {σ : qSt}
theorem q_iret {post : Int32 → qSt → Prop} {r : Int32} (hx : p.tables.exec = Jvm.exec) (hb : c.code = cc) (hr : meth.sig.returnType = some .int) (hlocks : meth.locks = false) (hW : Wo g (Ad g s.heap.size) s H locs σ) (hp : post r σ) (hd : decode cc pc = .ok (.ireturn, 1)) :
    W p l e R s m args below meth c H locs 0 0 (MQ below (va_Qi post (qOu g s.heap.size) (Ad g s.heap.size)) args s 0 0 (Ad g s.heap.size)) (F0 m pc ls [.int r]) :=
  W.iret hx hb hr (fun t ht hWm => ⟨⟨r, σ, rfl, hp, by rw [ht]; exact hW.1, va_K.moved hWm.alike hW.2.2.2, hW.2.1⟩, hW.2.2.1.F ht⟩) hW.2.2.1.2.2 hd hlocks
theorem q_zret {post : Int32 → qSt → Prop} {r : Int32} (hx : p.tables.exec = Jvm.exec) (hb : c.code = cc) (hr : meth.sig.returnType = some .boolean) (hlocks : meth.locks = false) (hW : Wo g (Ad g s.heap.size) s H locs σ) (hn : r = 0 ∨ r = 1) (hp : post r σ) (hd : decode cc pc = .ok (.ireturn, 1)) :
    W p l e R s m args below meth c H locs 0 0 (MQ below (va_Qi post (qOu g s.heap.size) (Ad g s.heap.size)) args s 0 0 (Ad g s.heap.size)) (F0 m pc ls [.int r]) :=
  W.zret hx hb hr (by rcases hn with h | h <;> subst h <;> rfl) (fun t ht hWm => ⟨⟨r, σ, rfl, hp, by rw [ht]; exact hW.1, va_K.moved hWm.alike hW.2.2.2, hW.2.1⟩, hW.2.2.1.F ht⟩) hW.2.2.1.2.2 hd hlocks
theorem q_lret {post : Int64 → qSt → Prop} {r : Int64} (hx : p.tables.exec = Jvm.exec) (hb : c.code = cc) (hr : meth.sig.returnType = some .long) (hlocks : meth.locks = false) (hW : Wo g (Ad g s.heap.size) s H locs σ) (hp : post r σ) (hd : decode cc pc = .ok (.lreturn, 1)) :
    W p l e R s m args below meth c H locs 0 0 (MQ below (va_Ql post (qOu g s.heap.size) (Ad g s.heap.size)) args s 0 0 (Ad g s.heap.size)) (F0 m pc ls [.long r]) :=
  W.lret hx hb hr (fun t ht hWm => ⟨⟨r, σ, rfl, hp, by rw [ht]; exact hW.1, va_K.moved hWm.alike hW.2.2.2, hW.2.1⟩, hW.2.2.1.F ht⟩) hW.2.2.1.2.2 hd hlocks
theorem q_vret {post : qSt → Prop} (hx : p.tables.exec = Jvm.exec) (hb : c.code = cc) (hr : meth.sig.returnType = none) (hlocks : meth.locks = false) (hW : Wo g (Ad g s.heap.size) s H locs σ) (hp : post σ) (hd : decode cc pc = .ok (.return_, 1)) :
    W p l e R s m args below meth c H locs 0 0 (MQ below (va_Qv post (qOu g s.heap.size) (Ad g s.heap.size)) args s 0 0 (Ad g s.heap.size)) (F0 m pc ls []) :=
  W.vret hx hb hr (fun t ht hWm => ⟨⟨σ, rfl, hp, by rw [ht]; exact hW.1, va_K.moved hWm.alike hW.2.2.2, hW.2.1⟩, hW.2.2.1.F ht⟩) hW.2.2.1.2.2 hd hlocks
theorem q_iald (hx : p.tables.exec = Jvm.exec) (hb : c.code = cc) (hW : Wo g A s H locs σ) {i j : Nat} {x : Int32} (hi : 12 ≤ i ∧ i < g.N) (hj : j < g.k) (hk : g.k ≤ 8) (ej : x = nI j) (hdg : decode cc pc = .ok (.iaload, 1))
    (kk : W p l e R s m args below meth c H locs cells slots Q (F0 m (pc + 1) ls (.int (σ.F i j) :: rest))) : W p l e R s m args below meth c H locs cells slots Q (F0 m pc ls (.int x :: .ref (g.P i) :: rest)) := by
  subst ej
  refine va_iald (D := g.D) (cl := vwCl) (tys := tyl g) (ws := wl g σ) hx hb hW.2.2.2 hW.1 i 0 (n := g.k) (f := σ.F i) (by rw [wl_get hi.2, cel_I hi.1]) rfl (vp_in_nI hj (by omega)) hdg ?_
  rw [nI_clamp (by omega)]
  exact kk
theorem q_iast (hx : p.tables.exec = Jvm.exec) (hb : c.code = cc) (hW : Wo g A s H locs σ) {i j : Nat} {x v : Int32} (hi : 12 ≤ i ∧ i < g.N) (hj : j < g.k) (hk : g.k ≤ 8) (ej : x = nI j) (hdg : decode cc pc = .ok (.iastore, 1))
    (kk : ∀ (H1 : Heap) (locs1 : List Loc), Wo g A s H1 locs1 (σ.setF (va_up σ.F i (upd (σ.F i) j v))) → W p l e R s m args below meth c H1 locs1 cells slots Q (F0 m (pc + 1) ls rest)) : W p l e R s m args below meth c H locs cells slots Q (F0 m pc ls (.int v :: .int x :: .ref (g.P i) :: rest)) := by
  subst ej
  refine va_iast (D := g.D) (cl := vwCl) (tys := tyl g) (ws := wl g σ) hx hb hW.2.2.2 hW.1 hW.2.1 hW.2.2.1 i 0 (n := g.k) (f := σ.F i) (by rw [wl_get hi.2, cel_I hi.1]) rfl (vp_in_nI hj (by omega)) hdg (fun H1 locs1 hP hD hS => ?_)
  rw [nI_clamp (by omega)] at hP hD
  have hs : (wl g σ).set i (g.P i, .inl (g.cI, g.k, .inl (upd (σ.F i) j v))) = wl g (σ.setF (va_up σ.F i (upd (σ.F i) j v))) := by
    refine wl_set hi.2 ?_ ?_
    · rw [cel_I hi.1]
      show Sum.inl (g.cI, g.k, Sum.inl (va_up σ.F i _ i)) = _
      rw [va_up_self]
    · intro a ha
      match a, ha with
      | 0, _ => rfl
      | 1, _ => rfl
      | 2, _ => rfl
      | 3, _ => rfl
      | 4, _ => rfl
      | b + 5, ha =>
        show (if b + 5 < 12 then _ else Sum.inl (g.cI, g.k, Sum.inl (va_up σ.F i _ (b + 5)))) = (if b + 5 < 12 then _ else _)
        rw [va_up_ne _ _ ha]
        rfl
  rw [hs] at hP hD
  exact kk H1 locs1 ⟨hP, hD, hS, hW.2.2.2⟩
/-- how many places a long row has -/
def lsz (i : Nat) : Nat := if i = 4 then 81 else 9
theorem cel_L {i : Nat} (h : 4 ≤ i ∧ i < 12) : cel g σ i = .inl (g.cJ, lsz i, .inr (.inl (σ.J i))) := by
  unfold lsz
  by_cases h4 : i = 4
  · subst h4
    rfl
  · rw [if_neg h4, cel_J (by omega) h.2]
theorem q_lald (hx : p.tables.exec = Jvm.exec) (hb : c.code = cc) (hW : Wo g A s H locs σ) {i j : Nat} {x : Int32} (hi : 4 ≤ i ∧ i < 12) (hj : j < lsz i) (ej : x = nI j) (hdg : decode cc pc = .ok (.laload, 1))
    (kk : W p l e R s m args below meth c H locs cells slots Q (F0 m (pc + 1) ls (.long (σ.J i j) :: rest))) : W p l e R s m args below meth c H locs cells slots Q (F0 m pc ls (.int x :: .ref (g.P i) :: rest)) := by
  subst ej
  have hz : lsz i ≤ 81 := by unfold lsz; split <;> omega
  refine va_lald (D := g.D) (cl := vwCl) (tys := tyl g) (ws := wl g σ) hx hb hW.2.2.2 hW.1 i 1 (n := lsz i) (f := σ.J i) (by rw [wl_get (by unfold qCfg.N; omega), cel_L hi]) rfl (vp_in_nI hj (by omega)) hdg ?_
  rw [nI_clamp (by omega)]
  exact kk
theorem q_last (hx : p.tables.exec = Jvm.exec) (hb : c.code = cc) (hW : Wo g A s H locs σ) {i j : Nat} {x : Int32} {v : Int64} (hi : 4 ≤ i ∧ i < 12) (hj : j < lsz i) (ej : x = nI j) (hdg : decode cc pc = .ok (.lastore, 1))
    (kk : ∀ (H1 : Heap) (locs1 : List Loc), Wo g A s H1 locs1 (σ.setJ (va_up σ.J i (va_up (σ.J i) j v))) → W p l e R s m args below meth c H1 locs1 cells slots Q (F0 m (pc + 1) ls rest)) : W p l e R s m args below meth c H locs cells slots Q (F0 m pc ls (.long v :: .int x :: .ref (g.P i) :: rest)) := by
  subst ej
  have hz : lsz i ≤ 81 := by unfold lsz; split <;> omega
  have hiN : i < g.N := by unfold qCfg.N; omega
  refine va_last (D := g.D) (cl := vwCl) (tys := tyl g) (ws := wl g σ) hx hb hW.2.2.2 hW.1 hW.2.1 hW.2.2.1 i 1 (n := lsz i) (f := σ.J i) (by rw [wl_get hiN, cel_L hi]) rfl (vp_in_nI hj (by omega)) hdg (fun H1 locs1 hP hD hS => ?_)
  rw [nI_clamp (by omega)] at hP hD
  have hs : (wl g σ).set i (g.P i, .inl (g.cJ, lsz i, .inr (.inl (vp_updL (σ.J i) j v)))) = wl g (σ.setJ (va_up σ.J i (va_up (σ.J i) j v))) := by
    refine wl_set hiN ?_ ?_
    · rw [cel_L hi]
      show Sum.inl (g.cJ, lsz i, Sum.inr (Sum.inl (va_up σ.J i _ i))) = _
      rw [va_up_self]
      rfl
    · intro a ha
      match a, ha with
      | 0, _ => rfl
      | 1, _ => rfl
      | 2, _ => rfl
      | 3, _ => rfl
      | 4, ha =>
        show Sum.inl (g.cJ, 81, Sum.inr (Sum.inl (va_up σ.J i _ 4))) = _
        rw [va_up_ne _ _ ha]
        rfl
      | b + 5, ha =>
        show (if b + 5 < 12 then Sum.inl (g.cJ, 9, Sum.inr (Sum.inl (va_up σ.J i _ (b + 5)))) else _) = (if b + 5 < 12 then _ else _)
        rw [va_up_ne _ _ ha]
        rfl
  rw [hs] at hP hD
  exact kk H1 locs1 ⟨hP, hD, hS, hW.2.2.2⟩
/-- a row of the registers: the outer array's place r -/
theorem q_regs (hx : p.tables.exec = Jvm.exec) (hb : c.code = cc) (hW : Wo g A s H locs σ) {j : Nat} {x : Int32} (hj : j < g.n) (hk : g.n ≤ 8) (ej : x = nI j) (hdg : decode cc pc = .ok (.aaload, 1))
    (kk : W p l e R s m args below meth c H locs cells slots Q (F0 m (pc + 1) ls (.ref (g.P (21 + j)) :: rest))) : W p l e R s m args below meth c H locs cells slots Q (F0 m pc ls (.int x :: .ref (g.P 2) :: rest)) := by
  subst ej
  have hin : vp_in (nI j) g.n := vp_in_nI hj (by omega)
  have hc : (nI j).toNatClampNeg = j := nI_clamp (by omega)
  have ha : H[g.P 2]? = some (vp_cell g.cO (g.n, .inr (.inr (.inr (.inr (fun r => if r < g.n then some (g.P (21 + r)) else none)))))) := hW.1 2 _ (wl_get (by unfold qCfg.N; omega))
  have hlt : (nI j).toNatClampNeg < g.n := by rw [hc]; exact hj
  refine W.aald (v := va_rf (if (nI j).toNatClampNeg < g.n then some (g.P (21 + (nI j).toNatClampNeg)) else none)) (ty := .array .int) hx hb ha ((hW.2.2.2.2 2 _ rfl).1 g.n (fun j => va_rf (if j < g.n then some (g.P (21 + j)) else none))) rfl (fun q => by cases q) (by show ¬ (_ ∨ (arrV _ _ _).slots.size ≤ _); rw [arrV_size]; exact hin) (by show (arrV _ _ _).slots[_]? = _; rw [arrV_read _ _ hlt]) rfl rfl hdg ?_
  rw [hc, if_pos hj]
  exact kk
theorem q_get {own C : String} {T : u_T} {N ci index : Nat} {Ts : List Cond} (hx : p.tables.exec = Jvm.exec) (hb : c.code = cc) (hts : ∀ w ∈ Ts, w.before args s = true) (hown : s.vm.findClass own = some m.cls) (hin : ∀ w ∈ u_ws C T N, w ∈ Ts) (hW : Wo g A s H locs σ) {i : Nat} (hi : i < 21) {fs : List Value} (he : cel g σ i = .inr (ci, fs)) (hc : vwCl[ci]? = some (C, T, N)) (f : Nat) (hf : f < N) (hlink : (Cond.fieldLink own index (T f).1 (T f).2.1 (T f).2.2.1).before args s = true) {v : Value} (hv : fs[f]? = some v) (hdg : decode cc pc = .ok (.getfield index, 3))
    (kk : W p l e R s m args below meth c H locs cells slots Q (F0 m (pc + 3) ls (v :: rest))) : W p l e R s m args below meth c H locs cells slots Q (F0 m pc ls (.ref (g.P i) :: rest)) :=
  va_get (D := g.D) (cl := vwCl) (tys := tyl g) (ws := wl g σ) hx hb hts hin hown hW.2.2.2 hW.1 i (by rw [wl_get (by unfold qCfg.N; omega), he]) hc f hf hlink (fun _ h9 => h9) hv hdg kk
theorem q_put {own C : String} {T : u_T} {N ci index : Nat} {Ts : List Cond} (hx : p.tables.exec = Jvm.exec) (hb : c.code = cc) (hts : ∀ w ∈ Ts, w.before args s = true) (hown : s.vm.findClass own = some m.cls) (hin : ∀ w ∈ u_ws C T N, w ∈ Ts) (ty0 : Nat → FieldType) (hty : ∀ k, k < N → parseFieldDescriptor (T k).2.2.1 = some (ty0 k)) (hnm : ∀ a, a < N → ∀ b, b < N → a ≠ b → (T a).2.1 ≠ (T b).2.1) (hW : Wo g A s H locs σ) {i : Nat} (hi : i < 21) {fs : List Value} (he : cel g σ i = .inr (ci, fs)) (hc : vwCl[ci]? = some (C, T, N)) (f : Nat) (hf : f < N) (hlink : (Cond.fieldLink own index (T f).1 (T f).2.1 (T f).2.2.1).before args s = true) (hfin : (T f).2.2.2 = false) {ty : FieldType} {v : Value} (hd : parseFieldDescriptor (T f).2.2.1 = some ty) (hn : narrow ty v = v) (hfit : fits ty v = true) (hl : f < fs.length) (σ' : qSt) (he' : cel g σ' i = .inr (ci, fs.set f v)) (ho : ∀ j, j ≠ i → cel g σ' j = cel g σ j) (hdg : decode cc pc = .ok (.putfield index, 3))
    (kk : ∀ (H1 : Heap) (locs1 : List Loc), Wo g A s H1 locs1 σ' → W p l e R s m args below meth c H1 locs1 cells slots Q (F0 m (pc + 3) ls rest)) : W p l e R s m args below meth c H locs cells slots Q (F0 m pc ls (v :: .ref (g.P i) :: rest)) := by
  have hiN : i < g.N := by unfold qCfg.N; omega
  refine va_put (D := g.D) (cl := vwCl) (tys := tyl g) (ws := wl g σ) hx hb hts hin ty0 hty hnm hown hW.2.2.2 hW.1 hW.2.1 hW.2.2.1 i (by rw [wl_get hiN, he]) hc f hf hlink (fun _ h9 => h9) hfin hd hn hfit hl hdg (fun H1 locs1 hP hD hS => ?_)
  rw [wl_set hiN he' ho] at hP hD
  exact kk H1 locs1 ⟨hP, hD, hS, hW.2.2.2⟩
theorem q_free {q : Nat} (hW : Wo g A s H locs σ) (hA : ∀ q, s.heap.size ≤ q → A q) (h : Ad g H.size q) : A q := by
  rcases h with ⟨i, h1, rfl⟩ | h
  · exact hW.2.1.2 i _ (wl_get h1)
  · exact hA q (Nat.le_trans hW.2.2.1.1 h)
theorem q_blind {As : List Value} {sz : Nat} : FrameBlind (va_Pc As (qIn g σ sz)) := fun a U g mk q => by
  obtain ⟨q0, q1, qP, qK, qD⟩ := q
  exact ⟨q0, q1, qP, va_K.moved (u := U) (U := U.calling g mk a) (Vm.Alike.refl U.vm) qK, qD⟩
theorem q_pre {As : List Value} (hW : Wo g A s H locs σ) : ∀ U : State, U.heap = H → s.WarmedH U.vm → va_Pc As (qIn g σ H.size) As.toArray U := fun U hU hWm => ⟨rfl, by rw [hU], by rw [hU]; exact hW.1, va_K.moved hWm.alike hW.2.2.2, ⟨hW.2.1.1, fun _ _ _ => trivial⟩⟩
theorem q_next {σ' : qSt} {t : State} {H1 : Heap} {locs1 : List Loc} (hW : Wo g A s H locs σ) (hA : ∀ q, s.heap.size ≤ q → A q) (ht : t.heap = H1) (hvm : s.vm.Alike t.vm) (hB : qOu g H.size σ' t) (hS : va_S A s.heap H1 locs1) : Wo g A s H1 locs1 σ' := by
  refine ⟨by rw [← ht]; exact hB.1, ⟨hB.2.2.1, fun k q hk => q_free hW hA (hB.2.2.2 k q hk)⟩, hS, hW.2.2.2⟩
end QR
section QC
variable {p : Program} {l : Launch} {e : Env} {R : Room} {s : State} {m : MethodId} {args : Array Value} {below : List Frame} {meth : Method} {c : Code} {H : Heap} {locs : List Loc} {cells slots : Nat} {Q : State → Prop}
variable {cc : ByteArray} {pc : Nat} {ls : Array Slot} {rest st : List Value} {A : Nat → Prop} {g : qCfg} {σ : qSt}
variable {Ts ws ws' : List Cond} {own C : String} {retO ret : Option FieldType} {nL index maxL fr lo : Nat} {y : MethodName} {bytes : ByteArray} {As : List Value}
/-- what every call asks of words and room -/
abbrev qCw (R : Room) (y : MethodName) (ws : List Cond) (bytes : ByteArray) (maxL : Nat) (ret : Option FieldType) (ws' : List Cond) (n fr lo : Nat) : Prop :=
  ws = Cond.code y bytes maxL ret :: ws' ∧ (y.cls ≠ "java/lang/invoke/MethodHandle" ∧ y.cls ≠ "java/lang/invoke/VarHandle" ∧ (parseMethodDescriptor y.desc).map (fun d => d.parameters.length) = some n) ∧ (fr + 1 ≤ R.frames ∧ 8 + (maxL + 11) + lo ≤ R.locals)
theorem q_runS {Qc : Nat → Array Value → State → Outcome → State → Prop} (S : qFx p m c cc nL s args Ts own meth retO) (hW : Wo g A s H locs σ) (hM : ∀ sz, Met l y ws (rmm fr lo) (va_Pc As (qIn g σ sz)) (Qc sz) 0 0 (Ad g sz)) (hg : GoodIn Ts (va_wsS own index y ws)) {nA : Nat} (cw : qCw R y ws bytes maxL ret ws' nA fr lo) (hn : As.length = nA)
    (hs : ls.size = nL) (hst : st = As.reverse ++ rest) (hrest : (rest.map fun v => v.category).sum ≤ 8) (hdg : decode cc pc = .ok (.invokestatic index, 3)) (hf : cells ≤ R.cells ∧ slots ≤ R.slots) :
    va_Run p l e R s m args below meth c H locs cells slots 0 0 (F0 m pc ls st) rest (Qc H.size As.toArray) (Ad g H.size) :=
  va_runS ⟨S.1, S.2.1, S.2.2.1, S.2.2.2.1, S.2.2.2.2.1⟩ (hM H.size) (va_cwS nA S.2.2.2.2.1 hg cw.1 rfl rfl cw.2.1 cw.2.2) ⟨q_blind, q_pre hW⟩ rfl hn hs hst (lv_room hrest) hdg hf
theorem q_runV {Qc : Nat → Array Value → State → Outcome → State → Prop} {i ci : Nat} {qq : vw_C} {fs : List Value} (S : qFx p m c cc nL s args Ts own meth retO) (hW : Wo g A s H locs σ) (hi : i < 21) (he : cel g σ i = .inr (ci, fs)) (hc : vwCl[ci]? = some qq) (hM : ∀ sz, Met l y ws (rmm fr lo) (va_Pc (.ref (g.P i) :: As) (qIn g σ sz)) (Qc sz) 0 0 (Ad g sz)) (hg : GoodIn Ts (wsV own index qq.1 y ws)) (hC : y.cls = qq.1) {nA : Nat} (cw : qCw R y ws bytes maxL ret ws' nA fr lo) (hn : As.length = nA)
    (hs : ls.size = nL) (hst : st = As.reverse ++ .ref (g.P i) :: rest) (hrest : (rest.map fun v => v.category).sum ≤ 8) (hdg : decode cc pc = .ok (.invokevirtual index, 3)) (hf : cells ≤ R.cells ∧ slots ≤ R.slots) :
    va_Run p l e R s m args below meth c H locs cells slots 0 0 (F0 m pc ls st) rest (Qc H.size (Value.ref (g.P i) :: As).toArray) (Ad g H.size) :=
  va_runV (C := qq.1) ⟨S.1, S.2.1, S.2.2.1, S.2.2.2.1, S.2.2.2.2.1⟩ (hM H.size) (cwV nA S.2.2.2.2.1 hg cw.1 rfl rfl ⟨hC, cw.2.1⟩ cw.2.2) ⟨q_blind, va_recv hW.2.2.2 hW.1 hc (q0 := i) (by rw [wl_get (by unfold qCfg.N; omega), he]), q_pre hW⟩ rfl hn hs hst (lv_room hrest) hdg hf
theorem q_i {a : Array Value} {post : Int32 → qSt → Prop} (hr : va_Run p l e R s m args below meth c H locs cells slots 0 0 (F0 m pc ls st) rest (va_Qi post (qOu g H.size) (Ad g H.size) a) (Ad g H.size)) (hW : Wo g A s H locs σ) (hA : ∀ q, s.heap.size ≤ q → A q)
    (kk : ∀ (r : Int32) (σ' : qSt) (H1 : Heap) (locs1 : List Loc), post r σ' → Wo g A s H1 locs1 σ' → W p l e R s m args below meth c H1 locs1 cells slots Q (F0 m (pc + 3) ls (.int r :: rest))) : W p l e R s m args below meth c H locs cells slots Q (F0 m pc ls st) :=
  va_calli hr hW.2.2.1 (fun _ _ h => q_free hW hA h) (fun _ h => q_free hW hA h) (fun r σ' t H1 locs1 ht hvm hp hB _ _ hS => kk r σ' H1 locs1 hp (q_next hW hA ht hvm hB hS))
theorem q_l {a : Array Value} {post : Int64 → qSt → Prop} (hr : va_Run p l e R s m args below meth c H locs cells slots 0 0 (F0 m pc ls st) rest (va_Ql post (qOu g H.size) (Ad g H.size) a) (Ad g H.size)) (hW : Wo g A s H locs σ) (hA : ∀ q, s.heap.size ≤ q → A q)
    (kk : ∀ (r : Int64) (σ' : qSt) (H1 : Heap) (locs1 : List Loc), post r σ' → Wo g A s H1 locs1 σ' → W p l e R s m args below meth c H1 locs1 cells slots Q (F0 m (pc + 3) ls (.long r :: rest))) : W p l e R s m args below meth c H locs cells slots Q (F0 m pc ls st) :=
  va_calll hr hW.2.2.1 (fun _ _ h => q_free hW hA h) (fun _ h => q_free hW hA h) (fun r σ' t H1 locs1 ht hvm hp hB _ _ hS => kk r σ' H1 locs1 hp (q_next hW hA ht hvm hB hS))
theorem q_v {a : Array Value} {post : qSt → Prop} (hr : va_Run p l e R s m args below meth c H locs cells slots 0 0 (F0 m pc ls st) rest (va_Qv post (qOu g H.size) (Ad g H.size) a) (Ad g H.size)) (hW : Wo g A s H locs σ) (hA : ∀ q, s.heap.size ≤ q → A q)
    (kk : ∀ (σ' : qSt) (H1 : Heap) (locs1 : List Loc), post σ' → Wo g A s H1 locs1 σ' → W p l e R s m args below meth c H1 locs1 cells slots Q (F0 m (pc + 3) ls rest)) : W p l e R s m args below meth c H locs cells slots Q (F0 m pc ls st) :=
  va_callv hr hW.2.2.1 (fun _ _ h => q_free hW hA h) (fun _ h => q_free hW hA h) (fun σ' t H1 locs1 ht hvm hp hB _ _ hS => kk σ' H1 locs1 hp (q_next hW hA ht hvm hB hS))
end QC
theorem Ad_hi {g : qCfg} {sz : Nat} : ∀ q, sz ≤ q → Ad g sz q := fun _ h => Or.inr h
end
section
/-! began as rows of kit/laws/BITS.to-paste (wb_ family) -/
/-! ===== lN n to 2^64: shifts, and, or, masks, one bit ===== -/
theorem wb_tb (n : Nat) : (lN n).toBitVec = BitVec.ofNat 64 n := rfl
theorem wb_inj {a b : Int64} (h : a.toBitVec = b.toBitVec) : a = b := Int64.toBitVec_inj.mp h
theorem wb_tn {n : Nat} (h : n < 2 ^ 64) : (lN n).toBitVec.toNat = n := by rw [wb_tb, BitVec.toNat_ofNat, Nat.mod_eq_of_lt h]
theorem wb_of (x : Int64) : ∃ n, n < 2 ^ 64 ∧ x = lN n := ⟨x.toBitVec.toNat, x.toBitVec.isLt, wb_inj (by rw [wb_tb]; simp)⟩
theorem wb_of32 (x : Int32) : ∃ n, n < 2 ^ 32 ∧ x = nI n := ⟨x.toBitVec.toNat, x.toBitVec.isLt, Int32.toBitVec_inj.mp (by show _ = BitVec.ofNat 32 _; simp)⟩
theorem wb_c : ∀ k, k < 64 → ((nI k).toInt64 &&& 63) = lN k := by decide +kernel
theorem wb_cu : ∀ k, k < 64 → ((nI k).toInt64.toUInt64 &&& Int64.toUInt64 63) = UInt64.ofNat k := by decide +kernel
theorem wb_sm : ∀ k, k < 64 → (BitVec.ofNat 64 k).smod 64 = BitVec.ofNat 64 k := by decide +kernel
theorem wb_pw {a b : Nat} (h : a ≤ b) : 2 ^ b = 2 ^ a * 2 ^ (b - a) := by rw [← Nat.pow_add]; congr 1; omega
theorem wb_lt2 {a b : Nat} (h : a < b) : 2 ^ a < 2 ^ b := Nat.pow_lt_pow_right (by decide) h
theorem wb_mod (n : Nat) : lN n = lN (n % 2 ^ 64) := wb_inj (by rw [wb_tb, wb_tb]; apply BitVec.eq_of_toNat_eq; rw [BitVec.toNat_ofNat, BitVec.toNat_ofNat, Nat.mod_mod])
theorem wb_shr {n k : Nat} (hn : n < 2 ^ 64) (hk : k < 64) : ((lN n).toUInt64 >>> ((nI k).toInt64.toUInt64 &&& Int64.toUInt64 63)).toInt64 = lN (n / 2 ^ k) := by
  rw [wb_cu k hk]
  apply wb_inj
  apply BitVec.eq_of_toNat_eq
  show ((lN n).toUInt64 >>> UInt64.ofNat k).toNat = (BitVec.ofNat 64 _).toNat
  have h1 : (UInt64.ofNat k).toNat = k := by
    show (BitVec.ofNat 64 k).toNat = k
    rw [BitVec.toNat_ofNat, Nat.mod_eq_of_lt (by omega)]
  have h2 : (lN n).toUInt64.toNat = n := wb_tn hn
  rw [UInt64.toNat_shiftRight, h1, h2, Nat.mod_eq_of_lt hk, Nat.shiftRight_eq_div_pow, BitVec.toNat_ofNat, Nat.mod_eq_of_lt (Nat.lt_of_le_of_lt (Nat.div_le_self _ _) hn)]
theorem wb_shl (n : Nat) {k : Nat} (hk : k < 64) : lN n <<< ((nI k).toInt64 &&& 63) = lN (n * 2 ^ k) := by
  rw [wb_c k hk]
  apply wb_inj
  rw [Int64.toBitVec_shiftLeft, wb_tb, wb_tb, wb_tb, wb_sm k hk]
  apply BitVec.eq_of_toNat_eq
  rw [BitVec.shiftLeft_eq', BitVec.toNat_shiftLeft, BitVec.toNat_ofNat, BitVec.toNat_ofNat, BitVec.toNat_ofNat, Nat.mod_eq_of_lt (show k < 2 ^ 64 by omega), Nat.shiftLeft_eq, Nat.mul_mod, Nat.mod_mod, ← Nat.mul_mod]
theorem wb_and {a b : Nat} (ha : a < 2 ^ 64) (hb : b < 2 ^ 64) : lN a &&& lN b = lN (a &&& b) := by
  apply wb_inj
  rw [Int64.toBitVec_and, wb_tb, wb_tb, wb_tb]
  apply BitVec.eq_of_toNat_eq
  rw [BitVec.toNat_and, BitVec.toNat_ofNat, BitVec.toNat_ofNat, BitVec.toNat_ofNat, Nat.mod_eq_of_lt ha, Nat.mod_eq_of_lt hb, Nat.mod_eq_of_lt (Nat.and_lt_two_pow _ hb)]
theorem wb_or {a b : Nat} (ha : a < 2 ^ 64) (hb : b < 2 ^ 64) : lN a ||| lN b = lN (a ||| b) := by
  apply wb_inj
  rw [Int64.toBitVec_or, wb_tb, wb_tb, wb_tb]
  apply BitVec.eq_of_toNat_eq
  rw [BitVec.toNat_or, BitVec.toNat_ofNat, BitVec.toNat_ofNat, BitVec.toNat_ofNat, Nat.mod_eq_of_lt ha, Nat.mod_eq_of_lt hb, Nat.mod_eq_of_lt (Nat.or_lt_two_pow ha hb)]
theorem wb_mask {n k : Nat} (hn : n < 2 ^ 64) (hk : k < 64) : lN n &&& lN (2 ^ k - 1) = lN (n % 2 ^ k) := by
  rw [wb_and hn (by have := wb_lt2 hk; omega), Nat.and_two_pow_sub_one_eq_mod]
theorem wb_a1 {n : Nat} (hn : n < 2 ^ 64) : lN n &&& 1 = lN (n % 2) := wb_mask (k := 1) hn (by decide)
theorem wb_bit {n k : Nat} (hn : n < 2 ^ 64) (hk : k < 64) : ((lN n).toUInt64 >>> ((nI k).toInt64.toUInt64 &&& Int64.toUInt64 63)).toInt64 &&& 1 = lN (n / 2 ^ k % 2) := by
  rw [wb_shr hn hk, wb_a1 (Nat.lt_of_le_of_lt (Nat.div_le_self _ _) hn)]
/-! ===== numbers in limbs: digits d x, each below 2^32 ===== -/
def dv (d : Nat → Nat) : Nat → Nat
  | 0 => 0
  | k + 1 => dv d k + d k * 2 ^ (32 * k)
def dB (d : Nat → Nat) (k : Nat) : Prop := ∀ x, x < k → d x < 4294967296
theorem dB_le {d : Nat → Nat} {k j : Nat} (h : dB d k) (hj : j ≤ k) : dB d j := fun x hx => h x (by omega)
theorem p32 (k : Nat) : 2 ^ (32 * (k + 1)) = 2 ^ (32 * k) * 4294967296 := by
  rw [show 32 * (k + 1) = 32 * k + 32 by omega, Nat.pow_add]
theorem p32_pos (k : Nat) : 0 < 2 ^ (32 * k) := Nat.pow_pos (by decide)
theorem dv_cong {d e : Nat → Nat} : ∀ {k : Nat}, (∀ x, x < k → d x = e x) → dv d k = dv e k
  | 0, _ => rfl
  | k + 1, h => by
    show dv d k + d k * _ = dv e k + e k * _
    rw [dv_cong (fun x hx => h x (by omega)), h k (by omega)]
theorem dv_lt {d : Nat → Nat} : ∀ {k : Nat}, dB d k → dv d k < 2 ^ (32 * k)
  | 0, _ => by show (0 : Nat) < 2 ^ (32 * 0); decide
  | k + 1, h => by
    have h1 := dv_lt (dB_le h (Nat.le_succ k))
    have h2 := h k (by omega)
    have h3 : d k * 2 ^ (32 * k) ≤ 4294967295 * 2 ^ (32 * k) := Nat.mul_le_mul_right _ (by omega)
    show dv d k + d k * 2 ^ (32 * k) < _
    rw [p32]
    omega
theorem dv_step {d e : Nat → Nat} {k : Nat} (h : ∀ x, x < k → d x = e x) : dv d (k + 1) = dv e k + d k * 2 ^ (32 * k) := by
  show dv d k + _ = _
  rw [dv_cong h]
theorem dv_zero {d : Nat → Nat} : ∀ {k : Nat}, (∀ x, x < k → d x = 0) → dv d k = 0
  | 0, _ => rfl
  | k + 1, h => by
    show dv d k + d k * _ = 0
    rw [dv_zero (fun x hx => h x (by omega)), h k (by omega)]
    omega
/-- high limbs that are 0 don't count -/
theorem dv_ext {d : Nat → Nat} {k : Nat} : ∀ {j : Nat}, (∀ x, k ≤ x → x < k + j → d x = 0) → dv d (k + j) = dv d k
  | 0, _ => rfl
  | j + 1, h => by
    show dv d (k + j) + d (k + j) * _ = _
    rw [dv_ext (fun x h1 h2 => h x h1 (by omega)), h (k + j) (by omega) (by omega)]
    omega
/-- the highest limb that differs decides -/
theorem dv_less {d e : Nat → Nat} {x : Nat} (hd : dB d (x + 1)) (hx : d x < e x) : ∀ {j : Nat}, (∀ y, x < y → y < x + 1 + j → d y = e y) → dv d (x + 1 + j) < dv e (x + 1 + j)
  | 0, _ => by
    have h1 := dv_lt (dB_le hd (Nat.le_succ x))
    have h3 : (d x + 1) * 2 ^ (32 * x) ≤ e x * 2 ^ (32 * x) := Nat.mul_le_mul_right _ hx
    rw [Nat.add_mul] at h3
    show dv d x + d x * 2 ^ (32 * x) < dv e x + e x * 2 ^ (32 * x)
    omega
  | j + 1, h => by
    have ih := dv_less hd hx (j := j) (fun y h1 h2 => h y h1 (by omega))
    show dv d (x + 1 + j) + d (x + 1 + j) * _ < dv e (x + 1 + j) + e (x + 1 + j) * _
    rw [h (x + 1 + j) (by omega) (by omega)]
    omega
theorem dv_inj {d e : Nat → Nat} : ∀ {k : Nat}, dB d k → dB e k → dv d k = dv e k → ∀ x, x < k → d x = e x
  | 0, _, _, _, x, hx => absurd hx (Nat.not_lt_zero x)
  | k + 1, h1, h2, h, x, hx => by
    rcases Nat.lt_trichotomy (d k) (e k) with q | q | q
    · have := dv_less (j := 0) h1 q (fun y _ _ => by omega)
      have h' : dv d (k + 1 + 0) = dv e (k + 1 + 0) := h
      omega
    · have h' : dv d k + d k * 2 ^ (32 * k) = dv e k + e k * 2 ^ (32 * k) := h
      rw [q] at h'
      rcases Nat.lt_or_ge x k with hk | hk
      · exact dv_inj (dB_le h1 (Nat.le_succ k)) (dB_le h2 (Nat.le_succ k)) (by omega) x hk
      · rw [show x = k by omega]; exact q
    · have := dv_less (j := 0) h2 q (fun y _ _ => by omega)
      have h' : dv d (k + 1 + 0) = dv e (k + 1 + 0) := h
      omega
/-- a number of one limb -/
theorem dv_one {d : Nat → Nat} {k : Nat} (hk : 1 ≤ k) (h : ∀ x, 1 ≤ x → x < k → d x = 0) : dv d k = d 0 := by
  have h1 := dv_ext (d := d) (k := 1) (j := k - 1) (fun x h1 h2 => h x h1 (by omega))
  rw [show 1 + (k - 1) = k by omega] at h1
  rw [h1]
  show 0 + d 0 * 2 ^ (32 * 0) = d 0
  omega
theorem dv_small {d : Nat → Nat} {k v : Nat} (hk : 1 ≤ k) (hd : dB d k) (hv : v < 4294967296) : dv d k = v ↔ d 0 = v ∧ ∀ x, 1 ≤ x → x < k → d x = 0 := by
  constructor
  · intro h
    have h1 : dv (fun x => if x = 0 then v else 0) k = v := by
      rw [dv_one hk (fun x h1 _ => if_neg (by omega))]
      rfl
    have h2 := dv_inj hd (fun x _ => by show (if x = 0 then v else 0) < _; split <;> omega) (h.trans h1.symm)
    exact ⟨h2 0 (by omega), fun x h1 hx => (h2 x hx).trans (if_neg (by omega))⟩
  · intro h
    rw [dv_one hk h.2, h.1]
theorem dv_low {d : Nat → Nat} : ∀ {k : Nat}, 1 ≤ k → ∃ q, dv d k = d 0 + 4294967296 * q
  | 0, h => absurd h (by omega)
  | 1, _ => ⟨0, by show 0 + d 0 * 2 ^ (32 * 0) = _; omega⟩
  | k + 2, _ => by
    obtain ⟨q, hq⟩ := dv_low (d := d) (k := k + 1) (by omega)
    refine ⟨q + d (k + 1) * 2 ^ (32 * k), ?_⟩
    show dv d (k + 1) + d (k + 1) * 2 ^ (32 * (k + 1)) = _
    rw [hq, p32]
    grind
theorem dv_mod2 {d : Nat → Nat} {k : Nat} (h : 1 ≤ k) : dv d k % 2 = d 0 % 2 := by
  obtain ⟨q, hq⟩ := dv_low (d := d) h
  omega
theorem dv_bit {d : Nat → Nat} {b : Nat} : ∀ {k : Nat}, dB d k → b < 32 * k → (dv d k).testBit b = (d (b / 32)).testBit (b % 32)
  | 0, _, h => absurd h (by omega)
  | k + 1, hd, h => by
    have h1 := dv_lt (dB_le hd (Nat.le_succ k))
    have e : dv d (k + 1) = 2 ^ (32 * k) * d k + dv d k := by
      show dv d k + d k * 2 ^ (32 * k) = _
      rw [Nat.mul_comm, Nat.add_comm]
    rw [e, Nat.testBit_two_pow_mul_add _ h1]
    by_cases hb : b < 32 * k
    · rw [if_pos hb, dv_bit (dB_le hd (Nat.le_succ k)) hb]
    · rw [if_neg hb, show b / 32 = k by omega, show b % 32 = b - 32 * k by omega]
/-! ===== one step of a sum, a difference, a multiple, a half ===== -/
theorem st_add {h A B P c a b v c' : Nat} (hv : v + c' * 4294967296 = c + a + b) (hi : h + c * P = A + B) : (h + v * P) + c' * (P * 4294967296) = (A + a * P) + (B + b * P) := by
  have : (v + c' * 4294967296) * P = (c + a + b) * P := by rw [hv]
  grind
theorem st_mul {h A B P c a b v c' f : Nat} (hv : v + c' * 4294967296 = c + f * b + a) (hi : h + c * P = A + f * B) : (h + v * P) + c' * (P * 4294967296) = (A + a * P) + f * (B + b * P) := by
  have : (v + c' * 4294967296) * P = (c + f * b + a) * P := by rw [hv]
  grind
theorem st_sub {h A B P c a b v c' : Nat} (hv : v + b + c = a + c' * 4294967296) (hi : h + B = A + c * P) : (h + v * P) + (B + b * P) = (A + a * P) + c' * (P * 4294967296) := by
  have : (v + b + c) * P = (a + c' * 4294967296) * P := by rw [hv]
  grind
/-! ===== Int32 and Int64 as numbers ===== -/
def uI (x : Int32) : Nat := x.toBitVec.toNat
def uL (x : Int64) : Nat := x.toBitVec.toNat
theorem uI_lt (x : Int32) : uI x < 4294967296 := x.toBitVec.isLt
theorem uL_lt (x : Int64) : uL x < 18446744073709551616 := x.toBitVec.isLt
theorem nI_uI (x : Int32) : nI (uI x) = x := by
  apply Int32.toBitVec_inj.mp
  show BitVec.ofNat 32 _ = _
  unfold uI
  simp
theorem lN_uL (x : Int64) : lN (uL x) = x := by
  apply Int64.toBitVec_inj.mp
  show BitVec.ofNat 64 _ = _
  unfold uL
  simp
theorem uI_nI {n : Nat} : uI (nI n) = n % 4294967296 := by
  show (BitVec.ofNat 32 n).toNat = _
  rw [BitVec.toNat_ofNat]
theorem uI_nI' {n : Nat} (h : n < 4294967296) : uI (nI n) = n := by rw [uI_nI, Nat.mod_eq_of_lt h]
theorem uL_lN {n : Nat} (h : n < 18446744073709551616) : uL (lN n) = n := by
  show (BitVec.ofNat 64 n).toNat = _
  rw [BitVec.toNat_ofNat, Nat.mod_eq_of_lt h]
theorem uI_inj {x y : Int32} (h : uI x = uI y) : x = y := by rw [← nI_uI x, ← nI_uI y, h]
theorem uI_ne {x y : Int32} (h : x ≠ y) : uI x ≠ uI y := fun q => h (uI_inj q)
theorem uI_0 : uI 0 = 0 := by decide
theorem uI_1 : uI 1 = 1 := by decide
theorem nI_mod (n : Nat) : nI (n % 4294967296) = nI n := by
  apply uI_inj
  rw [uI_nI, uI_nI, Nat.mod_mod]
/-- an int, as a limb in a long -/
theorem m32 (x : Int32) : x.toInt64 &&& 4294967295 = lN (uI x) := by
  apply wb_inj
  have h1 : (x.toInt64 &&& 4294967295).toBitVec.toNat = uL x.toInt64 % 2 ^ 32 := by
    rw [Int64.toBitVec_and, BitVec.toNat_and]
    exact Nat.and_two_pow_sub_one_eq_mod _ 32
  have h2 : uI x = uL x.toInt64 % 2 ^ 32 := by
    have h3 : x.toInt64.toInt32 = x := by simp
    have h4 := lN_i (uL x.toInt64)
    rw [lN_uL, h3] at h4
    exact (congrArg uI h4).trans uI_nI
  apply BitVec.eq_of_toNat_eq
  rw [h1, ← h2]
  exact (wb_tn (Nat.lt_trans (uI_lt x) (by decide))).symm
theorem lN_ushr32 {n : Nat} (h : n < 18446744073709551616) : ((lN n).toUInt64 >>> ((32 : Int32).toInt64.toUInt64 &&& Int64.toUInt64 63)).toInt64 = lN (n / 4294967296) := wb_shr (k := 32) h (by decide)
theorem lN_ushr1 {n : Nat} (h : n < 18446744073709551616) : ((lN n).toUInt64 >>> ((1 : Int32).toInt64.toUInt64 &&& Int64.toUInt64 63)).toInt64 = lN (n / 2) := wb_shr (k := 1) h (by decide)
/-- a row's number -/
def rv (f : Nat → Int32) (k : Nat) : Nat := dv (fun x => uI (f x)) k
theorem rB (f : Nat → Int32) (k : Nat) : dB (fun x => uI (f x)) k := fun x _ => uI_lt _
theorem rv_lt {f : Nat → Int32} {k : Nat} : rv f k < 2 ^ (32 * k) := dv_lt (rB f k)
theorem rv_cong {f h : Nat → Int32} {k : Nat} (e : ∀ x, x < k → f x = h x) : rv f k = rv h k := dv_cong (fun x hx => by rw [e x hx])
theorem rv_inj {f h : Nat → Int32} {k : Nat} (e : rv f k = rv h k) : ∀ x, x < k → f x = h x := fun x hx => uI_inj (dv_inj (rB f k) (rB h k) e x hx)
theorem rv_succ (f : Nat → Int32) (k : Nat) : rv f (k + 1) = rv f k + uI (f k) * 2 ^ (32 * k) := rfl
theorem rv_upd {h : Nat → Int32} {x : Nat} {v : Int32} : rv (upd h x v) (x + 1) = rv h x + uI v * 2 ^ (32 * x) := by
  rw [rv_succ]
  have e1 : upd h x v x = v := by simp [upd]
  rw [e1, rv_cong (h := h) (fun y hy => by simp [upd, show y ≠ x by omega])]
end
section
/-! ===== starts with the end left open: the walk's Q is a name ===== -/
section QS
variable {l : Launch} {g : qCfg} {y : MethodName} {ws ws' : List Cond} {fr lo : Nat} {As : List Value} {σ : qSt} {cc : ByteArray} {maxL : Nat}
theorem q_sV {post : qSt → Prop} (hy : plainName y.cls = true) (hw : ws = Cond.code y cc maxL none :: ws') (hL : (lg_sl As).length ≤ maxL)
    (body : ∀ (p : Program) (e : Env) (s : State) (m : MethodId) (args : Array Value) (below : List Frame) (meth : Method) (c : Code) (ls : Array Slot) (Q : State → Prop), qFx p m c cc maxL s args ws y.cls meth none → Wo g (Ad g s.heap.size) s s.heap [] σ → lv_has ls maxL (lv_args 0 As) →
      (∀ (σ' : qSt) (H : Heap) (locs : List Loc) (pc : Nat) (ls : Array Slot), Wo g (Ad g s.heap.size) s H locs σ' → post σ' → decode cc pc = .ok (.return_, 1) → W p l e (rmm fr lo) s m args below meth c H locs 0 0 Q (F0 m pc ls [])) →
      W p l e (rmm fr lo) s m args below meth c s.heap [] 0 0 Q (F0 m 0 ls [])) : qCV l g y ws fr lo As σ post := by
  refine q_start (Qc := fun sz => va_Qv post (qOu g sz) (Ad g sz)) hy hw hL ?_
  intro p e s m below meth c ls S hW hl
  exact body p e s m _ below meth c ls _ S hW hl (fun σ' H locs pc ls hW hp hd => q_vret S.1 S.2.1 S.2.2.2.2.2.1 S.2.2.2.2.2.2 hW hp hd)
theorem q_sI {post : Int32 → qSt → Prop} (hy : plainName y.cls = true) (hw : ws = Cond.code y cc maxL (some .int) :: ws') (hL : (lg_sl As).length ≤ maxL)
    (body : ∀ (p : Program) (e : Env) (s : State) (m : MethodId) (args : Array Value) (below : List Frame) (meth : Method) (c : Code) (ls : Array Slot) (Q : State → Prop), qFx p m c cc maxL s args ws y.cls meth (some .int) → Wo g (Ad g s.heap.size) s s.heap [] σ → lv_has ls maxL (lv_args 0 As) →
      (∀ (r : Int32) (σ' : qSt) (H : Heap) (locs : List Loc) (pc : Nat) (ls : Array Slot), Wo g (Ad g s.heap.size) s H locs σ' → post r σ' → decode cc pc = .ok (.ireturn, 1) → W p l e (rmm fr lo) s m args below meth c H locs 0 0 Q (F0 m pc ls [.int r])) →
      W p l e (rmm fr lo) s m args below meth c s.heap [] 0 0 Q (F0 m 0 ls [])) : qCI l g y ws fr lo As σ post := by
  refine q_start (Qc := fun sz => va_Qi post (qOu g sz) (Ad g sz)) hy hw hL ?_
  intro p e s m below meth c ls S hW hl
  exact body p e s m _ below meth c ls _ S hW hl (fun r σ' H locs pc ls hW hp hd => q_iret S.1 S.2.1 S.2.2.2.2.2.1 S.2.2.2.2.2.2 hW hp hd)
theorem q_sZ {post : Int32 → qSt → Prop} (hy : plainName y.cls = true) (hw : ws = Cond.code y cc maxL (some .boolean) :: ws') (hL : (lg_sl As).length ≤ maxL)
    (body : ∀ (p : Program) (e : Env) (s : State) (m : MethodId) (args : Array Value) (below : List Frame) (meth : Method) (c : Code) (ls : Array Slot) (Q : State → Prop), qFx p m c cc maxL s args ws y.cls meth (some .boolean) → Wo g (Ad g s.heap.size) s s.heap [] σ → lv_has ls maxL (lv_args 0 As) →
      (∀ (r : Int32) (σ' : qSt) (H : Heap) (locs : List Loc) (pc : Nat) (ls : Array Slot), r = 0 ∨ r = 1 → Wo g (Ad g s.heap.size) s H locs σ' → post r σ' → decode cc pc = .ok (.ireturn, 1) → W p l e (rmm fr lo) s m args below meth c H locs 0 0 Q (F0 m pc ls [.int r])) →
      W p l e (rmm fr lo) s m args below meth c s.heap [] 0 0 Q (F0 m 0 ls [])) : qCI l g y ws fr lo As σ post := by
  refine q_start (Qc := fun sz => va_Qi post (qOu g sz) (Ad g sz)) hy hw hL ?_
  intro p e s m below meth c ls S hW hl
  exact body p e s m _ below meth c ls _ S hW hl (fun r σ' H locs pc ls hn hW hp hd => q_zret S.1 S.2.1 S.2.2.2.2.2.1 S.2.2.2.2.2.2 hW hn hp hd)
theorem q_sL {post : Int64 → qSt → Prop} (hy : plainName y.cls = true) (hw : ws = Cond.code y cc maxL (some .long) :: ws') (hL : (lg_sl As).length ≤ maxL)
    (body : ∀ (p : Program) (e : Env) (s : State) (m : MethodId) (args : Array Value) (below : List Frame) (meth : Method) (c : Code) (ls : Array Slot) (Q : State → Prop), qFx p m c cc maxL s args ws y.cls meth (some .long) → Wo g (Ad g s.heap.size) s s.heap [] σ → lv_has ls maxL (lv_args 0 As) →
      (∀ (r : Int64) (σ' : qSt) (H : Heap) (locs : List Loc) (pc : Nat) (ls : Array Slot), Wo g (Ad g s.heap.size) s H locs σ' → post r σ' → decode cc pc = .ok (.lreturn, 1) → W p l e (rmm fr lo) s m args below meth c H locs 0 0 Q (F0 m pc ls [.long r])) →
      W p l e (rmm fr lo) s m args below meth c s.heap [] 0 0 Q (F0 m 0 ls [])) : qCL l g y ws fr lo As σ post := by
  refine q_start (Qc := fun sz => va_Ql post (qOu g sz) (Ad g sz)) hy hw hL ?_
  intro p e s m below meth c ls S hW hl
  exact body p e s m _ below meth c ls _ S hW hl (fun r σ' H locs pc ls hW hp hd => q_lret S.1 S.2.1 S.2.2.2.2.2.1 S.2.2.2.2.2.2 hW hp hd)
end QS
/-! ===== one int row changed ===== -/
def qSt.setR (σ : qSt) (i : Nat) (h : Nat → Int32) : qSt := σ.setF (va_up σ.F i h)
theorem va_up_same {α : Type} (f : Nat → α) (i : Nat) : va_up f i (f i) = f := by
  funext j
  by_cases h : j = i
  · subst h
    exact va_up_self _ _ _
  · exact va_up_ne _ _ h
theorem va_up_twice {α : Type} (f : Nat → α) (i : Nat) (a b : α) : va_up (va_up f i a) i b = va_up f i b := by
  funext j
  by_cases h : j = i
  · subst h
    rw [va_up_self, va_up_self]
  · rw [va_up_ne _ _ h, va_up_ne _ _ h, va_up_ne _ _ h]
theorem setR_self (σ : qSt) (i : Nat) : σ.setR i (σ.F i) = σ := by
  unfold qSt.setR
  rw [va_up_same]
  rfl
theorem setR_at (σ : qSt) (i : Nat) (h : Nat → Int32) : (σ.setR i h).F i = h := va_up_self _ _ _
theorem setR_ne (σ : qSt) {i j : Nat} (h : Nat → Int32) (hj : j ≠ i) : (σ.setR i h).F j = σ.F j := va_up_ne _ _ hj
theorem setR_twice (σ : qSt) (i : Nat) (h h2 : Nat → Int32) : (σ.setR i h).setR i h2 = σ.setR i h2 := by
  show ((va_up (va_up σ.F i h) i h2, σ.2) : qSt) = (va_up σ.F i h2, σ.2)
  rw [va_up_twice]
/-- a place that isn't reached yet is read as it was -/
theorem rdk {σ : qSt} {i : Nat} {h : Nat → Int32} {x : Nat} (hh : h x = σ.F i x) (j : Nat) : (σ.setR i h).F j x = σ.F j x := by
  by_cases hj : j = i
  · subst hj
    rw [setR_at, hh]
  · rw [setR_ne _ _ hj]
theorem rowk {g : qCfg} {i : Nat} (h : 12 ≤ i ∧ i < 21) : 12 ≤ i ∧ i < g.N := ⟨h.1, by unfold qCfg.N; omega⟩
theorem rowr {g : qCfg} {r : Nat} (h : r < g.n) : 12 ≤ 21 + r ∧ 21 + r < g.N := ⟨by omega, by unfold qCfg.N; omega⟩
section QT
variable {p : Program} {l : Launch} {e : Env} {R : Room} {s : State} {m : MethodId} {args : Array Value} {below : List Frame} {meth : Method} {c : Code} {H : Heap} {locs : List Loc} {cells slots : Nat} {Q : State → Prop}
variable {cc : ByteArray} {pc : Nat} {ls : Array Slot} {rest st : List Value} {A : Nat → Prop} {g : qCfg} {σ : qSt}
theorem q_ti {x y : Int32} (h : x = y) (k : W p l e R s m args below meth c H locs cells slots Q (F0 m pc ls (.int y :: rest))) : W p l e R s m args below meth c H locs cells slots Q (F0 m pc ls (.int x :: rest)) := by
  rw [h]
  exact k
theorem q_tl {x y : Int64} (h : x = y) (k : W p l e R s m args below meth c H locs cells slots Q (F0 m pc ls (.long y :: rest))) : W p l e R s m args below meth c H locs cells slots Q (F0 m pc ls (.long x :: rest)) := by
  rw [h]
  exact k
theorem q_iastR (hx : p.tables.exec = Jvm.exec) (hb : c.code = cc) {i : Nat} {h : Nat → Int32} (hW : Wo g A s H locs (σ.setR i h)) {j : Nat} {x v : Int32} (hi : 12 ≤ i ∧ i < g.N) (hj : j < g.k) (hk : g.k ≤ 8) (ej : x = nI j) (hdg : decode cc pc = .ok (.iastore, 1))
    (kk : ∀ (H1 : Heap) (locs1 : List Loc), Wo g A s H1 locs1 (σ.setR i (upd h j v)) → W p l e R s m args below meth c H1 locs1 cells slots Q (F0 m (pc + 1) ls rest)) : W p l e R s m args below meth c H locs cells slots Q (F0 m pc ls (.int v :: .int x :: .ref (g.P i) :: rest)) := by
  refine q_iast hx hb hW hi hj hk ej hdg (fun H1 locs1 hW1 => kk H1 locs1 ?_)
  have e1 : (σ.setR i h).setR i (upd ((σ.setR i h).F i) j v) = σ.setR i (upd h j v) := by rw [setR_at, setR_twice]
  rw [← e1]
  exact hW1
end QT
end
section
/-! ===== rows in a loop: which places are as they were ===== -/
def Ru (F0 F : Nat → Nat → Int32) (i x : Nat) : Prop := (∀ r, r ≠ i → F r = F0 r) ∧ ∀ y, x ≤ y → F i y = F0 i y
theorem Ru.rf {F : Nat → Nat → Int32} {i x : Nat} : Ru F F i x := ⟨fun _ _ => rfl, fun _ _ => rfl⟩
theorem Ru.rd {F0 F : Nat → Nat → Int32} {i x : Nat} (h : Ru F0 F i x) (j : Nat) : F j x = F0 j x := by
  by_cases q : j = i
  · subst q
    exact h.2 x (Nat.le_refl x)
  · rw [h.1 j q]
theorem Ru.st {F0 F : Nat → Nat → Int32} {i x : Nat} (h : Ru F0 F i x) (v : Int32) : Ru F0 (va_up F i (upd (F i) x v)) i (x + 1) :=
  ⟨fun r hr => by rw [va_up_ne _ _ hr]; exact h.1 r hr, fun y hy => by rw [va_up_self, pk_un (by omega)]; exact h.2 y (by omega)⟩
theorem Ru.num {F : Nat → Nat → Int32} {i x : Nat} (v : Int32) : rv (va_up F i (upd (F i) x v) i) (x + 1) = rv (F i) x + uI v * 2 ^ (32 * x) := by
  rw [va_up_self]
  exact rv_upd
/-- downwards: the places below x are as they were -/
def Rw (F0 F : Nat → Nat → Int32) (i x : Nat) : Prop := (∀ r, r ≠ i → F r = F0 r) ∧ ∀ y, y < x → F i y = F0 i y
theorem Rw.rf {F : Nat → Nat → Int32} {i x : Nat} : Rw F F i x := ⟨fun _ _ => rfl, fun _ _ => rfl⟩
theorem Rw.rd {F0 F : Nat → Nat → Int32} {i x y : Nat} (h : Rw F0 F i x) (hy : y < x) (j : Nat) : F j y = F0 j y := by
  by_cases q : j = i
  · subst q
    exact h.2 y hy
  · rw [h.1 j q]
theorem Rw.st {F0 F : Nat → Nat → Int32} {i x : Nat} (h : Rw F0 F i (x + 1)) (v : Int32) : Rw F0 (va_up F i (upd (F i) x v)) i x :=
  ⟨fun r hr => by rw [va_up_ne _ _ hr]; exact h.1 r hr, fun y hy => by rw [va_up_self, pk_un (by omega)]; exact h.2 y (by omega)⟩
theorem nge {a b : Nat} (h : ¬ nI b ≤ nI a) (ha : a < 2 ^ 31) : a < b := Nat.not_le.mp (fun q => h (nI_le q ha))
theorem nle {a b : Nat} (h : nI b ≤ nI a) (ha : a < 2 ^ 31) (hb : b < 2 ^ 31) : b ≤ a := (nI_leI hb ha).mp h
theorem setF_self (σ : qSt) : σ.setF σ.F = σ := rfl
/-- the number that row i holds -/
def qV (g : qCfg) (F : Nat → Nat → Int32) (i : Nat) : Nat := rv (F i) g.k
theorem qV_lt {g : qCfg} {F : Nat → Nat → Int32} {i : Nat} : qV g F i < 2 ^ (32 * g.k) := rv_lt
/-- all rows but those in l are as they were -/
def Fr (F0 F : Nat → Nat → Int32) (l : List Nat) : Prop := ∀ r, r ∉ l → F r = F0 r
theorem Fr.V {g : qCfg} {F0 F : Nat → Nat → Int32} {l : List Nat} (h : Fr F0 F l) {r : Nat} (hr : r ∉ l) : qV g F r = qV g F0 r := by
  unfold qV
  rw [h r hr]
theorem Fr.rf {F : Nat → Nat → Int32} {l : List Nat} : Fr F F l := fun _ _ => rfl
theorem Fr.tr {F0 F1 F2 : Nat → Nat → Int32} {l1 l2 l : List Nat} (h1 : Fr F0 F1 l1) (h2 : Fr F1 F2 l2) (s1 : ∀ r, r ∈ l1 → r ∈ l) (s2 : ∀ r, r ∈ l2 → r ∈ l) : Fr F0 F2 l := fun r hr => by rw [h2 r (fun q => hr (s2 r q)), h1 r (fun q => hr (s1 r q))]
theorem Ru.fr {F0 F : Nat → Nat → Int32} {i x : Nat} (h : Ru F0 F i x) : Fr F0 F [i] := fun r hr => h.1 r (fun q => hr (by rw [q]; exact List.mem_singleton_self i))
theorem Rw.fr {F0 F : Nat → Nat → Int32} {i x : Nat} (h : Rw F0 F i x) : Fr F0 F [i] := fun r hr => h.1 r (fun q => hr (by rw [q]; exact List.mem_singleton_self i))
section QF
variable {p : Program} {l : Launch} {e : Env} {R : Room} {s : State} {m : MethodId} {args : Array Value} {below : List Frame} {meth : Method} {c : Code} {H : Heap} {locs : List Loc} {cells slots : Nat} {Q : State → Prop}
variable {cc : ByteArray} {pc : Nat} {ls : Array Slot} {rest st : List Value} {A : Nat → Prop} {g : qCfg} {σ : qSt}
theorem q_iastF (hx : p.tables.exec = Jvm.exec) (hb : c.code = cc) {i : Nat} {F : Nat → Nat → Int32} (hW : Wo g A s H locs (σ.setF F)) {j : Nat} {x v : Int32} (hi : 12 ≤ i ∧ i < g.N) (hj : j < g.k) (hk : g.k ≤ 8) (ej : x = nI j) (hdg : decode cc pc = .ok (.iastore, 1))
    (kk : ∀ (H1 : Heap) (locs1 : List Loc), Wo g A s H1 locs1 (σ.setF (va_up F i (upd (F i) j v))) → W p l e R s m args below meth c H1 locs1 cells slots Q (F0 m (pc + 1) ls rest)) : W p l e R s m args below meth c H locs cells slots Q (F0 m pc ls (.int v :: .int x :: .ref (g.P i) :: rest)) :=
  q_iast hx hb hW hi hj hk ej hdg kk
end QF
theorem lsh32 (x : Int64) : x >>> ((32 : Int32).toInt64 &&& 63) = Int64.ofInt (x.toInt / 4294967296) := by
  apply wb_inj
  apply BitVec.eq_of_toInt_eq
  rw [Int64.toBitVec_shiftRight, show ((32 : Int32).toInt64 &&& 63).toBitVec.smod 64 = (32 : BitVec 64) by decide, BitVec.sshiftRight_eq', BitVec.toInt_sshiftRight, show (32 : BitVec 64).toNat = 32 by decide, Int.shiftRight_eq_div_pow]
  show x.toInt / ((2 ^ 32 : Nat) : Int) = (Int64.ofInt (x.toInt / 4294967296)).toInt
  have h1 := Int64.le_toInt x
  have h2 := Int64.toInt_lt x
  rw [Int64.toInt_ofInt_of_le (by omega) (by omega)]
  omega
/-- one limb of a difference: t = -β + (a - b) -/
theorem sub_limb {a b β : Nat} (ha : a < 4294967296) (hb : b < 4294967296) (hβ : β ≤ 1) : ∃ v β' : Nat, v < 4294967296 ∧ β' ≤ 1 ∧ v + b + β = a + β' * 4294967296 ∧ ((if β = 0 then (0 : Int64) else -1) + (lN a - lN b)).toInt32 = nI v ∧ ((if β = 0 then (0 : Int64) else -1) + (lN a - lN b)) >>> ((32 : Int32).toInt64 &&& 63) = (if β' = 0 then (0 : Int64) else -1) := by
  have key : ∀ t : Int64, (∀ z : Int, t.toInt = z → -4294967296 ≤ z → z < 0 → t >>> ((32 : Int32).toInt64 &&& 63) = -1) := by
    intro t z hz h1 h2
    rw [lsh32, hz]
    apply Int64.toInt_inj.mp
    rw [show z / 4294967296 = -1 by omega]
    decide
  have e0 : (if β = 0 then (0 : Int64) else -1) + (lN a - lN b) = if b + β ≤ a then lN (a - b - β) else lN (18446744073709551616 + a - b - β) := by
    apply wb_inj
    apply BitVec.eq_of_toNat_eq
    rw [Int64.toBitVec_add, Int64.toBitVec_sub, BitVec.toNat_add, BitVec.toNat_sub, wb_tn (show a < 2 ^ 64 by omega), wb_tn (show b < 2 ^ 64 by omega)]
    have hm : (if β = 0 then (0 : Int64) else -1).toBitVec.toNat = if β = 0 then 0 else 18446744073709551615 := by split <;> rfl
    rw [hm]
    by_cases h : b + β ≤ a
    · rw [if_pos h, wb_tn (by omega)]
      by_cases q : β = 0
      · rw [if_pos q]; omega
      · rw [if_neg q]; omega
    · rw [if_neg h, wb_tn (by omega)]
      by_cases q : β = 0
      · rw [if_pos q]; omega
      · rw [if_neg q]; omega
  rw [e0]
  by_cases h : b + β ≤ a
  · rw [if_pos h]
    refine ⟨a - b - β, 0, by omega, by omega, by omega, lN_i _, ?_⟩
    rw [if_pos rfl]
    rw [lsh32, pk_lT (by omega), show ((a - b - β : Nat) : Int) / 4294967296 = 0 by omega]
    decide
  · rw [if_neg h]
    refine ⟨4294967296 + a - b - β, 1, by omega, by omega, by omega, ?_, ?_⟩
    · rw [lN_i, ← nI_mod, show (18446744073709551616 + a - b - β) % 4294967296 = (4294967296 + a - b - β) % 4294967296 by omega, nI_mod]
    · rw [if_neg (by decide)]
      refine key _ ((a : Int) - b - β) ?_ (by omega) (by omega)
      show (BitVec.ofNat 64 _).toInt = _
      rw [BitVec.toInt_eq_toNat_cond, BitVec.toNat_ofNat]
      split <;> omega
end
section
theorem fa_boolp {c : Prop} {d : Decidable c} {r : Int32} (h : r = if c then 1 else 0) : (r = 0 ↔ ¬ c) ∧ (¬ r = 0 ↔ c) := by
  by_cases q : c
  · rw [if_pos q] at h
    subst h
    exact ⟨⟨fun z => absurd z (by decide), fun z => absurd q z⟩, ⟨fun _ => q, fun _ => by decide⟩⟩
  · rw [if_neg q] at h
    subst h
    exact ⟨⟨fun _ => q, fun _ => rfl⟩, ⟨fun z => absurd rfl z, fun z => absurd z q⟩⟩
theorem ushr_amt : ∀ n, n < 32 → (((nI n).toUInt32 &&& Int32.toUInt32 31).toBitVec % 32).toNat = n := by decide +kernel
theorem ushr_nI (x : Int32) {n : Nat} (hn : n < 32) : (x.toUInt32 >>> ((nI n : Int32).toUInt32 &&& Int32.toUInt32 31)).toInt32 = nI (uI x / 2 ^ n) := by
  apply uI_inj
  have h1 : uI x / 2 ^ n < 4294967296 := Nat.lt_of_le_of_lt (Nat.div_le_self _ _) (uI_lt x)
  rw [uI_nI' h1]
  exact pk_ushr x (nI n) n (ushr_amt n hn)
/-- the highest bit isn't set: the number is smaller -/
theorem tb_down {v x : Nat} (h : v < 2 ^ (x + 1)) (h0 : ¬ v.testBit x = true) : v < 2 ^ x := by
  rw [Nat.testBit_eq_decide_div_mod_eq] at h0
  have h1 : v / 2 ^ x < 2 := Nat.div_lt_of_lt_mul (by rw [← Nat.pow_succ]; exact h)
  have h2 : ¬ v / 2 ^ x % 2 = 1 := fun q => h0 (by simp [q])
  have h3 : v / 2 ^ x = 0 := by
    generalize v / 2 ^ x = z at h1 h2
    omega
  exact (Nat.div_eq_zero_iff_lt (Nat.pow_pos (by decide))).mp h3
theorem lcmp_ge {a b : Nat} (ha : a < 2 ^ 63) (hb : b < 2 ^ 63) : 0 ≤ lg_cmp (lN a) (lN b) ↔ b ≤ a := by
  unfold lg_cmp
  by_cases h1 : lN a > lN b
  · rw [if_pos h1]
    have := (pk_lLT hb ha).mp h1
    exact ⟨fun _ => by omega, fun _ => by decide⟩
  · rw [if_neg h1]
    have h2 : ¬ b < a := fun q => h1 ((pk_lLT hb ha).mpr q)
    by_cases h3 : lN a = lN b
    · rw [if_pos h3]
      have := (pk_lEQ ha hb).mp h3
      exact ⟨fun _ => by omega, fun _ => by decide⟩
    · rw [if_neg h3]
      have : ¬ a = b := fun q => h3 (by rw [q])
      exact ⟨fun q => absurd q (by decide), fun q => by omega⟩
end
section
set_option maxHeartbeats 4000000 in
set_option maxRecDepth 100000 in
/-- Limbs.copy(into, from, k): row i takes the number of row j -/
theorem k_copy (l : Launch) (g : qCfg) (hg : g.ok) (σ : qSt) {i j : Nat} (hi : 12 ≤ i ∧ i < g.N)(hj : 12 ≤ j ∧ j < g.N) : qCV l g yX0_copy wsX0_copy 0 0 [.ref (g.P i), .ref (g.P j), .int (nI g.k)] σ (fun σ' => ∃ F', σ' = σ.setF F' ∧ Fr σ.F F' [i] ∧ qV g F' i = qV g σ.F j) := by
  refine q_sV (cc := cX0_copy) (maxL := 4) (by decide) rfl (Nat.le_of_ble_eq_true rfl) ?_
  intro p e s m args below meth c ls Q S hW hl fin
  obtain ⟨hx, hb, hml, hown, hts, hr, hlocks⟩ := id S
  obtain ⟨hk1, hk8, hn1, hn8⟩ := id hg
  have hl : lv_has ls 4 [(0, .ref (g.P i)), (1, .ref (g.P j)), (2, .int (nI g.k))] := hl
  have loop : ∀ (n x : Nat) (F : Nat → Nat → Int32), x ≤ g.k → g.k + 1 ≤ x + n → Ru σ.F F i x → (∀ y, y < x → F i y = σ.F j y) → ∀ (H : Heap) (locs : List Loc) (ls : Array Slot), Wo g (Ad g s.heap.size) s H locs (σ.setF F) → lv_has ls 4 [(3, .int (nI x)), (0, .ref (g.P i)), (1, .ref (g.P j)), (2, .int (nI g.k))] → W p l e (rmm 0 0) s m args below meth c H locs 0 0 Q (F0 m 2 ls []) := by
    intro n
    induction n with
    | zero => intro x F h1 h2; exact absurd h2 (by omega)
    | succ n ih =>
      intro x F hx1 hx2 hR hd H locs ls hW hl
      refine lv_iload_n hx hb dX0_copy_2 rfl (lv_at hl 0 rfl) ?_
      refine lv_iload_n hx hb dX0_copy_3 rfl (lv_at hl 3 rfl) ?_
      refine lv_icmp_ge (tgt := 19) hx hb dX0_copy_4 (by decide) (fun c1 => ?_) (fun c1 => ?_)
      · have hx3 := nle c1 (by omega) (by omega)
        exact fin _ _ _ _ _ hW (⟨F, rfl, hR.fr, rv_cong (fun y hy => hd y (by omega))⟩) dX0_copy_19
      · have hx3 := nge c1 (by omega)
        refine lv_aload_n hx hb dX0_copy_7 rfl (lv_at hl 1 rfl) ?_
        refine lv_iload_n hx hb dX0_copy_8 rfl (lv_at hl 0 rfl) ?_
        refine lv_aload_n hx hb dX0_copy_9 rfl (lv_at hl 2 rfl) ?_
        refine lv_iload_n hx hb dX0_copy_10 rfl (lv_at hl 0 rfl) ?_
        refine q_iald hx hb hW (i := j) (j := x) hj (by omega) hk8 rfl dX0_copy_11 ?_
        refine q_ti (y := σ.F j x) (hR.rd _) ?_
        refine q_iastF (i := i) (F := F) hx hb hW (j := x) hi (by omega) hk8 rfl dX0_copy_12 (fun H locs hW => ?_)
        refine lv_iinc (v := nI (x + 1)) (lv' := [(3, .int (nI (x + 1))), (0, .ref (g.P i)), (1, .ref (g.P j)), (2, .int (nI g.k))]) hx hb dX0_copy_13 hl (k := 0) rfl (nI_1 _) (by decide) rfl (fun ls hl => ?_)
        refine lv_goto (tgt := 2) hx hb dX0_copy_16 (by decide) ?_
        exact ih (x + 1) _ (by omega) (by omega) (hR.st _) (fun y hy => by
          rw [va_up_self]
          by_cases q : y = x
          · subst q; exact pk_us
          · rw [pk_un q]; exact hd y (by omega)) H locs ls hW (lv_sub hl [0, 1, 2, 3] rfl)
  refine lv_iconst (v := 0) hx hb dX0_copy_0 (by decide) ?_
  refine lv_istore_n (lv' := [(3, .int 0), (0, .ref (g.P i)), (1, .ref (g.P j)), (2, .int (nI g.k))]) hx hb dX0_copy_1 rfl hl (by decide) rfl (fun ls hl => ?_)
  exact loop (g.k + 1) 0 σ.F (by omega) (by omega) Ru.rf (fun y hy => absurd hy (by omega)) _ _ ls hW (lv_sub hl [0, 1, 2, 3] rfl)
set_option maxHeartbeats 4000000 in
set_option maxRecDepth 100000 in
/-- Limbs.swap(a, b, k) -/
theorem k_swap (l : Launch) (g : qCfg) (hg : g.ok) (σ : qSt) {i j : Nat} (hi : 12 ≤ i ∧ i < g.N)(hj : 12 ≤ j ∧ j < g.N)(hij : i ≠ j) : qCV l g yX0_swap wsX0_swap 0 0 [.ref (g.P i), .ref (g.P j), .int (nI g.k)] σ (fun σ' => ∃ F', σ' = σ.setF F' ∧ Fr σ.F F' [i, j] ∧ qV g F' i = qV g σ.F j ∧ qV g F' j = qV g σ.F i) := by
  refine q_sV (cc := cX0_swap) (maxL := 5) (by decide) rfl (Nat.le_of_ble_eq_true rfl) ?_
  intro p e s m args below meth c ls Q S hW hl fin
  obtain ⟨hx, hb, hml, hown, hts, hr, hlocks⟩ := id S
  obtain ⟨hk1, hk8, hn1, hn8⟩ := id hg
  have hl : lv_has ls 5 [(0, .ref (g.P i)), (1, .ref (g.P j)), (2, .int (nI g.k))] := hl
  have loop : ∀ (n x : Nat) (F : Nat → Nat → Int32), x ≤ g.k → g.k + 1 ≤ x + n → Fr σ.F F [i, j] → (∀ y, x ≤ y → F i y = σ.F i y) → (∀ y, x ≤ y → F j y = σ.F j y) → (∀ y, y < x → F i y = σ.F j y) → (∀ y, y < x → F j y = σ.F i y) → ∀ (H : Heap) (locs : List Loc) (ls : Array Slot), Wo g (Ad g s.heap.size) s H locs (σ.setF F) → lv_has ls 5 [(3, .int (nI x)), (0, .ref (g.P i)), (1, .ref (g.P j)), (2, .int (nI g.k))] → W p l e (rmm 0 0) s m args below meth c H locs 0 0 Q (F0 m 2 ls []) := by
    intro n
    induction n with
    | zero => intro x F h1 h2; exact absurd h2 (by omega)
    | succ n ih =>
      intro x F hx1 hx2 hfr hui huj hdi hdj H locs ls hW hl
      refine lv_iload_n hx hb dX0_swap_2 rfl (lv_at hl 0 rfl) ?_
      refine lv_iload_n hx hb dX0_swap_3 rfl (lv_at hl 3 rfl) ?_
      refine lv_icmp_ge (tgt := 29) hx hb dX0_swap_4 (by decide) (fun c1 => ?_) (fun c1 => ?_)
      · have hx3 := nle c1 (by omega) (by omega)
        exact fin _ _ _ _ _ hW (⟨F, rfl, hfr, rv_cong (fun y hy => hdi y (by omega)), rv_cong (fun y hy => hdj y (by omega))⟩) dX0_swap_29
      · have hx3 := nge c1 (by omega)
        refine lv_aload_n hx hb dX0_swap_7 rfl (lv_at hl 1 rfl) ?_
        refine lv_iload_n hx hb dX0_swap_8 rfl (lv_at hl 0 rfl) ?_
        refine q_iald hx hb hW (i := i) (j := x) hi (by omega) hk8 rfl dX0_swap_9 ?_
        refine q_ti (y := σ.F i x) (hui x (Nat.le_refl x)) ?_
        refine lv_istore (lv' := [(4, .int (σ.F i x)), (3, .int (nI x)), (0, .ref (g.P i)), (1, .ref (g.P j)), (2, .int (nI g.k))]) hx hb dX0_swap_10 hl (by decide) rfl (fun ls hl => ?_)
        refine lv_aload_n hx hb dX0_swap_12 rfl (lv_at hl 2 rfl) ?_
        refine lv_iload_n hx hb dX0_swap_13 rfl (lv_at hl 1 rfl) ?_
        refine lv_aload_n hx hb dX0_swap_14 rfl (lv_at hl 3 rfl) ?_
        refine lv_iload_n hx hb dX0_swap_15 rfl (lv_at hl 1 rfl) ?_
        refine q_iald hx hb hW (i := j) (j := x) hj (by omega) hk8 rfl dX0_swap_16 ?_
        refine q_ti (y := σ.F j x) (huj x (Nat.le_refl x)) ?_
        refine q_iastF (i := i) (F := F) hx hb hW (j := x) hi (by omega) hk8 rfl dX0_swap_17 (fun H locs hW => ?_)
        generalize hF1 : va_up F i (upd (F i) x (σ.F j x)) = F1 at hW
        refine lv_aload_n hx hb dX0_swap_18 rfl (lv_at hl 3 rfl) ?_
        refine lv_iload_n hx hb dX0_swap_19 rfl (lv_at hl 1 rfl) ?_
        refine lv_iload hx hb dX0_swap_20 (lv_at hl 0 rfl) ?_
        refine q_iastF (i := j) (F := F1) hx hb hW (j := x) hj (by omega) hk8 rfl dX0_swap_22 (fun H locs hW => ?_)
        refine lv_iinc (v := nI (x + 1)) (lv' := [(3, .int (nI (x + 1))), (4, .int (σ.F i x)), (0, .ref (g.P i)), (1, .ref (g.P j)), (2, .int (nI g.k))]) hx hb dX0_swap_23 hl (k := 1) rfl (nI_1 _) (by decide) rfl (fun ls hl => ?_)
        refine lv_goto (tgt := 2) hx hb dX0_swap_26 (by decide) ?_
        have e1 : ∀ y, F1 i y = if y = x then σ.F j x else F i y := fun y => by rw [← hF1, va_up_self]; rfl
        have e2 : F1 j = F j := by rw [← hF1, va_up_ne _ _ (Ne.symm hij)]
        refine ih (x + 1) _ (by omega) (by omega) (fun r hr => ?_) (fun y hy => ?_) (fun y hy => ?_) (fun y hy => ?_) (fun y hy => ?_) H locs ls hW (lv_sub hl [0, 2, 3, 4] rfl)
        · simp only [List.mem_cons, List.not_mem_nil, or_false, not_or] at hr
          rw [va_up_ne _ _ hr.2, ← hF1, va_up_ne _ _ hr.1]
          exact hfr r (by simp [hr.1, hr.2])
        · rw [va_up_ne _ _ hij, e1, if_neg (by omega)]; exact hui y (by omega)
        · rw [va_up_self, pk_un (by omega), e2]; exact huj y (by omega)
        · rw [va_up_ne _ _ hij, e1]
          by_cases q : y = x
          · rw [if_pos q, q]
          · rw [if_neg q]; exact hdi y (by omega)
        · rw [va_up_self]
          by_cases q : y = x
          · subst q; exact pk_us
          · rw [pk_un q, e2]; exact hdj y (by omega)
  refine lv_iconst (v := 0) hx hb dX0_swap_0 (by decide) ?_
  refine lv_istore_n (lv' := [(3, .int 0), (0, .ref (g.P i)), (1, .ref (g.P j)), (2, .int (nI g.k))]) hx hb dX0_swap_1 rfl hl (by decide) rfl (fun ls hl => ?_)
  exact loop (g.k + 1) 0 σ.F (by omega) (by omega) Fr.rf (fun _ _ => rfl) (fun _ _ => rfl) (fun y hy => absurd hy (by omega)) (fun y hy => absurd hy (by omega)) _ _ ls hW (lv_sub hl [0, 1, 2, 3] rfl)
set_option maxHeartbeats 4000000 in
set_option maxRecDepth 100000 in
/-- Limbs.setSmall(into, value, k) -/
theorem k_setSmall (l : Launch) (g : qCfg) (hg : g.ok) (σ : qSt) {i : Nat} (hi : 12 ≤ i ∧ i < g.N)(v : Int32) : qCV l g yX0_setSmall wsX0_setSmall 0 0 [.ref (g.P i), .int v, .int (nI g.k)] σ (fun σ' => ∃ F', σ' = σ.setF F' ∧ Fr σ.F F' [i] ∧ qV g F' i = uI v) := by
  refine q_sV (cc := cX0_setSmall) (maxL := 4) (by decide) rfl (Nat.le_of_ble_eq_true rfl) ?_
  intro p e s m args below meth c ls Q S hW hl fin
  obtain ⟨hx, hb, hml, hown, hts, hr, hlocks⟩ := id S
  obtain ⟨hk1, hk8, hn1, hn8⟩ := id hg
  have hl : lv_has ls 4 [(0, .ref (g.P i)), (1, .int v), (2, .int (nI g.k))] := hl
  have loop : ∀ (n x : Nat) (F : Nat → Nat → Int32), x ≤ g.k → g.k + 1 ≤ x + n → 1 ≤ x → Fr σ.F F [i] → (∀ y, 1 ≤ y → y < x → F i y = 0) → ∀ (H : Heap) (locs : List Loc) (ls : Array Slot), Wo g (Ad g s.heap.size) s H locs (σ.setF F) → lv_has ls 4 [(3, .int (nI x)), (0, .ref (g.P i)), (1, .int v), (2, .int (nI g.k))] → W p l e (rmm 0 0) s m args below meth c H locs 0 0 Q (F0 m 2 ls []) := by
    intro n
    induction n with
    | zero => intro x F h1 h2; exact absurd h2 (by omega)
    | succ n ih =>
      intro x F hx1 hx2 hx0 hR hd H locs ls hW hl
      refine lv_iload_n hx hb dX0_setSmall_2 rfl (lv_at hl 0 rfl) ?_
      refine lv_iload_n hx hb dX0_setSmall_3 rfl (lv_at hl 3 rfl) ?_
      refine lv_icmp_ge (tgt := 17) hx hb dX0_setSmall_4 (by decide) (fun c1 => ?_) (fun c1 => ?_)
      · have hx3 := nle c1 (by omega) (by omega)
        refine lv_aload_n hx hb dX0_setSmall_17 rfl (lv_at hl 1 rfl) ?_
        refine lv_iconst (v := 0) hx hb dX0_setSmall_18 (by decide) ?_
        refine lv_iload_n hx hb dX0_setSmall_19 rfl (lv_at hl 2 rfl) ?_
        refine q_iastF (i := i) (F := F) hx hb hW (j := 0) hi (by omega) hk8 rfl dX0_setSmall_20 (fun H locs hW => ?_)
        exact fin _ _ _ _ _ hW (⟨_, rfl, fun r hr => by rw [va_up_ne _ _ (fun q => hr (by rw [q]; exact List.mem_singleton_self i))]; exact hR r hr, by
                  show dv _ g.k = _
                  rw [va_up_self, dv_one hk1 (fun y h1 h2 => by rw [pk_un (by omega), hd y h1 (by omega)]; exact uI_0), pk_us]⟩) dX0_setSmall_21
      · have hx3 := nge c1 (by omega)
        refine lv_aload_n hx hb dX0_setSmall_7 rfl (lv_at hl 1 rfl) ?_
        refine lv_iload_n hx hb dX0_setSmall_8 rfl (lv_at hl 0 rfl) ?_
        refine lv_iconst (v := 0) hx hb dX0_setSmall_9 (by decide) ?_
        refine q_iastF (i := i) (F := F) hx hb hW (j := x) hi (by omega) hk8 rfl dX0_setSmall_10 (fun H locs hW => ?_)
        refine lv_iinc (v := nI (x + 1)) (lv' := [(3, .int (nI (x + 1))), (0, .ref (g.P i)), (1, .int v), (2, .int (nI g.k))]) hx hb dX0_setSmall_11 hl (k := 0) rfl (nI_1 _) (by decide) rfl (fun ls hl => ?_)
        refine lv_goto (tgt := 2) hx hb dX0_setSmall_14 (by decide) ?_
        exact ih (x + 1) _ (by omega) (by omega) (by omega) (fun r hr => by rw [va_up_ne _ _ (fun q => hr (by rw [q]; exact List.mem_singleton_self i))]; exact hR r hr) (fun y hy hy2 => by
          rw [va_up_self]
          by_cases q : y = x
          · subst q; exact pk_us
          · rw [pk_un q]; exact hd y hy (by omega)) H locs ls hW (lv_sub hl [0, 1, 2, 3] rfl)
  refine lv_iconst (v := 1) hx hb dX0_setSmall_0 (by decide) ?_
  refine lv_istore_n (lv' := [(3, .int 1), (0, .ref (g.P i)), (1, .int v), (2, .int (nI g.k))]) hx hb dX0_setSmall_1 rfl hl (by decide) rfl (fun ls hl => ?_)
  exact loop (g.k + 1) 1 σ.F (by omega) (by omega) (by omega) Fr.rf (fun y h1 h2 => absurd h2 (by omega)) _ _ ls hW (lv_sub hl [0, 1, 2, 3] rfl)
set_option maxHeartbeats 4000000 in
set_option maxRecDepth 100000 in
/-- Limbs.isSmall(row, value, k) -/
theorem k_isSmall (l : Launch) (g : qCfg) (hg : g.ok) (σ : qSt) {i : Nat} (hi : 12 ≤ i ∧ i < g.N)(v : Int32) : qCI l g yX0_isSmall wsX0_isSmall 0 0 [.ref (g.P i), .int v, .int (nI g.k)] σ (fun r σ' => σ' = σ ∧ r = if qV g σ.F i = uI v then 1 else 0) := by
  refine q_sZ (cc := cX0_isSmall) (maxL := 4) (by decide) rfl (Nat.le_of_ble_eq_true rfl) ?_
  intro p e s m args below meth c ls Q S hW hl fin
  obtain ⟨hx, hb, hml, hown, hts, hr, hlocks⟩ := id S
  obtain ⟨hk1, hk8, hn1, hn8⟩ := id hg
  have hl : lv_has ls 4 [(0, .ref (g.P i)), (1, .int v), (2, .int (nI g.k))] := hl
  have hiff := dv_small (d := fun x => uI (σ.F i x)) (k := g.k) hk1 (rB _ _) (uI_lt v)
  have loop : ∀ (n x : Nat) (_ : Unit), x ≤ g.k → g.k + 1 ≤ x + n → 1 ≤ x → (∀ y, 1 ≤ y → y < x → σ.F i y = 0) → ∀ (H : Heap) (locs : List Loc) (ls : Array Slot), Wo g (Ad g s.heap.size) s H locs (σ) → lv_has ls 4 [(3, .int (nI x)), (0, .ref (g.P i)), (1, .int v), (2, .int (nI g.k))] → W p l e (rmm 0 0) s m args below meth c H locs 0 0 Q (F0 m 2 ls []) := by
    intro n
    induction n with
    | zero => intro x _ h1 h2; exact absurd h2 (by omega)
    | succ n ih =>
      intro x u hx1 hx2 hx0 hd H locs ls hW hl
      refine lv_iload_n hx hb dX0_isSmall_2 rfl (lv_at hl 0 rfl) ?_
      refine lv_iload_n hx hb dX0_isSmall_3 rfl (lv_at hl 3 rfl) ?_
      refine lv_icmp_ge (tgt := 21) hx hb dX0_isSmall_4 (by decide) (fun c1 => ?_) (fun c1 => ?_)
      · have hx3 := nle c1 (by omega) (by omega)
        refine lv_aload_n hx hb dX0_isSmall_21 rfl (lv_at hl 1 rfl) ?_
        refine lv_iconst (v := 0) hx hb dX0_isSmall_22 (by decide) ?_
        refine q_iald hx hb hW (i := i) (j := 0) hi (by omega) hk8 rfl dX0_isSmall_23 ?_
        refine lv_iload_n hx hb dX0_isSmall_24 rfl (lv_at hl 2 rfl) ?_
        refine lv_icmp_ne (tgt := 32) hx hb dX0_isSmall_25 (by decide) (fun c2 => ?_) (fun c2 => ?_)
        · refine lv_iconst (v := 0) hx hb dX0_isSmall_32 (by decide) ?_
          exact fin _ _ _ _ _ _ (by decide) hW (⟨rfl, (if_neg (fun q => c2 (uI_inj (hiff.mp q).1))).symm⟩) dX0_isSmall_33
        · refine lv_iconst (v := 1) hx hb dX0_isSmall_28 (by decide) ?_
          refine lv_goto (tgt := 33) hx hb dX0_isSmall_29 (by decide) ?_
          exact fin _ _ _ _ _ _ (by decide) hW (⟨rfl, (if_pos (hiff.mpr ⟨congrArg uI c2, fun y h1 h2 => by rw [hd y h1 (by omega)]; exact uI_0⟩)).symm⟩) dX0_isSmall_33
      · have hx3 := nge c1 (by omega)
        refine lv_aload_n hx hb dX0_isSmall_7 rfl (lv_at hl 1 rfl) ?_
        refine lv_iload_n hx hb dX0_isSmall_8 rfl (lv_at hl 0 rfl) ?_
        refine q_iald hx hb hW (i := i) (j := x) hi (by omega) hk8 rfl dX0_isSmall_9 ?_
        refine lv_if_eq (tgt := 15) hx hb dX0_isSmall_10 (by decide) (fun c2 => ?_) (fun c2 => ?_)
        · refine lv_iinc (v := nI (x + 1)) (lv' := [(3, .int (nI (x + 1))), (0, .ref (g.P i)), (1, .int v), (2, .int (nI g.k))]) hx hb dX0_isSmall_15 hl (k := 0) rfl (nI_1 _) (by decide) rfl (fun ls hl => ?_)
          refine lv_goto (tgt := 2) hx hb dX0_isSmall_18 (by decide) ?_
          exact ih (x + 1) () (by omega) (by omega) (by omega) (fun y hy hy2 => by
            by_cases q : y = x
            · subst q; exact c2
            · exact hd y hy (by omega)) H locs ls hW (lv_sub hl [0, 1, 2, 3] rfl)
        · refine lv_iconst (v := 0) hx hb dX0_isSmall_13 (by decide) ?_
          exact fin _ _ _ _ _ _ (by decide) hW (⟨rfl, (if_neg (fun q => c2 (uI_inj (((hiff.mp q).2 x hx0 hx3).trans uI_0.symm)))).symm⟩) dX0_isSmall_14
  refine lv_iconst (v := 1) hx hb dX0_isSmall_0 (by decide) ?_
  refine lv_istore_n (lv' := [(3, .int 1), (0, .ref (g.P i)), (1, .int v), (2, .int (nI g.k))]) hx hb dX0_isSmall_1 rfl hl (by decide) rfl (fun ls hl => ?_)
  exact loop (g.k + 1) 1 () (by omega) (by omega) (by omega) (fun y h1 h2 => absurd h2 (by omega)) _ _ ls hW (lv_sub hl [0, 1, 2, 3] rfl)
set_option maxHeartbeats 4000000 in
set_option maxRecDepth 100000 in
/-- Limbs.isOdd(row) -/
theorem k_isOdd (l : Launch) (g : qCfg) (hg : g.ok) (σ : qSt) {i : Nat} (hi : 12 ≤ i ∧ i < g.N) : qCI l g yX0_isOdd wsX0_isOdd 0 0 [.ref (g.P i)] σ (fun r σ' => σ' = σ ∧ r = if qV g σ.F i % 2 = 1 then 1 else 0) := by
  refine q_sZ (cc := cX0_isOdd) (maxL := 1) (by decide) rfl (Nat.le_of_ble_eq_true rfl) ?_
  intro p e s m args below meth c ls Q S hW hl fin
  obtain ⟨hx, hb, hml, hown, hts, hr, hlocks⟩ := id S
  obtain ⟨hk1, hk8, hn1, hn8⟩ := id hg
  have hl : lv_has ls 1 [(0, .ref (g.P i))] := hl
  have hm : qV g σ.F i % 2 = uI (σ.F i 0) % 2 := dv_mod2 hk1
  refine lv_aload_n hx hb dX0_isOdd_0 rfl (lv_at hl 0 rfl) ?_
  refine lv_iconst (v := 0) hx hb dX0_isOdd_1 (by decide) ?_
  refine q_iald hx hb hW (i := i) (j := 0) hi (by omega) hk8 rfl dX0_isOdd_2 ?_
  refine lv_iconst (v := 1) hx hb dX0_isOdd_3 (by decide) ?_
  refine lv_iand hx hb dX0_isOdd_4 ?_
  refine q_ti (y := nI (uI (σ.F i 0) % 2)) (pk_and _ 1 (by decide)) ?_
  refine lv_if_eq (tgt := 12) hx hb dX0_isOdd_5 (by decide) (fun c1 => ?_) (fun c1 => ?_)
  · refine lv_iconst (v := 0) hx hb dX0_isOdd_12 (by decide) ?_
    have h0 : uI (σ.F i 0) % 2 = 0 := (nI_eq (by omega) (by decide)).mp (c1.trans nI_0.symm)
    exact fin _ _ _ _ _ _ (by decide) hW (⟨rfl, (if_neg (by omega)).symm⟩) dX0_isOdd_13
  · refine lv_iconst (v := 1) hx hb dX0_isOdd_8 (by decide) ?_
    refine lv_goto (tgt := 13) hx hb dX0_isOdd_9 (by decide) ?_
    have h0 : ¬ uI (σ.F i 0) % 2 = 0 := fun q => c1 (by rw [q]; rfl)
    exact fin _ _ _ _ _ _ (by decide) hW (⟨rfl, (if_pos (by omega)).symm⟩) dX0_isOdd_13
set_option maxHeartbeats 4000000 in
set_option maxRecDepth 100000 in
/-- Limbs.isBitSet(row, bit) -/
theorem k_isBitSet (l : Launch) (g : qCfg) (hg : g.ok) (σ : qSt) {i b : Nat} (hi : 12 ≤ i ∧ i < g.N)(hbt : b < 32 * g.k) : qCI l g yX0_isBitSet wsX0_isBitSet 0 0 [.ref (g.P i), .int (nI b)] σ (fun r σ' => σ' = σ ∧ r = if (qV g σ.F i).testBit b = true then 1 else 0) := by
  refine q_sZ (cc := cX0_isBitSet) (maxL := 2) (by decide) rfl (Nat.le_of_ble_eq_true rfl) ?_
  intro p e s m args below meth c ls Q S hW hl fin
  obtain ⟨hx, hb, hml, hown, hts, hr, hlocks⟩ := id S
  obtain ⟨hk1, hk8, hn1, hn8⟩ := id hg
  have hl : lv_has ls 2 [(0, .ref (g.P i)), (1, .int (nI b))] := hl
  have hm : (qV g σ.F i).testBit b = decide (uI (σ.F i (b / 32)) / 2 ^ (b % 32) % 2 = 1) := (dv_bit (rB _ _) hbt).trans Nat.testBit_eq_decide_div_mod_eq
  have hm2 : b % 32 < 32 := Nat.mod_lt _ (by decide)
  refine lv_aload_n hx hb dX0_isBitSet_0 rfl (lv_at hl 0 rfl) ?_
  refine lv_iload_n hx hb dX0_isBitSet_1 rfl (lv_at hl 1 rfl) ?_
  refine lv_bipush (v := 32) hx hb dX0_isBitSet_2 (by decide) ?_
  refine lv_idiv hx hb dX0_isBitSet_4 (by decide) ?_
  refine q_ti (y := nI (b / 32)) (pk_div (d := 32) (by omega) (by decide) (by decide)) ?_
  refine q_iald hx hb hW (i := i) (j := (b / 32)) hi (by omega) hk8 rfl dX0_isBitSet_5 ?_
  refine lv_iload_n hx hb dX0_isBitSet_6 rfl (lv_at hl 1 rfl) ?_
  refine lv_bipush (v := 32) hx hb dX0_isBitSet_7 (by decide) ?_
  refine lv_irem hx hb dX0_isBitSet_9 (by decide) ?_
  refine q_ti (y := nI (b % 32)) (pk_rem (d := 32) (by omega) (by decide) (by decide)) ?_
  refine lv_iushr hx hb dX0_isBitSet_10 rfl ?_
  refine q_ti (y := nI (uI (σ.F i (b / 32)) / 2 ^ (b % 32))) (ushr_nI _ hm2) ?_
  refine lv_iconst (v := 1) hx hb dX0_isBitSet_11 (by decide) ?_
  refine lv_iand hx hb dX0_isBitSet_12 ?_
  refine q_ti (y := nI (uI (σ.F i (b / 32)) / 2 ^ (b % 32) % 2)) (pk_andN (Nat.lt_of_le_of_lt (Nat.div_le_self _ _) (uI_lt _)) 1 (by decide)) ?_
  generalize uI (σ.F i (b / 32)) / 2 ^ (b % 32) = z at hm ⊢
  refine lv_if_eq (tgt := 20) hx hb dX0_isBitSet_13 (by decide) (fun c1 => ?_) (fun c1 => ?_)
  · refine lv_iconst (v := 0) hx hb dX0_isBitSet_20 (by decide) ?_
    have h0 : z % 2 = 0 := (nI_eq (by omega) (by decide)).mp (c1.trans nI_0.symm)
    exact fin _ _ _ _ _ _ (by decide) hW (⟨rfl, (if_neg (by rw [hm]; simp [h0])).symm⟩) dX0_isBitSet_21
  · refine lv_iconst (v := 1) hx hb dX0_isBitSet_16 (by decide) ?_
    refine lv_goto (tgt := 21) hx hb dX0_isBitSet_17 (by decide) ?_
    have h0 : z % 2 = 1 := by
      rcases (show z % 2 = 0 ∨ z % 2 = 1 by omega) with q | q
      · exact absurd (by rw [q]; rfl) c1
      · exact q
    exact fin _ _ _ _ _ _ (by decide) hW (⟨rfl, (if_pos (by rw [hm]; simp [h0])).symm⟩) dX0_isBitSet_21
set_option maxHeartbeats 4000000 in
set_option maxRecDepth 100000 in
/-- Limbs.highestBit(row, k): one below the number of bits that count -/
theorem k_highestBit (l : Launch) (g : qCfg) (hg : g.ok) (σ : qSt) {i : Nat} (hi : 12 ≤ i ∧ i < g.N) : qCI l g yX0_highestBit wsX0_highestBit 1 21 [.ref (g.P i), .int (nI g.k)] σ (fun r σ' => σ' = σ ∧ ∃ x, x ≤ 32 * g.k ∧ r = nI x - 1 ∧ qV g σ.F i < 2 ^ x) := by
  refine q_sI (cc := cX0_highestBit) (maxL := 3) (by decide) rfl (Nat.le_of_ble_eq_true rfl) ?_
  intro p e s m args below meth c ls Q S hW hl fin
  obtain ⟨hx, hb, hml, hown, hts, hr, hlocks⟩ := id S
  obtain ⟨hk1, hk8, hn1, hn8⟩ := id hg
  have hl : lv_has ls 3 [(0, .ref (g.P i)), (1, .int (nI g.k))] := hl
  have loop : ∀ (x : Nat) (_ : Unit), x ≤ 32 * g.k → qV g σ.F i < 2 ^ x → ∀ (H : Heap) (locs : List Loc) (ls : Array Slot), Wo g (Ad g s.heap.size) s H locs (σ) → lv_has ls 3 [(2, .int (nI x - 1)), (0, .ref (g.P i)), (1, .int (nI g.k))] → W p l e (rmm 1 21) s m args below meth c H locs 0 0 Q (F0 m 7 ls []) := by
    intro x
    induction x with
    | zero =>
      intro u hx1 hv H locs ls hW hl
      refine lv_iload_n hx hb dX0_highestBit_7 rfl (lv_at hl 0 rfl) ?_
      refine lv_if_lt (tgt := 27) hx hb dX0_highestBit_8 (by decide) (fun _ => ?_) (fun c9 => absurd (by decide) c9)
      refine lv_iconst (v := (-1)) hx hb dX0_highestBit_27 (by decide) ?_
      exact fin _ _ _ _ _ _ hW (⟨rfl, 0, Nat.zero_le _, rfl, hv⟩) dX0_highestBit_28
    | succ x ih =>
      intro u hx1 hv H locs ls hW hl
      rw [nI_pred] at hl
      refine lv_iload_n hx hb dX0_highestBit_7 rfl (lv_at hl 0 rfl) ?_
      refine lv_if_lt (tgt := 27) hx hb dX0_highestBit_8 (by decide) (fun c9 => absurd c9 (nI_pos (by omega))) (fun _ => ?_)
      refine lv_aload_n hx hb dX0_highestBit_11 rfl (lv_at hl 1 rfl) ?_
      refine lv_iload_n hx hb dX0_highestBit_12 rfl (lv_at hl 0 rfl) ?_
      refine q_i (q_runS (As := [.ref (g.P i), .int (nI x)]) (rest := []) S hW (k_isBitSet l g hg σ hi (b := x) (by omega)) gX0_highestBit_X0_isBitSet (nA := 2) ⟨rfl, by decide +kernel, ⟨by decide, by decide⟩⟩ rfl hl.1 rfl (by decide) dX0_highestBit_13 ⟨Nat.zero_le _, Nat.zero_le _⟩) hW Ad_hi (fun r_13 σ1 H locs hp hW => ?_)
      obtain ⟨e1, er⟩ := hp
      rw [e1] at hW
      refine lv_if_eq (tgt := 21) hx hb dX0_highestBit_16 (by decide) (fun c1 => ?_) (fun c1 => ?_)
      · have h0 := (fa_boolp er).1.mp c1
        refine lv_iinc (v := nI x - 1) (lv' := [(2, .int (nI x - 1)), (0, .ref (g.P i)), (1, .int (nI g.k))]) hx hb dX0_highestBit_21 hl (k := 0) rfl (by rw [Int32.sub_eq_add_neg]; rfl) (by decide) rfl (fun ls hl => ?_)
        refine lv_goto (tgt := 7) hx hb dX0_highestBit_24 (by decide) ?_
        exact ih () (by omega) (tb_down hv h0) H locs ls hW (lv_sub hl [0, 1, 2] rfl)
      · refine lv_iload_n hx hb dX0_highestBit_19 rfl (lv_at hl 0 rfl) ?_
        exact fin _ _ _ _ _ _ hW (⟨rfl, x + 1, hx1, by rw [nI_pred], hv⟩) dX0_highestBit_20
  refine lv_iload_n hx hb dX0_highestBit_0 rfl (lv_at hl 1 rfl) ?_
  refine lv_bipush (v := 32) hx hb dX0_highestBit_1 (by decide) ?_
  refine lv_imul hx hb dX0_highestBit_3 ?_
  refine q_ti (y := nI (g.k * 32)) (pk_mul _ 32) ?_
  refine q_ti (y := nI (32 * g.k)) (by rw [Nat.mul_comm]) ?_
  refine lv_iconst (v := 1) hx hb dX0_highestBit_4 (by decide) ?_
  refine lv_isub hx hb dX0_highestBit_5 ?_
  refine lv_istore_n (lv' := [(2, .int ((nI (32 * g.k)) - 1)), (0, .ref (g.P i)), (1, .int (nI g.k))]) hx hb dX0_highestBit_6 rfl hl (by decide) rfl (fun ls hl => ?_)
  exact loop (32 * g.k) () (Nat.le_refl _) qV_lt _ _ ls hW (lv_sub hl [0, 1, 2] rfl)
set_option maxHeartbeats 4000000 in
set_option maxRecDepth 100000 in
/-- Limbs.order(a, b, k) -/
theorem k_order (l : Launch) (g : qCfg) (hg : g.ok) (σ : qSt) {i j : Nat} (hi : 12 ≤ i ∧ i < g.N)(hj : 12 ≤ j ∧ j < g.N) : qCI l g yX0_order wsX0_order 0 0 [.ref (g.P i), .ref (g.P j), .int (nI g.k)] σ (fun r σ' => σ' = σ ∧ r = if qV g σ.F i < qV g σ.F j then -1 else if qV g σ.F i = qV g σ.F j then 0 else 1) := by
  refine q_sI (cc := cX0_order) (maxL := 4) (by decide) rfl (Nat.le_of_ble_eq_true rfl) ?_
  intro p e s m args below meth c ls Q S hW hl fin
  obtain ⟨hx, hb, hml, hown, hts, hr, hlocks⟩ := id S
  obtain ⟨hk1, hk8, hn1, hn8⟩ := id hg
  have hl : lv_has ls 4 [(0, .ref (g.P i)), (1, .ref (g.P j)), (2, .int (nI g.k))] := hl
  have loop : ∀ (x : Nat) (_ : Unit), x ≤ g.k → (∀ y, x ≤ y → y < g.k → σ.F i y = σ.F j y) → ∀ (H : Heap) (locs : List Loc) (ls : Array Slot), Wo g (Ad g s.heap.size) s H locs (σ) → lv_has ls 4 [(3, .int (nI x - 1)), (0, .ref (g.P i)), (1, .ref (g.P j)), (2, .int (nI g.k))] → W p l e (rmm 0 0) s m args below meth c H locs 0 0 Q (F0 m 4 ls []) := by
    intro x
    induction x with
    | zero =>
      intro u hx1 hv H locs ls hW hl
      refine lv_iload_n hx hb dX0_order_4 rfl (lv_at hl 0 rfl) ?_
      refine lv_if_lt (tgt := 49) hx hb dX0_order_5 (by decide) (fun _ => ?_) (fun c9 => absurd (by decide) c9)
      refine lv_iconst (v := 0) hx hb dX0_order_49 (by decide) ?_
      have he : qV g σ.F i = qV g σ.F j := rv_cong (fun y hy => hv y (Nat.zero_le y) hy)
      exact fin _ _ _ _ _ _ hW (⟨rfl, by rw [if_neg (by omega), if_pos he]⟩) dX0_order_50
    | succ x ih =>
      intro u hx1 hv H locs ls hW hl
      rw [nI_pred] at hl
      refine lv_iload_n hx hb dX0_order_4 rfl (lv_at hl 0 rfl) ?_
      refine lv_if_lt (tgt := 49) hx hb dX0_order_5 (by decide) (fun c9 => absurd c9 (nI_pos (by omega))) (fun _ => ?_)
      refine lv_aload_n hx hb dX0_order_8 rfl (lv_at hl 1 rfl) ?_
      refine lv_iload_n hx hb dX0_order_9 rfl (lv_at hl 0 rfl) ?_
      refine q_iald hx hb hW (i := i) (j := x) hi (by omega) hk8 rfl dX0_order_10 ?_
      refine lv_aload_n hx hb dX0_order_11 rfl (lv_at hl 2 rfl) ?_
      refine lv_iload_n hx hb dX0_order_12 rfl (lv_at hl 0 rfl) ?_
      refine q_iald hx hb hW (i := j) (j := x) hj (by omega) hk8 rfl dX0_order_13 ?_
      refine lv_icmp_eq (tgt := 43) hx hb dX0_order_14 (by decide) (fun c1 => ?_) (fun c1 => ?_)
      · refine lv_iinc (v := nI x - 1) (lv' := [(3, .int (nI x - 1)), (0, .ref (g.P i)), (1, .ref (g.P j)), (2, .int (nI g.k))]) hx hb dX0_order_43 hl (k := 0) rfl (by rw [Int32.sub_eq_add_neg]; rfl) (by decide) rfl (fun ls hl => ?_)
        refine lv_goto (tgt := 4) hx hb dX0_order_46 (by decide) ?_
        exact ih () (by omega) (fun y h1 h2 => by
          by_cases q : y = x
          · subst q; exact c1
          · exact hv y (by omega) h2) H locs ls hW (lv_sub hl [0, 1, 2, 3] rfl)
      · refine lv_aload_n hx hb dX0_order_17 rfl (lv_at hl 1 rfl) ?_
        refine lv_iload_n hx hb dX0_order_18 rfl (lv_at hl 0 rfl) ?_
        refine q_iald hx hb hW (i := i) (j := x) hi (by omega) hk8 rfl dX0_order_19 ?_
        refine lv_i2l hx hb dX0_order_20 rfl ?_
        refine lv_ldc2 (v := 4294967295) hx hb hown (hts (.constantLong RX0 15 (4294967295)) (by decide +kernel)) dX0_order_21 ?_
        refine lv_land hx hb dX0_order_24 ?_
        refine q_tl (y := lN (uI (σ.F i x))) (m32 _) ?_
        refine lv_aload_n hx hb dX0_order_25 rfl (lv_at hl 2 rfl) ?_
        refine lv_iload_n hx hb dX0_order_26 rfl (lv_at hl 0 rfl) ?_
        refine q_iald hx hb hW (i := j) (j := x) hj (by omega) hk8 rfl dX0_order_27 ?_
        refine lv_i2l hx hb dX0_order_28 rfl ?_
        refine lv_ldc2 (v := 4294967295) hx hb hown (hts (.constantLong RX0 15 (4294967295)) (by decide +kernel)) dX0_order_29 ?_
        refine lv_land hx hb dX0_order_32 ?_
        refine q_tl (y := lN (uI (σ.F j x))) (m32 _) ?_
        refine W.lcmp hx hb dX0_order_33 ?_
        have hne := uI_ne c1
        have hb1 := uI_lt (σ.F i x)
        have hb2 := uI_lt (σ.F j x)
        have hj1 : x + 1 + (g.k - (x + 1)) = g.k := by omega
        have hlt : uI (σ.F i x) < uI (σ.F j x) → qV g σ.F i < qV g σ.F j := fun q => by
          have h9 := dv_less (d := fun y => uI (σ.F i y)) (e := fun y => uI (σ.F j y)) (x := x) (rB _ _) q (j := g.k - (x + 1)) (fun y h1 h2 => by rw [hv y (by omega) (by omega)])
          rw [hj1] at h9
          exact h9
        have hgt : uI (σ.F j x) < uI (σ.F i x) → qV g σ.F j < qV g σ.F i := fun q => by
          have h9 := dv_less (d := fun y => uI (σ.F j y)) (e := fun y => uI (σ.F i y)) (x := x) (rB _ _) q (j := g.k - (x + 1)) (fun y h1 h2 => by rw [hv y (by omega) (by omega)])
          rw [hj1] at h9
          exact h9
        refine lv_if_ge (tgt := 41) hx hb dX0_order_34 (by decide) (fun c2 => ?_) (fun c2 => ?_)
        · refine lv_iconst (v := 1) hx hb dX0_order_41 (by decide) ?_
          have h0 := hgt (by have := (lcmp_ge (by omega) (by omega)).mp c2; omega)
          exact fin _ _ _ _ _ _ hW (⟨rfl, by rw [if_neg (by omega), if_neg (by omega)]⟩) dX0_order_42
        · refine lv_iconst (v := (-1)) hx hb dX0_order_37 (by decide) ?_
          refine lv_goto (tgt := 42) hx hb dX0_order_38 (by decide) ?_
          have h0 := hlt (Nat.not_le.mp (fun q => c2 ((lcmp_ge (by omega) (by omega)).mpr q)))
          exact fin _ _ _ _ _ _ hW (⟨rfl, by rw [if_pos h0]⟩) dX0_order_42
  refine lv_iload_n hx hb dX0_order_0 rfl (lv_at hl 2 rfl) ?_
  refine lv_iconst (v := 1) hx hb dX0_order_1 (by decide) ?_
  refine lv_isub hx hb dX0_order_2 ?_
  refine lv_istore_n (lv' := [(3, .int ((nI g.k) - 1)), (0, .ref (g.P i)), (1, .ref (g.P j)), (2, .int (nI g.k))]) hx hb dX0_order_3 rfl hl (by decide) rfl (fun ls hl => ?_)
  exact loop g.k () (Nat.le_refl _) (fun y h1 h2 => absurd h2 (by omega)) _ _ ls hW (lv_sub hl [0, 1, 2, 3] rfl)
end
section
theorem lor_B {a d : Nat} (hd : d < 4294967296) (ha : a < 4294967296) : lN (a * 4294967296) ||| lN d = lN (a * 4294967296 + d) := by
  rw [wb_or (by omega) (by omega)]
  congr 1
  rw [Nat.mul_comm]
  exact (Nat.two_pow_add_eq_or_of_lt (i := 32) hd a).symm
theorem dv_shift {d : Nat → Nat} : ∀ {k : Nat}, dv d (k + 1) = d 0 + 4294967296 * dv (fun y => d (y + 1)) k
  | 0 => by show 0 + d 0 * 2 ^ (32 * 0) = d 0 + 4294967296 * 0; omega
  | k + 1 => by
    show dv d (k + 1) + d (k + 1) * 2 ^ (32 * (k + 1)) = d 0 + 4294967296 * (dv (fun y => d (y + 1)) k + d (k + 1) * 2 ^ (32 * k))
    rw [dv_shift, p32]
    grind
/-- a row that has lost its lowest limb, t on top -/
theorem drop_num {g : qCfg} {F0 F : Nat → Nat → Int32} {i t : Nat} (hk : 1 ≤ g.k) (h1 : ∀ y, y < g.k - 1 → F i y = F0 i (y + 1)) (h2 : F i (g.k - 1) = nI t) : qV g F i + t / 4294967296 * 2 ^ (32 * g.k) = qV g F0 i / 4294967296 + t * 2 ^ (32 * (g.k - 1)) := by
  obtain ⟨k, hk'⟩ : ∃ k, g.k = k + 1 := ⟨g.k - 1, by omega⟩
  have e1 : qV g F i = dv (fun y => uI (F0 i (y + 1))) k + t % 4294967296 * 2 ^ (32 * k) := by
    unfold qV rv
    rw [hk', dv_step (e := fun y => uI (F0 i (y + 1))) (fun x hx => by rw [h1 x (by omega)])]
    rw [show k = g.k - 1 by omega, h2, uI_nI]
  have e2 : qV g F0 i = uI (F0 i 0) + 4294967296 * dv (fun y => uI (F0 i (y + 1))) k := by
    unfold qV rv
    rw [hk']
    exact dv_shift
  have h3 := uI_lt (F0 i 0)
  have e3 : qV g F0 i / 4294967296 = dv (fun y => uI (F0 i (y + 1))) k := by rw [e2]; omega
  rw [e1, e3, hk', p32, show k + 1 - 1 = k by omega]
  have e4 : t * 2 ^ (32 * k) = (t % 4294967296 + t / 4294967296 * 4294967296) * 2 ^ (32 * k) := by
    congr 1
    omega
  rw [e4]
  grind
theorem rv_updk {f : Nat → Int32} {y : Nat} {v : Int32} : ∀ {k : Nat}, y < k → rv (upd f y v) k + uI (f y) * 2 ^ (32 * y) = rv f k + uI v * 2 ^ (32 * y)
  | 0, h => absurd h (Nat.not_lt_zero y)
  | k + 1, h => by
    rw [rv_succ, rv_succ]
    by_cases q : y = k
    · subst q
      rw [pk_us, rv_cong (h := f) (fun x hx => pk_un (by omega))]
      omega
    · have ih := rv_updk (f := f) (v := v) (show y < k by omega)
      rw [pk_un (by omega)]
      omega
theorem st_half {R R' D P a0 d T v Z : Nat} (hT : 2 * v + T % 2 = a0 * 4294967296 + d) (h1 : R' + d * P = R + v * P) (hv : 2 * R + a0 * (P * 4294967296) = Z + (D + d * P)) : 2 * R' + T % 2 * P = Z + D := by
  have : (2 * v + T % 2) * P = (a0 * 4294967296 + d) * P := by rw [hT]
  generalize T % 2 = u at *
  grind
end
section
set_option maxHeartbeats 4000000 in
set_option maxRecDepth 100000 in
/-- Limbs.add(into, a, b, k): the sum, and what is carried -/
theorem k_add (l : Launch) (g : qCfg) (hg : g.ok) (σ : qSt) {i j r : Nat} (hi : 12 ≤ i ∧ i < g.N)(hj : 12 ≤ j ∧ j < g.N)(hrr : 12 ≤ r ∧ r < g.N) : qCL l g yX0_add wsX0_add 0 0 [.ref (g.P i), .ref (g.P j), .ref (g.P r), .int (nI g.k)] σ (fun z σ' => ∃ F' c, σ' = σ.setF F' ∧ Fr σ.F F' [i] ∧ c ≤ 1 ∧ z = lN c ∧ qV g F' i + c * 2 ^ (32 * g.k) = qV g σ.F j + qV g σ.F r) := by
  refine q_sL (cc := cX0_add) (maxL := 7) (by decide) rfl (Nat.le_of_ble_eq_true rfl) ?_
  intro p e s m args below meth c ls Q S hW hl fin
  obtain ⟨hx, hb, hml, hown, hts, hr, hlocks⟩ := id S
  obtain ⟨hk1, hk8, hn1, hn8⟩ := id hg
  have hl : lv_has ls 7 [(0, .ref (g.P i)), (1, .ref (g.P j)), (2, .ref (g.P r)), (3, .int (nI g.k))] := hl
  have loop : ∀ (n x : Nat) (c0 : Nat) (F : Nat → Nat → Int32), x ≤ g.k → g.k + 1 ≤ x + n → Ru σ.F F i x → c0 ≤ 1 → rv (F i) x + c0 * 2 ^ (32 * x) = rv (σ.F j) x + rv (σ.F r) x → ∀ (H : Heap) (locs : List Loc) (ls : Array Slot), Wo g (Ad g s.heap.size) s H locs (σ.setF F) → lv_has ls 7 [(6, .int (nI x)), (4, .long (lN c0)), (0, .ref (g.P i)), (1, .ref (g.P j)), (2, .ref (g.P r)), (3, .int (nI g.k))] → W p l e (rmm 0 0) s m args below meth c H locs 0 0 Q (F0 m 6 ls []) := by
    intro n
    induction n with
    | zero => intro x c0 F h1 h2; exact absurd h2 (by omega)
    | succ n ih =>
      intro x c0 F hx1 hx2 hR hc hv H locs ls hW hl
      refine lv_iload hx hb dX0_add_6 (lv_at hl 0 rfl) ?_
      refine lv_iload_n hx hb dX0_add_8 rfl (lv_at hl 5 rfl) ?_
      refine lv_icmp_ge (tgt := 56) hx hb dX0_add_9 (by decide) (fun c1 => ?_) (fun c1 => ?_)
      · have hx3 := nle c1 (by omega) (by omega)
        have hx4 : x = g.k := by omega
        rw [hx4] at hv
        refine lv_lload hx hb dX0_add_56 (lv_at hl 1 rfl) ?_
        exact fin _ _ _ _ _ _ hW (⟨F, c0, rfl, hR.fr, hc, rfl, hv⟩) dX0_add_58
      · have hx3 := nge c1 (by omega)
        have hb1 := uI_lt (σ.F j x)
        have hb2 := uI_lt (σ.F r x)
        refine lv_lload hx hb dX0_add_12 (lv_at hl 1 rfl) ?_
        refine lv_aload_n hx hb dX0_add_14 rfl (lv_at hl 3 rfl) ?_
        refine lv_iload hx hb dX0_add_15 (lv_at hl 0 rfl) ?_
        refine q_iald hx hb hW (i := j) (j := x) hj (by omega) hk8 rfl dX0_add_17 ?_
        refine q_ti (y := σ.F j x) (hR.rd _) ?_
        refine lv_i2l hx hb dX0_add_18 rfl ?_
        refine lv_ldc2 (v := 4294967295) hx hb hown (hts (.constantLong RX0 15 (4294967295)) (by decide +kernel)) dX0_add_19 ?_
        refine lv_land hx hb dX0_add_22 ?_
        refine q_tl (y := lN (uI (σ.F j x))) (m32 _) ?_
        refine lv_aload_n hx hb dX0_add_23 rfl (lv_at hl 4 rfl) ?_
        refine lv_iload hx hb dX0_add_24 (lv_at hl 0 rfl) ?_
        refine q_iald hx hb hW (i := r) (j := x) hrr (by omega) hk8 rfl dX0_add_26 ?_
        refine q_ti (y := σ.F r x) (hR.rd _) ?_
        refine lv_i2l hx hb dX0_add_27 rfl ?_
        refine lv_ldc2 (v := 4294967295) hx hb hown (hts (.constantLong RX0 15 (4294967295)) (by decide +kernel)) dX0_add_28 ?_
        refine lv_land hx hb dX0_add_31 ?_
        refine q_tl (y := lN (uI (σ.F r x))) (m32 _) ?_
        refine lv_ladd hx hb dX0_add_32 ?_
        refine q_tl (y := lN ((uI (σ.F j x)) + (uI (σ.F r x)))) (lN_add _ _) ?_
        refine lv_ladd hx hb dX0_add_33 ?_
        refine q_tl (y := lN (c0 + ((uI (σ.F j x)) + (uI (σ.F r x))))) (lN_add _ _) ?_
        generalize hT : c0 + (uI (σ.F j x) + uI (σ.F r x)) = T
        refine lv_lstore (lv' := [(4, .long (lN T)), (6, .int (nI x)), (0, .ref (g.P i)), (1, .ref (g.P j)), (2, .ref (g.P r)), (3, .int (nI g.k))]) hx hb dX0_add_34 hl (by decide) rfl (fun ls hl => ?_)
        refine lv_aload_n hx hb dX0_add_36 rfl (lv_at hl 2 rfl) ?_
        refine lv_iload hx hb dX0_add_37 (lv_at hl 1 rfl) ?_
        refine lv_lload hx hb dX0_add_39 (lv_at hl 0 rfl) ?_
        refine lv_l2i hx hb dX0_add_41 rfl ?_
        refine q_ti (y := nI T) (lN_i _) ?_
        refine q_iastF (i := i) (F := F) hx hb hW (j := x) hi (by omega) hk8 rfl dX0_add_42 (fun H locs hW => ?_)
        refine lv_lload hx hb dX0_add_43 (lv_at hl 0 rfl) ?_
        refine lv_bipush (v := 32) hx hb dX0_add_45 (by decide) ?_
        refine lv_lushr hx hb dX0_add_47 rfl ?_
        refine q_tl (y := lN (T / 4294967296)) (lN_ushr32 (by omega)) ?_
        refine lv_lstore (lv' := [(4, .long (lN (T / 4294967296))), (6, .int (nI x)), (0, .ref (g.P i)), (1, .ref (g.P j)), (2, .ref (g.P r)), (3, .int (nI g.k))]) hx hb dX0_add_48 hl (by decide) rfl (fun ls hl => ?_)
        refine lv_iinc (v := nI (x + 1)) (lv' := [(6, .int (nI (x + 1))), (4, .long (lN (T / 4294967296))), (0, .ref (g.P i)), (1, .ref (g.P j)), (2, .ref (g.P r)), (3, .int (nI g.k))]) hx hb dX0_add_50 hl (k := 1) rfl (nI_1 _) (by decide) rfl (fun ls hl => ?_)
        refine lv_goto (tgt := 6) hx hb dX0_add_53 (by decide) ?_
        refine ih (x + 1) _ _ (by omega) (by omega) (hR.st _) (by omega) ?_ H locs ls hW (lv_sub hl [0, 1, 2, 3, 4, 5] rfl)
        rw [Ru.num, rv_succ, rv_succ, p32, uI_nI]
        exact st_add (by omega) hv
  refine lv_lconst (v := 0) hx hb dX0_add_0 (by decide) ?_
  refine lv_lstore (lv' := [(4, .long 0), (0, .ref (g.P i)), (1, .ref (g.P j)), (2, .ref (g.P r)), (3, .int (nI g.k))]) hx hb dX0_add_1 hl (by decide) rfl (fun ls hl => ?_)
  refine lv_iconst (v := 0) hx hb dX0_add_3 (by decide) ?_
  refine lv_istore (lv' := [(6, .int 0), (4, .long 0), (0, .ref (g.P i)), (1, .ref (g.P j)), (2, .ref (g.P r)), (3, .int (nI g.k))]) hx hb dX0_add_4 hl (by decide) rfl (fun ls hl => ?_)
  exact loop (g.k + 1) 0 0 σ.F (by omega) (by omega) Ru.rf (by omega) rfl _ _ ls hW (lv_sub hl [0, 1, 2, 3, 4, 5] rfl)
set_option maxHeartbeats 4000000 in
set_option maxRecDepth 100000 in
/-- Limbs.subtract(into, a, b, k): the difference, and whether it went below 0 -/
theorem k_subtract (l : Launch) (g : qCfg) (hg : g.ok) (σ : qSt) {i j r : Nat} (hi : 12 ≤ i ∧ i < g.N)(hj : 12 ≤ j ∧ j < g.N)(hrr : 12 ≤ r ∧ r < g.N) : qCI l g yX0_subtract wsX0_subtract 0 0 [.ref (g.P i), .ref (g.P j), .ref (g.P r), .int (nI g.k)] σ (fun z σ' => ∃ F' c, σ' = σ.setF F' ∧ Fr σ.F F' [i] ∧ c ≤ 1 ∧ z = nI c ∧ qV g F' i + qV g σ.F r = qV g σ.F j + c * 2 ^ (32 * g.k)) := by
  refine q_sZ (cc := cX0_subtract) (maxL := 7) (by decide) rfl (Nat.le_of_ble_eq_true rfl) ?_
  intro p e s m args below meth c ls Q S hW hl fin
  obtain ⟨hx, hb, hml, hown, hts, hr, hlocks⟩ := id S
  obtain ⟨hk1, hk8, hn1, hn8⟩ := id hg
  have hl : lv_has ls 7 [(0, .ref (g.P i)), (1, .ref (g.P j)), (2, .ref (g.P r)), (3, .int (nI g.k))] := hl
  have loop : ∀ (n x : Nat) (c0 : Nat) (F : Nat → Nat → Int32), x ≤ g.k → g.k + 1 ≤ x + n → Ru σ.F F i x → c0 ≤ 1 → rv (F i) x + rv (σ.F r) x = rv (σ.F j) x + c0 * 2 ^ (32 * x) → ∀ (H : Heap) (locs : List Loc) (ls : Array Slot), Wo g (Ad g s.heap.size) s H locs (σ.setF F) → lv_has ls 7 [(6, .int (nI x)), (4, .long (if c0 = 0 then (0 : Int64) else -1)), (0, .ref (g.P i)), (1, .ref (g.P j)), (2, .ref (g.P r)), (3, .int (nI g.k))] → W p l e (rmm 0 0) s m args below meth c H locs 0 0 Q (F0 m 6 ls []) := by
    intro n
    induction n with
    | zero => intro x c0 F h1 h2; exact absurd h2 (by omega)
    | succ n ih =>
      intro x c0 F hx1 hx2 hR hc hv H locs ls hW hl
      refine lv_iload hx hb dX0_subtract_6 (lv_at hl 0 rfl) ?_
      refine lv_iload_n hx hb dX0_subtract_8 rfl (lv_at hl 5 rfl) ?_
      refine lv_icmp_ge (tgt := 56) hx hb dX0_subtract_9 (by decide) (fun c1 => ?_) (fun c1 => ?_)
      · have hx3 := nle c1 (by omega) (by omega)
        have hx4 : x = g.k := by omega
        rw [hx4] at hv
        refine lv_lload hx hb dX0_subtract_56 (lv_at hl 1 rfl) ?_
        refine lv_lconst (v := 0) hx hb dX0_subtract_58 (by decide) ?_
        refine W.lcmp hx hb dX0_subtract_59 ?_
        refine lv_if_eq (tgt := 67) hx hb dX0_subtract_60 (by decide) (fun c2 => ?_) (fun c2 => ?_)
        · refine lv_iconst (v := 0) hx hb dX0_subtract_67 (by decide) ?_
          have h0 : c0 = 0 := by
            by_cases q : c0 = 0
            · exact q
            · rw [if_neg q] at c2
              exact absurd c2 (by decide)
          exact fin _ _ _ _ _ _ (by decide) hW (⟨F, c0, rfl, hR.fr, hc, by rw [h0]; rfl, hv⟩) dX0_subtract_68
        · refine lv_iconst (v := 1) hx hb dX0_subtract_63 (by decide) ?_
          refine lv_goto (tgt := 68) hx hb dX0_subtract_64 (by decide) ?_
          have h0 : c0 = 1 := by
            by_cases q : c0 = 0
            · rw [if_pos q] at c2
              exact absurd (by decide) c2
            · omega
          exact fin _ _ _ _ _ _ (by decide) hW (⟨F, c0, rfl, hR.fr, hc, by rw [h0]; rfl, hv⟩) dX0_subtract_68
      · have hx3 := nge c1 (by omega)
        obtain ⟨v, c2, hv2, hc2, hs2, hi2, hl2⟩ := sub_limb (uI_lt (σ.F j x)) (uI_lt (σ.F r x)) hc
        refine lv_lload hx hb dX0_subtract_12 (lv_at hl 1 rfl) ?_
        refine lv_aload_n hx hb dX0_subtract_14 rfl (lv_at hl 3 rfl) ?_
        refine lv_iload hx hb dX0_subtract_15 (lv_at hl 0 rfl) ?_
        refine q_iald hx hb hW (i := j) (j := x) hj (by omega) hk8 rfl dX0_subtract_17 ?_
        refine q_ti (y := σ.F j x) (hR.rd _) ?_
        refine lv_i2l hx hb dX0_subtract_18 rfl ?_
        refine lv_ldc2 (v := 4294967295) hx hb hown (hts (.constantLong RX0 15 (4294967295)) (by decide +kernel)) dX0_subtract_19 ?_
        refine lv_land hx hb dX0_subtract_22 ?_
        refine q_tl (y := lN (uI (σ.F j x))) (m32 _) ?_
        refine lv_aload_n hx hb dX0_subtract_23 rfl (lv_at hl 4 rfl) ?_
        refine lv_iload hx hb dX0_subtract_24 (lv_at hl 0 rfl) ?_
        refine q_iald hx hb hW (i := r) (j := x) hrr (by omega) hk8 rfl dX0_subtract_26 ?_
        refine q_ti (y := σ.F r x) (hR.rd _) ?_
        refine lv_i2l hx hb dX0_subtract_27 rfl ?_
        refine lv_ldc2 (v := 4294967295) hx hb hown (hts (.constantLong RX0 15 (4294967295)) (by decide +kernel)) dX0_subtract_28 ?_
        refine lv_land hx hb dX0_subtract_31 ?_
        refine q_tl (y := lN (uI (σ.F r x))) (m32 _) ?_
        refine lv_lsub hx hb dX0_subtract_32 ?_
        refine lv_ladd hx hb dX0_subtract_33 ?_
        generalize hT : (if c0 = 0 then (0 : Int64) else -1) + (lN (uI (σ.F j x)) - lN (uI (σ.F r x))) = T at hi2 hl2 ⊢
        refine lv_lstore (lv' := [(4, .long T), (6, .int (nI x)), (0, .ref (g.P i)), (1, .ref (g.P j)), (2, .ref (g.P r)), (3, .int (nI g.k))]) hx hb dX0_subtract_34 hl (by decide) rfl (fun ls hl => ?_)
        refine lv_aload_n hx hb dX0_subtract_36 rfl (lv_at hl 2 rfl) ?_
        refine lv_iload hx hb dX0_subtract_37 (lv_at hl 1 rfl) ?_
        refine lv_lload hx hb dX0_subtract_39 (lv_at hl 0 rfl) ?_
        refine lv_l2i hx hb dX0_subtract_41 rfl ?_
        refine q_ti (y := nI v) hi2 ?_
        refine q_iastF (i := i) (F := F) hx hb hW (j := x) hi (by omega) hk8 rfl dX0_subtract_42 (fun H locs hW => ?_)
        refine lv_lload hx hb dX0_subtract_43 (lv_at hl 0 rfl) ?_
        refine lv_bipush (v := 32) hx hb dX0_subtract_45 (by decide) ?_
        refine lv_lshr hx hb dX0_subtract_47 rfl ?_
        refine q_tl (y := if c2 = 0 then (0 : Int64) else -1) hl2 ?_
        refine lv_lstore (lv' := [(4, .long (if c2 = 0 then (0 : Int64) else -1)), (6, .int (nI x)), (0, .ref (g.P i)), (1, .ref (g.P j)), (2, .ref (g.P r)), (3, .int (nI g.k))]) hx hb dX0_subtract_48 hl (by decide) rfl (fun ls hl => ?_)
        refine lv_iinc (v := nI (x + 1)) (lv' := [(6, .int (nI (x + 1))), (4, .long (if c2 = 0 then (0 : Int64) else -1)), (0, .ref (g.P i)), (1, .ref (g.P j)), (2, .ref (g.P r)), (3, .int (nI g.k))]) hx hb dX0_subtract_50 hl (k := 1) rfl (nI_1 _) (by decide) rfl (fun ls hl => ?_)
        refine lv_goto (tgt := 6) hx hb dX0_subtract_53 (by decide) ?_
        refine ih (x + 1) _ _ (by omega) (by omega) (hR.st _) hc2 ?_ H locs ls hW (lv_sub hl [0, 1, 2, 3, 4, 5] rfl)
        rw [Ru.num, rv_succ, rv_succ, p32, uI_nI' hv2]
        exact st_sub hs2 hv
  refine lv_lconst (v := 0) hx hb dX0_subtract_0 (by decide) ?_
  refine q_tl (y := if 0 = 0 then (0 : Int64) else -1) (by decide) ?_
  refine lv_lstore (lv' := [(4, .long (if 0 = 0 then (0 : Int64) else -1)), (0, .ref (g.P i)), (1, .ref (g.P j)), (2, .ref (g.P r)), (3, .int (nI g.k))]) hx hb dX0_subtract_1 hl (by decide) rfl (fun ls hl => ?_)
  refine lv_iconst (v := 0) hx hb dX0_subtract_3 (by decide) ?_
  refine lv_istore (lv' := [(6, .int 0), (4, .long (if 0 = 0 then (0 : Int64) else -1)), (0, .ref (g.P i)), (1, .ref (g.P j)), (2, .ref (g.P r)), (3, .int (nI g.k))]) hx hb dX0_subtract_4 hl (by decide) rfl (fun ls hl => ?_)
  exact loop (g.k + 1) 0 0 σ.F (by omega) (by omega) Ru.rf (by omega) rfl _ _ ls hW (lv_sub hl [0, 1, 2, 3, 4, 5] rfl)
set_option maxHeartbeats 4000000 in
set_option maxRecDepth 100000 in
/-- Limbs.addMultiple(row, other, factor, k) -/
theorem k_addMultiple (l : Launch) (g : qCfg) (hg : g.ok) (σ : qSt) {i j : Nat} (hi : 12 ≤ i ∧ i < g.N)(hj : 12 ≤ j ∧ j < g.N)(v : Int32) : qCL l g yX0_addMultiple wsX0_addMultiple 0 0 [.ref (g.P i), .ref (g.P j), .int v, .int (nI g.k)] σ (fun z σ' => ∃ F' c, σ' = σ.setF F' ∧ Fr σ.F F' [i] ∧ c < 4294967296 ∧ z = lN c ∧ qV g F' i + c * 2 ^ (32 * g.k) = qV g σ.F i + uI v * qV g σ.F j) := by
  refine q_sL (cc := cX0_addMultiple) (maxL := 9) (by decide) rfl (Nat.le_of_ble_eq_true rfl) ?_
  intro p e s m args below meth c ls Q S hW hl fin
  obtain ⟨hx, hb, hml, hown, hts, hr, hlocks⟩ := id S
  obtain ⟨hk1, hk8, hn1, hn8⟩ := id hg
  have hl : lv_has ls 9 [(0, .ref (g.P i)), (1, .ref (g.P j)), (2, .int v), (3, .int (nI g.k))] := hl
  have hbv := uI_lt v
  have loop : ∀ (n x : Nat) (c0 : Nat) (F : Nat → Nat → Int32), x ≤ g.k → g.k + 1 ≤ x + n → Ru σ.F F i x → c0 < 4294967296 → rv (F i) x + c0 * 2 ^ (32 * x) = rv (σ.F i) x + uI v * rv (σ.F j) x → ∀ (H : Heap) (locs : List Loc) (ls : Array Slot), Wo g (Ad g s.heap.size) s H locs (σ.setF F) → lv_has ls 9 [(8, .int (nI x)), (6, .long (lN c0)), (4, .long (lN (uI v))), (0, .ref (g.P i)), (1, .ref (g.P j)), (2, .int v), (3, .int (nI g.k))] → W p l e (rmm 0 0) s m args below meth c H locs 0 0 Q (F0 m 14 ls []) := by
    intro n
    induction n with
    | zero => intro x c0 F h1 h2; exact absurd h2 (by omega)
    | succ n ih =>
      intro x c0 F hx1 hx2 hR hc hv H locs ls hW hl
      refine lv_iload hx hb dX0_addMultiple_14 (lv_at hl 0 rfl) ?_
      refine lv_iload_n hx hb dX0_addMultiple_16 rfl (lv_at hl 6 rfl) ?_
      refine lv_icmp_ge (tgt := 67) hx hb dX0_addMultiple_17 (by decide) (fun c1 => ?_) (fun c1 => ?_)
      · have hx3 := nle c1 (by omega) (by omega)
        have hx4 : x = g.k := by omega
        rw [hx4] at hv
        refine lv_lload hx hb dX0_addMultiple_67 (lv_at hl 1 rfl) ?_
        exact fin _ _ _ _ _ _ hW (⟨F, c0, rfl, hR.fr, hc, rfl, hv⟩) dX0_addMultiple_69
      · have hx3 := nge c1 (by omega)
        have hb1 := uI_lt (σ.F j x)
        have hb2 := uI_lt (σ.F i x)
        have hb3 : uI v * uI (σ.F j x) ≤ 4294967295 * 4294967295 := Nat.mul_le_mul (by omega) (by omega)
        refine lv_lload hx hb dX0_addMultiple_20 (lv_at hl 1 rfl) ?_
        refine lv_lload hx hb dX0_addMultiple_22 (lv_at hl 2 rfl) ?_
        refine lv_aload_n hx hb dX0_addMultiple_24 rfl (lv_at hl 4 rfl) ?_
        refine lv_iload hx hb dX0_addMultiple_25 (lv_at hl 0 rfl) ?_
        refine q_iald hx hb hW (i := j) (j := x) hj (by omega) hk8 rfl dX0_addMultiple_27 ?_
        refine q_ti (y := σ.F j x) (hR.rd _) ?_
        refine lv_i2l hx hb dX0_addMultiple_28 rfl ?_
        refine lv_ldc2 (v := 4294967295) hx hb hown (hts (.constantLong RX0 15 (4294967295)) (by decide +kernel)) dX0_addMultiple_29 ?_
        refine lv_land hx hb dX0_addMultiple_32 ?_
        refine q_tl (y := lN (uI (σ.F j x))) (m32 _) ?_
        refine lv_lmul hx hb dX0_addMultiple_33 ?_
        refine q_tl (y := lN ((uI v) * (uI (σ.F j x)))) (lN_mul _ _) ?_
        refine lv_aload_n hx hb dX0_addMultiple_34 rfl (lv_at hl 3 rfl) ?_
        refine lv_iload hx hb dX0_addMultiple_35 (lv_at hl 0 rfl) ?_
        refine q_iald hx hb hW (i := i) (j := x) hi (by omega) hk8 rfl dX0_addMultiple_37 ?_
        refine q_ti (y := σ.F i x) (hR.rd _) ?_
        refine lv_i2l hx hb dX0_addMultiple_38 rfl ?_
        refine lv_ldc2 (v := 4294967295) hx hb hown (hts (.constantLong RX0 15 (4294967295)) (by decide +kernel)) dX0_addMultiple_39 ?_
        refine lv_land hx hb dX0_addMultiple_42 ?_
        refine q_tl (y := lN (uI (σ.F i x))) (m32 _) ?_
        refine lv_ladd hx hb dX0_addMultiple_43 ?_
        refine q_tl (y := lN (((uI v) * (uI (σ.F j x))) + (uI (σ.F i x)))) (lN_add _ _) ?_
        refine lv_ladd hx hb dX0_addMultiple_44 ?_
        refine q_tl (y := lN (c0 + (((uI v) * (uI (σ.F j x))) + (uI (σ.F i x))))) (lN_add _ _) ?_
        generalize hT : c0 + (uI v * uI (σ.F j x) + uI (σ.F i x)) = T
        have hTb : T < 18446744073709551616 := by omega
        refine lv_lstore (lv' := [(6, .long (lN T)), (8, .int (nI x)), (4, .long (lN (uI v))), (0, .ref (g.P i)), (1, .ref (g.P j)), (2, .int v), (3, .int (nI g.k))]) hx hb dX0_addMultiple_45 hl (by decide) rfl (fun ls hl => ?_)
        refine lv_aload_n hx hb dX0_addMultiple_47 rfl (lv_at hl 3 rfl) ?_
        refine lv_iload hx hb dX0_addMultiple_48 (lv_at hl 1 rfl) ?_
        refine lv_lload hx hb dX0_addMultiple_50 (lv_at hl 0 rfl) ?_
        refine lv_l2i hx hb dX0_addMultiple_52 rfl ?_
        refine q_ti (y := nI T) (lN_i _) ?_
        refine q_iastF (i := i) (F := F) hx hb hW (j := x) hi (by omega) hk8 rfl dX0_addMultiple_53 (fun H locs hW => ?_)
        refine lv_lload hx hb dX0_addMultiple_54 (lv_at hl 0 rfl) ?_
        refine lv_bipush (v := 32) hx hb dX0_addMultiple_56 (by decide) ?_
        refine lv_lushr hx hb dX0_addMultiple_58 rfl ?_
        refine q_tl (y := lN (T / 4294967296)) (lN_ushr32 hTb) ?_
        refine lv_lstore (lv' := [(6, .long (lN (T / 4294967296))), (8, .int (nI x)), (4, .long (lN (uI v))), (0, .ref (g.P i)), (1, .ref (g.P j)), (2, .int v), (3, .int (nI g.k))]) hx hb dX0_addMultiple_59 hl (by decide) rfl (fun ls hl => ?_)
        refine lv_iinc (v := nI (x + 1)) (lv' := [(8, .int (nI (x + 1))), (6, .long (lN (T / 4294967296))), (4, .long (lN (uI v))), (0, .ref (g.P i)), (1, .ref (g.P j)), (2, .int v), (3, .int (nI g.k))]) hx hb dX0_addMultiple_61 hl (k := 1) rfl (nI_1 _) (by decide) rfl (fun ls hl => ?_)
        refine lv_goto (tgt := 14) hx hb dX0_addMultiple_64 (by decide) ?_
        refine ih (x + 1) _ _ (by omega) (by omega) (hR.st _) (by omega) ?_ H locs ls hW (lv_sub hl [0, 1, 2, 3, 4, 5, 6] rfl)
        rw [Ru.num, rv_succ, rv_succ, p32, uI_nI]
        exact st_mul (by omega) hv
  refine lv_iload_n hx hb dX0_addMultiple_0 rfl (lv_at hl 2 rfl) ?_
  refine lv_i2l hx hb dX0_addMultiple_1 rfl ?_
  refine lv_ldc2 (v := 4294967295) hx hb hown (hts (.constantLong RX0 15 (4294967295)) (by decide +kernel)) dX0_addMultiple_2 ?_
  refine lv_land hx hb dX0_addMultiple_5 ?_
  refine q_tl (y := lN (uI v)) (m32 _) ?_
  refine lv_lstore (lv' := [(4, .long (lN (uI v))), (0, .ref (g.P i)), (1, .ref (g.P j)), (2, .int v), (3, .int (nI g.k))]) hx hb dX0_addMultiple_6 hl (by decide) rfl (fun ls hl => ?_)
  refine lv_lconst (v := 0) hx hb dX0_addMultiple_8 (by decide) ?_
  refine lv_lstore (lv' := [(6, .long 0), (4, .long (lN (uI v))), (0, .ref (g.P i)), (1, .ref (g.P j)), (2, .int v), (3, .int (nI g.k))]) hx hb dX0_addMultiple_9 hl (by decide) rfl (fun ls hl => ?_)
  refine lv_iconst (v := 0) hx hb dX0_addMultiple_11 (by decide) ?_
  refine lv_istore (lv' := [(8, .int 0), (6, .long 0), (4, .long (lN (uI v))), (0, .ref (g.P i)), (1, .ref (g.P j)), (2, .int v), (3, .int (nI g.k))]) hx hb dX0_addMultiple_12 hl (by decide) rfl (fun ls hl => ?_)
  exact loop (g.k + 1) 0 0 σ.F (by omega) (by omega) Ru.rf (by omega) rfl _ _ ls hW (lv_sub hl [0, 1, 2, 3, 4, 5, 6] rfl)
set_option maxHeartbeats 4000000 in
set_option maxRecDepth 100000 in
/-- Limbs.dropLimb(row, top, k) -/
theorem k_dropLimb (l : Launch) (g : qCfg) (hg : g.ok) (σ : qSt) {i : Nat} (hi : 12 ≤ i ∧ i < g.N){t : Nat} (htb : t < 18446744073709551616) : qCL l g yX0_dropLimb wsX0_dropLimb 0 0 [.ref (g.P i), .long (lN t), .int (nI g.k)] σ (fun z σ' => ∃ F', σ' = σ.setF F' ∧ Fr σ.F F' [i] ∧ z = lN (t / 4294967296) ∧ qV g F' i + t / 4294967296 * 2 ^ (32 * g.k) = qV g σ.F i / 4294967296 + t * 2 ^ (32 * (g.k - 1))) := by
  refine q_sL (cc := cX0_dropLimb) (maxL := 5) (by decide) rfl (Nat.le_of_ble_eq_true rfl) ?_
  intro p e s m args below meth c ls Q S hW hl fin
  obtain ⟨hx, hb, hml, hown, hts, hr, hlocks⟩ := id S
  obtain ⟨hk1, hk8, hn1, hn8⟩ := id hg
  have hl : lv_has ls 5 [(0, .ref (g.P i)), (1, .long (lN t)), (3, .int (nI g.k))] := hl
  have loop : ∀ (n x : Nat) (F : Nat → Nat → Int32), x ≤ g.k → g.k + 1 ≤ x + n → 1 ≤ x → Ru σ.F F i x → (∀ y, y + 1 < x → F i y = σ.F i (y + 1)) → ∀ (H : Heap) (locs : List Loc) (ls : Array Slot), Wo g (Ad g s.heap.size) s H locs (σ.setF F) → lv_has ls 5 [(4, .int (nI x)), (0, .ref (g.P i)), (1, .long (lN t)), (3, .int (nI g.k))] → W p l e (rmm 0 0) s m args below meth c H locs 0 0 Q (F0 m 3 ls []) := by
    intro n
    induction n with
    | zero => intro x F h1 h2; exact absurd h2 (by omega)
    | succ n ih =>
      intro x F hx1 hx2 hx0 hR hd H locs ls hW hl
      refine lv_iload hx hb dX0_dropLimb_3 (lv_at hl 0 rfl) ?_
      refine lv_iload_n hx hb dX0_dropLimb_5 rfl (lv_at hl 3 rfl) ?_
      refine lv_icmp_ge (tgt := 25) hx hb dX0_dropLimb_6 (by decide) (fun c1 => ?_) (fun c1 => ?_)
      · have hx3 := nle c1 (by omega) (by omega)
        refine lv_aload_n hx hb dX0_dropLimb_25 rfl (lv_at hl 1 rfl) ?_
        refine lv_iload_n hx hb dX0_dropLimb_26 rfl (lv_at hl 3 rfl) ?_
        refine lv_iconst (v := 1) hx hb dX0_dropLimb_27 (by decide) ?_
        refine lv_isub hx hb dX0_dropLimb_28 ?_
        refine q_ti (y := nI (g.k - 1)) (pk_sub (b := 1) hk1) ?_
        refine lv_lload_n hx hb dX0_dropLimb_29 rfl (lv_at hl 2 rfl) ?_
        refine lv_l2i hx hb dX0_dropLimb_30 rfl ?_
        refine q_ti (y := nI t) (lN_i _) ?_
        refine q_iastF (i := i) (F := F) hx hb hW (j := (g.k - 1)) hi (by omega) hk8 rfl dX0_dropLimb_31 (fun H locs hW => ?_)
        refine lv_lload_n hx hb dX0_dropLimb_32 rfl (lv_at hl 2 rfl) ?_
        refine lv_bipush (v := 32) hx hb dX0_dropLimb_33 (by decide) ?_
        refine lv_lushr hx hb dX0_dropLimb_35 rfl ?_
        refine q_tl (y := lN (t / 4294967296)) (lN_ushr32 htb) ?_
        refine fin _ _ _ _ _ _ hW ⟨_, rfl, fun r hr => ?_, rfl, ?_⟩ dX0_dropLimb_36
        · rw [va_up_ne _ _ (fun q => hr (by rw [q]; exact List.mem_singleton_self i))]; exact hR.fr r hr
        · exact drop_num hk1 (fun y hy => by rw [va_up_self, pk_un (by omega)]; exact hd y (by omega)) (by rw [va_up_self, pk_us])
      · have hx3 := nge c1 (by omega)
        refine lv_aload_n hx hb dX0_dropLimb_9 rfl (lv_at hl 1 rfl) ?_
        refine lv_iload hx hb dX0_dropLimb_10 (lv_at hl 0 rfl) ?_
        refine lv_iconst (v := 1) hx hb dX0_dropLimb_12 (by decide) ?_
        refine lv_isub hx hb dX0_dropLimb_13 ?_
        refine q_ti (y := nI (x - 1)) (pk_sub (b := 1) hx0) ?_
        refine lv_aload_n hx hb dX0_dropLimb_14 rfl (lv_at hl 1 rfl) ?_
        refine lv_iload hx hb dX0_dropLimb_15 (lv_at hl 0 rfl) ?_
        refine q_iald hx hb hW (i := i) (j := x) hi (by omega) hk8 rfl dX0_dropLimb_17 ?_
        refine q_ti (y := σ.F i x) (hR.rd _) ?_
        refine q_iastF (i := i) (F := F) hx hb hW (j := (x - 1)) hi (by omega) hk8 rfl dX0_dropLimb_18 (fun H locs hW => ?_)
        refine lv_iinc (v := nI (x + 1)) (lv' := [(4, .int (nI (x + 1))), (0, .ref (g.P i)), (1, .long (lN t)), (3, .int (nI g.k))]) hx hb dX0_dropLimb_19 hl (k := 0) rfl (nI_1 _) (by decide) rfl (fun ls hl => ?_)
        refine lv_goto (tgt := 3) hx hb dX0_dropLimb_22 (by decide) ?_
        refine ih (x + 1) _ (by omega) (by omega) (by omega) ⟨fun r hr => ?_, fun y hy => ?_⟩ (fun y hy => ?_) H locs ls hW (lv_sub hl [0, 1, 2, 3] rfl)
        · rw [va_up_ne _ _ hr]; exact hR.1 r hr
        · rw [va_up_self, pk_un (by omega)]; exact hR.2 y (by omega)
        · rw [va_up_self]
          by_cases q : y = x - 1
          · subst q
            rw [pk_us, show x - 1 + 1 = x by omega]
          · rw [pk_un q]; exact hd y (by omega)
  refine lv_iconst (v := 1) hx hb dX0_dropLimb_0 (by decide) ?_
  refine lv_istore (lv' := [(4, .int 1), (0, .ref (g.P i)), (1, .long (lN t)), (3, .int (nI g.k))]) hx hb dX0_dropLimb_1 hl (by decide) rfl (fun ls hl => ?_)
  exact loop (g.k + 1) 1 σ.F (by omega) (by omega) (by omega) Ru.rf (fun y hy => absurd hy (by omega)) _ _ ls hW (lv_sub hl [0, 1, 2, 3] rfl)
set_option maxHeartbeats 4000000 in
set_option maxRecDepth 100000 in
/-- Limbs.halve(row, top, k) -/
theorem k_halve (l : Launch) (g : qCfg) (hg : g.ok) (σ : qSt) {i : Nat} (hi : 12 ≤ i ∧ i < g.N){t : Nat} (htb : t ≤ 1) : qCV l g yX0_halve wsX0_halve 0 0 [.ref (g.P i), .long (lN t), .int (nI g.k)] σ (fun σ' => ∃ F', σ' = σ.setF F' ∧ Fr σ.F F' [i] ∧ qV g F' i = (qV g σ.F i + t * 2 ^ (32 * g.k)) / 2) := by
  refine q_sV (cc := cX0_halve) (maxL := 9) (by decide) rfl (Nat.le_of_ble_eq_true rfl) ?_
  intro p e s m args below meth c ls Q S hW hl fin
  obtain ⟨hx, hb, hml, hown, hts, hr, hlocks⟩ := id S
  obtain ⟨hk1, hk8, hn1, hn8⟩ := id hg
  have hl : lv_has ls 9 [(0, .ref (g.P i)), (1, .long (lN t)), (3, .int (nI g.k))] := hl
  have loop : ∀ (x : Nat) (a0 : Nat) (F : Nat → Nat → Int32), x ≤ g.k → Rw σ.F F i x → a0 ≤ 1 → 2 * rv (F i) g.k + a0 * 2 ^ (32 * x) = rv (σ.F i) g.k + t * 2 ^ (32 * g.k) + rv (σ.F i) x → ∀ (H : Heap) (locs : List Loc) (ls : Array Slot), Wo g (Ad g s.heap.size) s H locs (σ.setF F) → lv_has ls 9 [(6, .int (nI x - 1)), (4, .long (lN a0)), (0, .ref (g.P i)), (1, .long (lN t)), (3, .int (nI g.k))] → W p l e (rmm 0 0) s m args below meth c H locs 0 0 Q (F0 m 8 ls []) := by
    intro x
    induction x with
    | zero =>
      intro a0 F hx1 hR ha hv H locs ls hW hl
      refine lv_iload hx hb dX0_halve_8 (lv_at hl 0 rfl) ?_
      refine lv_if_lt (tgt := 51) hx hb dX0_halve_10 (by decide) (fun _ => ?_) (fun c9 => absurd (by decide) c9)
      exact fin _ _ _ _ _ hW (⟨F, rfl, hR.fr, by
              have h1 : 2 * rv (F i) g.k + a0 * 1 = rv (σ.F i) g.k + t * 2 ^ (32 * g.k) + 0 := hv
              show rv (F i) g.k = (rv (σ.F i) g.k + t * 2 ^ (32 * g.k)) / 2
              omega⟩) dX0_halve_51
    | succ x ih =>
      intro a0 F hx1 hR ha hv H locs ls hW hl
      rw [nI_pred] at hl
      refine lv_iload hx hb dX0_halve_8 (lv_at hl 0 rfl) ?_
      refine lv_if_lt (tgt := 51) hx hb dX0_halve_10 (by decide) (fun c9 => absurd c9 (nI_pos (by omega))) (fun _ => ?_)
      have hb1 := uI_lt (σ.F i x)
      refine lv_lload hx hb dX0_halve_13 (lv_at hl 1 rfl) ?_
      refine lv_bipush (v := 32) hx hb dX0_halve_15 (by decide) ?_
      refine lv_lshl hx hb dX0_halve_17 rfl ?_
      refine q_tl (y := lN (a0 * 4294967296)) (wb_shl (k := 32) a0 (by decide)) ?_
      refine lv_aload_n hx hb dX0_halve_18 rfl (lv_at hl 2 rfl) ?_
      refine lv_iload hx hb dX0_halve_19 (lv_at hl 0 rfl) ?_
      refine q_iald hx hb hW (i := i) (j := x) hi (by omega) hk8 rfl dX0_halve_21 ?_
      refine q_ti (y := σ.F i x) (hR.rd (Nat.lt_succ_self _) _) ?_
      refine lv_i2l hx hb dX0_halve_22 rfl ?_
      refine lv_ldc2 (v := 4294967295) hx hb hown (hts (.constantLong RX0 15 (4294967295)) (by decide +kernel)) dX0_halve_23 ?_
      refine lv_land hx hb dX0_halve_26 ?_
      refine q_tl (y := lN (uI (σ.F i x))) (m32 _) ?_
      refine lv_lor hx hb dX0_halve_27 ?_
      refine q_tl (y := lN (a0 * 4294967296 + uI (σ.F i x))) (lor_B hb1 (by omega)) ?_
      generalize hT : a0 * 4294967296 + uI (σ.F i x) = T
      refine lv_lstore (lv' := [(7, .long (lN T)), (6, .int (nI x)), (4, .long (lN a0)), (0, .ref (g.P i)), (1, .long (lN t)), (3, .int (nI g.k))]) hx hb dX0_halve_28 hl (by decide) rfl (fun ls hl => ?_)
      refine lv_aload_n hx hb dX0_halve_30 rfl (lv_at hl 3 rfl) ?_
      refine lv_iload hx hb dX0_halve_31 (lv_at hl 1 rfl) ?_
      refine lv_lload hx hb dX0_halve_33 (lv_at hl 0 rfl) ?_
      refine lv_iconst (v := 1) hx hb dX0_halve_35 (by decide) ?_
      refine lv_lushr hx hb dX0_halve_36 rfl ?_
      refine q_tl (y := lN (T / 2)) (lN_ushr1 (by omega)) ?_
      refine lv_l2i hx hb dX0_halve_37 rfl ?_
      refine q_ti (y := nI (T / 2)) (lN_i _) ?_
      refine q_iastF (i := i) (F := F) hx hb hW (j := x) hi (by omega) hk8 rfl dX0_halve_38 (fun H locs hW => ?_)
      refine lv_lload hx hb dX0_halve_39 (lv_at hl 0 rfl) ?_
      refine lv_lconst (v := 1) hx hb dX0_halve_41 (by decide) ?_
      refine lv_land hx hb dX0_halve_42 ?_
      refine q_tl (y := lN (T % 2)) (wb_a1 (by omega)) ?_
      refine lv_lstore (lv' := [(4, .long (lN (T % 2))), (7, .long (lN T)), (6, .int (nI x)), (0, .ref (g.P i)), (1, .long (lN t)), (3, .int (nI g.k))]) hx hb dX0_halve_43 hl (by decide) rfl (fun ls hl => ?_)
      refine lv_iinc (v := nI x - 1) (lv' := [(6, .int (nI x - 1)), (4, .long (lN (T % 2))), (7, .long (lN T)), (0, .ref (g.P i)), (1, .long (lN t)), (3, .int (nI g.k))]) hx hb dX0_halve_45 hl (k := 2) rfl (by rw [Int32.sub_eq_add_neg]; rfl) (by decide) rfl (fun ls hl => ?_)
      refine lv_goto (tgt := 8) hx hb dX0_halve_48 (by decide) ?_
      refine ih (T % 2) _ (by omega) (hR.st _) (by omega) ?_ H locs ls hW (lv_sub hl [0, 1, 3, 4, 5] rfl)
      have h1 := rv_updk (f := F i) (v := nI (T / 2)) (show x < g.k by omega)
      rw [hR.rd (Nat.lt_succ_self _) i, uI_nI' (by omega)] at h1
      rw [va_up_self]
      rw [rv_succ, p32] at hv
      exact st_half (by omega) h1 hv
  refine lv_lload_n hx hb dX0_halve_0 rfl (lv_at hl 1 rfl) ?_
  refine lv_lstore (lv' := [(4, .long (lN t)), (0, .ref (g.P i)), (1, .long (lN t)), (3, .int (nI g.k))]) hx hb dX0_halve_1 hl (by decide) rfl (fun ls hl => ?_)
  refine lv_iload_n hx hb dX0_halve_3 rfl (lv_at hl 3 rfl) ?_
  refine lv_iconst (v := 1) hx hb dX0_halve_4 (by decide) ?_
  refine lv_isub hx hb dX0_halve_5 ?_
  refine lv_istore (lv' := [(6, .int ((nI g.k) - 1)), (4, .long (lN t)), (0, .ref (g.P i)), (1, .long (lN t)), (3, .int (nI g.k))]) hx hb dX0_halve_6 hl (by decide) rfl (fun ls hl => ?_)
  exact loop g.k t σ.F (Nat.le_refl _) Rw.rf htb (by omega) _ _ ls hW (lv_sub hl [0, 1, 2, 3, 4] rfl)
end
section
/-! ===== numbers for Ring ===== -/
theorem mod_two {x m : Nat} (h1 : m ≤ x) (h2 : x < 2 * m) : x % m = x - m := by
  rw [Nat.mod_eq_sub_mod h1, Nat.mod_eq_of_lt (by omega)]
theorem bring_num {V m R V' c t : Nat} (hm : m < R) (ht : t ≤ 1) (h : V + t * R < 2 * m) (hge : t ≠ 0 ∨ m ≤ V) (hs : V' + m = V + c * R) (hc : c ≤ 1) (hV : V' < R) : V' = (V + t * R) % m := by
  rcases (show t = 0 ∨ t = 1 by omega) with rfl | rfl <;> rcases (show c = 0 ∨ c = 1 by omega) with rfl | rfl
  · rw [mod_two (by omega) (by omega)]; omega
  · omega
  · omega
  · rw [mod_two (by omega) (by omega)]; omega
theorem lcmp_0 {t : Nat} (ht : t < 2 ^ 63) : lg_cmp (lN t) 0 = 0 ↔ t = 0 := by
  unfold lg_cmp
  by_cases h1 : lN t > 0
  · rw [if_pos h1]
    have := (pk_lLT (a := 0) (by decide) ht).mp h1
    exact ⟨fun q => absurd q (by decide), fun q => by omega⟩
  · rw [if_neg h1]
    have h2 : ¬ 0 < t := fun q => h1 ((pk_lLT (a := 0) (by decide) ht).mpr q)
    have h3 : t = 0 := by omega
    subst h3
    exact ⟨fun _ => rfl, fun _ => by decide⟩
theorem ord_lt {a b : Nat} {r : Int32} (h : r = if a < b then -1 else if a = b then 0 else 1) : r < 0 ↔ a < b := by
  by_cases h1 : a < b
  · rw [if_pos h1] at h
    subst h
    exact ⟨fun _ => h1, fun _ => by decide⟩
  · rw [if_neg h1] at h
    by_cases h2 : a = b
    · rw [if_pos h2] at h
      subst h
      exact ⟨fun q => absurd q (by decide), fun q => absurd q h1⟩
    · rw [if_neg h2] at h
      subst h
      exact ⟨fun q => absurd q (by decide), fun q => absurd q h1⟩
theorem ord_eq {a b : Nat} {r : Int32} (h : r = if a < b then -1 else if a = b then 0 else 1) : r = 0 ↔ a = b := by
  by_cases h1 : a < b
  · rw [if_pos h1] at h
    subst h
    exact ⟨fun q => absurd q (by decide), fun q => by omega⟩
  · rw [if_neg h1] at h
    by_cases h2 : a = b
    · rw [if_pos h2] at h
      subst h
      exact ⟨fun _ => h2, fun _ => rfl⟩
    · rw [if_neg h2] at h
      subst h
      exact ⟨fun q => absurd q (by decide), fun q => absurd q h2⟩
theorem subb_num {Va Vb m R V1 V2 c c2 : Nat} (hm : m < R) (hb : Vb < R) (h1 : V1 + Vb = Va + c * R) (hc : c ≤ 1) (hV1 : V1 < R) (hle : Vb ≤ Va + m) (ha : Va < R) (h2 : c = 0 ∧ V2 = V1 ∨ c = 1 ∧ V2 + c2 * R = V1 + m ∧ c2 ≤ 1 ∧ V2 < R) : V2 = if Vb ≤ Va then Va - Vb else Va + m - Vb := by
  rcases h2 with ⟨rfl, h⟩ | ⟨rfl, h, hc2, hV2⟩
  · rw [if_pos (by omega)]; omega
  · rcases (show c2 = 0 ∨ c2 = 1 by omega) with rfl | rfl <;> rw [if_neg (by omega)] <;> omega
theorem dbl_num {V x m : Nat} : (V * 2 ^ x % m + V * 2 ^ x % m) % m = V * 2 ^ (x + 1) % m := by
  rw [← Nat.add_mod, Nat.pow_succ]
  congr 1
  rw [← Nat.mul_assoc]
  omega
/-! ===== Montgomery's step ===== -/
theorem mont_low {V1 d0 u m mi q : Nat} (hV : V1 = d0 + 4294967296 * q) (hu : u = d0 * mi % 4294967296) (hm : (mi * m + 1) % 4294967296 = 0) : (V1 + u * m) % 4294967296 = 0 := by
  obtain ⟨w, hw⟩ : ∃ w, mi * m + 1 = 4294967296 * w := ⟨(mi * m + 1) / 4294967296, by omega⟩
  obtain ⟨z, hz⟩ : ∃ z, d0 * mi = u + 4294967296 * z := ⟨d0 * mi / 4294967296, by omega⟩
  have h1 : V1 + u * m + 4294967296 * (z * m) = 4294967296 * (q + d0 * w) := by
    have e1 : (u + 4294967296 * z) * m = d0 * (mi * m) := by rw [← hz, Nat.mul_assoc]
    have e2 : d0 * (mi * m + 1) = d0 * (4294967296 * w) := by rw [hw]
    grind
  omega
theorem mont_step {T V t R V1 c1 a Vb V2 c2 u m V3 Rm P A q : Nat} (hT : (V + t * R) * P = A * Vb + q * m) (h1 : V1 + c1 * R = V + a * Vb) (h2 : V2 + c2 * R = V1 + u * m) (hz : V2 % 4294967296 = 0) (h3 : V3 + T * R = V2 / 4294967296 + (t + c1 + c2) * Rm) (hR : R = Rm * 4294967296) : (V3 + T * R) * (P * 4294967296) = (A + a * P) * Vb + (q + u * P) * m := by
  obtain ⟨v, hv⟩ : ∃ v, V2 = 4294967296 * v := ⟨V2 / 4294967296, by omega⟩
  have e0 : V2 / 4294967296 = v := by omega
  rw [e0] at h3
  have e1 : (V3 + T * R) * 4294967296 = V2 + (t + c1 + c2) * R := by rw [h3, hv, hR]; grind
  have e2 : V2 + (t + c1 + c2) * R = (V + t * R) + a * Vb + u * m := by grind
  have e3 : (V3 + T * R) * (P * 4294967296) = ((V3 + T * R) * 4294967296) * P := by grind
  rw [e3, e1, e2]
  grind
theorem mont_bound {T P A Vb q m R : Nat} (hT : T * P = A * Vb + q * m) (hA : A < P) (hq : q < P) (hb : Vb < R) (hm : m < R) (h0 : 0 < m) : T < 2 * R := by
  have h1 : A * Vb ≤ P * Vb := Nat.mul_le_mul_right _ (Nat.le_of_lt hA)
  have h2 : q * m < P * m := Nat.mul_lt_mul_of_pos_right hq h0
  have h3 : T * P < (Vb + m) * P := by rw [hT]; grind
  have h4 := Nat.lt_of_mul_lt_mul_right h3
  omega
theorem mont_final {T P A Vb q m : Nat} (hT : T * P = A * Vb + q * m) (hq : q < P) (hAB : A * Vb < P * m) (h0 : 0 < m) : T < 2 * m := by
  have h2 : q * m < P * m := Nat.mul_lt_mul_of_pos_right hq h0
  have h3 : T * P < (2 * m) * P := by rw [hT]; grind
  exact Nat.lt_of_mul_lt_mul_right h3
/-! ===== the inverse of an odd limb ===== -/
theorem uI_mul (x y : Int32) : uI (x * y) = uI x * uI y % 4294967296 := by
  unfold uI
  rw [Int32.toBitVec_mul, BitVec.toNat_mul]
theorem uI_sub (x y : Int32) : uI (x - y) = (4294967296 - uI y + uI x) % 4294967296 := by
  unfold uI
  rw [Int32.toBitVec_sub, BitVec.toNat_sub]
theorem uI_neg (x : Int32) : uI (-x) = (4294967296 - uI x) % 4294967296 := by
  unfold uI
  rw [Int32.toBitVec_neg, BitVec.toNat_neg]
theorem inv_step {a x : Int32} {j K : Int} {q : Int} (h : (uI a : Int) * uI x - 1 = j * q) (hK : j * j * K = 4294967296 ∨ ∃ K', j * j = 4294967296 * K' ∧ K = 1) : ∃ q' : Int, (uI a : Int) * uI (x * (2 - a * x)) - 1 = (if j * j * K = 4294967296 then j * j else 4294967296) * q' := by
  obtain ⟨w, hw⟩ : ∃ w : Int, (uI (x * (2 - a * x)) : Int) = uI x * (2 - uI a * uI x) + 4294967296 * w := by
    have e1 := uI_mul x (2 - a * x)
    have e2 := uI_sub 2 (a * x)
    have e3 := uI_mul a x
    have e4 : uI 2 = 2 := by decide
    rw [e4] at e2
    have b3 := uI_lt (a * x)
    obtain ⟨w3, h3⟩ : ∃ w3 : Int, (uI (a * x) : Int) = uI a * uI x + 4294967296 * w3 := ⟨-((uI a * uI x / 4294967296 : Nat) : Int), by
      have : uI a * uI x = 4294967296 * (uI a * uI x / 4294967296) + uI a * uI x % 4294967296 := (Nat.div_add_mod _ _).symm
      have h9 : ((uI a * uI x : Nat) : Int) = (uI a : Int) * uI x := Int.natCast_mul _ _
      omega⟩
    obtain ⟨w2, h2⟩ : ∃ w2 : Int, (uI (2 - a * x) : Int) = 2 - uI (a * x) + 4294967296 * w2 := by
      rcases (show 4294967296 ≤ 4294967296 - uI (a * x) + 2 ∨ 4294967296 - uI (a * x) + 2 < 4294967296 by omega) with z | z
      · exact ⟨0, by omega⟩
      · exact ⟨1, by omega⟩
    obtain ⟨w1, h1⟩ : ∃ w1 : Int, (uI (x * (2 - a * x)) : Int) = uI x * uI (2 - a * x) + 4294967296 * w1 := ⟨-((uI x * uI (2 - a * x) / 4294967296 : Nat) : Int), by
      have : uI x * uI (2 - a * x) = 4294967296 * (uI x * uI (2 - a * x) / 4294967296) + uI x * uI (2 - a * x) % 4294967296 := (Nat.div_add_mod _ _).symm
      have h9 : ((uI x * uI (2 - a * x) : Nat) : Int) = (uI x : Int) * uI (2 - a * x) := Int.natCast_mul _ _
      omega⟩
    refine ⟨uI x * (-w3 + w2) + w1, ?_⟩
    rw [h1, h2, h3]
    grind
  have key : (uI a : Int) * uI (x * (2 - a * x)) - 1 = -(j * q) * (j * q) + 4294967296 * (uI a * w) := by
    rw [hw, ← h]
    grind
  rw [key]
  rcases hK with hK | ⟨K', hK, hK1⟩
  · rw [if_pos hK]
    exact ⟨-(q * q) + K * (uI a * w), by rw [← hK]; grind⟩
  · subst hK1
    by_cases z : j * j * 1 = 4294967296
    · rw [if_pos z]
      exact ⟨-(q * q) + (uI a * w), by rw [← z]; grind⟩
    · rw [if_neg z]
      exact ⟨-(K' * (q * q)) + (uI a * w), by grind⟩
theorem inv_num {a : Int32} (ho : uI a % 2 = 1) {x1 x2 x3 x4 : Int32} (h1 : x1 = a * (2 - a * a)) (h2 : x2 = x1 * (2 - a * x1)) (h3 : x3 = x2 * (2 - a * x2)) (h4 : x4 = x3 * (2 - a * x3)) : uI a * uI x4 % 4294967296 = 1 := by
  obtain ⟨n, hn⟩ : ∃ n : Nat, uI a = 2 * n + 1 := ⟨uI a / 2, by omega⟩
  obtain ⟨q0, h0⟩ : ∃ q : Int, (uI a : Int) * uI a - 1 = 8 * q := by
    obtain ⟨r, hr⟩ : ∃ r : Nat, n * (n + 1) = 2 * r := by
      by_cases hp : n % 2 = 0
      · obtain ⟨z, hz⟩ : ∃ z, n = 2 * z := ⟨n / 2, by omega⟩
        exact ⟨z * (n + 1), by rw [hz]; grind⟩
      · obtain ⟨z, hz⟩ : ∃ z, n = 2 * z + 1 := ⟨n / 2, by omega⟩
        exact ⟨n * (z + 1), by rw [hz]; grind⟩
    refine ⟨r, ?_⟩
    have hr' : (n : Int) * (n + 1) = 2 * r := by exact_mod_cast hr
    rw [hn]
    push_cast
    grind
  obtain ⟨q1, k1⟩ := inv_step (K := 67108864) h0 (Or.inl (by decide))
  rw [if_pos (by decide), ← h1] at k1
  obtain ⟨q2, k2⟩ := inv_step (K := 1048576) k1 (Or.inl (by decide))
  rw [if_pos (by decide), ← h2] at k2
  obtain ⟨q3, k3⟩ := inv_step (K := 256) k2 (Or.inl (by decide))
  rw [if_pos (by decide), ← h3] at k3
  obtain ⟨q4, k4⟩ := inv_step (K := 1) k3 (Or.inr ⟨65536, by decide, rfl⟩)
  rw [if_neg (by decide), ← h4] at k4
  have h9 : ((uI a * uI x4 : Nat) : Int) = (uI a : Int) * uI x4 := Int.natCast_mul _ _
  omega
/-- minusInverse does what its name says -/
theorem minus_inv {a x : Int32} {m : Nat} (h : uI a * uI x % 4294967296 = 1) (hm : ∃ q, m = uI a + 4294967296 * q) : (uI (-x) * m + 1) % 4294967296 = 0 := by
  obtain ⟨q, rfl⟩ := hm
  rw [uI_neg]
  have hb := uI_lt x
  obtain ⟨w, hw⟩ : ∃ w, uI a * uI x = 1 + 4294967296 * w := ⟨uI a * uI x / 4294967296, by omega⟩
  have hx : 0 < uI x := by
    rcases Nat.eq_zero_or_pos (uI x) with z | z
    · rw [z] at hw; omega
    · exact z
  rw [Nat.mod_eq_of_lt (show 4294967296 - uI x < 4294967296 by omega)]
  have e1 : (4294967296 - uI x) * (uI a + 4294967296 * q) + uI x * (uI a + 4294967296 * q) = 4294967296 * (uI a + 4294967296 * q) := by
    rw [← Nat.add_mul]
    congr 1
    omega
  have e2 : uI x * (uI a + 4294967296 * q) = 1 + 4294967296 * (w + uI x * q) := by
    have : uI x * uI a = uI a * uI x := Nat.mul_comm _ _
    grind
  omega
theorem cel_mi {g : qCfg} {σ : qSt} {v : Int32} : ∀ j, j ≠ 1 → cel g (σ.setMi v) j = cel g σ j
  | 0, _ => rfl
  | 1, h => absurd rfl h
  | 2, _ => rfl
  | 3, _ => rfl
  | 4, _ => rfl
  | _ + 5, _ => rfl
theorem cel_rd {g : qCfg} {σ : qSt} {v : Int32} : ∀ j, j ≠ 0 → cel g (σ.setRd v) j = cel g σ j
  | 0, h => absurd rfl h
  | 1, _ => rfl
  | 2, _ => rfl
  | 3, _ => rfl
  | 4, _ => rfl
  | _ + 5, _ => rfl
theorem cel_rm {g : qCfg} {σ : qSt} {v : Int32} : ∀ j, j ≠ 3 → cel g (σ.setRm v) j = cel g σ j
  | 0, _ => rfl
  | 1, _ => rfl
  | 2, _ => rfl
  | 3, h => absurd rfl h
  | 4, _ => rfl
  | _ + 5, _ => rfl
end
section
theorem iw_X1_bringBelow_X1 : ∀ w ∈ wsX10, w ∈ wsX1_bringBelow := by decide +kernel
theorem iw_X1_addBelow_X1 : ∀ w ∈ wsX10, w ∈ wsX1_addBelow := by decide +kernel
theorem iw_X1_subtractBelow_X1 : ∀ w ∈ wsX10, w ∈ wsX1_subtractBelow := by decide +kernel
theorem iw_X1_halveBelow_X1 : ∀ w ∈ wsX10, w ∈ wsX1_halveBelow := by decide +kernel
theorem iw_X1_doubleOften_X1 : ∀ w ∈ wsX10, w ∈ wsX1_doubleOften := by decide +kernel
theorem iw_X1_hasFitModulus_X1 : ∀ w ∈ wsX10, w ∈ wsX1_hasFitModulus := by decide +kernel
theorem iw_X1_prepare_X1 : ∀ w ∈ wsX10, w ∈ wsX1_prepare := by decide +kernel
theorem iw_X1_montgomery_X1 : ∀ w ∈ wsX10, w ∈ wsX1_montgomery := by decide +kernel
theorem iw_X1_residue_X1 : ∀ w ∈ wsX10, w ∈ wsX1_residue := by decide +kernel
set_option maxHeartbeats 4000000 in
set_option maxRecDepth 100000 in
/-- Ring.bringBelow(row, top) -/
theorem r_bringBelow (l : Launch) (g : qCfg) (hg : g.ok) (σ : qSt) {i : Nat} (hi : 12 ≤ i ∧ i < g.N)(hne : i ≠ 12) {t : Nat} (ht : t ≤ 1) (hv : qV g σ.F i + t * 2 ^ (32 * g.k) < 2 * qV g σ.F 12) : qCV l g yX1_bringBelow wsX1_bringBelow 1 26 [.ref (g.P 1), .ref (g.P i), .long (lN t)] σ (fun σ' => ∃ F', σ' = σ.setF F' ∧ Fr σ.F F' [i] ∧ qV g F' i = (qV g σ.F i + t * 2 ^ (32 * g.k)) % qV g σ.F 12) := by
  refine q_sV (cc := cX1_bringBelow) (maxL := 4) (by decide) rfl (Nat.le_of_ble_eq_true rfl) ?_
  intro p e s m args below meth c ls Q S hW hl fin
  obtain ⟨hx, hb, hml, hown, hts, hr, hlocks⟩ := id S
  obtain ⟨hk1, hk8, hn1, hn8⟩ := id hg
  have hl : lv_has ls 4 [(0, .ref (g.P 1)), (1, .ref (g.P i)), (2, .long (lN t))] := hl
  refine lv_lload_n hx hb dX1_bringBelow_0 rfl (lv_at hl 2 rfl) ?_
  refine lv_lconst (v := 0) hx hb dX1_bringBelow_1 (by decide) ?_
  refine W.lcmp hx hb dX1_bringBelow_2 ?_
  refine lv_if_ne (tgt := 21) hx hb dX1_bringBelow_3 (by decide) (fun c1 => ?_) (fun c1 => ?_)
  · have h0 : t ≠ 0 := fun q => c1 ((lcmp_0 (by omega)).mpr q)
    refine lv_aload_n hx hb dX1_bringBelow_21 rfl (lv_at hl 1 rfl) ?_
    refine lv_aload_n hx hb dX1_bringBelow_22 rfl (lv_at hl 1 rfl) ?_
    refine lv_aload_n hx hb dX1_bringBelow_23 rfl (lv_at hl 0 rfl) ?_
    refine q_get (C := RX1) (T := TX1) (v := .ref (g.P 12)) hx hb hts hown (fun _ h9 => iw_X1_bringBelow_X1 _ h9) hW (i := 1) (by decide) rfl rfl 0 (by decide) (hts (.fieldLink RX1 18 "ModEngine$Ring" "modulus" "[I") (by decide +kernel)) rfl dX1_bringBelow_24 ?_
    refine lv_aload_n hx hb dX1_bringBelow_27 rfl (lv_at hl 0 rfl) ?_
    refine q_get (C := RX1) (T := TX1) (v := .int (nI g.k)) hx hb hts hown (fun _ h9 => iw_X1_bringBelow_X1 _ h9) hW (i := 1) (by decide) rfl rfl 1 (by decide) (hts (.fieldLink RX1 9 "ModEngine$Ring" "k" "I") (by decide +kernel)) rfl dX1_bringBelow_28 ?_
    refine q_i (q_runS (As := [.ref (g.P i), .ref (g.P i), .ref (g.P 12), .int (nI g.k)]) (rest := []) S hW (k_subtract l g hg σ hi hi (rowk (by decide))) gX1_bringBelow_X0_subtract (nA := 4) ⟨rfl, by decide +kernel, ⟨by decide, by decide⟩⟩ rfl hl.1 rfl (Nat.le_of_ble_eq_true rfl) dX1_bringBelow_31 ⟨Nat.zero_le _, Nat.zero_le _⟩) hW Ad_hi (fun r_31 σ1 H locs hp hW => ?_)
    obtain ⟨F1, c1, e1, hf1, hc1, er1, hv1⟩ : ∃ F', ∃ c, σ1 = σ.setF F' ∧ Fr σ.F F' [i] ∧ c ≤ 1 ∧ r_31 = nI c ∧ qV g F' i + qV g σ.F 12 = qV g σ.F i + c * 2 ^ (32 * g.k) := hp
    rw [e1] at hW
    refine q_ti (y := nI c1) er1 ?_
    refine lv_pop hx hb dX1_bringBelow_34 rfl ?_
    exact fin _ _ _ _ _ hW (⟨F1, rfl, hf1, bring_num qV_lt ht hv (Or.inl h0) hv1 hc1 qV_lt⟩) dX1_bringBelow_35
  · have h0 : t = 0 := (lcmp_0 (by omega)).mp c1
    subst h0
    refine lv_aload_n hx hb dX1_bringBelow_6 rfl (lv_at hl 1 rfl) ?_
    refine lv_aload_n hx hb dX1_bringBelow_7 rfl (lv_at hl 0 rfl) ?_
    refine q_get (C := RX1) (T := TX1) (v := .ref (g.P 12)) hx hb hts hown (fun _ h9 => iw_X1_bringBelow_X1 _ h9) hW (i := 1) (by decide) rfl rfl 0 (by decide) (hts (.fieldLink RX1 18 "ModEngine$Ring" "modulus" "[I") (by decide +kernel)) rfl dX1_bringBelow_8 ?_
    refine lv_aload_n hx hb dX1_bringBelow_11 rfl (lv_at hl 0 rfl) ?_
    refine q_get (C := RX1) (T := TX1) (v := .int (nI g.k)) hx hb hts hown (fun _ h9 => iw_X1_bringBelow_X1 _ h9) hW (i := 1) (by decide) rfl rfl 1 (by decide) (hts (.fieldLink RX1 9 "ModEngine$Ring" "k" "I") (by decide +kernel)) rfl dX1_bringBelow_12 ?_
    refine q_i (q_runS (As := [.ref (g.P i), .ref (g.P 12), .int (nI g.k)]) (rest := []) S hW (k_order l g hg σ hi (rowk (by decide))) gX1_bringBelow_X0_order (nA := 3) ⟨rfl, by decide +kernel, ⟨by decide, by decide⟩⟩ rfl hl.1 rfl (Nat.le_of_ble_eq_true rfl) dX1_bringBelow_15 ⟨Nat.zero_le _, Nat.zero_le _⟩) hW Ad_hi (fun r_15 σ1 H locs hp hW => ?_)
    obtain ⟨e1, er1⟩ : σ1 = σ ∧ r_15 = if qV g σ.F i < qV g σ.F 12 then -1 else if qV g σ.F i = qV g σ.F 12 then 0 else 1 := hp
    rw [e1] at hW
    refine lv_if_lt (tgt := 35) hx hb dX1_bringBelow_18 (by decide) (fun c2 => ?_) (fun c2 => ?_)
    · have h1 := (ord_lt er1).mp c2
      exact fin _ _ _ _ _ hW (⟨σ.F, rfl, Fr.rf, by rw [Nat.zero_mul, Nat.add_zero, Nat.mod_eq_of_lt h1]⟩) dX1_bringBelow_35
    · have h1 : ¬ qV g σ.F i < qV g σ.F 12 := fun q => c2 ((ord_lt er1).mpr q)
      refine lv_aload_n hx hb dX1_bringBelow_21 rfl (lv_at hl 1 rfl) ?_
      refine lv_aload_n hx hb dX1_bringBelow_22 rfl (lv_at hl 1 rfl) ?_
      refine lv_aload_n hx hb dX1_bringBelow_23 rfl (lv_at hl 0 rfl) ?_
      refine q_get (C := RX1) (T := TX1) (v := .ref (g.P 12)) hx hb hts hown (fun _ h9 => iw_X1_bringBelow_X1 _ h9) hW (i := 1) (by decide) rfl rfl 0 (by decide) (hts (.fieldLink RX1 18 "ModEngine$Ring" "modulus" "[I") (by decide +kernel)) rfl dX1_bringBelow_24 ?_
      refine lv_aload_n hx hb dX1_bringBelow_27 rfl (lv_at hl 0 rfl) ?_
      refine q_get (C := RX1) (T := TX1) (v := .int (nI g.k)) hx hb hts hown (fun _ h9 => iw_X1_bringBelow_X1 _ h9) hW (i := 1) (by decide) rfl rfl 1 (by decide) (hts (.fieldLink RX1 9 "ModEngine$Ring" "k" "I") (by decide +kernel)) rfl dX1_bringBelow_28 ?_
      refine q_i (q_runS (As := [.ref (g.P i), .ref (g.P i), .ref (g.P 12), .int (nI g.k)]) (rest := []) S hW (k_subtract l g hg σ hi hi (rowk (by decide))) gX1_bringBelow_X0_subtract (nA := 4) ⟨rfl, by decide +kernel, ⟨by decide, by decide⟩⟩ rfl hl.1 rfl (Nat.le_of_ble_eq_true rfl) dX1_bringBelow_31 ⟨Nat.zero_le _, Nat.zero_le _⟩) hW Ad_hi (fun r_31 σ2 H locs hp hW => ?_)
      obtain ⟨F2, c2, e2, hf2, hc2, er2, hv2⟩ : ∃ F', ∃ c, σ2 = σ.setF F' ∧ Fr σ.F F' [i] ∧ c ≤ 1 ∧ r_31 = nI c ∧ qV g F' i + qV g σ.F 12 = qV g σ.F i + c * 2 ^ (32 * g.k) := hp
      rw [e2] at hW
      refine q_ti (y := nI c2) er2 ?_
      refine lv_pop hx hb dX1_bringBelow_34 rfl ?_
      exact fin _ _ _ _ _ hW (⟨F2, rfl, hf2, bring_num qV_lt ht hv (Or.inr (Nat.not_lt.mp h1)) hv2 hc2 qV_lt⟩) dX1_bringBelow_35
set_option maxHeartbeats 4000000 in
set_option maxRecDepth 100000 in
/-- Ring.addBelow(into, a, b) -/
theorem r_addBelow (l : Launch) (g : qCfg) (hg : g.ok) (σ : qSt) {i j r : Nat} (hi : 12 ≤ i ∧ i < g.N)(hj : 12 ≤ j ∧ j < g.N)(hrr : 12 ≤ r ∧ r < g.N) (hne : i ≠ 12) (hvj : qV g σ.F j < qV g σ.F 12) (hvr : qV g σ.F r < qV g σ.F 12) : qCV l g yX1_addBelow wsX1_addBelow 2 49 [.ref (g.P 1), .ref (g.P i), .ref (g.P j), .ref (g.P r)] σ (fun σ' => ∃ F', σ' = σ.setF F' ∧ Fr σ.F F' [i] ∧ qV g F' i = (qV g σ.F j + qV g σ.F r) % qV g σ.F 12) := by
  refine q_sV (cc := cX1_addBelow) (maxL := 6) (by decide) rfl (Nat.le_of_ble_eq_true rfl) ?_
  intro p e s m args below meth c ls Q S hW hl fin
  obtain ⟨hx, hb, hml, hown, hts, hr, hlocks⟩ := id S
  obtain ⟨hk1, hk8, hn1, hn8⟩ := id hg
  have hl : lv_has ls 6 [(0, .ref (g.P 1)), (1, .ref (g.P i)), (2, .ref (g.P j)), (3, .ref (g.P r))] := hl
  refine lv_aload_n hx hb dX1_addBelow_0 rfl (lv_at hl 1 rfl) ?_
  refine lv_aload_n hx hb dX1_addBelow_1 rfl (lv_at hl 2 rfl) ?_
  refine lv_aload_n hx hb dX1_addBelow_2 rfl (lv_at hl 3 rfl) ?_
  refine lv_aload_n hx hb dX1_addBelow_3 rfl (lv_at hl 0 rfl) ?_
  refine q_get (C := RX1) (T := TX1) (v := .int (nI g.k)) hx hb hts hown (fun _ h9 => iw_X1_addBelow_X1 _ h9) hW (i := 1) (by decide) rfl rfl 1 (by decide) (hts (.fieldLink RX1 9 "ModEngine$Ring" "k" "I") (by decide +kernel)) rfl dX1_addBelow_4 ?_
  refine q_l (q_runS (As := [.ref (g.P i), .ref (g.P j), .ref (g.P r), .int (nI g.k)]) (rest := []) S hW (k_add l g hg σ hi hj hrr) gX1_addBelow_X0_add (nA := 4) ⟨rfl, by decide +kernel, ⟨by decide, by decide⟩⟩ rfl hl.1 rfl (Nat.le_of_ble_eq_true rfl) dX1_addBelow_7 ⟨Nat.zero_le _, Nat.zero_le _⟩) hW Ad_hi (fun r_7 σ1 H locs hp hW => ?_)
  obtain ⟨F1, c1, e1, hf1, hc1, er1, hv1⟩ : ∃ F', ∃ c, σ1 = σ.setF F' ∧ Fr σ.F F' [i] ∧ c ≤ 1 ∧ r_7 = lN c ∧ qV g F' i + c * 2 ^ (32 * g.k) = qV g σ.F j + qV g σ.F r := hp
  rw [e1] at hW
  refine q_tl (y := lN c1) er1 ?_
  refine lv_lstore (lv' := [(4, .long (lN c1)), (0, .ref (g.P 1)), (1, .ref (g.P i)), (2, .ref (g.P j)), (3, .ref (g.P r))]) hx hb dX1_addBelow_10 hl (by decide) rfl (fun ls hl => ?_)
  refine lv_aload_n hx hb dX1_addBelow_12 rfl (lv_at hl 1 rfl) ?_
  refine lv_aload_n hx hb dX1_addBelow_13 rfl (lv_at hl 2 rfl) ?_
  refine lv_lload hx hb dX1_addBelow_14 (lv_at hl 0 rfl) ?_
  have hm : qV g F1 12 = qV g σ.F 12 := hf1.V (by simp; exact Ne.symm hne)
  refine q_v (q_runV (As := [.ref (g.P i), .long (lN c1)]) (rest := []) (i := 1) S hW (by decide) rfl rfl (r_bringBelow l g hg (σ.setF F1) hi hne hc1 (by show qV g F1 i + _ < 2 * qV g F1 12; rw [hm]; omega)) gX1_addBelow_X1_bringBelow rfl (nA := 2) ⟨rfl, by decide +kernel, ⟨by decide, by decide⟩⟩ rfl hl.1 rfl (Nat.le_of_ble_eq_true rfl) dX1_addBelow_16 ⟨Nat.zero_le _, Nat.zero_le _⟩) hW Ad_hi (fun σ2 H locs hp hW => ?_)
  obtain ⟨F2, e2, hf2, hv2⟩ : ∃ F', σ2 = σ.setF F' ∧ Fr F1 F' [i] ∧ qV g F' i = (qV g F1 i + c1 * 2 ^ (32 * g.k)) % qV g F1 12 := hp
  rw [e2] at hW
  exact fin _ _ _ _ _ hW (⟨F2, rfl, fun r hr => by rw [hf2 r hr, hf1 r hr], by rw [hv2, hm, hv1]⟩) dX1_addBelow_19
set_option maxHeartbeats 4000000 in
set_option maxRecDepth 100000 in
/-- Ring.subtractBelow(into, a, b) -/
theorem r_subtractBelow (l : Launch) (g : qCfg) (hg : g.ok) (σ : qSt) {i j r : Nat} (hi : 12 ≤ i ∧ i < g.N)(hj : 12 ≤ j ∧ j < g.N)(hrr : 12 ≤ r ∧ r < g.N) (hne : i ≠ 12) (hle : qV g σ.F r ≤ qV g σ.F j + qV g σ.F 12) : qCV l g yX1_subtractBelow wsX1_subtractBelow 1 26 [.ref (g.P 1), .ref (g.P i), .ref (g.P j), .ref (g.P r)] σ (fun σ' => ∃ F', σ' = σ.setF F' ∧ Fr σ.F F' [i] ∧ qV g F' i = if qV g σ.F r ≤ qV g σ.F j then qV g σ.F j - qV g σ.F r else qV g σ.F j + qV g σ.F 12 - qV g σ.F r) := by
  refine q_sV (cc := cX1_subtractBelow) (maxL := 4) (by decide) rfl (Nat.le_of_ble_eq_true rfl) ?_
  intro p e s m args below meth c ls Q S hW hl fin
  obtain ⟨hx, hb, hml, hown, hts, hr, hlocks⟩ := id S
  obtain ⟨hk1, hk8, hn1, hn8⟩ := id hg
  have hl : lv_has ls 4 [(0, .ref (g.P 1)), (1, .ref (g.P i)), (2, .ref (g.P j)), (3, .ref (g.P r))] := hl
  refine lv_aload_n hx hb dX1_subtractBelow_0 rfl (lv_at hl 1 rfl) ?_
  refine lv_aload_n hx hb dX1_subtractBelow_1 rfl (lv_at hl 2 rfl) ?_
  refine lv_aload_n hx hb dX1_subtractBelow_2 rfl (lv_at hl 3 rfl) ?_
  refine lv_aload_n hx hb dX1_subtractBelow_3 rfl (lv_at hl 0 rfl) ?_
  refine q_get (C := RX1) (T := TX1) (v := .int (nI g.k)) hx hb hts hown (fun _ h9 => iw_X1_subtractBelow_X1 _ h9) hW (i := 1) (by decide) rfl rfl 1 (by decide) (hts (.fieldLink RX1 9 "ModEngine$Ring" "k" "I") (by decide +kernel)) rfl dX1_subtractBelow_4 ?_
  refine q_i (q_runS (As := [.ref (g.P i), .ref (g.P j), .ref (g.P r), .int (nI g.k)]) (rest := []) S hW (k_subtract l g hg σ hi hj hrr) gX1_subtractBelow_X0_subtract (nA := 4) ⟨rfl, by decide +kernel, ⟨by decide, by decide⟩⟩ rfl hl.1 rfl (Nat.le_of_ble_eq_true rfl) dX1_subtractBelow_7 ⟨Nat.zero_le _, Nat.zero_le _⟩) hW Ad_hi (fun r_7 σ1 H locs hp hW => ?_)
  obtain ⟨F1, c1, e1, hf1, hc1, er1, hv1⟩ : ∃ F', ∃ c, σ1 = σ.setF F' ∧ Fr σ.F F' [i] ∧ c ≤ 1 ∧ r_7 = nI c ∧ qV g F' i + qV g σ.F r = qV g σ.F j + c * 2 ^ (32 * g.k) := hp
  rw [e1] at hW
  refine q_ti (y := nI c1) er1 ?_
  have hm : qV g F1 12 = qV g σ.F 12 := hf1.V (by simp; exact Ne.symm hne)
  refine lv_if_eq (tgt := 27) hx hb dX1_subtractBelow_10 (by decide) (fun c9 => ?_) (fun c9 => ?_)
  · have h0 : c1 = 0 := (nI_eq (by omega) (by decide)).mp (c9.trans nI_0.symm)
    exact fin _ _ _ _ _ hW (⟨F1, rfl, hf1, subb_num (c2 := 0) qV_lt qV_lt hv1 hc1 qV_lt hle qV_lt (Or.inl ⟨h0, rfl⟩)⟩) dX1_subtractBelow_27
  · have h0 : c1 = 1 := by
      rcases (show c1 = 0 ∨ c1 = 1 by omega) with q | q
      · exact absurd (by rw [q]; rfl) c9
      · exact q
    refine lv_aload_n hx hb dX1_subtractBelow_13 rfl (lv_at hl 1 rfl) ?_
    refine lv_aload_n hx hb dX1_subtractBelow_14 rfl (lv_at hl 1 rfl) ?_
    refine lv_aload_n hx hb dX1_subtractBelow_15 rfl (lv_at hl 0 rfl) ?_
    refine q_get (C := RX1) (T := TX1) (v := .ref (g.P 12)) hx hb hts hown (fun _ h9 => iw_X1_subtractBelow_X1 _ h9) hW (i := 1) (by decide) rfl rfl 0 (by decide) (hts (.fieldLink RX1 18 "ModEngine$Ring" "modulus" "[I") (by decide +kernel)) rfl dX1_subtractBelow_16 ?_
    refine lv_aload_n hx hb dX1_subtractBelow_19 rfl (lv_at hl 0 rfl) ?_
    refine q_get (C := RX1) (T := TX1) (v := .int (nI g.k)) hx hb hts hown (fun _ h9 => iw_X1_subtractBelow_X1 _ h9) hW (i := 1) (by decide) rfl rfl 1 (by decide) (hts (.fieldLink RX1 9 "ModEngine$Ring" "k" "I") (by decide +kernel)) rfl dX1_subtractBelow_20 ?_
    refine q_l (q_runS (As := [.ref (g.P i), .ref (g.P i), .ref (g.P 12), .int (nI g.k)]) (rest := []) S hW (k_add l g hg (σ.setF F1) hi hi (rowk (by decide))) gX1_subtractBelow_X0_add (nA := 4) ⟨rfl, by decide +kernel, ⟨by decide, by decide⟩⟩ rfl hl.1 rfl (Nat.le_of_ble_eq_true rfl) dX1_subtractBelow_23 ⟨Nat.zero_le _, Nat.zero_le _⟩) hW Ad_hi (fun r_23 σ2 H locs hp hW => ?_)
    obtain ⟨F2, c2, e2, hf2, hc2, er2, hv2⟩ : ∃ F', ∃ c, σ2 = σ.setF F' ∧ Fr F1 F' [i] ∧ c ≤ 1 ∧ r_23 = lN c ∧ qV g F' i + c * 2 ^ (32 * g.k) = qV g F1 i + qV g F1 12 := hp
    rw [e2] at hW
    refine q_tl (y := lN c2) er2 ?_
    refine lv_pop2_2 hx hb dX1_subtractBelow_26 rfl ?_
    exact fin _ _ _ _ _ hW (⟨F2, rfl, fun r hr => by rw [hf2 r hr, hf1 r hr], subb_num (c2 := c2) qV_lt qV_lt hv1 hc1 qV_lt hle qV_lt (Or.inr ⟨h0, by rw [← hm]; exact hv2, hc2, qV_lt⟩)⟩) dX1_subtractBelow_27
set_option maxHeartbeats 4000000 in
set_option maxRecDepth 100000 in
/-- Ring.halveBelow(row) -/
theorem r_halveBelow (l : Launch) (g : qCfg) (hg : g.ok) (σ : qSt) {i : Nat} (hi : 12 ≤ i ∧ i < g.N)(hne : i ≠ 12) : qCV l g yX1_halveBelow wsX1_halveBelow 1 28 [.ref (g.P 1), .ref (g.P i)] σ (fun σ' => ∃ F', σ' = σ.setF F' ∧ Fr σ.F F' [i] ∧ qV g F' i = if qV g σ.F i % 2 = 1 then (qV g σ.F i + qV g σ.F 12) / 2 else qV g σ.F i / 2) := by
  refine q_sV (cc := cX1_halveBelow) (maxL := 4) (by decide) rfl (Nat.le_of_ble_eq_true rfl) ?_
  intro p e s m args below meth c ls Q S hW hl fin
  obtain ⟨hx, hb, hml, hown, hts, hr, hlocks⟩ := id S
  obtain ⟨hk1, hk8, hn1, hn8⟩ := id hg
  have hl : lv_has ls 4 [(0, .ref (g.P 1)), (1, .ref (g.P i))] := hl
  refine lv_aload_n hx hb dX1_halveBelow_0 rfl (lv_at hl 1 rfl) ?_
  refine q_i (q_runS (As := [.ref (g.P i)]) (rest := []) S hW (k_isOdd l g hg σ hi) gX1_halveBelow_X0_isOdd (nA := 1) ⟨rfl, by decide +kernel, ⟨by decide, by decide⟩⟩ rfl hl.1 rfl (Nat.le_of_ble_eq_true rfl) dX1_halveBelow_1 ⟨Nat.zero_le _, Nat.zero_le _⟩) hW Ad_hi (fun r_1 σ1 H locs hp hW => ?_)
  obtain ⟨e1, er1⟩ : σ1 = σ ∧ r_1 = if qV g σ.F i % 2 = 1 then 1 else 0 := hp
  rw [e1] at hW
  refine lv_if_eq (tgt := 23) hx hb dX1_halveBelow_4 (by decide) (fun c9 => ?_) (fun c9 => ?_)
  · have h0 := (fa_boolp er1).1.mp c9
    refine lv_lconst (v := 0) hx hb dX1_halveBelow_23 (by decide) ?_
    refine q_tl (y := lN 0) rfl ?_
    refine lv_lstore_n (lv' := [(2, .long (lN 0)), (0, .ref (g.P 1)), (1, .ref (g.P i))]) hx hb dX1_halveBelow_24 rfl hl (by decide) rfl (fun ls hl => ?_)
    refine lv_aload_n hx hb dX1_halveBelow_25 rfl (lv_at hl 2 rfl) ?_
    refine lv_lload_n hx hb dX1_halveBelow_26 rfl (lv_at hl 0 rfl) ?_
    refine lv_aload_n hx hb dX1_halveBelow_27 rfl (lv_at hl 1 rfl) ?_
    refine q_get (C := RX1) (T := TX1) (v := .int (nI g.k)) hx hb hts hown (fun _ h9 => iw_X1_halveBelow_X1 _ h9) hW (i := 1) (by decide) rfl rfl 1 (by decide) (hts (.fieldLink RX1 9 "ModEngine$Ring" "k" "I") (by decide +kernel)) rfl dX1_halveBelow_28 ?_
    refine q_v (q_runS (As := [.ref (g.P i), .long (lN 0), .int (nI g.k)]) (rest := []) S hW (k_halve l g hg σ hi (t := 0) (by omega)) gX1_halveBelow_X0_halve (nA := 3) ⟨rfl, by decide +kernel, ⟨by decide, by decide⟩⟩ rfl hl.1 rfl (Nat.le_of_ble_eq_true rfl) dX1_halveBelow_31 ⟨Nat.zero_le _, Nat.zero_le _⟩) hW Ad_hi (fun σ2 H locs hp hW => ?_)
    obtain ⟨F2, e2, hf2, hv2⟩ : ∃ F', σ2 = σ.setF F' ∧ Fr σ.F F' [i] ∧ qV g F' i = (qV g σ.F i + 0 * 2 ^ (32 * g.k)) / 2 := hp
    rw [e2] at hW
    exact fin _ _ _ _ _ hW (⟨F2, rfl, hf2, by rw [hv2, if_neg h0, Nat.zero_mul, Nat.add_zero]⟩) dX1_halveBelow_34
  · have h0 := (fa_boolp er1).2.mp c9
    refine lv_aload_n hx hb dX1_halveBelow_7 rfl (lv_at hl 1 rfl) ?_
    refine lv_aload_n hx hb dX1_halveBelow_8 rfl (lv_at hl 1 rfl) ?_
    refine lv_aload_n hx hb dX1_halveBelow_9 rfl (lv_at hl 0 rfl) ?_
    refine q_get (C := RX1) (T := TX1) (v := .ref (g.P 12)) hx hb hts hown (fun _ h9 => iw_X1_halveBelow_X1 _ h9) hW (i := 1) (by decide) rfl rfl 0 (by decide) (hts (.fieldLink RX1 18 "ModEngine$Ring" "modulus" "[I") (by decide +kernel)) rfl dX1_halveBelow_10 ?_
    refine lv_aload_n hx hb dX1_halveBelow_13 rfl (lv_at hl 0 rfl) ?_
    refine q_get (C := RX1) (T := TX1) (v := .int (nI g.k)) hx hb hts hown (fun _ h9 => iw_X1_halveBelow_X1 _ h9) hW (i := 1) (by decide) rfl rfl 1 (by decide) (hts (.fieldLink RX1 9 "ModEngine$Ring" "k" "I") (by decide +kernel)) rfl dX1_halveBelow_14 ?_
    refine q_l (q_runS (As := [.ref (g.P i), .ref (g.P i), .ref (g.P 12), .int (nI g.k)]) (rest := []) S hW (k_add l g hg σ hi hi (rowk (by decide))) gX1_halveBelow_X0_add (nA := 4) ⟨rfl, by decide +kernel, ⟨by decide, by decide⟩⟩ rfl hl.1 rfl (Nat.le_of_ble_eq_true rfl) dX1_halveBelow_17 ⟨Nat.zero_le _, Nat.zero_le _⟩) hW Ad_hi (fun r_17 σ2 H locs hp hW => ?_)
    obtain ⟨F2, c2, e2, hf2, hc2, er2, hv2⟩ : ∃ F', ∃ c, σ2 = σ.setF F' ∧ Fr σ.F F' [i] ∧ c ≤ 1 ∧ r_17 = lN c ∧ qV g F' i + c * 2 ^ (32 * g.k) = qV g σ.F i + qV g σ.F 12 := hp
    rw [e2] at hW
    refine q_tl (y := lN c2) er2 ?_
    refine lv_goto (tgt := 24) hx hb dX1_halveBelow_20 (by decide) ?_
    refine lv_lstore_n (lv' := [(2, .long (lN c2)), (0, .ref (g.P 1)), (1, .ref (g.P i))]) hx hb dX1_halveBelow_24 rfl hl (by decide) rfl (fun ls hl => ?_)
    refine lv_aload_n hx hb dX1_halveBelow_25 rfl (lv_at hl 2 rfl) ?_
    refine lv_lload_n hx hb dX1_halveBelow_26 rfl (lv_at hl 0 rfl) ?_
    refine lv_aload_n hx hb dX1_halveBelow_27 rfl (lv_at hl 1 rfl) ?_
    refine q_get (C := RX1) (T := TX1) (v := .int (nI g.k)) hx hb hts hown (fun _ h9 => iw_X1_halveBelow_X1 _ h9) hW (i := 1) (by decide) rfl rfl 1 (by decide) (hts (.fieldLink RX1 9 "ModEngine$Ring" "k" "I") (by decide +kernel)) rfl dX1_halveBelow_28 ?_
    refine q_v (q_runS (As := [.ref (g.P i), .long (lN c2), .int (nI g.k)]) (rest := []) S hW (k_halve l g hg (σ.setF F2) hi (t := c2) hc2) gX1_halveBelow_X0_halve (nA := 3) ⟨rfl, by decide +kernel, ⟨by decide, by decide⟩⟩ rfl hl.1 rfl (Nat.le_of_ble_eq_true rfl) dX1_halveBelow_31 ⟨Nat.zero_le _, Nat.zero_le _⟩) hW Ad_hi (fun σ3 H locs hp hW => ?_)
    obtain ⟨F3, e3, hf3, hv3⟩ : ∃ F', σ3 = σ.setF F' ∧ Fr F2 F' [i] ∧ qV g F' i = (qV g F2 i + c2 * 2 ^ (32 * g.k)) / 2 := hp
    rw [e3] at hW
    exact fin _ _ _ _ _ hW (⟨F3, rfl, fun r hr => by rw [hf3 r hr, hf2 r hr], by rw [hv3, hv2, if_pos h0]⟩) dX1_halveBelow_34
set_option maxHeartbeats 4000000 in
set_option maxRecDepth 100000 in
/-- Ring.doubleOften(row): 2 to 32 k times the row, modulo the modulus -/
theorem r_doubleOften (l : Launch) (g : qCfg) (hg : g.ok) (σ : qSt) {i : Nat} (hi : 12 ≤ i ∧ i < g.N)(hne : i ≠ 12) (hvi : qV g σ.F i < qV g σ.F 12) : qCV l g yX1_doubleOften wsX1_doubleOften 3 74 [.ref (g.P 1), .ref (g.P i)] σ (fun σ' => ∃ F', σ' = σ.setF F' ∧ Fr σ.F F' [i] ∧ qV g F' i = qV g σ.F i * 2 ^ (32 * g.k) % qV g σ.F 12) := by
  refine q_sV (cc := cX1_doubleOften) (maxL := 3) (by decide) rfl (Nat.le_of_ble_eq_true rfl) ?_
  intro p e s m args below meth c ls Q S hW hl fin
  obtain ⟨hx, hb, hml, hown, hts, hr, hlocks⟩ := id S
  obtain ⟨hk1, hk8, hn1, hn8⟩ := id hg
  have hl : lv_has ls 3 [(0, .ref (g.P 1)), (1, .ref (g.P i))] := hl
  have loop : ∀ (n x : Nat) (F : Nat → Nat → Int32), x ≤ 32 * g.k → 32 * g.k + 1 ≤ x + n → Fr σ.F F [i] → qV g F i = qV g σ.F i * 2 ^ x % qV g σ.F 12 → ∀ (H : Heap) (locs : List Loc) (ls : Array Slot), Wo g (Ad g s.heap.size) s H locs (σ.setF F) → lv_has ls 3 [(2, .int (nI x)), (0, .ref (g.P 1)), (1, .ref (g.P i))] → W p l e (rmm 3 74) s m args below meth c H locs 0 0 Q (F0 m 2 ls []) := by
    intro n
    induction n with
    | zero => intro x F h1 h2; exact absurd h2 (by omega)
    | succ n ih =>
      intro x F hx1 hx2 hf hv H locs ls hW hl
      refine lv_iload_n hx hb dX1_doubleOften_2 rfl (lv_at hl 0 rfl) ?_
      refine lv_aload_n hx hb dX1_doubleOften_3 rfl (lv_at hl 1 rfl) ?_
      refine q_get (C := RX1) (T := TX1) (v := .int (nI (32 * g.k))) hx hb hts hown (fun _ h9 => iw_X1_doubleOften_X1 _ h9) hW (i := 1) (by decide) rfl rfl 2 (by decide) (hts (.fieldLink RX1 15 "ModEngine$Ring" "bits" "I") (by decide +kernel)) rfl dX1_doubleOften_4 ?_
      refine lv_icmp_ge (tgt := 23) hx hb dX1_doubleOften_7 (by decide) (fun c9 => ?_) (fun c9 => ?_)
      · have hx3 := nle c9 (by omega) (by omega)
        have hx4 : x = 32 * g.k := by omega
        rw [hx4] at hv
        exact fin _ _ _ _ _ hW (⟨F, rfl, hf, hv⟩) dX1_doubleOften_23
      · have hx3 := nge c9 (by omega)
        refine lv_aload_n hx hb dX1_doubleOften_10 rfl (lv_at hl 1 rfl) ?_
        refine lv_aload_n hx hb dX1_doubleOften_11 rfl (lv_at hl 2 rfl) ?_
        refine lv_aload_n hx hb dX1_doubleOften_12 rfl (lv_at hl 2 rfl) ?_
        refine lv_aload_n hx hb dX1_doubleOften_13 rfl (lv_at hl 2 rfl) ?_
        have hm : qV g F 12 = qV g σ.F 12 := hf.V (by simp; exact Ne.symm hne)
        have hlt : qV g F i < qV g F 12 := by rw [hv, hm]; exact Nat.mod_lt _ (by omega)
        refine q_v (q_runV (As := [.ref (g.P i), .ref (g.P i), .ref (g.P i)]) (rest := []) (i := 1) S hW (by decide) rfl rfl (r_addBelow l g hg (σ.setF F) hi hi hi hne hlt hlt) gX1_doubleOften_X1_addBelow rfl (nA := 3) ⟨rfl, by decide +kernel, ⟨by decide, by decide⟩⟩ rfl hl.1 rfl (Nat.le_of_ble_eq_true rfl) dX1_doubleOften_14 ⟨Nat.zero_le _, Nat.zero_le _⟩) hW Ad_hi (fun σ1 H locs hp hW => ?_)
        obtain ⟨F1, e1, hf1, hv1⟩ : ∃ F', σ1 = σ.setF F' ∧ Fr F F' [i] ∧ qV g F' i = (qV g F i + qV g F i) % qV g F 12 := hp
        rw [e1] at hW
        refine lv_iinc (v := nI (x + 1)) (lv' := [(2, .int (nI (x + 1))), (0, .ref (g.P 1)), (1, .ref (g.P i))]) hx hb dX1_doubleOften_17 hl (k := 0) rfl (nI_1 _) (by decide) rfl (fun ls hl => ?_)
        refine lv_goto (tgt := 2) hx hb dX1_doubleOften_20 (by decide) ?_
        exact ih (x + 1) F1 (by omega) (by omega) (fun r hr => by rw [hf1 r hr, hf r hr]) (by rw [hv1, hm, hv]; exact dbl_num) H locs ls hW (lv_sub hl [0, 1, 2] rfl)
  refine lv_iconst (v := 0) hx hb dX1_doubleOften_0 (by decide) ?_
  refine lv_istore_n (lv' := [(2, .int 0), (0, .ref (g.P 1)), (1, .ref (g.P i))]) hx hb dX1_doubleOften_1 rfl hl (by decide) rfl (fun ls hl => ?_)
  exact loop (32 * g.k + 1) 0 σ.F (by omega) (by omega) Fr.rf (by rw [Nat.pow_zero, Nat.mul_one, Nat.mod_eq_of_lt hvi]) _ _ ls hW (lv_sub hl [0, 1, 2] rfl)
set_option maxHeartbeats 4000000 in
set_option maxRecDepth 100000 in
/-- Ring.inverseOfLimb(limb) -/
theorem r_inverseOfLimb (l : Launch) (g : qCfg) (hg : g.ok) (σ : qSt) (v : Int32) (ho : uI v % 2 = 1) : qCI l g yX1_inverseOfLimb wsX1_inverseOfLimb 0 0 [.int v] σ (fun r σ' => σ' = σ ∧ uI v * uI r % 4294967296 = 1) := by
  refine q_sI (cc := cX1_inverseOfLimb) (maxL := 3) (by decide) rfl (Nat.le_of_ble_eq_true rfl) ?_
  intro p e s m args below meth c ls Q S hW hl fin
  obtain ⟨hx, hb, hml, hown, hts, hr, hlocks⟩ := id S
  obtain ⟨hk1, hk8, hn1, hn8⟩ := id hg
  have hl : lv_has ls 3 [(0, .int v)] := hl
  refine lv_iload_n hx hb dX1_inverseOfLimb_0 rfl (lv_at hl 0 rfl) ?_
  refine lv_istore_n (lv' := [(1, .int v), (0, .int v)]) hx hb dX1_inverseOfLimb_1 rfl hl (by decide) rfl (fun ls hl => ?_)
  refine lv_iconst (v := 0) hx hb dX1_inverseOfLimb_2 (by decide) ?_
  refine lv_istore_n (lv' := [(2, .int 0), (1, .int v), (0, .int v)]) hx hb dX1_inverseOfLimb_3 rfl hl (by decide) rfl (fun ls hl => ?_)
  refine lv_iload_n hx hb dX1_inverseOfLimb_4 rfl (lv_at hl 0 rfl) ?_
  refine lv_iconst (v := 4) hx hb dX1_inverseOfLimb_5 (by decide) ?_
  refine lv_icmp_ge (tgt := 23) hx hb dX1_inverseOfLimb_6 (by decide) (fun c9 => absurd c9 (by decide)) (fun _ => ?_)
  refine lv_iload_n hx hb dX1_inverseOfLimb_9 rfl (lv_at hl 1 rfl) ?_
  refine lv_iconst (v := 2) hx hb dX1_inverseOfLimb_10 (by decide) ?_
  refine lv_iload_n hx hb dX1_inverseOfLimb_11 rfl (lv_at hl 2 rfl) ?_
  refine lv_iload_n hx hb dX1_inverseOfLimb_12 rfl (lv_at hl 1 rfl) ?_
  refine lv_imul hx hb dX1_inverseOfLimb_13 ?_
  refine lv_isub hx hb dX1_inverseOfLimb_14 ?_
  refine lv_imul hx hb dX1_inverseOfLimb_15 ?_
  refine lv_topi (fun x1 ex1 => ?_)
  refine lv_istore_n (lv' := [(1, .int x1), (2, .int 0), (0, .int v)]) hx hb dX1_inverseOfLimb_16 rfl hl (by decide) rfl (fun ls hl => ?_)
  refine lv_iinc (v := nI (0 + 1)) (lv' := [(2, .int (nI (0 + 1))), (1, .int x1), (0, .int v)]) hx hb dX1_inverseOfLimb_17 hl (k := 1) rfl (nI_1 _) (by decide) rfl (fun ls hl => ?_)
  refine lv_goto (tgt := 4) hx hb dX1_inverseOfLimb_20 (by decide) ?_
  refine lv_iload_n hx hb dX1_inverseOfLimb_4 rfl (lv_at hl 0 rfl) ?_
  refine lv_iconst (v := 4) hx hb dX1_inverseOfLimb_5 (by decide) ?_
  refine lv_icmp_ge (tgt := 23) hx hb dX1_inverseOfLimb_6 (by decide) (fun c9 => absurd c9 (by decide)) (fun _ => ?_)
  refine lv_iload_n hx hb dX1_inverseOfLimb_9 rfl (lv_at hl 1 rfl) ?_
  refine lv_iconst (v := 2) hx hb dX1_inverseOfLimb_10 (by decide) ?_
  refine lv_iload_n hx hb dX1_inverseOfLimb_11 rfl (lv_at hl 2 rfl) ?_
  refine lv_iload_n hx hb dX1_inverseOfLimb_12 rfl (lv_at hl 1 rfl) ?_
  refine lv_imul hx hb dX1_inverseOfLimb_13 ?_
  refine lv_isub hx hb dX1_inverseOfLimb_14 ?_
  refine lv_imul hx hb dX1_inverseOfLimb_15 ?_
  refine lv_topi (fun x2 ex2 => ?_)
  refine lv_istore_n (lv' := [(1, .int x2), (2, .int (nI (0 + 1))), (0, .int v)]) hx hb dX1_inverseOfLimb_16 rfl hl (by decide) rfl (fun ls hl => ?_)
  refine lv_iinc (v := nI (0 + 1 + 1)) (lv' := [(2, .int (nI (0 + 1 + 1))), (1, .int x2), (0, .int v)]) hx hb dX1_inverseOfLimb_17 hl (k := 1) rfl (nI_1 _) (by decide) rfl (fun ls hl => ?_)
  refine lv_goto (tgt := 4) hx hb dX1_inverseOfLimb_20 (by decide) ?_
  refine lv_iload_n hx hb dX1_inverseOfLimb_4 rfl (lv_at hl 0 rfl) ?_
  refine lv_iconst (v := 4) hx hb dX1_inverseOfLimb_5 (by decide) ?_
  refine lv_icmp_ge (tgt := 23) hx hb dX1_inverseOfLimb_6 (by decide) (fun c9 => absurd c9 (by decide)) (fun _ => ?_)
  refine lv_iload_n hx hb dX1_inverseOfLimb_9 rfl (lv_at hl 1 rfl) ?_
  refine lv_iconst (v := 2) hx hb dX1_inverseOfLimb_10 (by decide) ?_
  refine lv_iload_n hx hb dX1_inverseOfLimb_11 rfl (lv_at hl 2 rfl) ?_
  refine lv_iload_n hx hb dX1_inverseOfLimb_12 rfl (lv_at hl 1 rfl) ?_
  refine lv_imul hx hb dX1_inverseOfLimb_13 ?_
  refine lv_isub hx hb dX1_inverseOfLimb_14 ?_
  refine lv_imul hx hb dX1_inverseOfLimb_15 ?_
  refine lv_topi (fun x3 ex3 => ?_)
  refine lv_istore_n (lv' := [(1, .int x3), (2, .int (nI (0 + 1 + 1))), (0, .int v)]) hx hb dX1_inverseOfLimb_16 rfl hl (by decide) rfl (fun ls hl => ?_)
  refine lv_iinc (v := nI (0 + 1 + 1 + 1)) (lv' := [(2, .int (nI (0 + 1 + 1 + 1))), (1, .int x3), (0, .int v)]) hx hb dX1_inverseOfLimb_17 hl (k := 1) rfl (nI_1 _) (by decide) rfl (fun ls hl => ?_)
  refine lv_goto (tgt := 4) hx hb dX1_inverseOfLimb_20 (by decide) ?_
  refine lv_iload_n hx hb dX1_inverseOfLimb_4 rfl (lv_at hl 0 rfl) ?_
  refine lv_iconst (v := 4) hx hb dX1_inverseOfLimb_5 (by decide) ?_
  refine lv_icmp_ge (tgt := 23) hx hb dX1_inverseOfLimb_6 (by decide) (fun c9 => absurd c9 (by decide)) (fun _ => ?_)
  refine lv_iload_n hx hb dX1_inverseOfLimb_9 rfl (lv_at hl 1 rfl) ?_
  refine lv_iconst (v := 2) hx hb dX1_inverseOfLimb_10 (by decide) ?_
  refine lv_iload_n hx hb dX1_inverseOfLimb_11 rfl (lv_at hl 2 rfl) ?_
  refine lv_iload_n hx hb dX1_inverseOfLimb_12 rfl (lv_at hl 1 rfl) ?_
  refine lv_imul hx hb dX1_inverseOfLimb_13 ?_
  refine lv_isub hx hb dX1_inverseOfLimb_14 ?_
  refine lv_imul hx hb dX1_inverseOfLimb_15 ?_
  refine lv_topi (fun x4 ex4 => ?_)
  refine lv_istore_n (lv' := [(1, .int x4), (2, .int (nI (0 + 1 + 1 + 1))), (0, .int v)]) hx hb dX1_inverseOfLimb_16 rfl hl (by decide) rfl (fun ls hl => ?_)
  refine lv_iinc (v := nI (0 + 1 + 1 + 1 + 1)) (lv' := [(2, .int (nI (0 + 1 + 1 + 1 + 1))), (1, .int x4), (0, .int v)]) hx hb dX1_inverseOfLimb_17 hl (k := 1) rfl (nI_1 _) (by decide) rfl (fun ls hl => ?_)
  refine lv_goto (tgt := 4) hx hb dX1_inverseOfLimb_20 (by decide) ?_
  refine lv_iload_n hx hb dX1_inverseOfLimb_4 rfl (lv_at hl 0 rfl) ?_
  refine lv_iconst (v := 4) hx hb dX1_inverseOfLimb_5 (by decide) ?_
  refine lv_icmp_ge (tgt := 23) hx hb dX1_inverseOfLimb_6 (by decide) (fun _ => ?_) (fun c9 => absurd (by decide) c9)
  refine lv_iload_n hx hb dX1_inverseOfLimb_23 rfl (lv_at hl 1 rfl) ?_
  exact fin _ _ _ _ _ _ hW (⟨rfl, inv_num ho ex1 ex2 ex3 ex4⟩) dX1_inverseOfLimb_24
set_option maxHeartbeats 4000000 in
set_option maxRecDepth 100000 in
/-- Ring.hasFitModulus() -/
theorem r_hasFitModulus (l : Launch) (g : qCfg) (hg : g.ok) (σ : qSt)  : qCI l g yX1_hasFitModulus wsX1_hasFitModulus 1 23 [.ref (g.P 1)] σ (fun r σ' => σ' = σ ∧ r = if qV g σ.F 12 % 2 = 1 ∧ qV g σ.F 12 ≠ 1 then 1 else 0) := by
  refine q_sZ (cc := cX1_hasFitModulus) (maxL := 1) (by decide) rfl (Nat.le_of_ble_eq_true rfl) ?_
  intro p e s m args below meth c ls Q S hW hl fin
  obtain ⟨hx, hb, hml, hown, hts, hr, hlocks⟩ := id S
  obtain ⟨hk1, hk8, hn1, hn8⟩ := id hg
  have hl : lv_has ls 1 [(0, .ref (g.P 1))] := hl
  refine lv_aload_n hx hb dX1_hasFitModulus_0 rfl (lv_at hl 0 rfl) ?_
  refine q_get (C := RX1) (T := TX1) (v := .ref (g.P 12)) hx hb hts hown (fun _ h9 => iw_X1_hasFitModulus_X1 _ h9) hW (i := 1) (by decide) rfl rfl 0 (by decide) (hts (.fieldLink RX1 18 "ModEngine$Ring" "modulus" "[I") (by decide +kernel)) rfl dX1_hasFitModulus_1 ?_
  refine q_i (q_runS (As := [.ref (g.P 12)]) (rest := []) S hW (k_isOdd l g hg σ (rowk (by decide))) gX1_hasFitModulus_X0_isOdd (nA := 1) ⟨rfl, by decide +kernel, ⟨by decide, by decide⟩⟩ rfl hl.1 rfl (Nat.le_of_ble_eq_true rfl) dX1_hasFitModulus_4 ⟨Nat.zero_le _, Nat.zero_le _⟩) hW Ad_hi (fun r_4 σ1 H locs hp hW => ?_)
  obtain ⟨e1, er1⟩ : σ1 = σ ∧ r_4 = if qV g σ.F 12 % 2 = 1 then 1 else 0 := hp
  rw [e1] at hW
  refine lv_if_eq (tgt := 29) hx hb dX1_hasFitModulus_7 (by decide) (fun c9 => ?_) (fun c9 => ?_)
  · have h0 := (fa_boolp er1).1.mp c9
    refine lv_iconst (v := 0) hx hb dX1_hasFitModulus_29 (by decide) ?_
    exact fin _ _ _ _ _ _ (by decide) hW (⟨rfl, (if_neg (fun q => h0 q.1)).symm⟩) dX1_hasFitModulus_30
  · have h0 := (fa_boolp er1).2.mp c9
    refine lv_aload_n hx hb dX1_hasFitModulus_10 rfl (lv_at hl 0 rfl) ?_
    refine q_get (C := RX1) (T := TX1) (v := .ref (g.P 12)) hx hb hts hown (fun _ h9 => iw_X1_hasFitModulus_X1 _ h9) hW (i := 1) (by decide) rfl rfl 0 (by decide) (hts (.fieldLink RX1 18 "ModEngine$Ring" "modulus" "[I") (by decide +kernel)) rfl dX1_hasFitModulus_11 ?_
    refine lv_iconst (v := 1) hx hb dX1_hasFitModulus_14 (by decide) ?_
    refine lv_aload_n hx hb dX1_hasFitModulus_15 rfl (lv_at hl 0 rfl) ?_
    refine q_get (C := RX1) (T := TX1) (v := .int (nI g.k)) hx hb hts hown (fun _ h9 => iw_X1_hasFitModulus_X1 _ h9) hW (i := 1) (by decide) rfl rfl 1 (by decide) (hts (.fieldLink RX1 9 "ModEngine$Ring" "k" "I") (by decide +kernel)) rfl dX1_hasFitModulus_16 ?_
    refine q_i (q_runS (As := [.ref (g.P 12), .int 1, .int (nI g.k)]) (rest := []) S hW (k_isSmall l g hg σ (rowk (by decide)) 1) gX1_hasFitModulus_X0_isSmall (nA := 3) ⟨rfl, by decide +kernel, ⟨by decide, by decide⟩⟩ rfl hl.1 rfl (Nat.le_of_ble_eq_true rfl) dX1_hasFitModulus_19 ⟨Nat.zero_le _, Nat.zero_le _⟩) hW Ad_hi (fun r_19 σ2 H locs hp hW => ?_)
    obtain ⟨e2, er2⟩ : σ2 = σ ∧ r_19 = if qV g σ.F 12 = uI 1 then 1 else 0 := hp
    rw [e2] at hW
    refine lv_if_ne (tgt := 29) hx hb dX1_hasFitModulus_22 (by decide) (fun c8 => ?_) (fun c8 => ?_)
    · have h1 := (fa_boolp er2).2.mp c8
      refine lv_iconst (v := 0) hx hb dX1_hasFitModulus_29 (by decide) ?_
      exact fin _ _ _ _ _ _ (by decide) hW (⟨rfl, (if_neg (fun q => q.2 h1)).symm⟩) dX1_hasFitModulus_30
    · have h1 := (fa_boolp er2).1.mp c8
      refine lv_iconst (v := 1) hx hb dX1_hasFitModulus_25 (by decide) ?_
      refine lv_goto (tgt := 30) hx hb dX1_hasFitModulus_26 (by decide) ?_
      exact fin _ _ _ _ _ _ (by decide) hW (⟨rfl, (if_pos ⟨h0, h1⟩).symm⟩) dX1_hasFitModulus_30
set_option maxHeartbeats 4000000 in
set_option maxRecDepth 100000 in
/-- Ring.montgomery(into, a, b): into times R is a b modulo the modulus, and below it -/
theorem r_montgomery (l : Launch) (g : qCfg) (hg : g.ok) (σ : qSt) {i j r : Nat} (hi : 12 ≤ i ∧ i < g.N)(hj : 12 ≤ j ∧ j < g.N)(hrr : 12 ≤ r ∧ r < g.N) (hi12 : i ≠ 12) (hi16 : i ≠ 16) (hj16 : j ≠ 16) (hr16 : r ≠ 16) (h0 : 0 < qV g σ.F 12) (hmi : (uI σ.mi * qV g σ.F 12 + 1) % 4294967296 = 0) (hlt : qV g σ.F j * qV g σ.F r < 2 ^ (32 * g.k) * qV g σ.F 12) : qCV l g yX1_montgomery wsX1_montgomery 2 49 [.ref (g.P 1), .ref (g.P i), .ref (g.P j), .ref (g.P r)] σ (fun σ' => ∃ F', σ' = σ.setF F' ∧ Fr σ.F F' [16, i] ∧ qV g F' i < qV g σ.F 12 ∧ qV g F' i * 2 ^ (32 * g.k) % qV g σ.F 12 = qV g σ.F j * qV g σ.F r % qV g σ.F 12) := by
  refine q_sV (cc := cX1_montgomery) (maxL := 7) (by decide) rfl (Nat.le_of_ble_eq_true rfl) ?_
  intro p e s m args below meth c ls Q S hW hl fin
  obtain ⟨hx, hb, hml, hown, hts, hr, hlocks⟩ := id S
  obtain ⟨hk1, hk8, hn1, hn8⟩ := id hg
  have hl : lv_has ls 7 [(0, .ref (g.P 1)), (1, .ref (g.P i)), (2, .ref (g.P j)), (3, .ref (g.P r))] := hl
  have loop : ∀ (n x t q : Nat) (F : Nat → Nat → Int32), x ≤ g.k → g.k + 1 ≤ x + n → Fr σ.F F [16] → q < 2 ^ (32 * x) → (qV g F 16 + t * 2 ^ (32 * g.k)) * 2 ^ (32 * x) = rv (σ.F j) x * qV g σ.F r + q * qV g σ.F 12 → ∀ (H : Heap) (locs : List Loc) (ls : Array Slot), Wo g (Ad g s.heap.size) s H locs (σ.setF F) → lv_has ls 7 [(6, .int (nI x)), (4, .long (lN t)), (0, .ref (g.P 1)), (1, .ref (g.P i)), (2, .ref (g.P j)), (3, .ref (g.P r))] → W p l e (rmm 2 49) s m args below meth c H locs 0 0 Q (F0 m 18 ls []) := by
    intro n
    induction n with
    | zero => intro x t q F h1 h2; exact absurd h2 (by omega)
    | succ n ih =>
      intro x t q F hx1 hx2 hf hq hT H locs ls hW hl
      have hA : rv (σ.F j) x < 2 ^ (32 * x) := rv_lt
      have hTb := mont_bound hT hA hq (qV_lt (i := r)) (qV_lt (i := 12)) h0
      have ht1 : t ≤ 1 := by
        rcases Nat.lt_or_ge t 2 with z | z
        · omega
        · have : 2 * 2 ^ (32 * g.k) ≤ t * 2 ^ (32 * g.k) := Nat.mul_le_mul_right _ z
          omega
      refine lv_iload hx hb dX1_montgomery_18 (lv_at hl 0 rfl) ?_
      refine lv_aload_n hx hb dX1_montgomery_20 rfl (lv_at hl 2 rfl) ?_
      refine q_get (C := RX1) (T := TX1) (v := .int (nI g.k)) hx hb hts hown (fun _ h9 => iw_X1_montgomery_X1 _ h9) hW (i := 1) (by decide) rfl rfl 1 (by decide) (hts (.fieldLink RX1 9 "ModEngine$Ring" "k" "I") (by decide +kernel)) rfl dX1_montgomery_21 ?_
      refine lv_icmp_ge (tgt := 100) hx hb dX1_montgomery_24 (by decide) (fun c9 => ?_) (fun c9 => ?_)
      · have hx3 := nle c9 (by omega) (by omega)
        have hx4 : x = g.k := by omega
        rw [hx4] at hT hq
        have hT2 : (qV g F 16 + t * 2 ^ (32 * g.k)) * 2 ^ (32 * g.k) = qV g σ.F j * qV g σ.F r + q * qV g σ.F 12 := hT
        refine lv_aload_n hx hb dX1_montgomery_100 rfl (lv_at hl 3 rfl) ?_
        refine lv_aload_n hx hb dX1_montgomery_101 rfl (lv_at hl 2 rfl) ?_
        refine q_get (C := RX1) (T := TX1) (v := .ref (g.P 16)) hx hb hts hown (fun _ h9 => iw_X1_montgomery_X1 _ h9) hW (i := 1) (by decide) rfl rfl 6 (by decide) (hts (.fieldLink RX1 31 "ModEngine$Ring" "running" "[I") (by decide +kernel)) rfl dX1_montgomery_102 ?_
        refine lv_aload_n hx hb dX1_montgomery_105 rfl (lv_at hl 2 rfl) ?_
        refine q_get (C := RX1) (T := TX1) (v := .int (nI g.k)) hx hb hts hown (fun _ h9 => iw_X1_montgomery_X1 _ h9) hW (i := 1) (by decide) rfl rfl 1 (by decide) (hts (.fieldLink RX1 9 "ModEngine$Ring" "k" "I") (by decide +kernel)) rfl dX1_montgomery_106 ?_
        refine q_v (q_runS (As := [.ref (g.P i), .ref (g.P 16), .int (nI g.k)]) (rest := []) S hW (k_copy l g hg (σ.setF F) hi (rowk (by decide))) gX1_montgomery_X0_copy (nA := 3) ⟨rfl, by decide +kernel, ⟨by decide, by decide⟩⟩ rfl hl.1 rfl (Nat.le_of_ble_eq_true rfl) dX1_montgomery_109 ⟨Nat.zero_le _, Nat.zero_le _⟩) hW Ad_hi (fun σ1 H locs hp hW => ?_)
        obtain ⟨F1, e1, hf1, hv1⟩ : ∃ F', σ1 = σ.setF F' ∧ Fr F F' [i] ∧ qV g F' i = qV g F 16 := hp
        rw [e1] at hW
        refine lv_aload_n hx hb dX1_montgomery_112 rfl (lv_at hl 2 rfl) ?_
        refine lv_aload_n hx hb dX1_montgomery_113 rfl (lv_at hl 3 rfl) ?_
        refine lv_lload hx hb dX1_montgomery_114 (lv_at hl 1 rfl) ?_
        have hm : qV g F1 12 = qV g σ.F 12 := (hf1.V (by simp; exact Ne.symm hi12)).trans (hf.V (by decide))
        have hlt2 := mont_final hT2 hq hlt h0
        refine q_v (q_runV (As := [.ref (g.P i), .long (lN t)]) (rest := []) (i := 1) S hW (by decide) rfl rfl (r_bringBelow l g hg (σ.setF F1) hi hi12 ht1 (by show qV g F1 i + _ < 2 * qV g F1 12; rw [hm, hv1]; exact hlt2)) gX1_montgomery_X1_bringBelow rfl (nA := 2) ⟨rfl, by decide +kernel, ⟨by decide, by decide⟩⟩ rfl hl.1 rfl (Nat.le_of_ble_eq_true rfl) dX1_montgomery_116 ⟨Nat.zero_le _, Nat.zero_le _⟩) hW Ad_hi (fun σ2 H locs hp hW => ?_)
        obtain ⟨F2, e2, hf2, hv2⟩ : ∃ F', σ2 = σ.setF F' ∧ Fr F1 F' [i] ∧ qV g F' i = (qV g F1 i + t * 2 ^ (32 * g.k)) % qV g F1 12 := hp
        rw [e2] at hW
        rw [hm, hv1] at hv2
        refine fin _ _ _ _ _ hW ⟨F2, rfl, fun a ha => ?_, ?_, ?_⟩ dX1_montgomery_119
        · simp only [List.mem_cons, List.not_mem_nil, or_false, not_or] at ha
          rw [hf2 a (by simp; exact ha.2), hf1 a (by simp; exact ha.2), hf a (by simp; exact ha.1)]
        · rw [hv2]; exact Nat.mod_lt _ h0
        · rw [hv2, Nat.mod_mul_mod, hT2, Nat.add_mul_mod_self_right]
      · have hx3 := nge c9 (by omega)
        refine lv_lload hx hb dX1_montgomery_27 (lv_at hl 1 rfl) ?_
        refine lv_aload_n hx hb dX1_montgomery_29 rfl (lv_at hl 2 rfl) ?_
        refine q_get (C := RX1) (T := TX1) (v := .ref (g.P 16)) hx hb hts hown (fun _ h9 => iw_X1_montgomery_X1 _ h9) hW (i := 1) (by decide) rfl rfl 6 (by decide) (hts (.fieldLink RX1 31 "ModEngine$Ring" "running" "[I") (by decide +kernel)) rfl dX1_montgomery_30 ?_
        refine lv_aload_n hx hb dX1_montgomery_33 rfl (lv_at hl 5 rfl) ?_
        refine lv_aload_n hx hb dX1_montgomery_34 rfl (lv_at hl 4 rfl) ?_
        refine lv_iload hx hb dX1_montgomery_35 (lv_at hl 0 rfl) ?_
        refine q_iald hx hb hW (i := j) (j := x) hj (by omega) hk8 rfl dX1_montgomery_37 ?_
        refine q_ti (y := F j x) rfl ?_
        refine q_ti (y := σ.F j x) (by rw [hf j (by simp; exact hj16)]) ?_
        refine lv_aload_n hx hb dX1_montgomery_38 rfl (lv_at hl 2 rfl) ?_
        refine q_get (C := RX1) (T := TX1) (v := .int (nI g.k)) hx hb hts hown (fun _ h9 => iw_X1_montgomery_X1 _ h9) hW (i := 1) (by decide) rfl rfl 1 (by decide) (hts (.fieldLink RX1 9 "ModEngine$Ring" "k" "I") (by decide +kernel)) rfl dX1_montgomery_39 ?_
        refine q_l (q_runS (As := [.ref (g.P 16), .ref (g.P r), .int (σ.F j x), .int (nI g.k)]) (rest := [.long (lN t)]) S hW (k_addMultiple l g hg (σ.setF F) (rowk (by decide)) hrr (σ.F j x)) gX1_montgomery_X0_addMultiple (nA := 4) ⟨rfl, by decide +kernel, ⟨by decide, by decide⟩⟩ rfl hl.1 rfl (Nat.le_of_ble_eq_true rfl) dX1_montgomery_42 ⟨Nat.zero_le _, Nat.zero_le _⟩) hW Ad_hi (fun r_42 σ1 H locs hp hW => ?_)
        obtain ⟨F1, c1, e1, hf1, hc1, er1, hv1⟩ : ∃ F', ∃ c, σ1 = σ.setF F' ∧ Fr F F' [16] ∧ c < 4294967296 ∧ r_42 = lN c ∧ qV g F' 16 + c * 2 ^ (32 * g.k) = qV g F 16 + uI (σ.F j x) * qV g F r := hp
        rw [e1] at hW
        refine q_tl (y := lN c1) er1 ?_
        refine lv_ladd hx hb dX1_montgomery_45 ?_
        refine q_tl (y := lN (t + c1)) (lN_add _ _) ?_
        refine lv_lstore (lv' := [(4, .long (lN (t + c1))), (6, .int (nI x)), (0, .ref (g.P 1)), (1, .ref (g.P i)), (2, .ref (g.P j)), (3, .ref (g.P r))]) hx hb dX1_montgomery_46 hl (by decide) rfl (fun ls hl => ?_)
        refine lv_lload hx hb dX1_montgomery_48 (lv_at hl 0 rfl) ?_
        refine lv_aload_n hx hb dX1_montgomery_50 rfl (lv_at hl 2 rfl) ?_
        refine q_get (C := RX1) (T := TX1) (v := .ref (g.P 16)) hx hb hts hown (fun _ h9 => iw_X1_montgomery_X1 _ h9) hW (i := 1) (by decide) rfl rfl 6 (by decide) (hts (.fieldLink RX1 31 "ModEngine$Ring" "running" "[I") (by decide +kernel)) rfl dX1_montgomery_51 ?_
        refine lv_aload_n hx hb dX1_montgomery_54 rfl (lv_at hl 2 rfl) ?_
        refine q_get (C := RX1) (T := TX1) (v := .ref (g.P 12)) hx hb hts hown (fun _ h9 => iw_X1_montgomery_X1 _ h9) hW (i := 1) (by decide) rfl rfl 0 (by decide) (hts (.fieldLink RX1 18 "ModEngine$Ring" "modulus" "[I") (by decide +kernel)) rfl dX1_montgomery_55 ?_
        refine lv_aload_n hx hb dX1_montgomery_58 rfl (lv_at hl 2 rfl) ?_
        refine q_get (C := RX1) (T := TX1) (v := .ref (g.P 16)) hx hb hts hown (fun _ h9 => iw_X1_montgomery_X1 _ h9) hW (i := 1) (by decide) rfl rfl 6 (by decide) (hts (.fieldLink RX1 31 "ModEngine$Ring" "running" "[I") (by decide +kernel)) rfl dX1_montgomery_59 ?_
        refine lv_iconst (v := 0) hx hb dX1_montgomery_62 (by decide) ?_
        refine q_iald hx hb hW (i := 16) (j := 0) (rowk (by decide)) (by omega) hk8 rfl dX1_montgomery_63 ?_
        refine q_ti (y := F1 16 0) rfl ?_
        refine lv_aload_n hx hb dX1_montgomery_64 rfl (lv_at hl 2 rfl) ?_
        refine q_get (C := RX1) (T := TX1) (v := .int σ.mi) hx hb hts hown (fun _ h9 => iw_X1_montgomery_X1 _ h9) hW (i := 1) (by decide) rfl rfl 11 (by decide) (hts (.fieldLink RX1 46 "ModEngine$Ring" "minusInverse" "I") (by decide +kernel)) rfl dX1_montgomery_65 ?_
        refine lv_imul hx hb dX1_montgomery_68 ?_
        refine lv_aload_n hx hb dX1_montgomery_69 rfl (lv_at hl 2 rfl) ?_
        refine q_get (C := RX1) (T := TX1) (v := .int (nI g.k)) hx hb hts hown (fun _ h9 => iw_X1_montgomery_X1 _ h9) hW (i := 1) (by decide) rfl rfl 1 (by decide) (hts (.fieldLink RX1 9 "ModEngine$Ring" "k" "I") (by decide +kernel)) rfl dX1_montgomery_70 ?_
        refine q_l (q_runS (As := [.ref (g.P 16), .ref (g.P 12), .int ((F1 16 0) * σ.mi), .int (nI g.k)]) (rest := [.long (lN (t + c1))]) S hW (k_addMultiple l g hg (σ.setF F1) (rowk (by decide)) (rowk (by decide)) (F1 16 0 * σ.mi)) gX1_montgomery_X0_addMultiple (nA := 4) ⟨rfl, by decide +kernel, ⟨by decide, by decide⟩⟩ rfl hl.1 rfl (Nat.le_of_ble_eq_true rfl) dX1_montgomery_73 ⟨Nat.zero_le _, Nat.zero_le _⟩) hW Ad_hi (fun r_73 σ2 H locs hp hW => ?_)
        obtain ⟨F2, c2, e2, hf2, hc2, er2, hv2⟩ : ∃ F', ∃ c, σ2 = σ.setF F' ∧ Fr F1 F' [16] ∧ c < 4294967296 ∧ r_73 = lN c ∧ qV g F' 16 + c * 2 ^ (32 * g.k) = qV g F1 16 + uI (F1 16 0 * σ.mi) * qV g F1 12 := hp
        rw [e2] at hW
        refine q_tl (y := lN c2) er2 ?_
        refine lv_ladd hx hb dX1_montgomery_76 ?_
        refine q_tl (y := lN ((t + c1) + c2)) (lN_add _ _) ?_
        refine lv_lstore (lv' := [(4, .long (lN ((t + c1) + c2))), (6, .int (nI x)), (0, .ref (g.P 1)), (1, .ref (g.P i)), (2, .ref (g.P j)), (3, .ref (g.P r))]) hx hb dX1_montgomery_77 hl (by decide) rfl (fun ls hl => ?_)
        refine lv_aload_n hx hb dX1_montgomery_79 rfl (lv_at hl 2 rfl) ?_
        refine q_get (C := RX1) (T := TX1) (v := .ref (g.P 16)) hx hb hts hown (fun _ h9 => iw_X1_montgomery_X1 _ h9) hW (i := 1) (by decide) rfl rfl 6 (by decide) (hts (.fieldLink RX1 31 "ModEngine$Ring" "running" "[I") (by decide +kernel)) rfl dX1_montgomery_80 ?_
        refine lv_lload hx hb dX1_montgomery_83 (lv_at hl 0 rfl) ?_
        refine lv_aload_n hx hb dX1_montgomery_85 rfl (lv_at hl 2 rfl) ?_
        refine q_get (C := RX1) (T := TX1) (v := .int (nI g.k)) hx hb hts hown (fun _ h9 => iw_X1_montgomery_X1 _ h9) hW (i := 1) (by decide) rfl rfl 1 (by decide) (hts (.fieldLink RX1 9 "ModEngine$Ring" "k" "I") (by decide +kernel)) rfl dX1_montgomery_86 ?_
        refine q_l (q_runS (As := [.ref (g.P 16), .long (lN ((t + c1) + c2)), .int (nI g.k)]) (rest := []) S hW (k_dropLimb l g hg (σ.setF F2) (rowk (by decide)) (t := t + c1 + c2) (by omega)) gX1_montgomery_X0_dropLimb (nA := 3) ⟨rfl, by decide +kernel, ⟨by decide, by decide⟩⟩ rfl hl.1 rfl (Nat.le_of_ble_eq_true rfl) dX1_montgomery_89 ⟨Nat.zero_le _, Nat.zero_le _⟩) hW Ad_hi (fun r_89 σ3 H locs hp hW => ?_)
        obtain ⟨F3, e3, hf3, er3, hv3⟩ : ∃ F', σ3 = σ.setF F' ∧ Fr F2 F' [16] ∧ r_89 = lN ((t + c1 + c2) / 4294967296) ∧ qV g F' 16 + (t + c1 + c2) / 4294967296 * 2 ^ (32 * g.k) = qV g F2 16 / 4294967296 + (t + c1 + c2) * 2 ^ (32 * (g.k - 1)) := hp
        rw [e3] at hW
        refine q_tl (y := lN ((t + c1 + c2) / 4294967296)) er3 ?_
        refine lv_lstore (lv' := [(4, .long (lN ((t + c1 + c2) / 4294967296))), (6, .int (nI x)), (0, .ref (g.P 1)), (1, .ref (g.P i)), (2, .ref (g.P j)), (3, .ref (g.P r))]) hx hb dX1_montgomery_92 hl (by decide) rfl (fun ls hl => ?_)
        refine lv_iinc (v := nI (x + 1)) (lv' := [(6, .int (nI (x + 1))), (4, .long (lN ((t + c1 + c2) / 4294967296))), (0, .ref (g.P 1)), (1, .ref (g.P i)), (2, .ref (g.P j)), (3, .ref (g.P r))]) hx hb dX1_montgomery_94 hl (k := 1) rfl (nI_1 _) (by decide) rfl (fun ls hl => ?_)
        refine lv_goto (tgt := 18) hx hb dX1_montgomery_97 (by decide) ?_
        have hfa : Fr σ.F F1 [16] := fun a ha => by rw [hf1 a ha, hf a ha]
        have hfb : Fr σ.F F2 [16] := fun a ha => by rw [hf2 a ha, hfa a ha]
        have hfc : Fr σ.F F3 [16] := fun a ha => by rw [hf3 a ha, hfb a ha]
        have er1 : qV g F r = qV g σ.F r := hf.V (by simp; exact hr16)
        have em : qV g F1 12 = qV g σ.F 12 := hfa.V (by decide)
        rw [er1] at hv1
        rw [em] at hv2
        obtain ⟨q1, hq1⟩ : ∃ q, qV g F1 16 = uI (F1 16 0) + 4294967296 * q := dv_low hk1
        have hlow := mont_low hq1 (uI_mul (F1 16 0) σ.mi) hmi
        obtain ⟨k1, hk2⟩ : ∃ k1, g.k = k1 + 1 := ⟨g.k - 1, by omega⟩
        have hRR : 2 ^ (32 * g.k) = 2 ^ (32 * (g.k - 1)) * 4294967296 := by rw [hk2, p32, show k1 + 1 - 1 = k1 by omega]
        have hz : qV g F2 16 % 4294967296 = 0 := by
          have h9 : qV g F2 16 + c2 * (2 ^ (32 * (g.k - 1)) * 4294967296) = qV g F1 16 + uI (F1 16 0 * σ.mi) * qV g σ.F 12 := by rw [← hRR]; exact hv2
          rw [← Nat.mul_assoc] at h9
          omega
        have hst := mont_step hT hv1 hv2 hz hv3 hRR
        refine ih (x + 1) _ (q + uI (F1 16 0 * σ.mi) * 2 ^ (32 * x)) F3 (by omega) (by omega) hfc ?_ ?_ H locs ls hW (lv_sub hl [0, 1, 2, 3, 4, 5] rfl)
        · have h8 := uI_lt (F1 16 0 * σ.mi)
          have h9 : uI (F1 16 0 * σ.mi) * 2 ^ (32 * x) ≤ 4294967295 * 2 ^ (32 * x) := Nat.mul_le_mul_right _ (by omega)
          rw [p32]
          omega
        · rw [rv_succ, p32]
          exact hst
  refine lv_aload_n hx hb dX1_montgomery_0 rfl (lv_at hl 0 rfl) ?_
  refine q_get (C := RX1) (T := TX1) (v := .ref (g.P 16)) hx hb hts hown (fun _ h9 => iw_X1_montgomery_X1 _ h9) hW (i := 1) (by decide) rfl rfl 6 (by decide) (hts (.fieldLink RX1 31 "ModEngine$Ring" "running" "[I") (by decide +kernel)) rfl dX1_montgomery_1 ?_
  refine lv_iconst (v := 0) hx hb dX1_montgomery_4 (by decide) ?_
  refine lv_aload_n hx hb dX1_montgomery_5 rfl (lv_at hl 0 rfl) ?_
  refine q_get (C := RX1) (T := TX1) (v := .int (nI g.k)) hx hb hts hown (fun _ h9 => iw_X1_montgomery_X1 _ h9) hW (i := 1) (by decide) rfl rfl 1 (by decide) (hts (.fieldLink RX1 9 "ModEngine$Ring" "k" "I") (by decide +kernel)) rfl dX1_montgomery_6 ?_
  refine q_v (q_runS (As := [.ref (g.P 16), .int 0, .int (nI g.k)]) (rest := []) S hW (k_setSmall l g hg σ (rowk (by decide)) 0) gX1_montgomery_X0_setSmall (nA := 3) ⟨rfl, by decide +kernel, ⟨by decide, by decide⟩⟩ rfl hl.1 rfl (Nat.le_of_ble_eq_true rfl) dX1_montgomery_9 ⟨Nat.zero_le _, Nat.zero_le _⟩) hW Ad_hi (fun σ1 H locs hp hW => ?_)
  obtain ⟨F1, e1, hf1, hv1⟩ : ∃ F', σ1 = σ.setF F' ∧ Fr σ.F F' [16] ∧ qV g F' 16 = uI 0 := hp
  rw [e1] at hW
  refine lv_lconst (v := 0) hx hb dX1_montgomery_12 (by decide) ?_
  refine lv_lstore (lv' := [(4, .long 0), (0, .ref (g.P 1)), (1, .ref (g.P i)), (2, .ref (g.P j)), (3, .ref (g.P r))]) hx hb dX1_montgomery_13 hl (by decide) rfl (fun ls hl => ?_)
  refine lv_iconst (v := 0) hx hb dX1_montgomery_15 (by decide) ?_
  refine lv_istore (lv' := [(6, .int 0), (4, .long 0), (0, .ref (g.P 1)), (1, .ref (g.P i)), (2, .ref (g.P j)), (3, .ref (g.P r))]) hx hb dX1_montgomery_16 hl (by decide) rfl (fun ls hl => ?_)
  exact loop (g.k + 1) 0 0 0 F1 (by omega) (by omega) hf1 (by decide) (by rw [hv1]; show (0 + 0 * _) * _ = 0 * _ + 0 * _; omega) _ _ ls hW (lv_sub hl [0, 1, 2, 3, 4, 5] rfl)
end
section
/-! ===== modulo an odd number ===== -/
theorem cancel2 {m x y : Nat} (ho : m % 2 = 1) (h : 2 * x % m = 2 * y % m) : x % m = y % m := by
  obtain ⟨z, hm⟩ : ∃ z, m = 2 * z + 1 := ⟨m / 2, by omega⟩
  have key : ∀ x, x % m = ((z + 1) * (2 * x % m)) % m := fun x => by
    rw [Nat.mul_mod_mod, show (z + 1) * (2 * x) = x + m * x by rw [hm]; grind, Nat.add_mul_mod_self_left]
  rw [key x, h, ← key y]
theorem cancelP {m : Nat} (ho : m % 2 = 1) : ∀ (j : Nat) {x y : Nat}, x * 2 ^ j % m = y * 2 ^ j % m → x % m = y % m
  | 0, x, y, h => by rw [Nat.pow_zero, Nat.mul_one, Nat.mul_one] at h; exact h
  | j + 1, x, y, h => by
    refine cancelP ho j (cancel2 ho ?_)
    rw [show 2 * (x * 2 ^ j) = x * 2 ^ (j + 1) by rw [Nat.pow_succ]; grind, show 2 * (y * 2 ^ j) = y * 2 ^ (j + 1) by rw [Nat.pow_succ]; grind]
    exact h
theorem mm {a b c d m : Nat} (h1 : a % m = b % m) (h2 : c % m = d % m) : a * c % m = b * d % m := by rw [Nat.mul_mod, h1, h2, ← Nat.mul_mod]
/-- the rows that prepare() has made -/
def Pp (g : qCfg) (F : Nat → Nat → Int32) (mi : Int32) : Prop := qV g F 12 % 2 = 1 ∧ 3 ≤ qV g F 12 ∧ qV g F 13 = 1 ∧ qV g F 14 = 2 ^ (32 * g.k) % qV g F 12 ∧ qV g F 15 = 2 ^ (32 * g.k) * 2 ^ (32 * g.k) % qV g F 12 ∧ (uI mi * qV g F 12 + 1) % 4294967296 = 0
theorem Pp.keep {g : qCfg} {F F' : Nat → Nat → Int32} {mi : Int32} {l : List Nat} (h : Pp g F mi) (hf : Fr F F' l) (hl : ∀ r, r ∈ l → 16 ≤ r) : Pp g F' mi ∧ qV g F' 12 = qV g F 12 := by
  have e : ∀ r, r < 16 → qV g F' r = qV g F r := fun r hr => hf.V (fun q => by have := hl r q; omega)
  refine ⟨?_, e 12 (by decide)⟩
  unfold Pp
  rw [e 12 (by decide), e 13 (by decide), e 14 (by decide), e 15 (by decide)]
  exact h
theorem Pp.pos {g : qCfg} {F : Nat → Nat → Int32} {mi : Int32} (h : Pp g F mi) : 0 < qV g F 12 := by have := h.2.1; omega
theorem Pp.lt13 {g : qCfg} {F : Nat → Nat → Int32} {mi : Int32} (h : Pp g F mi) : qV g F 13 < qV g F 12 := by have := h.2.1; have := h.2.2.1; omega
theorem Pp.lt14 {g : qCfg} {F : Nat → Nat → Int32} {mi : Int32} (h : Pp g F mi) : qV g F 14 < qV g F 12 := by rw [h.2.2.2.1]; exact Nat.mod_lt _ h.pos
theorem Pp.lt15 {g : qCfg} {F : Nat → Nat → Int32} {mi : Int32} (h : Pp g F mi) : qV g F 15 < qV g F 12 := by rw [h.2.2.2.2.1]; exact Nat.mod_lt _ h.pos
theorem mlt_r {g : qCfg} {F : Nat → Nat → Int32} {j r m : Nat} (h : qV g F r < m) : qV g F j * qV g F r < 2 ^ (32 * g.k) * m := Nat.mul_lt_mul'' qV_lt h
theorem mlt_l {g : qCfg} {F : Nat → Nat → Int32} {j r m : Nat} (h : qV g F j < m) : qV g F j * qV g F r < 2 ^ (32 * g.k) * m := by
  rw [Nat.mul_comm]
  exact Nat.mul_lt_mul'' qV_lt h
theorem ge16 {i : Nat} (h : 17 ≤ i) : ∀ r, r ∈ [16, i] → 16 ≤ r := fun r hr => by
  simp only [List.mem_cons, List.not_mem_nil, or_false] at hr
  omega
section MF
variable {m z x y x1 x2 y1 y2 r2 J c : Nat}
/-- into Montgomery's form -/
theorem mf_to (ho : m % 2 = 1) (hr : r2 = 2 ^ J * 2 ^ J % m) (hz : z * 2 ^ J % m = x * r2 % m) : z % m = x * 2 ^ J % m := by
  apply cancelP ho J
  rw [hz, hr, Nat.mul_mod_mod, Nat.mul_assoc]
theorem mf_mul (ho : m % 2 = 1) (hz : z * 2 ^ J % m = y1 * y2 % m) (h1 : y1 % m = x1 * 2 ^ J % m) (h2 : y2 % m = x2 * 2 ^ J % m) : z % m = x1 * x2 * 2 ^ J % m := by
  apply cancelP ho J
  rw [hz, mm h1 h2]
  congr 1
  grind
/-- a plain number times one in Montgomery's form -/
theorem mf_mul1 (ho : m % 2 = 1) (hz : z * 2 ^ J % m = y1 * y2 % m) (h1 : y1 % m = x1 * 2 ^ J % m) : z % m = x1 * y2 % m := by
  apply cancelP ho J
  rw [hz, mm h1 (rfl : y2 % m = y2 % m)]
  congr 1
  grind
theorem mf_from (ho : m % 2 = 1) (hz : z * 2 ^ J % m = y * 1 % m) (h : y % m = x * 2 ^ J % m) : z % m = x % m := by
  apply cancelP ho J
  rw [hz, Nat.mul_one, h]
end MF
theorem pw_step {c e m J y b : Nat} (hy : y % m = c ^ (e / 2 ^ (b + 1)) * c ^ (e / 2 ^ (b + 1)) * 2 ^ J % m) (h0 : ¬ e.testBit b = true) : y % m = c ^ (e / 2 ^ b) * 2 ^ J % m := by
  rw [hy, ← Nat.pow_add]
  congr 3
  rw [Nat.testBit_eq_decide_div_mod_eq] at h0
  have h1 : ¬ e / 2 ^ b % 2 = 1 := fun q => h0 (by simp [q])
  rw [Nat.pow_succ, ← Nat.div_div_eq_div_mul]
  generalize e / 2 ^ b = z at h1
  omega
theorem pw_step1 {c e m J y b : Nat} (hy : y % m = c ^ (e / 2 ^ (b + 1)) * c ^ (e / 2 ^ (b + 1)) * c * 2 ^ J % m) (h0 : e.testBit b = true) : y % m = c ^ (e / 2 ^ b) * 2 ^ J % m := by
  rw [hy, ← Nat.pow_add, ← Nat.pow_succ]
  congr 3
  rw [Nat.testBit_eq_decide_div_mod_eq] at h0
  have h1 : e / 2 ^ b % 2 = 1 := by simpa using h0
  rw [Nat.pow_succ, ← Nat.div_div_eq_div_mul]
  generalize e / 2 ^ b = z at h1
  omega
theorem neg_lt_nI {u : Nat} (h : u < 2 ^ 31) : nI 0 - 1 < nI u := by
  rw [Int32.lt_iff_toInt_lt, nI_toInt h, show (nI 0 - 1).toInt = -1 by decide]
  omega
end
section
theorem iw_X1_sum_X1 : ∀ w ∈ wsX10, w ∈ wsX1_sum := by decide +kernel
theorem iw_X1_difference_X1 : ∀ w ∈ wsX10, w ∈ wsX1_difference := by decide +kernel
theorem iw_X1_product_X1 : ∀ w ∈ wsX10, w ∈ wsX1_product := by decide +kernel
theorem iw_X1_productByR_X1 : ∀ w ∈ wsX10, w ∈ wsX1_productByR := by decide +kernel
theorem iw_X1_raise_X1 : ∀ w ∈ wsX10, w ∈ wsX1_raise := by decide +kernel
theorem iw_X1_power_X1 : ∀ w ∈ wsX10, w ∈ wsX1_power := by decide +kernel
set_option maxHeartbeats 4000000 in
set_option maxRecDepth 100000 in
/-- Ring.prepare() -/
theorem r_prepare (l : Launch) (g : qCfg) (hg : g.ok) (σ : qSt) (ho : qV g σ.F 12 % 2 = 1) (h3 : 3 ≤ qV g σ.F 12) (h13 : qV g σ.F 13 = 1) : qCV l g yX1_prepare wsX1_prepare 4 96 [.ref (g.P 1)] σ (fun σ' => ∃ F' v, σ' = (σ.setMi v).setF F' ∧ Fr σ.F F' [14, 15] ∧ Pp g F' v) := by
  refine q_sV (cc := cX1_prepare) (maxL := 1) (by decide) rfl (Nat.le_of_ble_eq_true rfl) ?_
  intro p e s m args below meth c ls Q S hW hl fin
  obtain ⟨hx, hb, hml, hown, hts, hr, hlocks⟩ := id S
  obtain ⟨hk1, hk8, hn1, hn8⟩ := id hg
  have hl : lv_has ls 1 [(0, .ref (g.P 1))] := hl
  obtain ⟨q0, hq0⟩ : ∃ q, qV g σ.F 12 = uI (σ.F 12 0) + 4294967296 * q := dv_low hk1
  refine lv_aload_n hx hb dX1_prepare_0 rfl (lv_at hl 0 rfl) ?_
  refine lv_aload_n hx hb dX1_prepare_1 rfl (lv_at hl 0 rfl) ?_
  refine q_get (C := RX1) (T := TX1) (v := .ref (g.P 12)) hx hb hts hown (fun _ h9 => iw_X1_prepare_X1 _ h9) hW (i := 1) (by decide) rfl rfl 0 (by decide) (hts (.fieldLink RX1 18 "ModEngine$Ring" "modulus" "[I") (by decide +kernel)) rfl dX1_prepare_2 ?_
  refine lv_iconst (v := 0) hx hb dX1_prepare_5 (by decide) ?_
  refine q_iald hx hb hW (i := 12) (j := 0) (rowk (by decide)) (by omega) hk8 rfl dX1_prepare_6 ?_
  refine q_ti (y := σ.F 12 0) rfl ?_
  refine q_i (q_runS (As := [.int (σ.F 12 0)]) (rest := [.ref (g.P 1)]) S hW (r_inverseOfLimb l g hg σ (σ.F 12 0) (by omega)) gX1_prepare_X1_inverseOfLimb (nA := 1) ⟨rfl, by decide +kernel, ⟨by decide, by decide⟩⟩ rfl hl.1 rfl (Nat.le_of_ble_eq_true rfl) dX1_prepare_7 ⟨Nat.zero_le _, Nat.zero_le _⟩) hW Ad_hi (fun r_7 σ0 H locs hp hW => ?_)
  obtain ⟨e0, hinv⟩ : σ0 = σ ∧ uI (σ.F 12 0) * uI r_7 % 4294967296 = 1 := hp
  rw [e0] at hW
  refine lv_ineg hx hb dX1_prepare_10 ?_
  refine lv_topi (fun v ev => ?_)
  refine q_put (C := RX1) (T := TX1) hx hb hts hown (fun _ h9 => iw_X1_prepare_X1 _ h9) tyX1 tyX1_ok nmX1 hW (i := 1) (by decide) rfl rfl 11 (by decide) (hts (.fieldLink RX1 46 "ModEngine$Ring" "minusInverse" "I") (by decide +kernel)) rfl (ty := .int) (by decide +kernel) rfl rfl (Nat.le_of_ble_eq_true rfl) (σ.setMi v) rfl cel_mi dX1_prepare_11 (fun H locs hW => ?_)
  refine lv_aload_n hx hb dX1_prepare_14 rfl (lv_at hl 0 rfl) ?_
  refine q_get (C := RX1) (T := TX1) (v := .ref (g.P 14)) hx hb hts hown (fun _ h9 => iw_X1_prepare_X1 _ h9) hW (i := 1) (by decide) rfl rfl 4 (by decide) (hts (.fieldLink RX1 25 "ModEngine$Ring" "unit" "[I") (by decide +kernel)) rfl dX1_prepare_15 ?_
  refine lv_aload_n hx hb dX1_prepare_18 rfl (lv_at hl 0 rfl) ?_
  refine q_get (C := RX1) (T := TX1) (v := .ref (g.P 13)) hx hb hts hown (fun _ h9 => iw_X1_prepare_X1 _ h9) hW (i := 1) (by decide) rfl rfl 3 (by decide) (hts (.fieldLink RX1 22 "ModEngine$Ring" "one" "[I") (by decide +kernel)) rfl dX1_prepare_19 ?_
  refine lv_aload_n hx hb dX1_prepare_22 rfl (lv_at hl 0 rfl) ?_
  refine q_get (C := RX1) (T := TX1) (v := .int (nI g.k)) hx hb hts hown (fun _ h9 => iw_X1_prepare_X1 _ h9) hW (i := 1) (by decide) rfl rfl 1 (by decide) (hts (.fieldLink RX1 9 "ModEngine$Ring" "k" "I") (by decide +kernel)) rfl dX1_prepare_23 ?_
  refine q_v (q_runS (As := [.ref (g.P 14), .ref (g.P 13), .int (nI g.k)]) (rest := []) S hW (k_copy l g hg ((σ.setMi v)) (rowk (by decide)) (rowk (by decide))) gX1_prepare_X0_copy (nA := 3) ⟨rfl, by decide +kernel, ⟨by decide, by decide⟩⟩ rfl hl.1 rfl (Nat.le_of_ble_eq_true rfl) dX1_prepare_26 ⟨Nat.zero_le _, Nat.zero_le _⟩) hW Ad_hi (fun σ1 H locs hp hW => ?_)
  obtain ⟨F1, e1, hf1, hv1⟩ : ∃ F', σ1 = ((σ.setMi v)).setF F' ∧ Fr σ.F F' [14] ∧ qV g F' 14 = qV g σ.F 13 := hp
  rw [e1] at hW
  refine lv_aload_n hx hb dX1_prepare_29 rfl (lv_at hl 0 rfl) ?_
  refine lv_aload_n hx hb dX1_prepare_30 rfl (lv_at hl 0 rfl) ?_
  refine q_get (C := RX1) (T := TX1) (v := .ref (g.P 14)) hx hb hts hown (fun _ h9 => iw_X1_prepare_X1 _ h9) hW (i := 1) (by decide) rfl rfl 4 (by decide) (hts (.fieldLink RX1 25 "ModEngine$Ring" "unit" "[I") (by decide +kernel)) rfl dX1_prepare_31 ?_
  have m1 : qV g F1 12 = qV g σ.F 12 := hf1.V (by decide)
  refine q_v (q_runV (As := [.ref (g.P 14)]) (rest := []) (i := 1) S hW (by decide) rfl rfl (r_doubleOften l g hg (((σ.setMi v)).setF F1) (rowk (by decide)) (by decide) (by show qV g F1 14 < qV g F1 12; rw [m1, hv1, h13]; omega)) gX1_prepare_X1_doubleOften rfl (nA := 1) ⟨rfl, by decide +kernel, ⟨by decide, by decide⟩⟩ rfl hl.1 rfl (Nat.le_of_ble_eq_true rfl) dX1_prepare_34 ⟨Nat.zero_le _, Nat.zero_le _⟩) hW Ad_hi (fun σ2 H locs hp hW => ?_)
  obtain ⟨F2, e2, hf2, hv2⟩ : ∃ F', σ2 = ((σ.setMi v)).setF F' ∧ Fr F1 F' [14] ∧ qV g F' 14 = qV g F1 14 * 2 ^ (32 * g.k) % qV g F1 12 := hp
  rw [e2] at hW
  have m2 : qV g F2 12 = qV g σ.F 12 := (hf2.V (by decide)).trans m1
  refine lv_aload_n hx hb dX1_prepare_37 rfl (lv_at hl 0 rfl) ?_
  refine q_get (C := RX1) (T := TX1) (v := .ref (g.P 15)) hx hb hts hown (fun _ h9 => iw_X1_prepare_X1 _ h9) hW (i := 1) (by decide) rfl rfl 5 (by decide) (hts (.fieldLink RX1 28 "ModEngine$Ring" "rSquared" "[I") (by decide +kernel)) rfl dX1_prepare_38 ?_
  refine lv_aload_n hx hb dX1_prepare_41 rfl (lv_at hl 0 rfl) ?_
  refine q_get (C := RX1) (T := TX1) (v := .ref (g.P 14)) hx hb hts hown (fun _ h9 => iw_X1_prepare_X1 _ h9) hW (i := 1) (by decide) rfl rfl 4 (by decide) (hts (.fieldLink RX1 25 "ModEngine$Ring" "unit" "[I") (by decide +kernel)) rfl dX1_prepare_42 ?_
  refine lv_aload_n hx hb dX1_prepare_45 rfl (lv_at hl 0 rfl) ?_
  refine q_get (C := RX1) (T := TX1) (v := .int (nI g.k)) hx hb hts hown (fun _ h9 => iw_X1_prepare_X1 _ h9) hW (i := 1) (by decide) rfl rfl 1 (by decide) (hts (.fieldLink RX1 9 "ModEngine$Ring" "k" "I") (by decide +kernel)) rfl dX1_prepare_46 ?_
  refine q_v (q_runS (As := [.ref (g.P 15), .ref (g.P 14), .int (nI g.k)]) (rest := []) S hW (k_copy l g hg (((σ.setMi v)).setF F2) (rowk (by decide)) (rowk (by decide))) gX1_prepare_X0_copy (nA := 3) ⟨rfl, by decide +kernel, ⟨by decide, by decide⟩⟩ rfl hl.1 rfl (Nat.le_of_ble_eq_true rfl) dX1_prepare_49 ⟨Nat.zero_le _, Nat.zero_le _⟩) hW Ad_hi (fun σ3 H locs hp hW => ?_)
  obtain ⟨F3, e3, hf3, hv3⟩ : ∃ F', σ3 = ((σ.setMi v)).setF F' ∧ Fr F2 F' [15] ∧ qV g F' 15 = qV g F2 14 := hp
  rw [e3] at hW
  refine lv_aload_n hx hb dX1_prepare_52 rfl (lv_at hl 0 rfl) ?_
  refine lv_aload_n hx hb dX1_prepare_53 rfl (lv_at hl 0 rfl) ?_
  refine q_get (C := RX1) (T := TX1) (v := .ref (g.P 15)) hx hb hts hown (fun _ h9 => iw_X1_prepare_X1 _ h9) hW (i := 1) (by decide) rfl rfl 5 (by decide) (hts (.fieldLink RX1 28 "ModEngine$Ring" "rSquared" "[I") (by decide +kernel)) rfl dX1_prepare_54 ?_
  have m3 : qV g F3 12 = qV g σ.F 12 := (hf3.V (by decide)).trans m2
  rw [m1, hv1, h13, Nat.one_mul] at hv2
  refine q_v (q_runV (As := [.ref (g.P 15)]) (rest := []) (i := 1) S hW (by decide) rfl rfl (r_doubleOften l g hg (((σ.setMi v)).setF F3) (rowk (by decide)) (by decide) (by show qV g F3 15 < qV g F3 12; rw [m3, hv3, hv2]; exact Nat.mod_lt _ (by omega))) gX1_prepare_X1_doubleOften rfl (nA := 1) ⟨rfl, by decide +kernel, ⟨by decide, by decide⟩⟩ rfl hl.1 rfl (Nat.le_of_ble_eq_true rfl) dX1_prepare_57 ⟨Nat.zero_le _, Nat.zero_le _⟩) hW Ad_hi (fun σ4 H locs hp hW => ?_)
  obtain ⟨F4, e4, hf4, hv4⟩ : ∃ F', σ4 = ((σ.setMi v)).setF F' ∧ Fr F3 F' [15] ∧ qV g F' 15 = qV g F3 15 * 2 ^ (32 * g.k) % qV g F3 12 := hp
  rw [e4] at hW
  have m4 : qV g F4 12 = qV g σ.F 12 := (hf4.V (by decide)).trans m3
  have u4 : qV g F4 14 = 2 ^ (32 * g.k) % qV g σ.F 12 := ((hf4.V (by decide)).trans (hf3.V (by decide))).trans hv2
  have o4 : qV g F4 13 = 1 := (((hf4.V (by decide)).trans (hf3.V (by decide))).trans ((hf2.V (by decide)).trans (hf1.V (by decide)))).trans h13
  refine fin _ _ _ _ _ hW ⟨F4, v, rfl, fun r hr => ?_, ?_⟩ dX1_prepare_60
  · simp only [List.mem_cons, List.not_mem_nil, or_false, not_or] at hr
    rw [hf4 r (by simp; exact hr.2), hf3 r (by simp; exact hr.2), hf2 r (by simp; exact hr.1), hf1 r (by simp; exact hr.1)]
  · refine ⟨by rw [m4]; exact ho, by rw [m4]; exact h3, o4, by rw [u4, m4], ?_, ?_⟩
    · rw [hv4, m3, m4, hv3, hv2, Nat.mod_mul_mod]
    · rw [m4, ev]; exact minus_inv hinv ⟨q0, hq0⟩
set_option maxHeartbeats 4000000 in
set_option maxRecDepth 100000 in
/-- Ring.residue(into, a) -/
theorem r_residue (l : Launch) (g : qCfg) (hg : g.ok) (σ : qSt) {i j : Nat} (hi : 12 ≤ i ∧ i < g.N)(hj : 12 ≤ j ∧ j < g.N)(hi17 : 17 ≤ i) (hj17 : 17 ≤ j) (p0 : Pp g σ.F σ.mi)  : qCV l g yX1_residue wsX1_residue 3 75 [.ref (g.P 1), .ref (g.P i), .ref (g.P j)] σ (fun σ' => ∃ F', σ' = σ.setF F' ∧ Fr σ.F F' [16, i] ∧ qV g F' i = qV g σ.F j % qV g σ.F 12) := by
  refine q_sV (cc := cX1_residue) (maxL := 3) (by decide) rfl (Nat.le_of_ble_eq_true rfl) ?_
  intro p e s m args below meth c ls Q S hW hl fin
  obtain ⟨hx, hb, hml, hown, hts, hr, hlocks⟩ := id S
  obtain ⟨hk1, hk8, hn1, hn8⟩ := id hg
  have hl : lv_has ls 3 [(0, .ref (g.P 1)), (1, .ref (g.P i)), (2, .ref (g.P j))] := hl
  refine lv_aload_n hx hb dX1_residue_0 rfl (lv_at hl 0 rfl) ?_
  refine lv_aload_n hx hb dX1_residue_1 rfl (lv_at hl 1 rfl) ?_
  refine lv_aload_n hx hb dX1_residue_2 rfl (lv_at hl 2 rfl) ?_
  refine lv_aload_n hx hb dX1_residue_3 rfl (lv_at hl 0 rfl) ?_
  refine q_get (C := RX1) (T := TX1) (v := .ref (g.P 15)) hx hb hts hown (fun _ h9 => iw_X1_residue_X1 _ h9) hW (i := 1) (by decide) rfl rfl 5 (by decide) (hts (.fieldLink RX1 28 "ModEngine$Ring" "rSquared" "[I") (by decide +kernel)) rfl dX1_residue_4 ?_
  refine q_v (q_runV (As := [.ref (g.P i), .ref (g.P j), .ref (g.P 15)]) (rest := []) (i := 1) S hW (by decide) rfl rfl (r_montgomery l g hg σ hi hj (rowk (by decide)) (by omega) (by omega) (by omega) (by omega) p0.pos p0.2.2.2.2.2 (mlt_r p0.lt15)) gX1_residue_X1_montgomery rfl (nA := 3) ⟨rfl, by decide +kernel, ⟨by decide, by decide⟩⟩ rfl hl.1 rfl (Nat.le_of_ble_eq_true rfl) dX1_residue_7 ⟨Nat.zero_le _, Nat.zero_le _⟩) hW Ad_hi (fun σ1 H locs hp hW => ?_)
  obtain ⟨F1, e1, hf1, hl1, hv1⟩ : ∃ F', σ1 = σ.setF F' ∧ Fr σ.F F' [16, i] ∧ qV g F' i < qV g σ.F 12 ∧ qV g F' i * 2 ^ (32 * g.k) % qV g σ.F 12 = qV g σ.F j * qV g σ.F 15 % qV g σ.F 12 := hp
  rw [e1] at hW
  obtain ⟨p1, m1⟩ := p0.keep hf1 (ge16 (by omega))
  refine lv_aload_n hx hb dX1_residue_10 rfl (lv_at hl 0 rfl) ?_
  refine lv_aload_n hx hb dX1_residue_11 rfl (lv_at hl 1 rfl) ?_
  refine lv_aload_n hx hb dX1_residue_12 rfl (lv_at hl 1 rfl) ?_
  refine lv_aload_n hx hb dX1_residue_13 rfl (lv_at hl 0 rfl) ?_
  refine q_get (C := RX1) (T := TX1) (v := .ref (g.P 13)) hx hb hts hown (fun _ h9 => iw_X1_residue_X1 _ h9) hW (i := 1) (by decide) rfl rfl 3 (by decide) (hts (.fieldLink RX1 22 "ModEngine$Ring" "one" "[I") (by decide +kernel)) rfl dX1_residue_14 ?_
  refine q_v (q_runV (As := [.ref (g.P i), .ref (g.P i), .ref (g.P 13)]) (rest := []) (i := 1) S hW (by decide) rfl rfl (r_montgomery l g hg (σ.setF F1) hi hi (rowk (by decide)) (by omega) (by omega) (by omega) (by omega) p1.pos p1.2.2.2.2.2 (mlt_r p1.lt13)) gX1_residue_X1_montgomery rfl (nA := 3) ⟨rfl, by decide +kernel, ⟨by decide, by decide⟩⟩ rfl hl.1 rfl (Nat.le_of_ble_eq_true rfl) dX1_residue_17 ⟨Nat.zero_le _, Nat.zero_le _⟩) hW Ad_hi (fun σ2 H locs hp hW => ?_)
  obtain ⟨F2, e2, hf2, hl2, hv2⟩ : ∃ F', σ2 = σ.setF F' ∧ Fr F1 F' [16, i] ∧ qV g F' i < qV g F1 12 ∧ qV g F' i * 2 ^ (32 * g.k) % qV g F1 12 = qV g F1 i * qV g F1 13 % qV g F1 12 := hp
  rw [e2] at hW
  obtain ⟨p2, m2⟩ := p1.keep hf2 (ge16 (by omega))
  rw [m1] at m2
  have h1 := mf_to p0.1 p0.2.2.2.2.1 hv1
  rw [m1, p1.2.2.1] at hv2
  have h2 := mf_from p0.1 hv2 h1
  rw [m1] at hl2
  rw [Nat.mod_eq_of_lt hl2] at h2
  exact fin _ _ _ _ _ hW (⟨F2, rfl, fun r hr => by rw [hf2 r hr, hf1 r hr], h2⟩) dX1_residue_20
set_option maxHeartbeats 4000000 in
set_option maxRecDepth 100000 in
/-- Ring.sum(into, a, b) -/
theorem r_sum (l : Launch) (g : qCfg) (hg : g.ok) (σ : qSt) {i j r : Nat} (hi : 12 ≤ i ∧ i < g.N)(hj : 12 ≤ j ∧ j < g.N)(hrr : 12 ≤ r ∧ r < g.N) (hi21 : 21 ≤ i) (hj21 : 21 ≤ j) (hr21 : 21 ≤ r) (p0 : Pp g σ.F σ.mi)  : qCV l g yX1_sum wsX1_sum 4 97 [.ref (g.P 1), .ref (g.P i), .ref (g.P j), .ref (g.P r)] σ (fun σ' => ∃ F', σ' = σ.setF F' ∧ Fr σ.F F' [16, 17, 18, i] ∧ qV g F' i = (qV g σ.F j % qV g σ.F 12 + qV g σ.F r % qV g σ.F 12) % qV g σ.F 12) := by
  refine q_sV (cc := cX1_sum) (maxL := 4) (by decide) rfl (Nat.le_of_ble_eq_true rfl) ?_
  intro p e s m args below meth c ls Q S hW hl fin
  obtain ⟨hx, hb, hml, hown, hts, hr, hlocks⟩ := id S
  obtain ⟨hk1, hk8, hn1, hn8⟩ := id hg
  have hl : lv_has ls 4 [(0, .ref (g.P 1)), (1, .ref (g.P i)), (2, .ref (g.P j)), (3, .ref (g.P r))] := hl
  refine lv_aload_n hx hb dX1_sum_0 rfl (lv_at hl 0 rfl) ?_
  refine lv_aload_n hx hb dX1_sum_1 rfl (lv_at hl 0 rfl) ?_
  refine q_get (C := RX1) (T := TX1) (v := .ref (g.P 17)) hx hb hts hown (fun _ h9 => iw_X1_sum_X1 _ h9) hW (i := 1) (by decide) rfl rfl 7 (by decide) (hts (.fieldLink RX1 34 "ModEngine$Ring" "left" "[I") (by decide +kernel)) rfl dX1_sum_2 ?_
  refine lv_aload_n hx hb dX1_sum_5 rfl (lv_at hl 2 rfl) ?_
  refine q_v (q_runV (As := [.ref (g.P 17), .ref (g.P j)]) (rest := []) (i := 1) S hW (by decide) rfl rfl (r_residue l g hg σ (rowk (by decide)) hj (by omega) (by omega) p0) gX1_sum_X1_residue rfl (nA := 2) ⟨rfl, by decide +kernel, ⟨by decide, by decide⟩⟩ rfl hl.1 rfl (Nat.le_of_ble_eq_true rfl) dX1_sum_6 ⟨Nat.zero_le _, Nat.zero_le _⟩) hW Ad_hi (fun σ1 H locs hp hW => ?_)
  obtain ⟨F1, e1, hf1, hv1⟩ : ∃ F', σ1 = σ.setF F' ∧ Fr σ.F F' [16, 17] ∧ qV g F' 17 = qV g σ.F j % qV g σ.F 12 := hp
  rw [e1] at hW
  obtain ⟨p1, m1⟩ := p0.keep hf1 (ge16 (by omega))
  refine lv_aload_n hx hb dX1_sum_9 rfl (lv_at hl 0 rfl) ?_
  refine lv_aload_n hx hb dX1_sum_10 rfl (lv_at hl 0 rfl) ?_
  refine q_get (C := RX1) (T := TX1) (v := .ref (g.P 18)) hx hb hts hown (fun _ h9 => iw_X1_sum_X1 _ h9) hW (i := 1) (by decide) rfl rfl 8 (by decide) (hts (.fieldLink RX1 37 "ModEngine$Ring" "right" "[I") (by decide +kernel)) rfl dX1_sum_11 ?_
  refine lv_aload_n hx hb dX1_sum_14 rfl (lv_at hl 3 rfl) ?_
  refine q_v (q_runV (As := [.ref (g.P 18), .ref (g.P r)]) (rest := []) (i := 1) S hW (by decide) rfl rfl (r_residue l g hg (σ.setF F1) (rowk (by decide)) hrr (by omega) (by omega) p1) gX1_sum_X1_residue rfl (nA := 2) ⟨rfl, by decide +kernel, ⟨by decide, by decide⟩⟩ rfl hl.1 rfl (Nat.le_of_ble_eq_true rfl) dX1_sum_15 ⟨Nat.zero_le _, Nat.zero_le _⟩) hW Ad_hi (fun σ2 H locs hp hW => ?_)
  obtain ⟨F2, e2, hf2, hv2⟩ : ∃ F', σ2 = σ.setF F' ∧ Fr F1 F' [16, 18] ∧ qV g F' 18 = qV g F1 r % qV g F1 12 := hp
  rw [e2] at hW
  obtain ⟨p2, m2⟩ := p1.keep hf2 (ge16 (by omega))
  rw [m1] at m2
  rw [hf1.V (by simp; omega), m1] at hv2
  have hv3 : qV g F2 17 = qV g σ.F j % qV g σ.F 12 := (hf2.V (by decide)).trans hv1
  have hb1 : qV g F2 17 < qV g F2 12 := by rw [hv3, m2]; exact Nat.mod_lt _ p0.pos
  have hb2 : qV g F2 18 < qV g F2 12 := by rw [hv2, m2]; exact Nat.mod_lt _ p0.pos
  refine lv_aload_n hx hb dX1_sum_18 rfl (lv_at hl 0 rfl) ?_
  refine lv_aload_n hx hb dX1_sum_19 rfl (lv_at hl 1 rfl) ?_
  refine lv_aload_n hx hb dX1_sum_20 rfl (lv_at hl 0 rfl) ?_
  refine q_get (C := RX1) (T := TX1) (v := .ref (g.P 17)) hx hb hts hown (fun _ h9 => iw_X1_sum_X1 _ h9) hW (i := 1) (by decide) rfl rfl 7 (by decide) (hts (.fieldLink RX1 34 "ModEngine$Ring" "left" "[I") (by decide +kernel)) rfl dX1_sum_21 ?_
  refine lv_aload_n hx hb dX1_sum_24 rfl (lv_at hl 0 rfl) ?_
  refine q_get (C := RX1) (T := TX1) (v := .ref (g.P 18)) hx hb hts hown (fun _ h9 => iw_X1_sum_X1 _ h9) hW (i := 1) (by decide) rfl rfl 8 (by decide) (hts (.fieldLink RX1 37 "ModEngine$Ring" "right" "[I") (by decide +kernel)) rfl dX1_sum_25 ?_
  refine q_v (q_runV (As := [.ref (g.P i), .ref (g.P 17), .ref (g.P 18)]) (rest := []) (i := 1) S hW (by decide) rfl rfl (r_addBelow l g hg (σ.setF F2) hi (rowk (by decide)) (rowk (by decide)) (by omega) hb1 hb2) gX1_sum_X1_addBelow rfl (nA := 3) ⟨rfl, by decide +kernel, ⟨by decide, by decide⟩⟩ rfl hl.1 rfl (Nat.le_of_ble_eq_true rfl) dX1_sum_28 ⟨Nat.zero_le _, Nat.zero_le _⟩) hW Ad_hi (fun σ3 H locs hp hW => ?_)
  obtain ⟨F3, e3, hf3, hv4⟩ : ∃ F', σ3 = σ.setF F' ∧ Fr F2 F' [i] ∧ qV g F' i = (qV g F2 17 + qV g F2 18) % qV g F2 12 := hp
  rw [e3] at hW
  rw [hv3, hv2, m2] at hv4
  exact fin _ _ _ _ _ hW (⟨F3, rfl, fun a ha => by
      simp only [List.mem_cons, List.not_mem_nil, or_false, not_or] at ha
      rw [hf3 a (by simp; omega), hf2 a (by simp; omega), hf1 a (by simp; omega)], hv4⟩) dX1_sum_31
set_option maxHeartbeats 4000000 in
set_option maxRecDepth 100000 in
/-- Ring.difference(into, a, b) -/
theorem r_difference (l : Launch) (g : qCfg) (hg : g.ok) (σ : qSt) {i j r : Nat} (hi : 12 ≤ i ∧ i < g.N)(hj : 12 ≤ j ∧ j < g.N)(hrr : 12 ≤ r ∧ r < g.N) (hi21 : 21 ≤ i) (hj21 : 21 ≤ j) (hr21 : 21 ≤ r) (p0 : Pp g σ.F σ.mi)  : qCV l g yX1_difference wsX1_difference 4 97 [.ref (g.P 1), .ref (g.P i), .ref (g.P j), .ref (g.P r)] σ (fun σ' => ∃ F', σ' = σ.setF F' ∧ Fr σ.F F' [16, 17, 18, i] ∧ qV g F' i = if qV g σ.F r % qV g σ.F 12 ≤ qV g σ.F j % qV g σ.F 12 then qV g σ.F j % qV g σ.F 12 - qV g σ.F r % qV g σ.F 12 else qV g σ.F j % qV g σ.F 12 + qV g σ.F 12 - qV g σ.F r % qV g σ.F 12) := by
  refine q_sV (cc := cX1_difference) (maxL := 4) (by decide) rfl (Nat.le_of_ble_eq_true rfl) ?_
  intro p e s m args below meth c ls Q S hW hl fin
  obtain ⟨hx, hb, hml, hown, hts, hr, hlocks⟩ := id S
  obtain ⟨hk1, hk8, hn1, hn8⟩ := id hg
  have hl : lv_has ls 4 [(0, .ref (g.P 1)), (1, .ref (g.P i)), (2, .ref (g.P j)), (3, .ref (g.P r))] := hl
  refine lv_aload_n hx hb dX1_difference_0 rfl (lv_at hl 0 rfl) ?_
  refine lv_aload_n hx hb dX1_difference_1 rfl (lv_at hl 0 rfl) ?_
  refine q_get (C := RX1) (T := TX1) (v := .ref (g.P 17)) hx hb hts hown (fun _ h9 => iw_X1_difference_X1 _ h9) hW (i := 1) (by decide) rfl rfl 7 (by decide) (hts (.fieldLink RX1 34 "ModEngine$Ring" "left" "[I") (by decide +kernel)) rfl dX1_difference_2 ?_
  refine lv_aload_n hx hb dX1_difference_5 rfl (lv_at hl 2 rfl) ?_
  refine q_v (q_runV (As := [.ref (g.P 17), .ref (g.P j)]) (rest := []) (i := 1) S hW (by decide) rfl rfl (r_residue l g hg σ (rowk (by decide)) hj (by omega) (by omega) p0) gX1_difference_X1_residue rfl (nA := 2) ⟨rfl, by decide +kernel, ⟨by decide, by decide⟩⟩ rfl hl.1 rfl (Nat.le_of_ble_eq_true rfl) dX1_difference_6 ⟨Nat.zero_le _, Nat.zero_le _⟩) hW Ad_hi (fun σ1 H locs hp hW => ?_)
  obtain ⟨F1, e1, hf1, hv1⟩ : ∃ F', σ1 = σ.setF F' ∧ Fr σ.F F' [16, 17] ∧ qV g F' 17 = qV g σ.F j % qV g σ.F 12 := hp
  rw [e1] at hW
  obtain ⟨p1, m1⟩ := p0.keep hf1 (ge16 (by omega))
  refine lv_aload_n hx hb dX1_difference_9 rfl (lv_at hl 0 rfl) ?_
  refine lv_aload_n hx hb dX1_difference_10 rfl (lv_at hl 0 rfl) ?_
  refine q_get (C := RX1) (T := TX1) (v := .ref (g.P 18)) hx hb hts hown (fun _ h9 => iw_X1_difference_X1 _ h9) hW (i := 1) (by decide) rfl rfl 8 (by decide) (hts (.fieldLink RX1 37 "ModEngine$Ring" "right" "[I") (by decide +kernel)) rfl dX1_difference_11 ?_
  refine lv_aload_n hx hb dX1_difference_14 rfl (lv_at hl 3 rfl) ?_
  refine q_v (q_runV (As := [.ref (g.P 18), .ref (g.P r)]) (rest := []) (i := 1) S hW (by decide) rfl rfl (r_residue l g hg (σ.setF F1) (rowk (by decide)) hrr (by omega) (by omega) p1) gX1_difference_X1_residue rfl (nA := 2) ⟨rfl, by decide +kernel, ⟨by decide, by decide⟩⟩ rfl hl.1 rfl (Nat.le_of_ble_eq_true rfl) dX1_difference_15 ⟨Nat.zero_le _, Nat.zero_le _⟩) hW Ad_hi (fun σ2 H locs hp hW => ?_)
  obtain ⟨F2, e2, hf2, hv2⟩ : ∃ F', σ2 = σ.setF F' ∧ Fr F1 F' [16, 18] ∧ qV g F' 18 = qV g F1 r % qV g F1 12 := hp
  rw [e2] at hW
  obtain ⟨p2, m2⟩ := p1.keep hf2 (ge16 (by omega))
  rw [m1] at m2
  rw [hf1.V (by simp; omega), m1] at hv2
  have hv3 : qV g F2 17 = qV g σ.F j % qV g σ.F 12 := (hf2.V (by decide)).trans hv1
  have hb1 : qV g F2 17 < qV g F2 12 := by rw [hv3, m2]; exact Nat.mod_lt _ p0.pos
  have hb2 : qV g F2 18 < qV g F2 12 := by rw [hv2, m2]; exact Nat.mod_lt _ p0.pos
  refine lv_aload_n hx hb dX1_difference_18 rfl (lv_at hl 0 rfl) ?_
  refine lv_aload_n hx hb dX1_difference_19 rfl (lv_at hl 1 rfl) ?_
  refine lv_aload_n hx hb dX1_difference_20 rfl (lv_at hl 0 rfl) ?_
  refine q_get (C := RX1) (T := TX1) (v := .ref (g.P 17)) hx hb hts hown (fun _ h9 => iw_X1_difference_X1 _ h9) hW (i := 1) (by decide) rfl rfl 7 (by decide) (hts (.fieldLink RX1 34 "ModEngine$Ring" "left" "[I") (by decide +kernel)) rfl dX1_difference_21 ?_
  refine lv_aload_n hx hb dX1_difference_24 rfl (lv_at hl 0 rfl) ?_
  refine q_get (C := RX1) (T := TX1) (v := .ref (g.P 18)) hx hb hts hown (fun _ h9 => iw_X1_difference_X1 _ h9) hW (i := 1) (by decide) rfl rfl 8 (by decide) (hts (.fieldLink RX1 37 "ModEngine$Ring" "right" "[I") (by decide +kernel)) rfl dX1_difference_25 ?_
  refine q_v (q_runV (As := [.ref (g.P i), .ref (g.P 17), .ref (g.P 18)]) (rest := []) (i := 1) S hW (by decide) rfl rfl (r_subtractBelow l g hg (σ.setF F2) hi (rowk (by decide)) (rowk (by decide)) (by omega) (Nat.le_trans (Nat.le_of_lt hb2) (Nat.le_add_left _ _))) gX1_difference_X1_subtractBelow rfl (nA := 3) ⟨rfl, by decide +kernel, ⟨by decide, by decide⟩⟩ rfl hl.1 rfl (Nat.le_of_ble_eq_true rfl) dX1_difference_28 ⟨Nat.zero_le _, Nat.zero_le _⟩) hW Ad_hi (fun σ3 H locs hp hW => ?_)
  obtain ⟨F3, e3, hf3, hv4⟩ : ∃ F', σ3 = σ.setF F' ∧ Fr F2 F' [i] ∧ qV g F' i = if qV g F2 18 ≤ qV g F2 17 then qV g F2 17 - qV g F2 18 else qV g F2 17 + qV g F2 12 - qV g F2 18 := hp
  rw [e3] at hW
  rw [hv3, hv2, m2] at hv4
  exact fin _ _ _ _ _ hW (⟨F3, rfl, fun a ha => by
      simp only [List.mem_cons, List.not_mem_nil, or_false, not_or] at ha
      rw [hf3 a (by simp; omega), hf2 a (by simp; omega), hf1 a (by simp; omega)], hv4⟩) dX1_difference_31
set_option maxHeartbeats 4000000 in
set_option maxRecDepth 100000 in
/-- Ring.product(into, a, b) -/
theorem r_product (l : Launch) (g : qCfg) (hg : g.ok) (σ : qSt) {i j r : Nat} (hi : 12 ≤ i ∧ i < g.N)(hj : 12 ≤ j ∧ j < g.N)(hrr : 12 ≤ r ∧ r < g.N) (hi17 : 17 ≤ i) (hj17 : 17 ≤ j) (hr18 : 18 ≤ r) (p0 : Pp g σ.F σ.mi)  : qCV l g yX1_product wsX1_product 3 75 [.ref (g.P 1), .ref (g.P i), .ref (g.P j), .ref (g.P r)] σ (fun σ' => ∃ F', σ' = σ.setF F' ∧ Fr σ.F F' [16, 17, i] ∧ qV g F' i = qV g σ.F j * qV g σ.F r % qV g σ.F 12) := by
  refine q_sV (cc := cX1_product) (maxL := 4) (by decide) rfl (Nat.le_of_ble_eq_true rfl) ?_
  intro p e s m args below meth c ls Q S hW hl fin
  obtain ⟨hx, hb, hml, hown, hts, hr, hlocks⟩ := id S
  obtain ⟨hk1, hk8, hn1, hn8⟩ := id hg
  have hl : lv_has ls 4 [(0, .ref (g.P 1)), (1, .ref (g.P i)), (2, .ref (g.P j)), (3, .ref (g.P r))] := hl
  refine lv_aload_n hx hb dX1_product_0 rfl (lv_at hl 0 rfl) ?_
  refine lv_aload_n hx hb dX1_product_1 rfl (lv_at hl 0 rfl) ?_
  refine q_get (C := RX1) (T := TX1) (v := .ref (g.P 17)) hx hb hts hown (fun _ h9 => iw_X1_product_X1 _ h9) hW (i := 1) (by decide) rfl rfl 7 (by decide) (hts (.fieldLink RX1 34 "ModEngine$Ring" "left" "[I") (by decide +kernel)) rfl dX1_product_2 ?_
  refine lv_aload_n hx hb dX1_product_5 rfl (lv_at hl 2 rfl) ?_
  refine lv_aload_n hx hb dX1_product_6 rfl (lv_at hl 0 rfl) ?_
  refine q_get (C := RX1) (T := TX1) (v := .ref (g.P 15)) hx hb hts hown (fun _ h9 => iw_X1_product_X1 _ h9) hW (i := 1) (by decide) rfl rfl 5 (by decide) (hts (.fieldLink RX1 28 "ModEngine$Ring" "rSquared" "[I") (by decide +kernel)) rfl dX1_product_7 ?_
  refine q_v (q_runV (As := [.ref (g.P 17), .ref (g.P j), .ref (g.P 15)]) (rest := []) (i := 1) S hW (by decide) rfl rfl (r_montgomery l g hg σ (rowk (by decide)) hj (rowk (by decide)) (by omega) (by omega) (by omega) (by omega) p0.pos p0.2.2.2.2.2 (mlt_r p0.lt15)) gX1_product_X1_montgomery rfl (nA := 3) ⟨rfl, by decide +kernel, ⟨by decide, by decide⟩⟩ rfl hl.1 rfl (Nat.le_of_ble_eq_true rfl) dX1_product_10 ⟨Nat.zero_le _, Nat.zero_le _⟩) hW Ad_hi (fun σ1 H locs hp hW => ?_)
  obtain ⟨F1, e1, hf1, hl1, hv1⟩ : ∃ F', σ1 = σ.setF F' ∧ Fr σ.F F' [16, 17] ∧ qV g F' 17 < qV g σ.F 12 ∧ qV g F' 17 * 2 ^ (32 * g.k) % qV g σ.F 12 = qV g σ.F j * qV g σ.F 15 % qV g σ.F 12 := hp
  rw [e1] at hW
  obtain ⟨p1, m1⟩ := p0.keep hf1 (ge16 (by omega))
  refine lv_aload_n hx hb dX1_product_13 rfl (lv_at hl 0 rfl) ?_
  refine lv_aload_n hx hb dX1_product_14 rfl (lv_at hl 1 rfl) ?_
  refine lv_aload_n hx hb dX1_product_15 rfl (lv_at hl 0 rfl) ?_
  refine q_get (C := RX1) (T := TX1) (v := .ref (g.P 17)) hx hb hts hown (fun _ h9 => iw_X1_product_X1 _ h9) hW (i := 1) (by decide) rfl rfl 7 (by decide) (hts (.fieldLink RX1 34 "ModEngine$Ring" "left" "[I") (by decide +kernel)) rfl dX1_product_16 ?_
  refine lv_aload_n hx hb dX1_product_19 rfl (lv_at hl 3 rfl) ?_
  refine q_v (q_runV (As := [.ref (g.P i), .ref (g.P 17), .ref (g.P r)]) (rest := []) (i := 1) S hW (by decide) rfl rfl (r_montgomery l g hg (σ.setF F1) hi (rowk (by decide)) hrr (by omega) (by omega) (by omega) (by omega) p1.pos p1.2.2.2.2.2 (mlt_l (by show qV g F1 17 < qV g F1 12; rw [m1]; exact hl1))) gX1_product_X1_montgomery rfl (nA := 3) ⟨rfl, by decide +kernel, ⟨by decide, by decide⟩⟩ rfl hl.1 rfl (Nat.le_of_ble_eq_true rfl) dX1_product_20 ⟨Nat.zero_le _, Nat.zero_le _⟩) hW Ad_hi (fun σ2 H locs hp hW => ?_)
  obtain ⟨F2, e2, hf2, hl2, hv2⟩ : ∃ F', σ2 = σ.setF F' ∧ Fr F1 F' [16, i] ∧ qV g F' i < qV g F1 12 ∧ qV g F' i * 2 ^ (32 * g.k) % qV g F1 12 = qV g F1 17 * qV g F1 r % qV g F1 12 := hp
  rw [e2] at hW
  obtain ⟨p2, m2⟩ := p1.keep hf2 (ge16 (by omega))
  rw [m1] at m2
  have h1 := mf_to p0.1 p0.2.2.2.2.1 hv1
  rw [m1, hf1.V (show r ∉ [16, 17] by simp; omega)] at hv2
  have h2 := mf_mul1 p0.1 hv2 h1
  rw [m1] at hl2
  rw [Nat.mod_eq_of_lt hl2] at h2
  exact fin _ _ _ _ _ hW (⟨F2, rfl, fun a ha => by
      simp only [List.mem_cons, List.not_mem_nil, or_false, not_or] at ha
      rw [hf2 a (by simp; omega), hf1 a (by simp; omega)], h2⟩) dX1_product_23
set_option maxHeartbeats 4000000 in
set_option maxRecDepth 100000 in
/-- Ring.productByR(into, a, b) -/
theorem r_productByR (l : Launch) (g : qCfg) (hg : g.ok) (σ : qSt) {i j r : Nat} (hi : 12 ≤ i ∧ i < g.N)(hj : 12 ≤ j ∧ j < g.N)(hrr : 12 ≤ r ∧ r < g.N) (hi17 : 17 ≤ i) (hj17 : 17 ≤ j) (hr18 : 18 ≤ r) (p0 : Pp g σ.F σ.mi)  : qCV l g yX1_productByR wsX1_productByR 4 98 [.ref (g.P 1), .ref (g.P i), .ref (g.P j), .ref (g.P r)] σ (fun σ' => ∃ F', σ' = σ.setF F' ∧ Fr σ.F F' [16, 17, i] ∧ qV g F' i < qV g σ.F 12 ∧ qV g F' i * 2 ^ (32 * g.k) % qV g σ.F 12 = qV g σ.F j * qV g σ.F r % qV g σ.F 12) := by
  refine q_sV (cc := cX1_productByR) (maxL := 4) (by decide) rfl (Nat.le_of_ble_eq_true rfl) ?_
  intro p e s m args below meth c ls Q S hW hl fin
  obtain ⟨hx, hb, hml, hown, hts, hr, hlocks⟩ := id S
  obtain ⟨hk1, hk8, hn1, hn8⟩ := id hg
  have hl : lv_has ls 4 [(0, .ref (g.P 1)), (1, .ref (g.P i)), (2, .ref (g.P j)), (3, .ref (g.P r))] := hl
  refine lv_aload_n hx hb dX1_productByR_0 rfl (lv_at hl 0 rfl) ?_
  refine lv_aload_n hx hb dX1_productByR_1 rfl (lv_at hl 0 rfl) ?_
  refine q_get (C := RX1) (T := TX1) (v := .ref (g.P 17)) hx hb hts hown (fun _ h9 => iw_X1_productByR_X1 _ h9) hW (i := 1) (by decide) rfl rfl 7 (by decide) (hts (.fieldLink RX1 34 "ModEngine$Ring" "left" "[I") (by decide +kernel)) rfl dX1_productByR_2 ?_
  refine lv_aload_n hx hb dX1_productByR_5 rfl (lv_at hl 2 rfl) ?_
  refine lv_aload_n hx hb dX1_productByR_6 rfl (lv_at hl 3 rfl) ?_
  refine q_v (q_runV (As := [.ref (g.P 17), .ref (g.P j), .ref (g.P r)]) (rest := []) (i := 1) S hW (by decide) rfl rfl (r_product l g hg σ (rowk (by decide)) hj hrr (by omega) hj17 hr18 p0) gX1_productByR_X1_product rfl (nA := 3) ⟨rfl, by decide +kernel, ⟨by decide, by decide⟩⟩ rfl hl.1 rfl (Nat.le_of_ble_eq_true rfl) dX1_productByR_7 ⟨Nat.zero_le _, Nat.zero_le _⟩) hW Ad_hi (fun σ1 H locs hp hW => ?_)
  obtain ⟨F1, e1, hf1, hv1⟩ : ∃ F', σ1 = σ.setF F' ∧ Fr σ.F F' [16, 17, 17] ∧ qV g F' 17 = qV g σ.F j * qV g σ.F r % qV g σ.F 12 := hp
  rw [e1] at hW
  obtain ⟨p1, m1⟩ := p0.keep hf1 (by decide)
  refine lv_aload_n hx hb dX1_productByR_10 rfl (lv_at hl 0 rfl) ?_
  refine lv_aload_n hx hb dX1_productByR_11 rfl (lv_at hl 1 rfl) ?_
  refine lv_aload_n hx hb dX1_productByR_12 rfl (lv_at hl 0 rfl) ?_
  refine q_get (C := RX1) (T := TX1) (v := .ref (g.P 17)) hx hb hts hown (fun _ h9 => iw_X1_productByR_X1 _ h9) hW (i := 1) (by decide) rfl rfl 7 (by decide) (hts (.fieldLink RX1 34 "ModEngine$Ring" "left" "[I") (by decide +kernel)) rfl dX1_productByR_13 ?_
  refine lv_aload_n hx hb dX1_productByR_16 rfl (lv_at hl 0 rfl) ?_
  refine q_get (C := RX1) (T := TX1) (v := .ref (g.P 13)) hx hb hts hown (fun _ h9 => iw_X1_productByR_X1 _ h9) hW (i := 1) (by decide) rfl rfl 3 (by decide) (hts (.fieldLink RX1 22 "ModEngine$Ring" "one" "[I") (by decide +kernel)) rfl dX1_productByR_17 ?_
  refine q_v (q_runV (As := [.ref (g.P i), .ref (g.P 17), .ref (g.P 13)]) (rest := []) (i := 1) S hW (by decide) rfl rfl (r_montgomery l g hg (σ.setF F1) hi (rowk (by decide)) (rowk (by decide)) (by omega) (by omega) (by omega) (by omega) p1.pos p1.2.2.2.2.2 (mlt_r p1.lt13)) gX1_productByR_X1_montgomery rfl (nA := 3) ⟨rfl, by decide +kernel, ⟨by decide, by decide⟩⟩ rfl hl.1 rfl (Nat.le_of_ble_eq_true rfl) dX1_productByR_20 ⟨Nat.zero_le _, Nat.zero_le _⟩) hW Ad_hi (fun σ2 H locs hp hW => ?_)
  obtain ⟨F2, e2, hf2, hl2, hv2⟩ : ∃ F', σ2 = σ.setF F' ∧ Fr F1 F' [16, i] ∧ qV g F' i < qV g F1 12 ∧ qV g F' i * 2 ^ (32 * g.k) % qV g F1 12 = qV g F1 17 * qV g F1 13 % qV g F1 12 := hp
  rw [e2] at hW
  obtain ⟨p2, m2⟩ := p1.keep hf2 (ge16 (by omega))
  rw [m1] at m2
  rw [m1, p1.2.2.1, Nat.mul_one, hv1, Nat.mod_mod] at hv2
  rw [m1] at hl2
  exact fin _ _ _ _ _ hW (⟨F2, rfl, fun a ha => by
      simp only [List.mem_cons, List.not_mem_nil, or_false, not_or] at ha
      rw [hf2 a (by simp; omega), hf1 a (by simp; omega)], hl2, hv2⟩) dX1_productByR_23
set_option maxHeartbeats 4000000 in
set_option maxRecDepth 100000 in
/-- Ring.raise(into, base, exponent, lowest), in Montgomery's form -/
theorem r_raise (l : Launch) (g : qCfg) (hg : g.ok) (σ : qSt) {i b x : Nat} (hi : 12 ≤ i ∧ i < g.N)(hb : 12 ≤ b ∧ b < g.N)(hxx : 12 ≤ x ∧ x < g.N) (hi17 : 17 ≤ i) (hb17 : 17 ≤ b) (hib : i ≠ b) (hix : i ≠ x) (hx16 : x ≠ 16) (p0 : Pp g σ.F σ.mi) (u c0 : Nat) (hu : u < 2 ^ 30) (hbm : qV g σ.F b < qV g σ.F 12) (hb0 : qV g σ.F b % qV g σ.F 12 = c0 * 2 ^ (32 * g.k) % qV g σ.F 12) : qCV l g yX1_raise wsX1_raise 3 75 [.ref (g.P 1), .ref (g.P i), .ref (g.P b), .ref (g.P x), .int (nI u)] σ (fun σ' => ∃ F', σ' = σ.setF F' ∧ Fr σ.F F' [16, i] ∧ qV g F' i < qV g σ.F 12 ∧ qV g F' i % qV g σ.F 12 = c0 ^ (qV g σ.F x / 2 ^ u) * 2 ^ (32 * g.k) % qV g σ.F 12) := by
  refine q_sV (cc := cX1_raise) (maxL := 6) (by decide) rfl (Nat.le_of_ble_eq_true rfl) ?_
  intro p e s m args below meth c ls Q S hW hl fin
  obtain ⟨hx, hbc, hml, hown, hts, hr, hlocks⟩ := id S
  obtain ⟨hk1, hk8, hn1, hn8⟩ := id hg
  have hl : lv_has ls 6 [(0, .ref (g.P 1)), (1, .ref (g.P i)), (2, .ref (g.P b)), (3, .ref (g.P x)), (4, .int (nI u))] := hl
  have loop : ∀ (y : Nat) (F : Nat → Nat → Int32), y ≤ 32 * g.k → Fr σ.F F [16, i] → qV g F i < qV g σ.F 12 → (u ≤ y ∨ qV g σ.F x < 2 ^ y) → qV g F i % qV g σ.F 12 = c0 ^ (qV g σ.F x / 2 ^ y) * 2 ^ (32 * g.k) % qV g σ.F 12 → ∀ (H : Heap) (locs : List Loc) (ls : Array Slot), Wo g (Ad g s.heap.size) s H locs (σ.setF F) → lv_has ls 6 [(5, .int (nI y - 1)), (0, .ref (g.P 1)), (1, .ref (g.P i)), (2, .ref (g.P b)), (3, .ref (g.P x)), (4, .int (nI u))] → W p l e (rmm 3 75) s m args below meth c H locs 0 0 Q (F0 m 22 ls []) := by
    intro y
    induction y with
    | zero =>
      intro F hy hf hl0 hyx hv H locs ls hW hl
      refine lv_iload hx hbc dX1_raise_22 (lv_at hl 0 rfl) ?_
      refine lv_iload hx hbc dX1_raise_24 (lv_at hl 5 rfl) ?_
      refine lv_icmp_lt (tgt := 58) hx hbc dX1_raise_26 (by decide) (fun _ => ?_) (fun c9 => absurd (neg_lt_nI (by omega)) c9)
      have he : qV g σ.F x / 2 ^ u = qV g σ.F x / 2 ^ 0 := by
        rcases hyx with q | q
        · rw [show u = 0 by omega]
        · have : qV g σ.F x = 0 := by omega
          rw [this, Nat.zero_div, Nat.zero_div]
      exact fin _ _ _ _ _ hW (⟨F, rfl, hf, hl0, by rw [he]; exact hv⟩) dX1_raise_58
    | succ y ih =>
      intro F hy hf hl0 hyx hv H locs ls hW hl
      rw [nI_pred] at hl
      obtain ⟨pF, mF⟩ := p0.keep hf (ge16 hi17)
      refine lv_iload hx hbc dX1_raise_22 (lv_at hl 0 rfl) ?_
      refine lv_iload hx hbc dX1_raise_24 (lv_at hl 5 rfl) ?_
      refine lv_icmp_lt (tgt := 58) hx hbc dX1_raise_26 (by decide) (fun c9 => ?_) (fun c9 => ?_)
      · have hyu : y < u := (nI_ltI (by omega) (by omega)).mp c9
        have he : qV g σ.F x / 2 ^ u = qV g σ.F x / 2 ^ (y + 1) := by
          rcases hyx with q | q
          · rw [show u = y + 1 by omega]
          · rw [Nat.div_eq_of_lt q, Nat.div_eq_of_lt (Nat.lt_of_lt_of_le q (Nat.pow_le_pow_right (by decide) hyu))]
        exact fin _ _ _ _ _ hW (⟨F, rfl, hf, hl0, by rw [he]; exact hv⟩) dX1_raise_58
      · have hyu : u ≤ y := Nat.not_lt.mp (fun q => c9 (nI_lt q (by omega)))
        refine lv_aload_n hx hbc dX1_raise_29 rfl (lv_at hl 1 rfl) ?_
        refine lv_aload_n hx hbc dX1_raise_30 rfl (lv_at hl 2 rfl) ?_
        refine lv_aload_n hx hbc dX1_raise_31 rfl (lv_at hl 2 rfl) ?_
        refine lv_aload_n hx hbc dX1_raise_32 rfl (lv_at hl 2 rfl) ?_
        refine q_v (q_runV (As := [.ref (g.P i), .ref (g.P i), .ref (g.P i)]) (rest := []) (i := 1) S hW (by decide) rfl rfl (r_montgomery l g hg (σ.setF F) hi hi hi (by omega) (by omega) (by omega) (by omega) pF.pos pF.2.2.2.2.2 (mlt_l (by show qV g F i < qV g F 12; rw [mF]; exact hl0))) gX1_raise_X1_montgomery rfl (nA := 3) ⟨rfl, by decide +kernel, ⟨by decide, by decide⟩⟩ rfl hl.1 rfl (Nat.le_of_ble_eq_true rfl) dX1_raise_33 ⟨Nat.zero_le _, Nat.zero_le _⟩) hW Ad_hi (fun σ1 H locs hp hW => ?_)
        obtain ⟨F1, e1, hf1, hl1, hv1⟩ : ∃ F', σ1 = σ.setF F' ∧ Fr F F' [16, i] ∧ qV g F' i < qV g F 12 ∧ qV g F' i * 2 ^ (32 * g.k) % qV g F 12 = qV g F i * qV g F i % qV g F 12 := hp
        rw [e1] at hW
        obtain ⟨p1, m1⟩ := pF.keep hf1 (ge16 (by omega))
        rw [mF] at m1
        rw [mF] at hv1 hl1
        have h1 := mf_mul p0.1 hv1 hv hv
        have hf1a : Fr σ.F F1 [16, i] := fun a ha => by rw [hf1 a ha, hf a ha]
        refine lv_aload_n hx hbc dX1_raise_36 rfl (lv_at hl 4 rfl) ?_
        refine lv_iload hx hbc dX1_raise_37 (lv_at hl 0 rfl) ?_
        refine q_i (q_runS (As := [.ref (g.P x), .int (nI y)]) (rest := []) S hW (k_isBitSet l g hg (σ.setF F1) hxx (b := y) (by omega)) gX1_raise_X0_isBitSet (nA := 2) ⟨rfl, by decide +kernel, ⟨by decide, by decide⟩⟩ rfl hl.1 rfl (Nat.le_of_ble_eq_true rfl) dX1_raise_39 ⟨Nat.zero_le _, Nat.zero_le _⟩) hW Ad_hi (fun r_39 σ2 H locs hp hW => ?_)
        obtain ⟨e2, er2⟩ : σ2 = σ.setF F1 ∧ r_39 = if (qV g F1 x).testBit y = true then 1 else 0 := hp
        rw [e2] at hW
        rw [hf1a.V (show x ∉ [16, i] by simp; omega)] at er2
        refine lv_if_eq (tgt := 52) hx hbc dX1_raise_42 (by decide) (fun c8 => ?_) (fun c8 => ?_)
        · have hbit := (fa_boolp er2).1.mp c8
          refine lv_iinc (v := nI y - 1) (lv' := [(5, .int (nI y - 1)), (0, .ref (g.P 1)), (1, .ref (g.P i)), (2, .ref (g.P b)), (3, .ref (g.P x)), (4, .int (nI u))]) hx hbc dX1_raise_52 hl (k := 0) rfl (by rw [Int32.sub_eq_add_neg]; rfl) (by decide) rfl (fun ls hl => ?_)
          refine lv_goto (tgt := 22) hx hbc dX1_raise_55 (by decide) ?_
          exact ih F1 (by omega) hf1a hl1 (Or.inl hyu) (pw_step h1 hbit) H locs ls hW (lv_sub hl [0, 1, 2, 3, 4, 5] rfl)
        · have hbit := (fa_boolp er2).2.mp c8
          refine lv_aload_n hx hbc dX1_raise_45 rfl (lv_at hl 1 rfl) ?_
          refine lv_aload_n hx hbc dX1_raise_46 rfl (lv_at hl 2 rfl) ?_
          refine lv_aload_n hx hbc dX1_raise_47 rfl (lv_at hl 2 rfl) ?_
          refine lv_aload_n hx hbc dX1_raise_48 rfl (lv_at hl 3 rfl) ?_
          refine q_v (q_runV (As := [.ref (g.P i), .ref (g.P i), .ref (g.P b)]) (rest := []) (i := 1) S hW (by decide) rfl rfl (r_montgomery l g hg (σ.setF F1) hi hi hb (by omega) (by omega) (by omega) (by omega) p1.pos p1.2.2.2.2.2 (mlt_l (by show qV g F1 i < qV g F1 12; rw [m1]; exact hl1))) gX1_raise_X1_montgomery rfl (nA := 3) ⟨rfl, by decide +kernel, ⟨by decide, by decide⟩⟩ rfl hl.1 rfl (Nat.le_of_ble_eq_true rfl) dX1_raise_49 ⟨Nat.zero_le _, Nat.zero_le _⟩) hW Ad_hi (fun σ3 H locs hp hW => ?_)
          obtain ⟨F3, e3, hf3, hl3, hv3⟩ : ∃ F', σ3 = σ.setF F' ∧ Fr F1 F' [16, i] ∧ qV g F' i < qV g F1 12 ∧ qV g F' i * 2 ^ (32 * g.k) % qV g F1 12 = qV g F1 i * qV g F1 b % qV g F1 12 := hp
          rw [e3] at hW
          obtain ⟨p3, m3⟩ := p1.keep hf3 (ge16 (by omega))
          rw [m1] at m3
          rw [m1, hf1a.V (show b ∉ [16, i] by simp; omega)] at hv3
          rw [m1] at hl3
          have h2 := mf_mul p0.1 hv3 h1 hb0
          refine lv_iinc (v := nI y - 1) (lv' := [(5, .int (nI y - 1)), (0, .ref (g.P 1)), (1, .ref (g.P i)), (2, .ref (g.P b)), (3, .ref (g.P x)), (4, .int (nI u))]) hx hbc dX1_raise_52 hl (k := 0) rfl (by rw [Int32.sub_eq_add_neg]; rfl) (by decide) rfl (fun ls hl => ?_)
          refine lv_goto (tgt := 22) hx hbc dX1_raise_55 (by decide) ?_
          exact ih F3 (by omega) (fun a ha => by rw [hf3 a ha, hf1a a ha]) hl3 (Or.inl hyu) (pw_step1 h2 hbit) H locs ls hW (lv_sub hl [0, 1, 2, 3, 4, 5] rfl)
  refine lv_aload_n hx hbc dX1_raise_0 rfl (lv_at hl 1 rfl) ?_
  refine lv_aload_n hx hbc dX1_raise_1 rfl (lv_at hl 0 rfl) ?_
  refine q_get (C := RX1) (T := TX1) (v := .ref (g.P 14)) hx hbc hts hown (fun _ h9 => iw_X1_raise_X1 _ h9) hW (i := 1) (by decide) rfl rfl 4 (by decide) (hts (.fieldLink RX1 25 "ModEngine$Ring" "unit" "[I") (by decide +kernel)) rfl dX1_raise_2 ?_
  refine lv_aload_n hx hbc dX1_raise_5 rfl (lv_at hl 0 rfl) ?_
  refine q_get (C := RX1) (T := TX1) (v := .int (nI g.k)) hx hbc hts hown (fun _ h9 => iw_X1_raise_X1 _ h9) hW (i := 1) (by decide) rfl rfl 1 (by decide) (hts (.fieldLink RX1 9 "ModEngine$Ring" "k" "I") (by decide +kernel)) rfl dX1_raise_6 ?_
  refine q_v (q_runS (As := [.ref (g.P i), .ref (g.P 14), .int (nI g.k)]) (rest := []) S hW (k_copy l g hg σ hi (rowk (by decide))) gX1_raise_X0_copy (nA := 3) ⟨rfl, by decide +kernel, ⟨by decide, by decide⟩⟩ rfl hl.1 rfl (Nat.le_of_ble_eq_true rfl) dX1_raise_9 ⟨Nat.zero_le _, Nat.zero_le _⟩) hW Ad_hi (fun σ1 H locs hp hW => ?_)
  obtain ⟨F1, e1, hf1, hv1⟩ : ∃ F', σ1 = σ.setF F' ∧ Fr σ.F F' [i] ∧ qV g F' i = qV g σ.F 14 := hp
  rw [e1] at hW
  refine lv_aload_n hx hbc dX1_raise_12 rfl (lv_at hl 3 rfl) ?_
  refine lv_aload_n hx hbc dX1_raise_13 rfl (lv_at hl 0 rfl) ?_
  refine q_get (C := RX1) (T := TX1) (v := .int (nI g.k)) hx hbc hts hown (fun _ h9 => iw_X1_raise_X1 _ h9) hW (i := 1) (by decide) rfl rfl 1 (by decide) (hts (.fieldLink RX1 9 "ModEngine$Ring" "k" "I") (by decide +kernel)) rfl dX1_raise_14 ?_
  refine q_i (q_runS (As := [.ref (g.P x), .int (nI g.k)]) (rest := []) S hW (k_highestBit l g hg (σ.setF F1) hxx) gX1_raise_X0_highestBit (nA := 2) ⟨rfl, by decide +kernel, ⟨by decide, by decide⟩⟩ rfl hl.1 rfl (Nat.le_of_ble_eq_true rfl) dX1_raise_17 ⟨Nat.zero_le _, Nat.zero_le _⟩) hW Ad_hi (fun r_17 σ2 H locs hp hW => ?_)
  obtain ⟨e2, er2⟩ : σ2 = σ.setF F1 ∧ ∃ xh, xh ≤ 32 * g.k ∧ r_17 = nI xh - 1 ∧ qV g F1 x < 2 ^ xh := hp
  rw [e2] at hW
  obtain ⟨y, hy, ery, hlt⟩ := er2
  rw [hf1.V (show x ∉ [i] by simp; omega)] at hlt
  refine q_ti (y := nI y - 1) ery ?_
  refine lv_istore (lv' := [(5, .int (nI y - 1)), (0, .ref (g.P 1)), (1, .ref (g.P i)), (2, .ref (g.P b)), (3, .ref (g.P x)), (4, .int (nI u))]) hx hbc dX1_raise_20 hl (by decide) rfl (fun ls hl => ?_)
  have hf1a : Fr σ.F F1 [16, i] := fun a ha => hf1 a (by simp at ha; simp; exact ha.2)
  refine loop y F1 hy hf1a (by rw [hv1]; exact p0.lt14) (Or.inr hlt) ?_ _ _ ls hW (lv_sub hl [0, 1, 2, 3, 4, 5] rfl)
  rw [hv1, p0.2.2.2.1, Nat.mod_mod, Nat.div_eq_of_lt hlt, Nat.pow_zero, Nat.one_mul]
set_option maxHeartbeats 4000000 in
set_option maxRecDepth 100000 in
/-- Ring.power(into, a, exponent) -/
theorem r_power (l : Launch) (g : qCfg) (hg : g.ok) (σ : qSt) {i j r : Nat} (hi : 12 ≤ i ∧ i < g.N)(hj : 12 ≤ j ∧ j < g.N)(hrr : 12 ≤ r ∧ r < g.N) (hi21 : 21 ≤ i) (hj21 : 21 ≤ j) (hr21 : 21 ≤ r) (p0 : Pp g σ.F σ.mi)  : qCV l g yX1_power wsX1_power 4 100 [.ref (g.P 1), .ref (g.P i), .ref (g.P j), .ref (g.P r)] σ (fun σ' => ∃ F', σ' = σ.setF F' ∧ Fr σ.F F' [16, 17, 18, i] ∧ qV g F' i = qV g σ.F j ^ qV g σ.F r % qV g σ.F 12) := by
  refine q_sV (cc := cX1_power) (maxL := 4) (by decide) rfl (Nat.le_of_ble_eq_true rfl) ?_
  intro p e s m args below meth c ls Q S hW hl fin
  obtain ⟨hx, hb, hml, hown, hts, hr, hlocks⟩ := id S
  obtain ⟨hk1, hk8, hn1, hn8⟩ := id hg
  have hl : lv_has ls 4 [(0, .ref (g.P 1)), (1, .ref (g.P i)), (2, .ref (g.P j)), (3, .ref (g.P r))] := hl
  refine lv_aload_n hx hb dX1_power_0 rfl (lv_at hl 0 rfl) ?_
  refine lv_aload_n hx hb dX1_power_1 rfl (lv_at hl 0 rfl) ?_
  refine q_get (C := RX1) (T := TX1) (v := .ref (g.P 17)) hx hb hts hown (fun _ h9 => iw_X1_power_X1 _ h9) hW (i := 1) (by decide) rfl rfl 7 (by decide) (hts (.fieldLink RX1 34 "ModEngine$Ring" "left" "[I") (by decide +kernel)) rfl dX1_power_2 ?_
  refine lv_aload_n hx hb dX1_power_5 rfl (lv_at hl 2 rfl) ?_
  refine lv_aload_n hx hb dX1_power_6 rfl (lv_at hl 0 rfl) ?_
  refine q_get (C := RX1) (T := TX1) (v := .ref (g.P 15)) hx hb hts hown (fun _ h9 => iw_X1_power_X1 _ h9) hW (i := 1) (by decide) rfl rfl 5 (by decide) (hts (.fieldLink RX1 28 "ModEngine$Ring" "rSquared" "[I") (by decide +kernel)) rfl dX1_power_7 ?_
  refine q_v (q_runV (As := [.ref (g.P 17), .ref (g.P j), .ref (g.P 15)]) (rest := []) (i := 1) S hW (by decide) rfl rfl (r_montgomery l g hg σ (rowk (by decide)) hj (rowk (by decide)) (by omega) (by omega) (by omega) (by omega) p0.pos p0.2.2.2.2.2 (mlt_r p0.lt15)) gX1_power_X1_montgomery rfl (nA := 3) ⟨rfl, by decide +kernel, ⟨by decide, by decide⟩⟩ rfl hl.1 rfl (Nat.le_of_ble_eq_true rfl) dX1_power_10 ⟨Nat.zero_le _, Nat.zero_le _⟩) hW Ad_hi (fun σ1 H locs hp hW => ?_)
  obtain ⟨F1, e1, hf1, hl1, hv1⟩ : ∃ F', σ1 = σ.setF F' ∧ Fr σ.F F' [16, 17] ∧ qV g F' 17 < qV g σ.F 12 ∧ qV g F' 17 * 2 ^ (32 * g.k) % qV g σ.F 12 = qV g σ.F j * qV g σ.F 15 % qV g σ.F 12 := hp
  rw [e1] at hW
  obtain ⟨p1, m1⟩ := p0.keep hf1 (ge16 (by omega))
  have h1 := mf_to p0.1 p0.2.2.2.2.1 hv1
  refine lv_aload_n hx hb dX1_power_13 rfl (lv_at hl 0 rfl) ?_
  refine lv_aload_n hx hb dX1_power_14 rfl (lv_at hl 0 rfl) ?_
  refine q_get (C := RX1) (T := TX1) (v := .ref (g.P 18)) hx hb hts hown (fun _ h9 => iw_X1_power_X1 _ h9) hW (i := 1) (by decide) rfl rfl 8 (by decide) (hts (.fieldLink RX1 37 "ModEngine$Ring" "right" "[I") (by decide +kernel)) rfl dX1_power_15 ?_
  refine lv_aload_n hx hb dX1_power_18 rfl (lv_at hl 0 rfl) ?_
  refine q_get (C := RX1) (T := TX1) (v := .ref (g.P 17)) hx hb hts hown (fun _ h9 => iw_X1_power_X1 _ h9) hW (i := 1) (by decide) rfl rfl 7 (by decide) (hts (.fieldLink RX1 34 "ModEngine$Ring" "left" "[I") (by decide +kernel)) rfl dX1_power_19 ?_
  refine lv_aload_n hx hb dX1_power_22 rfl (lv_at hl 3 rfl) ?_
  refine lv_iconst (v := 0) hx hb dX1_power_23 (by decide) ?_
  refine q_ti (y := nI 0) rfl ?_
  refine q_v (q_runV (As := [.ref (g.P 18), .ref (g.P 17), .ref (g.P r), .int (nI 0)]) (rest := []) (i := 1) S hW (by decide) rfl rfl (r_raise l g hg (σ.setF F1) (rowk (by decide)) (rowk (by decide)) hrr (by omega) (by omega) (by omega) (by omega) (by omega) p1 0 (qV g σ.F j) (by decide) (by show qV g F1 17 < qV g F1 12; rw [m1]; exact hl1) (by show qV g F1 17 % qV g F1 12 = qV g σ.F j * 2 ^ (32 * g.k) % qV g F1 12; rw [m1]; exact h1)) gX1_power_X1_raise rfl (nA := 4) ⟨rfl, by decide +kernel, ⟨by decide, by decide⟩⟩ rfl hl.1 rfl (Nat.le_of_ble_eq_true rfl) dX1_power_24 ⟨Nat.zero_le _, Nat.zero_le _⟩) hW Ad_hi (fun σ2 H locs hp hW => ?_)
  obtain ⟨F2, e2, hf2, hl2, hv2⟩ : ∃ F', σ2 = σ.setF F' ∧ Fr F1 F' [16, 18] ∧ qV g F' 18 < qV g F1 12 ∧ qV g F' 18 % qV g F1 12 = qV g σ.F j ^ (qV g F1 r / 2 ^ 0) * 2 ^ (32 * g.k) % qV g F1 12 := hp
  rw [e2] at hW
  obtain ⟨p2, m2⟩ := p1.keep hf2 (ge16 (by omega))
  rw [m1] at m2
  rw [m1, Nat.pow_zero, Nat.div_one, hf1.V (show r ∉ [16, 17] by simp; omega)] at hv2
  refine lv_aload_n hx hb dX1_power_27 rfl (lv_at hl 0 rfl) ?_
  refine lv_aload_n hx hb dX1_power_28 rfl (lv_at hl 1 rfl) ?_
  refine lv_aload_n hx hb dX1_power_29 rfl (lv_at hl 0 rfl) ?_
  refine q_get (C := RX1) (T := TX1) (v := .ref (g.P 18)) hx hb hts hown (fun _ h9 => iw_X1_power_X1 _ h9) hW (i := 1) (by decide) rfl rfl 8 (by decide) (hts (.fieldLink RX1 37 "ModEngine$Ring" "right" "[I") (by decide +kernel)) rfl dX1_power_30 ?_
  refine lv_aload_n hx hb dX1_power_33 rfl (lv_at hl 0 rfl) ?_
  refine q_get (C := RX1) (T := TX1) (v := .ref (g.P 13)) hx hb hts hown (fun _ h9 => iw_X1_power_X1 _ h9) hW (i := 1) (by decide) rfl rfl 3 (by decide) (hts (.fieldLink RX1 22 "ModEngine$Ring" "one" "[I") (by decide +kernel)) rfl dX1_power_34 ?_
  refine q_v (q_runV (As := [.ref (g.P i), .ref (g.P 18), .ref (g.P 13)]) (rest := []) (i := 1) S hW (by decide) rfl rfl (r_montgomery l g hg (σ.setF F2) hi (rowk (by decide)) (rowk (by decide)) (by omega) (by omega) (by omega) (by omega) p2.pos p2.2.2.2.2.2 (mlt_r p2.lt13)) gX1_power_X1_montgomery rfl (nA := 3) ⟨rfl, by decide +kernel, ⟨by decide, by decide⟩⟩ rfl hl.1 rfl (Nat.le_of_ble_eq_true rfl) dX1_power_37 ⟨Nat.zero_le _, Nat.zero_le _⟩) hW Ad_hi (fun σ3 H locs hp hW => ?_)
  obtain ⟨F3, e3, hf3, hl3, hv3⟩ : ∃ F', σ3 = σ.setF F' ∧ Fr F2 F' [16, i] ∧ qV g F' i < qV g F2 12 ∧ qV g F' i * 2 ^ (32 * g.k) % qV g F2 12 = qV g F2 18 * qV g F2 13 % qV g F2 12 := hp
  rw [e3] at hW
  obtain ⟨p3, m3⟩ := p2.keep hf3 (ge16 (by omega))
  rw [m2] at m3
  rw [m2, p2.2.2.1] at hv3
  have h3 := mf_from p0.1 hv3 hv2
  rw [m2] at hl3
  rw [Nat.mod_eq_of_lt hl3] at h3
  exact fin _ _ _ _ _ hW (⟨F3, rfl, fun a ha => by
      simp only [List.mem_cons, List.not_mem_nil, or_false, not_or] at ha
      rw [hf3 a (by simp; omega), hf2 a (by simp; omega), hf1 a (by simp; omega)], h3⟩) dX1_power_40
end
section
/-! ===== the binary rule for inverses ===== -/
def hlf (m v : Nat) : Nat := if v % 2 = 1 then (v + m) / 2 else v / 2
def dfm (m x y : Nat) : Nat := if y ≤ x then x - y else x + m - y
theorem hlf_lt {m v : Nat} (h : v < m) : hlf m v < m := by unfold hlf; split <;> omega
theorem hlf_two {m v : Nat} (ho : m % 2 = 1) : 2 * hlf m v % m = v % m := by
  unfold hlf
  split
  · rw [show 2 * ((v + m) / 2) = v + m by omega, Nat.add_mod_right]
  · rw [show 2 * (v / 2) = v by omega]
theorem dfm_lt {m x y : Nat} (h : x < m) : dfm m x y < m := by unfold dfm; split <;> omega
theorem dfm_add {m x y : Nat} (hy : y < m) : (dfm m x y + y) % m = x % m := by
  unfold dfm
  split
  · rw [show x - y + y = x by omega]
  · rw [show x + m - y + y = x + m by omega, Nat.add_mod_right]
theorem add_can {m p q r : Nat} (hm : 0 < m) (h : (p + r) % m = (q + r) % m) : p % m = q % m := by
  have e : ∀ z, (z + r + (m - r % m)) % m = z % m := fun z => by
    have h1 := Nat.mod_lt r hm
    have h2 := Nat.div_add_mod r m
    rw [show z + r + (m - r % m) = z + m * (r / m + 1) by rw [Nat.mul_add]; omega, Nat.add_mul_mod_self_left]
  rw [← e p, ← e q, Nat.add_mod, h, ← Nat.add_mod]
def gInv (m a l r u v : Nat) : Prop := u < m ∧ v < m ∧ u * a % m = l % m ∧ v * a % m = r % m ∧ Nat.gcd l r = Nat.gcd a m
theorem gcd_half {l r : Nat} (hl : l % 2 = 0) (hr : r % 2 = 1) : Nat.gcd (l / 2) r = Nat.gcd l r := by
  have hc : Nat.Coprime 2 r := by
    unfold Nat.Coprime
    have h1 := Nat.gcd_dvd_left 2 r
    have h2 := Nat.gcd_dvd_right 2 r
    have h3 : Nat.gcd 2 r ≤ 2 := Nat.le_of_dvd (by decide) h1
    have h4 : 0 < Nat.gcd 2 r := Nat.gcd_pos_of_pos_left _ (by decide)
    rcases (show Nat.gcd 2 r = 1 ∨ Nat.gcd 2 r = 2 by omega) with q | q
    · exact q
    · rw [q] at h2
      omega
  have e : l = 2 * (l / 2) := by omega
  have h5 := Nat.Coprime.gcd_mul_left_cancel (l / 2) hc
  rw [← e] at h5
  exact h5.symm
theorem gInv_half {m a l r u v : Nat} (ho : m % 2 = 1) (h : gInv m a l r u v) (hl : l % 2 = 0) (hr : r % 2 = 1) : gInv m a (l / 2) r (hlf m u) v := by
  obtain ⟨h1, h2, h3, h4, h5⟩ := h
  refine ⟨hlf_lt h1, h2, ?_, h4, by rw [gcd_half hl hr]; exact h5⟩
  apply cancel2 ho
  rw [← Nat.mul_assoc, mm (hlf_two (v := u) ho) (rfl : a % m = a % m), h3]
  congr 1
  omega
theorem gInv_sub {m a l r u v : Nat} (hm : 0 < m) (h : gInv m a l r u v) (hle : r ≤ l) : gInv m a (l - r) r (dfm m u v) v := by
  obtain ⟨h1, h2, h3, h4, h5⟩ := h
  refine ⟨dfm_lt h1, h2, ?_, h4, by rw [Nat.gcd_sub_self_left hle]; exact h5⟩
  apply add_can (r := r) hm
  rw [show l - r + r = l by omega, ← h3, Nat.add_mod, ← h4, ← Nat.add_mod, ← Nat.add_mul]
  exact mm (dfm_add h2) rfl
theorem gInv_swap {m a l r u v : Nat} (h : gInv m a l r u v) : gInv m a r l v u := ⟨h.2.1, h.1, h.2.2.2.1, h.2.2.1, by rw [Nat.gcd_comm]; exact h.2.2.2.2⟩
/-- what it says at the end -/
theorem gInv_end {m a r u v : Nat} (h : gInv m a 0 r u v) : r = Nat.gcd a m ∧ (r = 1 → v * a % m = 1 % m) := by
  have h5 := h.2.2.2.2
  rw [Nat.gcd_zero_left] at h5
  exact ⟨h5, fun q => by rw [h.2.2.2.1, q]⟩
theorem inv_unique {m a x y : Nat} (hm : 0 < m) (hx : x < m) (hy : y < m) (h1 : x * a % m = 1 % m) (h2 : y * a % m = 1 % m) : x = y := by
  have e : x * a * y % m = y * a * x % m := by congr 1; grind
  rw [mm h1 (rfl : y % m = y % m), mm h2 (rfl : x % m = x % m), Nat.one_mul, Nat.one_mul, Nat.mod_eq_of_lt hx, Nat.mod_eq_of_lt hy] at e
  exact e.symm
/-- the rule's step in the class -/
def gstep (m : Nat) (l r u v : Nat) : Nat × Nat × Nat × Nat := if l % 2 = 1 then (if l < r then (r - l, l, dfm m v u, u) else (l - r, r, dfm m u v, v)) else (l / 2, r, hlf m u, v)
theorem gstep_ok {m a l r u v L : Nat} (ho : m % 2 = 1) (h : gInv m a l r u v) (hr : r % 2 = 1) (hl : 0 < l) (hL : l * r < 2 ^ L) {l' r' u' v' : Nat} (e : (l', r', u', v') = gstep m l r u v) : gInv m a l' r' u' v' ∧ r' % 2 = 1 ∧ ∃ L', l' * r' < 2 ^ L' ∧ 2 * L' + l' % 2 + 1 ≤ 2 * L + l % 2 := by
  have hm : 0 < m := by omega
  unfold gstep at e
  split at e
  · rename_i ho'
    split at e
    · rename_i hlt
      cases e
      refine ⟨gInv_sub hm (gInv_swap h) (Nat.le_of_lt hlt), ho', L, ?_, by omega⟩
      have : (r - l) * l ≤ r * l := Nat.mul_le_mul_right _ (by omega)
      rw [Nat.mul_comm r l] at this
      omega
    · rename_i hlt
      cases e
      refine ⟨gInv_sub hm h (by omega), hr, L, ?_, by omega⟩
      have : (l - r) * r ≤ l * r := Nat.mul_le_mul_right _ (by omega)
      omega
  · rename_i he
    cases e
    refine ⟨gInv_half ho h (by omega) hr, hr, ?_⟩
    have h1 : l * r = 2 * (l / 2 * r) := by
      rw [← Nat.mul_assoc]
      congr 1
      omega
    have h2 : 1 ≤ l / 2 * r := Nat.mul_pos (by omega) (by omega)
    cases L with
    | zero => rw [Nat.pow_zero] at hL; omega
    | succ L => exact ⟨L, by rw [Nat.pow_succ] at hL; omega, by omega⟩
/-! ===== Miller's rule ===== -/
def wit (m s x : Nat) : Prop := ¬ x % m = 0 ∧ ¬ x ^ (m / 2 ^ s) % m = 1 ∧ ∀ i, i < s → ¬ x ^ (m / 2 ^ s * 2 ^ i) % m = m - 1
def twos (m s : Nat) : Prop := 1 ≤ s ∧ m % 2 ^ s = 1 ∧ m / 2 ^ s % 2 = 1
theorem twos_next {m s : Nat} (h : m % 2 ^ s = 1) (h0 : ¬ m.testBit s = true) : m % 2 ^ (s + 1) = 1 := by
  rw [Nat.testBit_eq_decide_div_mod_eq] at h0
  have h1 : m / 2 ^ s % 2 = 0 := by
    have : ¬ m / 2 ^ s % 2 = 1 := fun q => h0 (by simp [q])
    omega
  rw [Nat.mod_pow_succ, h, h1, Nat.mul_zero]
theorem twos_end {m s : Nat} (h : m % 2 ^ s = 1) (h3 : 3 ≤ m) (hb : m < 2 ^ (s + 1)) : m / 2 ^ s % 2 = 1 := by
  have h1 := Nat.div_add_mod m (2 ^ s)
  have h2 : m / 2 ^ s < 2 := Nat.div_lt_of_lt_mul (by rw [← Nat.pow_succ]; exact hb)
  rcases (show m / 2 ^ s = 0 ∨ m / 2 ^ s = 1 by generalize m / 2 ^ s = z at h2; omega) with q | q
  · rw [q, Nat.mul_zero] at h1
    omega
  · rw [q]
theorem twos_one {m : Nat} : ∀ {s s' : Nat}, m % 2 ^ s = 1 → m / 2 ^ s % 2 = 1 → 1 ≤ s → m % 2 ^ s' = 1 → m / 2 ^ s' % 2 = 1 → 1 ≤ s' → s ≤ s' := by
  intro s s' h1 h2 h3 h4 h5 h6
  rcases Nat.lt_or_ge s' s with q | q
  · exfalso
    obtain ⟨d, rfl⟩ : ∃ d, s = s' + 1 + d := ⟨s - s' - 1, by omega⟩
    have e : m % 2 ^ (s' + 1) = 1 := by
      have h7 : m % 2 ^ (s' + 1 + d) % 2 ^ (s' + 1) = m % 2 ^ (s' + 1) := Nat.mod_mod_of_dvd _ ⟨2 ^ d, by rw [← Nat.pow_add]⟩
      rw [← h7, h1, Nat.mod_eq_of_lt (Nat.one_lt_two_pow (by omega))]
    rw [Nat.mod_pow_succ, h4, h5] at e
    have := Nat.pow_pos (n := s') (show 0 < 2 by decide)
    omega
  · exact q
theorem twos_same {m s s' : Nat} (h : twos m s) (h' : twos m s') : s = s' := Nat.le_antisymm (twos_one h.2.1 h.2.2 h.1 h'.2.1 h'.2.2 h'.1) (twos_one h'.2.1 h'.2.2 h'.1 h.2.1 h.2.2 h.1)
theorem R_ne {m J : Nat} (ho : m % 2 = 1) (h3 : 3 ≤ m) : 2 ^ J % m ≠ 0 := fun q => by
  have h1 := cancelP ho J (x := 1) (y := 0) (by rw [Nat.one_mul, Nat.zero_mul, q, Nat.zero_mod])
  rw [Nat.mod_eq_of_lt (by omega), Nat.zero_mod] at h1
  omega
theorem m1R {m R : Nat} (h3 : 3 ≤ m) (hR : R % m ≠ 0) : (m - 1) * R % m = m - R % m := by
  have h1 := Nat.mod_lt R (show 0 < m by omega)
  rw [← Nat.mul_mod_mod]
  obtain ⟨ρ, hρ⟩ : ∃ ρ, R % m = ρ + 1 := ⟨R % m - 1, by omega⟩
  rw [hρ]
  obtain ⟨n, hn⟩ : ∃ n, m = n + 1 := ⟨m - 1, by omega⟩
  rw [show (m - 1) * (ρ + 1) = (m - (ρ + 1)) + m * ρ by
    obtain ⟨d, hd⟩ : ∃ d, m = ρ + 1 + d := ⟨m - (ρ + 1), by omega⟩
    rw [hd, show ρ + 1 + d - 1 = ρ + d by omega, show ρ + 1 + d - (ρ + 1) = d by omega]
    grind, Nat.add_mul_mod_self_left, Nat.mod_eq_of_lt (by omega)]
/-- in Montgomery's form: is it 1, is it m - 1 -/
theorem mf_is {m J V y z : Nat} (ho : m % 2 = 1) (hV : V % m = y * 2 ^ J % m) : V % m = z * 2 ^ J % m ↔ y % m = z % m := ⟨fun h => cancelP ho J (hV.symm.trans h), fun h => by rw [hV]; exact mm h rfl⟩
theorem twos_ex {m : Nat} (ho : m % 2 = 1) (h3 : 3 ≤ m) : ∃ s, twos m s := by
  have key : ∀ n x, 1 ≤ x → m % 2 ^ x = 1 → m < 2 ^ (x + n) → ∃ s, twos m s := by
    intro n
    induction n with
    | zero =>
      intro x h1 h2 h4
      rw [Nat.add_zero] at h4
      rw [Nat.mod_eq_of_lt h4] at h2
      omega
    | succ n ih =>
      intro x h1 h2 h4
      by_cases q : m.testBit x = true
      · refine ⟨x, h1, h2, ?_⟩
        rw [Nat.testBit_eq_decide_div_mod_eq] at q
        simpa using q
      · exact ih (x + 1) (by omega) (twos_next h2 q) (by rw [show x + 1 + n = x + (n + 1) by omega]; exact h4)
  exact key m 1 (by omega) ho (Nat.lt_of_lt_of_le Nat.lt_two_pow_self (Nat.pow_le_pow_right (by decide) (by omega)))
end
section
theorem iw_X1_twosInModulusLessOne_X1 : ∀ w ∈ wsX10, w ∈ wsX1_twosInModulusLessOne := by decide +kernel
theorem iw_X1_stepTowardsDivisor_X1 : ∀ w ∈ wsX10, w ∈ wsX1_stepTowardsDivisor := by decide +kernel
theorem iw_X1_invert_X1 : ∀ w ∈ wsX10, w ∈ wsX1_invert := by decide +kernel
theorem iw_X1_isProvedCompositeBy_X1 : ∀ w ∈ wsX10, w ∈ wsX1_isProvedCompositeBy := by decide +kernel
set_option maxHeartbeats 4000000 in
set_option maxRecDepth 100000 in
/-- Ring.twosInModulusLessOne() -/
theorem r_twos (l : Launch) (g : qCfg) (hg : g.ok) (σ : qSt) (p0 : Pp g σ.F σ.mi)  : qCI l g yX1_twosInModulusLessOne wsX1_twosInModulusLessOne 1 21 [.ref (g.P 1)] σ (fun r σ' => σ' = σ ∧ ∃ u, r = nI u ∧ u < 32 * g.k ∧ twos (qV g σ.F 12) u) := by
  refine q_sI (cc := cX1_twosInModulusLessOne) (maxL := 2) (by decide) rfl (Nat.le_of_ble_eq_true rfl) ?_
  intro p e s m args below meth c ls Q S hW hl fin
  obtain ⟨hx, hb, hml, hown, hts, hr, hlocks⟩ := id S
  obtain ⟨hk1, hk8, hn1, hn8⟩ := id hg
  have hl : lv_has ls 2 [(0, .ref (g.P 1))] := hl
  have loop : ∀ (n x : Nat), x + 1 ≤ 32 * g.k → 32 * g.k ≤ x + n → 1 ≤ x → qV g σ.F 12 % 2 ^ x = 1 → ∀ (H : Heap) (locs : List Loc) (ls : Array Slot), Wo g (Ad g s.heap.size) s H locs σ → lv_has ls 2 [(1, .int (nI x)), (0, .ref (g.P 1))] → W p l e (rmm 1 21) s m args below meth c H locs 0 0 Q (F0 m 2 ls []) := by
    intro n
    induction n with
    | zero => intro x h1 h2; exact absurd h2 (by omega)
    | succ n ih =>
      intro x hx1 hx2 hx0 hv H locs ls hW hl
      refine lv_iload_n hx hb dX1_twosInModulusLessOne_2 rfl (lv_at hl 0 rfl) ?_
      refine lv_aload_n hx hb dX1_twosInModulusLessOne_3 rfl (lv_at hl 1 rfl) ?_
      refine q_get (C := RX1) (T := TX1) (v := .int (nI (32 * g.k))) hx hb hts hown (fun _ h9 => iw_X1_twosInModulusLessOne_X1 _ h9) hW (i := 1) (by decide) rfl rfl 2 (by decide) (hts (.fieldLink RX1 15 "ModEngine$Ring" "bits" "I") (by decide +kernel)) rfl dX1_twosInModulusLessOne_4 ?_
      refine lv_iconst (v := 1) hx hb dX1_twosInModulusLessOne_7 (by decide) ?_
      refine lv_isub hx hb dX1_twosInModulusLessOne_8 ?_
      refine q_ti (y := nI (32 * g.k - 1)) (pk_sub (b := 1) (by omega)) ?_
      refine lv_icmp_ge (tgt := 29) hx hb dX1_twosInModulusLessOne_9 (by decide) (fun c9 => ?_) (fun c9 => ?_)
      · have hx3 := nle c9 (by omega) (by omega)
        refine lv_iload_n hx hb dX1_twosInModulusLessOne_29 rfl (lv_at hl 0 rfl) ?_
        have hlt : qV g σ.F 12 < 2 ^ (x + 1) := by
          rw [show x + 1 = 32 * g.k by omega]
          exact qV_lt
        exact fin _ _ _ _ _ _ hW (⟨rfl, x, rfl, by omega, hx0, hv, twos_end hv p0.2.1 hlt⟩) dX1_twosInModulusLessOne_30
      · have hx3 := nge c9 (by omega)
        refine lv_aload_n hx hb dX1_twosInModulusLessOne_12 rfl (lv_at hl 1 rfl) ?_
        refine q_get (C := RX1) (T := TX1) (v := .ref (g.P 12)) hx hb hts hown (fun _ h9 => iw_X1_twosInModulusLessOne_X1 _ h9) hW (i := 1) (by decide) rfl rfl 0 (by decide) (hts (.fieldLink RX1 18 "ModEngine$Ring" "modulus" "[I") (by decide +kernel)) rfl dX1_twosInModulusLessOne_13 ?_
        refine lv_iload_n hx hb dX1_twosInModulusLessOne_16 rfl (lv_at hl 0 rfl) ?_
        refine q_i (q_runS (As := [.ref (g.P 12), .int (nI x)]) (rest := []) S hW (k_isBitSet l g hg σ (rowk (by decide)) (b := x) (by omega)) gX1_twosInModulusLessOne_X0_isBitSet (nA := 2) ⟨rfl, by decide +kernel, ⟨by decide, by decide⟩⟩ rfl hl.1 rfl (Nat.le_of_ble_eq_true rfl) dX1_twosInModulusLessOne_17 ⟨Nat.zero_le _, Nat.zero_le _⟩) hW Ad_hi (fun r_17 σ1 H locs hp hW => ?_)
        obtain ⟨e1, er1⟩ : σ1 = σ ∧ r_17 = if (qV g σ.F 12).testBit x = true then 1 else 0 := hp
        rw [e1] at hW
        refine lv_if_ne (tgt := 29) hx hb dX1_twosInModulusLessOne_20 (by decide) (fun c8 => ?_) (fun c8 => ?_)
        · have h0 := (fa_boolp er1).2.mp c8
          refine lv_iload_n hx hb dX1_twosInModulusLessOne_29 rfl (lv_at hl 0 rfl) ?_
          rw [Nat.testBit_eq_decide_div_mod_eq] at h0
          exact fin _ _ _ _ _ _ hW (⟨rfl, x, rfl, by omega, hx0, hv, by simpa using h0⟩) dX1_twosInModulusLessOne_30
        · have h0 := (fa_boolp er1).1.mp c8
          refine lv_iinc (v := nI (x + 1)) (lv' := [(1, .int (nI (x + 1))), (0, .ref (g.P 1))]) hx hb dX1_twosInModulusLessOne_23 hl (k := 0) rfl (nI_1 _) (by decide) rfl (fun ls hl => ?_)
          refine lv_goto (tgt := 2) hx hb dX1_twosInModulusLessOne_26 (by decide) ?_
          exact ih (x + 1) (by omega) (by omega) (by omega) (twos_next hv h0) H locs ls hW (lv_sub hl [0, 1] rfl)
  refine lv_iconst (v := 1) hx hb dX1_twosInModulusLessOne_0 (by decide) ?_
  refine lv_istore_n (lv' := [(1, .int 1), (0, .ref (g.P 1))]) hx hb dX1_twosInModulusLessOne_1 rfl hl (by decide) rfl (fun ls hl => ?_)
  exact loop (32 * g.k) 1 (by omega) (by omega) (by omega) p0.1 _ _ ls hW (lv_sub hl [0, 1] rfl)
set_option maxHeartbeats 4000000 in
set_option maxRecDepth 100000 in
/-- Ring.stepTowardsDivisor() -/
theorem r_step (l : Launch) (g : qCfg) (hg : g.ok) (σ : qSt) (h19 : qV g σ.F 19 < qV g σ.F 12) (h20 : qV g σ.F 20 < qV g σ.F 12) : qCV l g yX1_stepTowardsDivisor wsX1_stepTowardsDivisor 2 51 [.ref (g.P 1)] σ (fun σ' => ∃ F', σ' = σ.setF F' ∧ Fr σ.F F' [17, 18, 19, 20] ∧ (qV g F' 17, qV g F' 18, qV g F' 19, qV g F' 20) = gstep (qV g σ.F 12) (qV g σ.F 17) (qV g σ.F 18) (qV g σ.F 19) (qV g σ.F 20)) := by
  refine q_sV (cc := cX1_stepTowardsDivisor) (maxL := 1) (by decide) rfl (Nat.le_of_ble_eq_true rfl) ?_
  intro p e s m args below meth c ls Q S hW hl fin
  obtain ⟨hx, hb, hml, hown, hts, hr, hlocks⟩ := id S
  obtain ⟨hk1, hk8, hn1, hn8⟩ := id hg
  have hl : lv_has ls 1 [(0, .ref (g.P 1))] := hl
  refine lv_aload_n hx hb dX1_stepTowardsDivisor_0 rfl (lv_at hl 0 rfl) ?_
  refine q_get (C := RX1) (T := TX1) (v := .ref (g.P 17)) hx hb hts hown (fun _ h9 => iw_X1_stepTowardsDivisor_X1 _ h9) hW (i := 1) (by decide) rfl rfl 7 (by decide) (hts (.fieldLink RX1 34 "ModEngine$Ring" "left" "[I") (by decide +kernel)) rfl dX1_stepTowardsDivisor_1 ?_
  refine q_i (q_runS (As := [.ref (g.P 17)]) (rest := []) S hW (k_isOdd l g hg σ (rowk (by decide))) gX1_stepTowardsDivisor_X0_isOdd (nA := 1) ⟨rfl, by decide +kernel, ⟨by decide, by decide⟩⟩ rfl hl.1 rfl (Nat.le_of_ble_eq_true rfl) dX1_stepTowardsDivisor_4 ⟨Nat.zero_le _, Nat.zero_le _⟩) hW Ad_hi (fun r_4 σ1 H locs hp hW => ?_)
  obtain ⟨e1, er1⟩ : σ1 = σ ∧ r_4 = if qV g σ.F 17 % 2 = 1 then 1 else 0 := hp
  rw [e1] at hW
  refine lv_if_ne (tgt := 31) hx hb dX1_stepTowardsDivisor_7 (by decide) (fun c9 => ?_) (fun c9 => ?_)
  · have h0 := (fa_boolp er1).2.mp c9
    refine lv_aload_n hx hb dX1_stepTowardsDivisor_31 rfl (lv_at hl 0 rfl) ?_
    refine q_get (C := RX1) (T := TX1) (v := .ref (g.P 17)) hx hb hts hown (fun _ h9 => iw_X1_stepTowardsDivisor_X1 _ h9) hW (i := 1) (by decide) rfl rfl 7 (by decide) (hts (.fieldLink RX1 34 "ModEngine$Ring" "left" "[I") (by decide +kernel)) rfl dX1_stepTowardsDivisor_32 ?_
    refine lv_aload_n hx hb dX1_stepTowardsDivisor_35 rfl (lv_at hl 0 rfl) ?_
    refine q_get (C := RX1) (T := TX1) (v := .ref (g.P 18)) hx hb hts hown (fun _ h9 => iw_X1_stepTowardsDivisor_X1 _ h9) hW (i := 1) (by decide) rfl rfl 8 (by decide) (hts (.fieldLink RX1 37 "ModEngine$Ring" "right" "[I") (by decide +kernel)) rfl dX1_stepTowardsDivisor_36 ?_
    refine lv_aload_n hx hb dX1_stepTowardsDivisor_39 rfl (lv_at hl 0 rfl) ?_
    refine q_get (C := RX1) (T := TX1) (v := .int (nI g.k)) hx hb hts hown (fun _ h9 => iw_X1_stepTowardsDivisor_X1 _ h9) hW (i := 1) (by decide) rfl rfl 1 (by decide) (hts (.fieldLink RX1 9 "ModEngine$Ring" "k" "I") (by decide +kernel)) rfl dX1_stepTowardsDivisor_40 ?_
    refine q_i (q_runS (As := [.ref (g.P 17), .ref (g.P 18), .int (nI g.k)]) (rest := []) S hW (k_order l g hg σ (rowk (by decide)) (rowk (by decide))) gX1_stepTowardsDivisor_X0_order (nA := 3) ⟨rfl, by decide +kernel, ⟨by decide, by decide⟩⟩ rfl hl.1 rfl (Nat.le_of_ble_eq_true rfl) dX1_stepTowardsDivisor_43 ⟨Nat.zero_le _, Nat.zero_le _⟩) hW Ad_hi (fun r_43 σ2 H locs hp hW => ?_)
    obtain ⟨e2, er2⟩ : σ2 = σ ∧ r_43 = if qV g σ.F 17 < qV g σ.F 18 then -1 else if qV g σ.F 17 = qV g σ.F 18 then 0 else 1 := hp
    rw [e2] at hW
    refine lv_if_ge (tgt := 79) hx hb dX1_stepTowardsDivisor_46 (by decide) (fun c8 => ?_) (fun c8 => ?_)
    · have h1 : ¬ qV g σ.F 17 < qV g σ.F 18 := fun q => absurd ((ord_lt er2).mpr q) (Int32.not_lt.mpr c8)
      refine lv_aload_n hx hb dX1_stepTowardsDivisor_79 rfl (lv_at hl 0 rfl) ?_
      refine q_get (C := RX1) (T := TX1) (v := .ref (g.P 17)) hx hb hts hown (fun _ h9 => iw_X1_stepTowardsDivisor_X1 _ h9) hW (i := 1) (by decide) rfl rfl 7 (by decide) (hts (.fieldLink RX1 34 "ModEngine$Ring" "left" "[I") (by decide +kernel)) rfl dX1_stepTowardsDivisor_80 ?_
      refine lv_aload_n hx hb dX1_stepTowardsDivisor_83 rfl (lv_at hl 0 rfl) ?_
      refine q_get (C := RX1) (T := TX1) (v := .ref (g.P 17)) hx hb hts hown (fun _ h9 => iw_X1_stepTowardsDivisor_X1 _ h9) hW (i := 1) (by decide) rfl rfl 7 (by decide) (hts (.fieldLink RX1 34 "ModEngine$Ring" "left" "[I") (by decide +kernel)) rfl dX1_stepTowardsDivisor_84 ?_
      refine lv_aload_n hx hb dX1_stepTowardsDivisor_87 rfl (lv_at hl 0 rfl) ?_
      refine q_get (C := RX1) (T := TX1) (v := .ref (g.P 18)) hx hb hts hown (fun _ h9 => iw_X1_stepTowardsDivisor_X1 _ h9) hW (i := 1) (by decide) rfl rfl 8 (by decide) (hts (.fieldLink RX1 37 "ModEngine$Ring" "right" "[I") (by decide +kernel)) rfl dX1_stepTowardsDivisor_88 ?_
      refine lv_aload_n hx hb dX1_stepTowardsDivisor_91 rfl (lv_at hl 0 rfl) ?_
      refine q_get (C := RX1) (T := TX1) (v := .int (nI g.k)) hx hb hts hown (fun _ h9 => iw_X1_stepTowardsDivisor_X1 _ h9) hW (i := 1) (by decide) rfl rfl 1 (by decide) (hts (.fieldLink RX1 9 "ModEngine$Ring" "k" "I") (by decide +kernel)) rfl dX1_stepTowardsDivisor_92 ?_
      refine q_i (q_runS (As := [.ref (g.P 17), .ref (g.P 17), .ref (g.P 18), .int (nI g.k)]) (rest := []) S hW (k_subtract l g hg σ (rowk (by decide)) (rowk (by decide)) (rowk (by decide))) gX1_stepTowardsDivisor_X0_subtract (nA := 4) ⟨rfl, by decide +kernel, ⟨by decide, by decide⟩⟩ rfl hl.1 rfl (Nat.le_of_ble_eq_true rfl) dX1_stepTowardsDivisor_95 ⟨Nat.zero_le _, Nat.zero_le _⟩) hW Ad_hi (fun r_95 σ3 H locs hp hW => ?_)
      obtain ⟨F3, c3, e3, hf3, hc3, er3, hv3⟩ : ∃ F', ∃ c, σ3 = σ.setF F' ∧ Fr σ.F F' [17] ∧ c ≤ 1 ∧ r_95 = nI c ∧ qV g F' 17 + qV g σ.F 18 = qV g σ.F 17 + c * 2 ^ (32 * g.k) := hp
      rw [e3] at hW
      refine q_ti (y := nI c3) er3 ?_
      refine lv_pop hx hb dX1_stepTowardsDivisor_98 rfl ?_
      refine lv_aload_n hx hb dX1_stepTowardsDivisor_99 rfl (lv_at hl 0 rfl) ?_
      refine lv_aload_n hx hb dX1_stepTowardsDivisor_100 rfl (lv_at hl 0 rfl) ?_
      refine q_get (C := RX1) (T := TX1) (v := .ref (g.P 19)) hx hb hts hown (fun _ h9 => iw_X1_stepTowardsDivisor_X1 _ h9) hW (i := 1) (by decide) rfl rfl 9 (by decide) (hts (.fieldLink RX1 40 "ModEngine$Ring" "leftShare" "[I") (by decide +kernel)) rfl dX1_stepTowardsDivisor_101 ?_
      refine lv_aload_n hx hb dX1_stepTowardsDivisor_104 rfl (lv_at hl 0 rfl) ?_
      refine q_get (C := RX1) (T := TX1) (v := .ref (g.P 19)) hx hb hts hown (fun _ h9 => iw_X1_stepTowardsDivisor_X1 _ h9) hW (i := 1) (by decide) rfl rfl 9 (by decide) (hts (.fieldLink RX1 40 "ModEngine$Ring" "leftShare" "[I") (by decide +kernel)) rfl dX1_stepTowardsDivisor_105 ?_
      refine lv_aload_n hx hb dX1_stepTowardsDivisor_108 rfl (lv_at hl 0 rfl) ?_
      refine q_get (C := RX1) (T := TX1) (v := .ref (g.P 20)) hx hb hts hown (fun _ h9 => iw_X1_stepTowardsDivisor_X1 _ h9) hW (i := 1) (by decide) rfl rfl 10 (by decide) (hts (.fieldLink RX1 43 "ModEngine$Ring" "rightShare" "[I") (by decide +kernel)) rfl dX1_stepTowardsDivisor_109 ?_
      refine q_v (q_runV (As := [.ref (g.P 19), .ref (g.P 19), .ref (g.P 20)]) (rest := []) (i := 1) S hW (by decide) rfl rfl (r_subtractBelow l g hg (σ.setF F3) (rowk (by decide)) (rowk (by decide)) (rowk (by decide)) (by decide) (by show qV g F3 20 ≤ qV g F3 19 + qV g F3 12; rw [hf3.V (by decide), hf3.V (by decide)]; rw [hf3.V (by decide)]; omega)) gX1_stepTowardsDivisor_X1_subtractBelow rfl (nA := 3) ⟨rfl, by decide +kernel, ⟨by decide, by decide⟩⟩ rfl hl.1 rfl (Nat.le_of_ble_eq_true rfl) dX1_stepTowardsDivisor_112 ⟨Nat.zero_le _, Nat.zero_le _⟩) hW Ad_hi (fun σ4 H locs hp hW => ?_)
      obtain ⟨F4, e4, hf4, hv4⟩ : ∃ F', σ4 = σ.setF F' ∧ Fr F3 F' [19] ∧ qV g F' 19 = dfm (qV g F3 12) (qV g F3 19) (qV g F3 20) := hp
      rw [e4] at hW
      have s17 : qV g F3 17 = qV g σ.F 17 - qV g σ.F 18 := by
        have b1 := qV_lt (g := g) (F := F3) (i := 17)
        rcases (show c3 = 0 ∨ c3 = 1 by omega) with q | q
        · rw [q] at hv3; omega
        · rw [q] at hv3; omega
      refine fin _ _ _ _ _ hW ⟨F4, rfl, fun a ha => ?_, ?_⟩ dX1_stepTowardsDivisor_115
      · simp only [List.mem_cons, List.not_mem_nil, or_false, not_or] at ha
        rw [hf4 a (by simp; omega), hf3 a (by simp; omega)]
      · rw [hf4.V (show 17 ∉ [19] by decide), hf4.V (show 18 ∉ [19] by decide), hf4.V (show 20 ∉ [19] by decide), hv4, s17, hf3.V (show 18 ∉ [17] by decide), hf3.V (show 12 ∉ [17] by decide), hf3.V (show 19 ∉ [17] by decide), hf3.V (show 20 ∉ [17] by decide)]
        unfold gstep
        rw [if_pos h0, if_neg h1]
    · have h1 : qV g σ.F 17 < qV g σ.F 18 := (ord_lt er2).mp (Int32.not_le.mp c8)
      refine lv_aload_n hx hb dX1_stepTowardsDivisor_49 rfl (lv_at hl 0 rfl) ?_
      refine q_get (C := RX1) (T := TX1) (v := .ref (g.P 17)) hx hb hts hown (fun _ h9 => iw_X1_stepTowardsDivisor_X1 _ h9) hW (i := 1) (by decide) rfl rfl 7 (by decide) (hts (.fieldLink RX1 34 "ModEngine$Ring" "left" "[I") (by decide +kernel)) rfl dX1_stepTowardsDivisor_50 ?_
      refine lv_aload_n hx hb dX1_stepTowardsDivisor_53 rfl (lv_at hl 0 rfl) ?_
      refine q_get (C := RX1) (T := TX1) (v := .ref (g.P 18)) hx hb hts hown (fun _ h9 => iw_X1_stepTowardsDivisor_X1 _ h9) hW (i := 1) (by decide) rfl rfl 8 (by decide) (hts (.fieldLink RX1 37 "ModEngine$Ring" "right" "[I") (by decide +kernel)) rfl dX1_stepTowardsDivisor_54 ?_
      refine lv_aload_n hx hb dX1_stepTowardsDivisor_57 rfl (lv_at hl 0 rfl) ?_
      refine q_get (C := RX1) (T := TX1) (v := .int (nI g.k)) hx hb hts hown (fun _ h9 => iw_X1_stepTowardsDivisor_X1 _ h9) hW (i := 1) (by decide) rfl rfl 1 (by decide) (hts (.fieldLink RX1 9 "ModEngine$Ring" "k" "I") (by decide +kernel)) rfl dX1_stepTowardsDivisor_58 ?_
      refine q_v (q_runS (As := [.ref (g.P 17), .ref (g.P 18), .int (nI g.k)]) (rest := []) S hW (k_swap l g hg σ (rowk (by decide)) (rowk (by decide)) (by decide)) gX1_stepTowardsDivisor_X0_swap (nA := 3) ⟨rfl, by decide +kernel, ⟨by decide, by decide⟩⟩ rfl hl.1 rfl (Nat.le_of_ble_eq_true rfl) dX1_stepTowardsDivisor_61 ⟨Nat.zero_le _, Nat.zero_le _⟩) hW Ad_hi (fun σ3 H locs hp hW => ?_)
      obtain ⟨F3, e3, hf3, hv3, hw3⟩ : ∃ F', σ3 = σ.setF F' ∧ Fr σ.F F' [17, 18] ∧ qV g F' 17 = qV g σ.F 18 ∧ qV g F' 18 = qV g σ.F 17 := hp
      rw [e3] at hW
      refine lv_aload_n hx hb dX1_stepTowardsDivisor_64 rfl (lv_at hl 0 rfl) ?_
      refine q_get (C := RX1) (T := TX1) (v := .ref (g.P 19)) hx hb hts hown (fun _ h9 => iw_X1_stepTowardsDivisor_X1 _ h9) hW (i := 1) (by decide) rfl rfl 9 (by decide) (hts (.fieldLink RX1 40 "ModEngine$Ring" "leftShare" "[I") (by decide +kernel)) rfl dX1_stepTowardsDivisor_65 ?_
      refine lv_aload_n hx hb dX1_stepTowardsDivisor_68 rfl (lv_at hl 0 rfl) ?_
      refine q_get (C := RX1) (T := TX1) (v := .ref (g.P 20)) hx hb hts hown (fun _ h9 => iw_X1_stepTowardsDivisor_X1 _ h9) hW (i := 1) (by decide) rfl rfl 10 (by decide) (hts (.fieldLink RX1 43 "ModEngine$Ring" "rightShare" "[I") (by decide +kernel)) rfl dX1_stepTowardsDivisor_69 ?_
      refine lv_aload_n hx hb dX1_stepTowardsDivisor_72 rfl (lv_at hl 0 rfl) ?_
      refine q_get (C := RX1) (T := TX1) (v := .int (nI g.k)) hx hb hts hown (fun _ h9 => iw_X1_stepTowardsDivisor_X1 _ h9) hW (i := 1) (by decide) rfl rfl 1 (by decide) (hts (.fieldLink RX1 9 "ModEngine$Ring" "k" "I") (by decide +kernel)) rfl dX1_stepTowardsDivisor_73 ?_
      refine q_v (q_runS (As := [.ref (g.P 19), .ref (g.P 20), .int (nI g.k)]) (rest := []) S hW (k_swap l g hg (σ.setF F3) (rowk (by decide)) (rowk (by decide)) (by decide)) gX1_stepTowardsDivisor_X0_swap (nA := 3) ⟨rfl, by decide +kernel, ⟨by decide, by decide⟩⟩ rfl hl.1 rfl (Nat.le_of_ble_eq_true rfl) dX1_stepTowardsDivisor_76 ⟨Nat.zero_le _, Nat.zero_le _⟩) hW Ad_hi (fun σ4 H locs hp hW => ?_)
      obtain ⟨F4, e4, hf4, hv4, hw4⟩ : ∃ F', σ4 = σ.setF F' ∧ Fr F3 F' [19, 20] ∧ qV g F' 19 = qV g F3 20 ∧ qV g F' 20 = qV g F3 19 := hp
      rw [e4] at hW
      refine lv_aload_n hx hb dX1_stepTowardsDivisor_79 rfl (lv_at hl 0 rfl) ?_
      refine q_get (C := RX1) (T := TX1) (v := .ref (g.P 17)) hx hb hts hown (fun _ h9 => iw_X1_stepTowardsDivisor_X1 _ h9) hW (i := 1) (by decide) rfl rfl 7 (by decide) (hts (.fieldLink RX1 34 "ModEngine$Ring" "left" "[I") (by decide +kernel)) rfl dX1_stepTowardsDivisor_80 ?_
      refine lv_aload_n hx hb dX1_stepTowardsDivisor_83 rfl (lv_at hl 0 rfl) ?_
      refine q_get (C := RX1) (T := TX1) (v := .ref (g.P 17)) hx hb hts hown (fun _ h9 => iw_X1_stepTowardsDivisor_X1 _ h9) hW (i := 1) (by decide) rfl rfl 7 (by decide) (hts (.fieldLink RX1 34 "ModEngine$Ring" "left" "[I") (by decide +kernel)) rfl dX1_stepTowardsDivisor_84 ?_
      refine lv_aload_n hx hb dX1_stepTowardsDivisor_87 rfl (lv_at hl 0 rfl) ?_
      refine q_get (C := RX1) (T := TX1) (v := .ref (g.P 18)) hx hb hts hown (fun _ h9 => iw_X1_stepTowardsDivisor_X1 _ h9) hW (i := 1) (by decide) rfl rfl 8 (by decide) (hts (.fieldLink RX1 37 "ModEngine$Ring" "right" "[I") (by decide +kernel)) rfl dX1_stepTowardsDivisor_88 ?_
      refine lv_aload_n hx hb dX1_stepTowardsDivisor_91 rfl (lv_at hl 0 rfl) ?_
      refine q_get (C := RX1) (T := TX1) (v := .int (nI g.k)) hx hb hts hown (fun _ h9 => iw_X1_stepTowardsDivisor_X1 _ h9) hW (i := 1) (by decide) rfl rfl 1 (by decide) (hts (.fieldLink RX1 9 "ModEngine$Ring" "k" "I") (by decide +kernel)) rfl dX1_stepTowardsDivisor_92 ?_
      refine q_i (q_runS (As := [.ref (g.P 17), .ref (g.P 17), .ref (g.P 18), .int (nI g.k)]) (rest := []) S hW (k_subtract l g hg (σ.setF F4) (rowk (by decide)) (rowk (by decide)) (rowk (by decide))) gX1_stepTowardsDivisor_X0_subtract (nA := 4) ⟨rfl, by decide +kernel, ⟨by decide, by decide⟩⟩ rfl hl.1 rfl (Nat.le_of_ble_eq_true rfl) dX1_stepTowardsDivisor_95 ⟨Nat.zero_le _, Nat.zero_le _⟩) hW Ad_hi (fun r_95 σ5 H locs hp hW => ?_)
      obtain ⟨F5, c5, e5, hf5, hc5, er5, hv5⟩ : ∃ F', ∃ c, σ5 = σ.setF F' ∧ Fr F4 F' [17] ∧ c ≤ 1 ∧ r_95 = nI c ∧ qV g F' 17 + qV g F4 18 = qV g F4 17 + c * 2 ^ (32 * g.k) := hp
      rw [e5] at hW
      refine q_ti (y := nI c5) er5 ?_
      refine lv_pop hx hb dX1_stepTowardsDivisor_98 rfl ?_
      refine lv_aload_n hx hb dX1_stepTowardsDivisor_99 rfl (lv_at hl 0 rfl) ?_
      refine lv_aload_n hx hb dX1_stepTowardsDivisor_100 rfl (lv_at hl 0 rfl) ?_
      refine q_get (C := RX1) (T := TX1) (v := .ref (g.P 19)) hx hb hts hown (fun _ h9 => iw_X1_stepTowardsDivisor_X1 _ h9) hW (i := 1) (by decide) rfl rfl 9 (by decide) (hts (.fieldLink RX1 40 "ModEngine$Ring" "leftShare" "[I") (by decide +kernel)) rfl dX1_stepTowardsDivisor_101 ?_
      refine lv_aload_n hx hb dX1_stepTowardsDivisor_104 rfl (lv_at hl 0 rfl) ?_
      refine q_get (C := RX1) (T := TX1) (v := .ref (g.P 19)) hx hb hts hown (fun _ h9 => iw_X1_stepTowardsDivisor_X1 _ h9) hW (i := 1) (by decide) rfl rfl 9 (by decide) (hts (.fieldLink RX1 40 "ModEngine$Ring" "leftShare" "[I") (by decide +kernel)) rfl dX1_stepTowardsDivisor_105 ?_
      refine lv_aload_n hx hb dX1_stepTowardsDivisor_108 rfl (lv_at hl 0 rfl) ?_
      refine q_get (C := RX1) (T := TX1) (v := .ref (g.P 20)) hx hb hts hown (fun _ h9 => iw_X1_stepTowardsDivisor_X1 _ h9) hW (i := 1) (by decide) rfl rfl 10 (by decide) (hts (.fieldLink RX1 43 "ModEngine$Ring" "rightShare" "[I") (by decide +kernel)) rfl dX1_stepTowardsDivisor_109 ?_
      refine q_v (q_runV (As := [.ref (g.P 19), .ref (g.P 19), .ref (g.P 20)]) (rest := []) (i := 1) S hW (by decide) rfl rfl (r_subtractBelow l g hg (σ.setF F5) (rowk (by decide)) (rowk (by decide)) (rowk (by decide)) (by decide) (by show qV g F5 20 ≤ qV g F5 19 + qV g F5 12; rw [hf5.V (by decide), hf5.V (by decide)]; rw [hf5.V (by decide), hw4, hv4, hf4.V (by decide), hf3.V (by decide), hf3.V (by decide), hf3.V (by decide)]; omega)) gX1_stepTowardsDivisor_X1_subtractBelow rfl (nA := 3) ⟨rfl, by decide +kernel, ⟨by decide, by decide⟩⟩ rfl hl.1 rfl (Nat.le_of_ble_eq_true rfl) dX1_stepTowardsDivisor_112 ⟨Nat.zero_le _, Nat.zero_le _⟩) hW Ad_hi (fun σ6 H locs hp hW => ?_)
      obtain ⟨F6, e6, hf6, hv6⟩ : ∃ F', σ6 = σ.setF F' ∧ Fr F5 F' [19] ∧ qV g F' 19 = dfm (qV g F5 12) (qV g F5 19) (qV g F5 20) := hp
      rw [e6] at hW
      have a17 : qV g F4 17 = qV g σ.F 18 := (hf4.V (by decide)).trans hv3
      have a18 : qV g F4 18 = qV g σ.F 17 := (hf4.V (by decide)).trans hw3
      have a19 : qV g F4 19 = qV g σ.F 20 := hv4.trans (hf3.V (by decide))
      have a20 : qV g F4 20 = qV g σ.F 19 := hw4.trans (hf3.V (by decide))
      have a12 : qV g F4 12 = qV g σ.F 12 := (hf4.V (by decide)).trans (hf3.V (by decide))
      rw [a17, a18] at hv5
      have s17 : qV g F5 17 = qV g σ.F 18 - qV g σ.F 17 := by
        have b1 := qV_lt (g := g) (F := F5) (i := 17)
        rcases (show c5 = 0 ∨ c5 = 1 by omega) with q | q
        · rw [q] at hv5; omega
        · rw [q] at hv5; omega
      refine fin _ _ _ _ _ hW ⟨F6, rfl, fun a ha => ?_, ?_⟩ dX1_stepTowardsDivisor_115
      · simp only [List.mem_cons, List.not_mem_nil, or_false, not_or] at ha
        rw [hf6 a (by simp; omega), hf5 a (by simp; omega), hf4 a (by simp; omega), hf3 a (by simp; omega)]
      · rw [hf6.V (show 17 ∉ [19] by decide), hf6.V (show 18 ∉ [19] by decide), hf6.V (show 20 ∉ [19] by decide), hv6, s17, hf5.V (show 18 ∉ [17] by decide), hf5.V (show 12 ∉ [17] by decide), hf5.V (show 19 ∉ [17] by decide), hf5.V (show 20 ∉ [17] by decide), a18, a12, a19, a20]
        unfold gstep
        rw [if_pos h0, if_pos h1]
  · have h0 := (fa_boolp er1).1.mp c9
    refine lv_aload_n hx hb dX1_stepTowardsDivisor_10 rfl (lv_at hl 0 rfl) ?_
    refine q_get (C := RX1) (T := TX1) (v := .ref (g.P 17)) hx hb hts hown (fun _ h9 => iw_X1_stepTowardsDivisor_X1 _ h9) hW (i := 1) (by decide) rfl rfl 7 (by decide) (hts (.fieldLink RX1 34 "ModEngine$Ring" "left" "[I") (by decide +kernel)) rfl dX1_stepTowardsDivisor_11 ?_
    refine lv_lconst (v := 0) hx hb dX1_stepTowardsDivisor_14 (by decide) ?_
    refine q_tl (y := lN 0) rfl ?_
    refine lv_aload_n hx hb dX1_stepTowardsDivisor_15 rfl (lv_at hl 0 rfl) ?_
    refine q_get (C := RX1) (T := TX1) (v := .int (nI g.k)) hx hb hts hown (fun _ h9 => iw_X1_stepTowardsDivisor_X1 _ h9) hW (i := 1) (by decide) rfl rfl 1 (by decide) (hts (.fieldLink RX1 9 "ModEngine$Ring" "k" "I") (by decide +kernel)) rfl dX1_stepTowardsDivisor_16 ?_
    refine q_v (q_runS (As := [.ref (g.P 17), .long (lN 0), .int (nI g.k)]) (rest := []) S hW (k_halve l g hg σ (rowk (by decide)) (t := 0) (by omega)) gX1_stepTowardsDivisor_X0_halve (nA := 3) ⟨rfl, by decide +kernel, ⟨by decide, by decide⟩⟩ rfl hl.1 rfl (Nat.le_of_ble_eq_true rfl) dX1_stepTowardsDivisor_19 ⟨Nat.zero_le _, Nat.zero_le _⟩) hW Ad_hi (fun σ2 H locs hp hW => ?_)
    obtain ⟨F2, e2, hf2, hv2⟩ : ∃ F', σ2 = σ.setF F' ∧ Fr σ.F F' [17] ∧ qV g F' 17 = (qV g σ.F 17 + 0 * 2 ^ (32 * g.k)) / 2 := hp
    rw [e2] at hW
    refine lv_aload_n hx hb dX1_stepTowardsDivisor_22 rfl (lv_at hl 0 rfl) ?_
    refine lv_aload_n hx hb dX1_stepTowardsDivisor_23 rfl (lv_at hl 0 rfl) ?_
    refine q_get (C := RX1) (T := TX1) (v := .ref (g.P 19)) hx hb hts hown (fun _ h9 => iw_X1_stepTowardsDivisor_X1 _ h9) hW (i := 1) (by decide) rfl rfl 9 (by decide) (hts (.fieldLink RX1 40 "ModEngine$Ring" "leftShare" "[I") (by decide +kernel)) rfl dX1_stepTowardsDivisor_24 ?_
    refine q_v (q_runV (As := [.ref (g.P 19)]) (rest := []) (i := 1) S hW (by decide) rfl rfl (r_halveBelow l g hg (σ.setF F2) (rowk (by decide)) (by decide)) gX1_stepTowardsDivisor_X1_halveBelow rfl (nA := 1) ⟨rfl, by decide +kernel, ⟨by decide, by decide⟩⟩ rfl hl.1 rfl (Nat.le_of_ble_eq_true rfl) dX1_stepTowardsDivisor_27 ⟨Nat.zero_le _, Nat.zero_le _⟩) hW Ad_hi (fun σ3 H locs hp hW => ?_)
    obtain ⟨F3, e3, hf3, hv3⟩ : ∃ F', σ3 = σ.setF F' ∧ Fr F2 F' [19] ∧ qV g F' 19 = hlf (qV g F2 12) (qV g F2 19) := hp
    rw [e3] at hW
    refine fin _ _ _ _ _ hW ⟨F3, rfl, fun a ha => ?_, ?_⟩ dX1_stepTowardsDivisor_30
    · simp only [List.mem_cons, List.not_mem_nil, or_false, not_or] at ha
      rw [hf3 a (by simp; omega), hf2 a (by simp; omega)]
    · rw [hf3.V (show 17 ∉ [19] by decide), hf3.V (show 18 ∉ [19] by decide), hf3.V (show 20 ∉ [19] by decide), hv3, hv2, hf2.V (show 18 ∉ [17] by decide), hf2.V (show 12 ∉ [17] by decide), hf2.V (show 19 ∉ [17] by decide), hf2.V (show 20 ∉ [17] by decide), Nat.zero_mul, Nat.add_zero]
      unfold gstep
      rw [if_neg h0]
set_option maxHeartbeats 4000000 in
set_option maxRecDepth 100000 in
/-- Ring.invert(into, a) -/
theorem r_invert (l : Launch) (g : qCfg) (hg : g.ok) (σ : qSt) {i j : Nat} (hi : 12 ≤ i ∧ i < g.N)(hj : 12 ≤ j ∧ j < g.N)(hi21 : 21 ≤ i) (hj21 : 21 ≤ j) (p0 : Pp g σ.F σ.mi)  : qCI l g yX1_invert wsX1_invert 4 97 [.ref (g.P 1), .ref (g.P i), .ref (g.P j)] σ (fun r σ' => ∃ F', σ' = σ.setF F' ∧ ((r = 1 ∧ Nat.gcd (qV g σ.F j) (qV g σ.F 12) = 1 ∧ Fr σ.F F' [16, 17, 18, 19, 20, i] ∧ qV g F' i < qV g σ.F 12 ∧ qV g F' i * qV g σ.F j % qV g σ.F 12 = 1 % qV g σ.F 12) ∨ (r = 0 ∧ Nat.gcd (qV g σ.F j) (qV g σ.F 12) ≠ 1 ∧ Fr σ.F F' [16, 17, 18, 19, 20]))) := by
  refine q_sZ (cc := cX1_invert) (maxL := 5) (by decide) rfl (Nat.le_of_ble_eq_true rfl) ?_
  intro p e s m args below meth c ls Q S hW hl fin
  obtain ⟨hx, hb, hml, hown, hts, hr, hlocks⟩ := id S
  obtain ⟨hk1, hk8, hn1, hn8⟩ := id hg
  have hl : lv_has ls 5 [(0, .ref (g.P 1)), (1, .ref (g.P i)), (2, .ref (g.P j))] := hl
  have loop : ∀ (n x B : Nat) (F : Nat → Nat → Int32), 4 * (32 * g.k) + 2 ≤ x + n → Fr σ.F F [16, 17, 18, 19, 20] → gInv (qV g σ.F 12) (qV g σ.F j) (qV g F 17) (qV g F 18) (qV g F 19) (qV g F 20) → qV g F 18 % 2 = 1 → qV g F 17 * qV g F 18 < 2 ^ B → 2 * B + qV g F 17 % 2 + x ≤ 4 * (32 * g.k) + 1 → ∀ (H : Heap) (locs : List Loc) (ls : Array Slot), Wo g (Ad g s.heap.size) s H locs (σ.setF F) → lv_has ls 5 [(4, .int (nI x)), (3, .int (nI (4 * (32 * g.k) + 2))), (0, .ref (g.P 1)), (1, .ref (g.P i)), (2, .ref (g.P j))] → W p l e (rmm 4 97) s m args below meth c H locs 0 0 Q (F0 m 63 ls []) := by
    intro n
    induction n with
    | zero => intro x B F h1 h2 h3 h4 h5 h6; exact absurd h1 (by omega)
    | succ n ih =>
      intro x B F hx1 hf hI hr18 hB hpot H locs ls hW hl
      have m0 : qV g F 12 = qV g σ.F 12 := hf.V (by decide)
      refine lv_iload hx hb dX1_invert_63 (lv_at hl 0 rfl) ?_
      refine lv_iload_n hx hb dX1_invert_65 rfl (lv_at hl 1 rfl) ?_
      refine lv_icmp_ge (tgt := 94) hx hb dX1_invert_66 (by decide) (fun c9 => absurd c9 (nI_ge (by omega) (by omega))) (fun _ => ?_)
      refine lv_aload_n hx hb dX1_invert_69 rfl (lv_at hl 2 rfl) ?_
      refine q_get (C := RX1) (T := TX1) (v := .ref (g.P 17)) hx hb hts hown (fun _ h9 => iw_X1_invert_X1 _ h9) hW (i := 1) (by decide) rfl rfl 7 (by decide) (hts (.fieldLink RX1 34 "ModEngine$Ring" "left" "[I") (by decide +kernel)) rfl dX1_invert_70 ?_
      refine lv_iconst (v := 0) hx hb dX1_invert_73 (by decide) ?_
      refine lv_aload_n hx hb dX1_invert_74 rfl (lv_at hl 2 rfl) ?_
      refine q_get (C := RX1) (T := TX1) (v := .int (nI g.k)) hx hb hts hown (fun _ h9 => iw_X1_invert_X1 _ h9) hW (i := 1) (by decide) rfl rfl 1 (by decide) (hts (.fieldLink RX1 9 "ModEngine$Ring" "k" "I") (by decide +kernel)) rfl dX1_invert_75 ?_
      refine q_i (q_runS (As := [.ref (g.P 17), .int 0, .int (nI g.k)]) (rest := []) S hW (k_isSmall l g hg (σ.setF F) (rowk (by decide)) 0) gX1_invert_X0_isSmall (nA := 3) ⟨rfl, by decide +kernel, ⟨by decide, by decide⟩⟩ rfl hl.1 rfl (Nat.le_of_ble_eq_true rfl) dX1_invert_78 ⟨Nat.zero_le _, Nat.zero_le _⟩) hW Ad_hi (fun r_78 σ1 H locs hp hW => ?_)
      obtain ⟨e1, er1⟩ : σ1 = σ.setF F ∧ r_78 = if qV g F 17 = uI 0 then 1 else 0 := hp
      rw [e1] at hW
      rw [uI_0] at er1
      refine lv_if_ne (tgt := 94) hx hb dX1_invert_81 (by decide) (fun c9 => ?_) (fun c9 => ?_)
      · have h0 := (fa_boolp er1).2.mp c9
        rw [h0] at hI
        obtain ⟨hg1, hg2⟩ := gInv_end hI
        refine lv_aload_n hx hb dX1_invert_94 rfl (lv_at hl 2 rfl) ?_
        refine q_get (C := RX1) (T := TX1) (v := .ref (g.P 18)) hx hb hts hown (fun _ h9 => iw_X1_invert_X1 _ h9) hW (i := 1) (by decide) rfl rfl 8 (by decide) (hts (.fieldLink RX1 37 "ModEngine$Ring" "right" "[I") (by decide +kernel)) rfl dX1_invert_95 ?_
        refine lv_iconst (v := 1) hx hb dX1_invert_98 (by decide) ?_
        refine lv_aload_n hx hb dX1_invert_99 rfl (lv_at hl 2 rfl) ?_
        refine q_get (C := RX1) (T := TX1) (v := .int (nI g.k)) hx hb hts hown (fun _ h9 => iw_X1_invert_X1 _ h9) hW (i := 1) (by decide) rfl rfl 1 (by decide) (hts (.fieldLink RX1 9 "ModEngine$Ring" "k" "I") (by decide +kernel)) rfl dX1_invert_100 ?_
        refine q_i (q_runS (As := [.ref (g.P 18), .int 1, .int (nI g.k)]) (rest := []) S hW (k_isSmall l g hg (σ.setF F) (rowk (by decide)) 1) gX1_invert_X0_isSmall (nA := 3) ⟨rfl, by decide +kernel, ⟨by decide, by decide⟩⟩ rfl hl.1 rfl (Nat.le_of_ble_eq_true rfl) dX1_invert_103 ⟨Nat.zero_le _, Nat.zero_le _⟩) hW Ad_hi (fun r_103 σ2 H locs hp hW => ?_)
        obtain ⟨e2, er2⟩ : σ2 = σ.setF F ∧ r_103 = if qV g F 18 = uI 1 then 1 else 0 := hp
        rw [e2] at hW
        rw [uI_1] at er2
        refine lv_if_ne (tgt := 111) hx hb dX1_invert_106 (by decide) (fun c8 => ?_) (fun c8 => ?_)
        · have h1 := (fa_boolp er2).2.mp c8
          refine lv_aload_n hx hb dX1_invert_111 rfl (lv_at hl 3 rfl) ?_
          refine lv_aload_n hx hb dX1_invert_112 rfl (lv_at hl 2 rfl) ?_
          refine q_get (C := RX1) (T := TX1) (v := .ref (g.P 20)) hx hb hts hown (fun _ h9 => iw_X1_invert_X1 _ h9) hW (i := 1) (by decide) rfl rfl 10 (by decide) (hts (.fieldLink RX1 43 "ModEngine$Ring" "rightShare" "[I") (by decide +kernel)) rfl dX1_invert_113 ?_
          refine lv_aload_n hx hb dX1_invert_116 rfl (lv_at hl 2 rfl) ?_
          refine q_get (C := RX1) (T := TX1) (v := .int (nI g.k)) hx hb hts hown (fun _ h9 => iw_X1_invert_X1 _ h9) hW (i := 1) (by decide) rfl rfl 1 (by decide) (hts (.fieldLink RX1 9 "ModEngine$Ring" "k" "I") (by decide +kernel)) rfl dX1_invert_117 ?_
          refine q_v (q_runS (As := [.ref (g.P i), .ref (g.P 20), .int (nI g.k)]) (rest := []) S hW (k_copy l g hg (σ.setF F) hi (rowk (by decide))) gX1_invert_X0_copy (nA := 3) ⟨rfl, by decide +kernel, ⟨by decide, by decide⟩⟩ rfl hl.1 rfl (Nat.le_of_ble_eq_true rfl) dX1_invert_120 ⟨Nat.zero_le _, Nat.zero_le _⟩) hW Ad_hi (fun σ3 H locs hp hW => ?_)
          obtain ⟨F3, e3, hf3, hv3⟩ : ∃ F', σ3 = σ.setF F' ∧ Fr F F' [i] ∧ qV g F' i = qV g F 20 := hp
          rw [e3] at hW
          refine lv_iconst (v := 1) hx hb dX1_invert_123 (by decide) ?_
          exact fin _ _ _ _ _ _ (by decide) hW (⟨F3, rfl, Or.inl ⟨rfl, hg1.symm.trans h1, fun a ha => by
                      simp only [List.mem_cons, List.not_mem_nil, or_false, not_or] at ha
                      rw [hf3 a (by simp; omega), hf a (by simp; omega)], by rw [hv3]; exact hI.2.1, by rw [hv3]; exact hg2 h1⟩⟩) dX1_invert_124
        · have h1 := (fa_boolp er2).1.mp c8
          refine lv_iconst (v := 0) hx hb dX1_invert_109 (by decide) ?_
          exact fin _ _ _ _ _ _ (by decide) hW (⟨F, rfl, Or.inr ⟨rfl, fun q => h1 (hg1.trans q), hf⟩⟩) dX1_invert_110
      · have h0 := (fa_boolp er1).1.mp c9
        refine lv_aload_n hx hb dX1_invert_84 rfl (lv_at hl 2 rfl) ?_
        refine q_v (q_runV (As := []) (rest := []) (i := 1) S hW (by decide) rfl rfl (r_step l g hg (σ.setF F) (by show qV g F 19 < qV g F 12; rw [m0]; exact hI.1) (by show qV g F 20 < qV g F 12; rw [m0]; exact hI.2.1)) gX1_invert_X1_stepTowardsDivisor rfl (nA := 0) ⟨rfl, by decide +kernel, ⟨by decide, by decide⟩⟩ rfl hl.1 rfl (Nat.le_of_ble_eq_true rfl) dX1_invert_85 ⟨Nat.zero_le _, Nat.zero_le _⟩) hW Ad_hi (fun σ2 H locs hp hW => ?_)
        obtain ⟨F2, e2, hf2, hv2⟩ : ∃ F', σ2 = σ.setF F' ∧ Fr F F' [17, 18, 19, 20] ∧ (qV g F' 17, qV g F' 18, qV g F' 19, qV g F' 20) = gstep (qV g F 12) (qV g F 17) (qV g F 18) (qV g F 19) (qV g F 20) := hp
        rw [e2] at hW
        rw [m0] at hv2
        obtain ⟨hI2, hr2, B2, hB2, hp2⟩ := gstep_ok p0.1 hI hr18 (Nat.pos_of_ne_zero h0) hB hv2
        refine lv_iinc (v := nI (x + 1)) (lv' := [(4, .int (nI (x + 1))), (3, .int (nI (4 * (32 * g.k) + 2))), (0, .ref (g.P 1)), (1, .ref (g.P i)), (2, .ref (g.P j))]) hx hb dX1_invert_88 hl (k := 0) rfl (nI_1 _) (by decide) rfl (fun ls hl => ?_)
        refine lv_goto (tgt := 63) hx hb dX1_invert_91 (by decide) ?_
        exact ih (x + 1) B2 F2 (by omega) (fun a ha => by
            simp only [List.mem_cons, List.not_mem_nil, or_false, not_or] at ha
            rw [hf2 a (by simp; omega), hf a (by simp; omega)]) hI2 hr2 hB2 (by omega) H locs ls hW (lv_sub hl [0, 1, 2, 3, 4] rfl)
  refine lv_aload_n hx hb dX1_invert_0 rfl (lv_at hl 0 rfl) ?_
  refine lv_aload_n hx hb dX1_invert_1 rfl (lv_at hl 0 rfl) ?_
  refine q_get (C := RX1) (T := TX1) (v := .ref (g.P 17)) hx hb hts hown (fun _ h9 => iw_X1_invert_X1 _ h9) hW (i := 1) (by decide) rfl rfl 7 (by decide) (hts (.fieldLink RX1 34 "ModEngine$Ring" "left" "[I") (by decide +kernel)) rfl dX1_invert_2 ?_
  refine lv_aload_n hx hb dX1_invert_5 rfl (lv_at hl 2 rfl) ?_
  refine q_v (q_runV (As := [.ref (g.P 17), .ref (g.P j)]) (rest := []) (i := 1) S hW (by decide) rfl rfl (r_residue l g hg σ (rowk (by decide)) hj (by omega) (by omega) p0) gX1_invert_X1_residue rfl (nA := 2) ⟨rfl, by decide +kernel, ⟨by decide, by decide⟩⟩ rfl hl.1 rfl (Nat.le_of_ble_eq_true rfl) dX1_invert_6 ⟨Nat.zero_le _, Nat.zero_le _⟩) hW Ad_hi (fun σ1 H locs hp hW => ?_)
  obtain ⟨F1, e1, hf1, hv1⟩ : ∃ F', σ1 = σ.setF F' ∧ Fr σ.F F' [16, 17] ∧ qV g F' 17 = qV g σ.F j % qV g σ.F 12 := hp
  rw [e1] at hW
  refine lv_aload_n hx hb dX1_invert_9 rfl (lv_at hl 0 rfl) ?_
  refine q_get (C := RX1) (T := TX1) (v := .ref (g.P 18)) hx hb hts hown (fun _ h9 => iw_X1_invert_X1 _ h9) hW (i := 1) (by decide) rfl rfl 8 (by decide) (hts (.fieldLink RX1 37 "ModEngine$Ring" "right" "[I") (by decide +kernel)) rfl dX1_invert_10 ?_
  refine lv_aload_n hx hb dX1_invert_13 rfl (lv_at hl 0 rfl) ?_
  refine q_get (C := RX1) (T := TX1) (v := .ref (g.P 12)) hx hb hts hown (fun _ h9 => iw_X1_invert_X1 _ h9) hW (i := 1) (by decide) rfl rfl 0 (by decide) (hts (.fieldLink RX1 18 "ModEngine$Ring" "modulus" "[I") (by decide +kernel)) rfl dX1_invert_14 ?_
  refine lv_aload_n hx hb dX1_invert_17 rfl (lv_at hl 0 rfl) ?_
  refine q_get (C := RX1) (T := TX1) (v := .int (nI g.k)) hx hb hts hown (fun _ h9 => iw_X1_invert_X1 _ h9) hW (i := 1) (by decide) rfl rfl 1 (by decide) (hts (.fieldLink RX1 9 "ModEngine$Ring" "k" "I") (by decide +kernel)) rfl dX1_invert_18 ?_
  refine q_v (q_runS (As := [.ref (g.P 18), .ref (g.P 12), .int (nI g.k)]) (rest := []) S hW (k_copy l g hg (σ.setF F1) (rowk (by decide)) (rowk (by decide))) gX1_invert_X0_copy (nA := 3) ⟨rfl, by decide +kernel, ⟨by decide, by decide⟩⟩ rfl hl.1 rfl (Nat.le_of_ble_eq_true rfl) dX1_invert_21 ⟨Nat.zero_le _, Nat.zero_le _⟩) hW Ad_hi (fun σ2 H locs hp hW => ?_)
  obtain ⟨F2, e2, hf2, hv2⟩ : ∃ F', σ2 = σ.setF F' ∧ Fr F1 F' [18] ∧ qV g F' 18 = qV g F1 12 := hp
  rw [e2] at hW
  refine lv_aload_n hx hb dX1_invert_24 rfl (lv_at hl 0 rfl) ?_
  refine q_get (C := RX1) (T := TX1) (v := .ref (g.P 19)) hx hb hts hown (fun _ h9 => iw_X1_invert_X1 _ h9) hW (i := 1) (by decide) rfl rfl 9 (by decide) (hts (.fieldLink RX1 40 "ModEngine$Ring" "leftShare" "[I") (by decide +kernel)) rfl dX1_invert_25 ?_
  refine lv_aload_n hx hb dX1_invert_28 rfl (lv_at hl 0 rfl) ?_
  refine q_get (C := RX1) (T := TX1) (v := .ref (g.P 13)) hx hb hts hown (fun _ h9 => iw_X1_invert_X1 _ h9) hW (i := 1) (by decide) rfl rfl 3 (by decide) (hts (.fieldLink RX1 22 "ModEngine$Ring" "one" "[I") (by decide +kernel)) rfl dX1_invert_29 ?_
  refine lv_aload_n hx hb dX1_invert_32 rfl (lv_at hl 0 rfl) ?_
  refine q_get (C := RX1) (T := TX1) (v := .int (nI g.k)) hx hb hts hown (fun _ h9 => iw_X1_invert_X1 _ h9) hW (i := 1) (by decide) rfl rfl 1 (by decide) (hts (.fieldLink RX1 9 "ModEngine$Ring" "k" "I") (by decide +kernel)) rfl dX1_invert_33 ?_
  refine q_v (q_runS (As := [.ref (g.P 19), .ref (g.P 13), .int (nI g.k)]) (rest := []) S hW (k_copy l g hg (σ.setF F2) (rowk (by decide)) (rowk (by decide))) gX1_invert_X0_copy (nA := 3) ⟨rfl, by decide +kernel, ⟨by decide, by decide⟩⟩ rfl hl.1 rfl (Nat.le_of_ble_eq_true rfl) dX1_invert_36 ⟨Nat.zero_le _, Nat.zero_le _⟩) hW Ad_hi (fun σ3 H locs hp hW => ?_)
  obtain ⟨F3, e3, hf3, hv3⟩ : ∃ F', σ3 = σ.setF F' ∧ Fr F2 F' [19] ∧ qV g F' 19 = qV g F2 13 := hp
  rw [e3] at hW
  refine lv_aload_n hx hb dX1_invert_39 rfl (lv_at hl 0 rfl) ?_
  refine q_get (C := RX1) (T := TX1) (v := .ref (g.P 20)) hx hb hts hown (fun _ h9 => iw_X1_invert_X1 _ h9) hW (i := 1) (by decide) rfl rfl 10 (by decide) (hts (.fieldLink RX1 43 "ModEngine$Ring" "rightShare" "[I") (by decide +kernel)) rfl dX1_invert_40 ?_
  refine lv_iconst (v := 0) hx hb dX1_invert_43 (by decide) ?_
  refine lv_aload_n hx hb dX1_invert_44 rfl (lv_at hl 0 rfl) ?_
  refine q_get (C := RX1) (T := TX1) (v := .int (nI g.k)) hx hb hts hown (fun _ h9 => iw_X1_invert_X1 _ h9) hW (i := 1) (by decide) rfl rfl 1 (by decide) (hts (.fieldLink RX1 9 "ModEngine$Ring" "k" "I") (by decide +kernel)) rfl dX1_invert_45 ?_
  refine q_v (q_runS (As := [.ref (g.P 20), .int 0, .int (nI g.k)]) (rest := []) S hW (k_setSmall l g hg (σ.setF F3) (rowk (by decide)) 0) gX1_invert_X0_setSmall (nA := 3) ⟨rfl, by decide +kernel, ⟨by decide, by decide⟩⟩ rfl hl.1 rfl (Nat.le_of_ble_eq_true rfl) dX1_invert_48 ⟨Nat.zero_le _, Nat.zero_le _⟩) hW Ad_hi (fun σ4 H locs hp hW => ?_)
  obtain ⟨F4, e4, hf4, hv4⟩ : ∃ F', σ4 = σ.setF F' ∧ Fr F3 F' [20] ∧ qV g F' 20 = uI 0 := hp
  rw [e4] at hW
  rw [uI_0] at hv4
  refine lv_iconst (v := 4) hx hb dX1_invert_51 (by decide) ?_
  refine lv_aload_n hx hb dX1_invert_52 rfl (lv_at hl 0 rfl) ?_
  refine q_get (C := RX1) (T := TX1) (v := .int (nI (32 * g.k))) hx hb hts hown (fun _ h9 => iw_X1_invert_X1 _ h9) hW (i := 1) (by decide) rfl rfl 2 (by decide) (hts (.fieldLink RX1 15 "ModEngine$Ring" "bits" "I") (by decide +kernel)) rfl dX1_invert_53 ?_
  refine lv_imul hx hb dX1_invert_56 ?_
  refine q_ti (y := nI (4 * (32 * g.k))) (pk_mul 4 _) ?_
  refine lv_iconst (v := 2) hx hb dX1_invert_57 (by decide) ?_
  refine lv_iadd hx hb dX1_invert_58 ?_
  refine q_ti (y := nI (4 * (32 * g.k) + 2)) (nI_add _ 2) ?_
  refine lv_istore_n (lv' := [(3, .int (nI (4 * (32 * g.k) + 2))), (0, .ref (g.P 1)), (1, .ref (g.P i)), (2, .ref (g.P j))]) hx hb dX1_invert_59 rfl hl (by decide) rfl (fun ls hl => ?_)
  refine lv_iconst (v := 0) hx hb dX1_invert_60 (by decide) ?_
  refine lv_istore (lv' := [(4, .int 0), (3, .int (nI (4 * (32 * g.k) + 2))), (0, .ref (g.P 1)), (1, .ref (g.P i)), (2, .ref (g.P j))]) hx hb dX1_invert_61 hl (by decide) rfl (fun ls hl => ?_)
  have b17 : qV g F4 17 = qV g σ.F j % qV g σ.F 12 := ((hf4.V (by decide)).trans (hf3.V (by decide))).trans ((hf2.V (by decide)).trans hv1)
  have b18 : qV g F4 18 = qV g σ.F 12 := ((hf4.V (by decide)).trans (hf3.V (by decide))).trans (hv2.trans (hf1.V (by decide)))
  have b19 : qV g F4 19 = 1 := ((hf4.V (by decide)).trans hv3).trans ((hf2.V (by decide)).trans ((hf1.V (by decide)).trans p0.2.2.1))
  have hlt := Nat.mod_lt (qV g σ.F j) p0.pos
  have h3 := p0.2.1
  have hmR := qV_lt (g := g) (F := σ.F) (i := 12)
  refine loop (4 * (32 * g.k) + 2) 0 (32 * g.k + 32 * g.k) F4 (by omega) (fun a ha => ?_) ?_ (by rw [b18]; exact p0.1) ?_ (by omega) _ _ ls hW (lv_sub hl [0, 1, 2, 3, 4] rfl)
  · simp only [List.mem_cons, List.not_mem_nil, or_false, not_or] at ha
    rw [hf4 a (by simp; omega), hf3 a (by simp; omega), hf2 a (by simp; omega), hf1 a (by simp; omega)]
  · rw [b17, b18, b19, hv4]
    refine ⟨by omega, by omega, by rw [Nat.one_mul, Nat.mod_mod], by rw [Nat.zero_mul, Nat.zero_mod, Nat.mod_self], ?_⟩
    rw [← Nat.gcd_rec, Nat.gcd_comm]
  · rw [b17, b18, Nat.pow_add]
    exact Nat.mul_lt_mul'' (by omega) hmR
set_option maxHeartbeats 4000000 in
set_option maxRecDepth 100000 in
/-- Ring.isProvedCompositeBy(a) -/
theorem r_witness (l : Launch) (g : qCfg) (hg : g.ok) (σ : qSt) {j : Nat} (hj : 12 ≤ j ∧ j < g.N)(hj21 : 21 ≤ j) (p0 : Pp g σ.F σ.mi)  : qCI l g yX1_isProvedCompositeBy wsX1_isProvedCompositeBy 4 100 [.ref (g.P 1), .ref (g.P j)] σ (fun r σ' => ∃ F', σ' = σ.setF F' ∧ Fr σ.F F' [16, 17, 18, 19] ∧ ∃ u, twos (qV g σ.F 12) u ∧ ((r = 1 ∧ wit (qV g σ.F 12) u (qV g σ.F j)) ∨ (r = 0 ∧ ¬ wit (qV g σ.F 12) u (qV g σ.F j)))) := by
  refine q_sZ (cc := cX1_isProvedCompositeBy) (maxL := 5) (by decide) rfl (Nat.le_of_ble_eq_true rfl) ?_
  intro p e s m args below meth c ls Q S hW hl fin
  obtain ⟨hx, hb, hml, hown, hts, hr, hlocks⟩ := id S
  obtain ⟨hk1, hk8, hn1, hn8⟩ := id hg
  have hl : lv_has ls 5 [(0, .ref (g.P 1)), (1, .ref (g.P j))] := hl
  have h3 := p0.2.1
  have hmR := R_ne (J := 32 * g.k) p0.1 h3
  refine lv_aload_n hx hb dX1_isProvedCompositeBy_0 rfl (lv_at hl 0 rfl) ?_
  refine lv_aload_n hx hb dX1_isProvedCompositeBy_1 rfl (lv_at hl 0 rfl) ?_
  refine q_get (C := RX1) (T := TX1) (v := .ref (g.P 17)) hx hb hts hown (fun _ h9 => iw_X1_isProvedCompositeBy_X1 _ h9) hW (i := 1) (by decide) rfl rfl 7 (by decide) (hts (.fieldLink RX1 34 "ModEngine$Ring" "left" "[I") (by decide +kernel)) rfl dX1_isProvedCompositeBy_2 ?_
  refine lv_aload_n hx hb dX1_isProvedCompositeBy_5 rfl (lv_at hl 1 rfl) ?_
  refine lv_aload_n hx hb dX1_isProvedCompositeBy_6 rfl (lv_at hl 0 rfl) ?_
  refine q_get (C := RX1) (T := TX1) (v := .ref (g.P 15)) hx hb hts hown (fun _ h9 => iw_X1_isProvedCompositeBy_X1 _ h9) hW (i := 1) (by decide) rfl rfl 5 (by decide) (hts (.fieldLink RX1 28 "ModEngine$Ring" "rSquared" "[I") (by decide +kernel)) rfl dX1_isProvedCompositeBy_7 ?_
  refine q_v (q_runV (As := [.ref (g.P 17), .ref (g.P j), .ref (g.P 15)]) (rest := []) (i := 1) S hW (by decide) rfl rfl (r_montgomery l g hg σ (rowk (by decide)) hj (rowk (by decide)) (by omega) (by omega) (by omega) (by omega) p0.pos p0.2.2.2.2.2 (mlt_r p0.lt15)) gX1_isProvedCompositeBy_X1_montgomery rfl (nA := 3) ⟨rfl, by decide +kernel, ⟨by decide, by decide⟩⟩ rfl hl.1 rfl (Nat.le_of_ble_eq_true rfl) dX1_isProvedCompositeBy_10 ⟨Nat.zero_le _, Nat.zero_le _⟩) hW Ad_hi (fun σ1 H locs hp hW => ?_)
  obtain ⟨F1, e1, hf1, hl1, hv1⟩ : ∃ F', σ1 = σ.setF F' ∧ Fr σ.F F' [16, 17] ∧ qV g F' 17 < qV g σ.F 12 ∧ qV g F' 17 * 2 ^ (32 * g.k) % qV g σ.F 12 = qV g σ.F j * qV g σ.F 15 % qV g σ.F 12 := hp
  rw [e1] at hW
  obtain ⟨p1, m1⟩ := p0.keep hf1 (ge16 (by omega))
  have h1 := mf_to p0.1 p0.2.2.2.2.1 hv1
  refine lv_aload_n hx hb dX1_isProvedCompositeBy_13 rfl (lv_at hl 0 rfl) ?_
  refine q_get (C := RX1) (T := TX1) (v := .ref (g.P 17)) hx hb hts hown (fun _ h9 => iw_X1_isProvedCompositeBy_X1 _ h9) hW (i := 1) (by decide) rfl rfl 7 (by decide) (hts (.fieldLink RX1 34 "ModEngine$Ring" "left" "[I") (by decide +kernel)) rfl dX1_isProvedCompositeBy_14 ?_
  refine lv_iconst (v := 0) hx hb dX1_isProvedCompositeBy_17 (by decide) ?_
  refine lv_aload_n hx hb dX1_isProvedCompositeBy_18 rfl (lv_at hl 0 rfl) ?_
  refine q_get (C := RX1) (T := TX1) (v := .int (nI g.k)) hx hb hts hown (fun _ h9 => iw_X1_isProvedCompositeBy_X1 _ h9) hW (i := 1) (by decide) rfl rfl 1 (by decide) (hts (.fieldLink RX1 9 "ModEngine$Ring" "k" "I") (by decide +kernel)) rfl dX1_isProvedCompositeBy_19 ?_
  refine q_i (q_runS (As := [.ref (g.P 17), .int 0, .int (nI g.k)]) (rest := []) S hW (k_isSmall l g hg (σ.setF F1) (rowk (by decide)) 0) gX1_isProvedCompositeBy_X0_isSmall (nA := 3) ⟨rfl, by decide +kernel, ⟨by decide, by decide⟩⟩ rfl hl.1 rfl (Nat.le_of_ble_eq_true rfl) dX1_isProvedCompositeBy_22 ⟨Nat.zero_le _, Nat.zero_le _⟩) hW Ad_hi (fun r_22 σ2 H locs hp hW => ?_)
  obtain ⟨e2, er2⟩ : σ2 = σ.setF F1 ∧ r_22 = if qV g F1 17 = uI 0 then 1 else 0 := hp
  rw [e2] at hW
  rw [uI_0] at er2
  have hz : qV g F1 17 = 0 ↔ qV g σ.F j % qV g σ.F 12 = 0 := by
    have h5 := mf_is (z := 0) p0.1 h1
    rw [Nat.zero_mul, Nat.zero_mod, Nat.mod_eq_of_lt hl1] at h5
    exact h5
  have frA : Fr σ.F F1 [16, 17, 18, 19] := fun a ha => hf1 a (by simp only [List.mem_cons, List.not_mem_nil, or_false, not_or] at ha; simp; omega)
  refine lv_if_eq (tgt := 30) hx hb dX1_isProvedCompositeBy_25 (by decide) (fun c9 => ?_) (fun c9 => ?_)
  · have hn0 : ¬ qV g σ.F j % qV g σ.F 12 = 0 := fun q => (fa_boolp er2).1.mp c9 (hz.mpr q)
    refine lv_aload_n hx hb dX1_isProvedCompositeBy_30 rfl (lv_at hl 0 rfl) ?_
    refine q_i (q_runV (As := []) (rest := []) (i := 1) S hW (by decide) rfl rfl (r_twos l g hg (σ.setF F1) p1) gX1_isProvedCompositeBy_X1_twosInModulusLessOne rfl (nA := 0) ⟨rfl, by decide +kernel, ⟨by decide, by decide⟩⟩ rfl hl.1 rfl (Nat.le_of_ble_eq_true rfl) dX1_isProvedCompositeBy_31 ⟨Nat.zero_le _, Nat.zero_le _⟩) hW Ad_hi (fun r_31 σ3 H locs hp hW => ?_)
    obtain ⟨e3, er3⟩ : σ3 = σ.setF F1 ∧ ∃ u, r_31 = nI u ∧ u < 32 * g.k ∧ twos (qV g F1 12) u := hp
    rw [e3] at hW
    obtain ⟨u, eu, hu, htw⟩ := er3
    rw [m1] at htw
    refine q_ti (y := nI u) eu ?_
    refine lv_istore_n (lv' := [(2, .int (nI u)), (0, .ref (g.P 1)), (1, .ref (g.P j))]) hx hb dX1_isProvedCompositeBy_34 rfl hl (by decide) rfl (fun ls hl => ?_)
    refine lv_aload_n hx hb dX1_isProvedCompositeBy_35 rfl (lv_at hl 1 rfl) ?_
    refine q_get (C := RX1) (T := TX1) (v := .ref (g.P 19)) hx hb hts hown (fun _ h9 => iw_X1_isProvedCompositeBy_X1 _ h9) hW (i := 1) (by decide) rfl rfl 9 (by decide) (hts (.fieldLink RX1 40 "ModEngine$Ring" "leftShare" "[I") (by decide +kernel)) rfl dX1_isProvedCompositeBy_36 ?_
    refine lv_astore_n (lv' := [(3, .ref (g.P 19)), (2, .int (nI u)), (0, .ref (g.P 1)), (1, .ref (g.P j))]) hx hb dX1_isProvedCompositeBy_39 rfl hl (by decide) rfl (fun ls hl => ?_)
    refine lv_aload_n hx hb dX1_isProvedCompositeBy_40 rfl (lv_at hl 2 rfl) ?_
    refine lv_aload_n hx hb dX1_isProvedCompositeBy_41 rfl (lv_at hl 0 rfl) ?_
    refine lv_aload_n hx hb dX1_isProvedCompositeBy_42 rfl (lv_at hl 2 rfl) ?_
    refine q_get (C := RX1) (T := TX1) (v := .ref (g.P 12)) hx hb hts hown (fun _ h9 => iw_X1_isProvedCompositeBy_X1 _ h9) hW (i := 1) (by decide) rfl rfl 0 (by decide) (hts (.fieldLink RX1 18 "ModEngine$Ring" "modulus" "[I") (by decide +kernel)) rfl dX1_isProvedCompositeBy_43 ?_
    refine lv_aload_n hx hb dX1_isProvedCompositeBy_46 rfl (lv_at hl 2 rfl) ?_
    refine q_get (C := RX1) (T := TX1) (v := .ref (g.P 14)) hx hb hts hown (fun _ h9 => iw_X1_isProvedCompositeBy_X1 _ h9) hW (i := 1) (by decide) rfl rfl 4 (by decide) (hts (.fieldLink RX1 25 "ModEngine$Ring" "unit" "[I") (by decide +kernel)) rfl dX1_isProvedCompositeBy_47 ?_
    refine q_v (q_runV (As := [.ref (g.P 19), .ref (g.P 12), .ref (g.P 14)]) (rest := []) (i := 1) S hW (by decide) rfl rfl (r_subtractBelow l g hg (σ.setF F1) (rowk (by decide)) (rowk (by decide)) (rowk (by decide)) (by decide) (by have := p1.lt14; show qV g F1 14 ≤ qV g F1 12 + qV g F1 12; omega)) gX1_isProvedCompositeBy_X1_subtractBelow rfl (nA := 3) ⟨rfl, by decide +kernel, ⟨by decide, by decide⟩⟩ rfl hl.1 rfl (Nat.le_of_ble_eq_true rfl) dX1_isProvedCompositeBy_50 ⟨Nat.zero_le _, Nat.zero_le _⟩) hW Ad_hi (fun σ4 H locs hp hW => ?_)
    obtain ⟨F4, e4, hf4, hv4⟩ : ∃ F', σ4 = σ.setF F' ∧ Fr F1 F' [19] ∧ qV g F' 19 = dfm (qV g F1 12) (qV g F1 12) (qV g F1 14) := hp
    rw [e4] at hW
    obtain ⟨p4, m4⟩ := p1.keep hf4 (by decide)
    rw [m1] at m4
    have v19 : qV g F4 19 = qV g σ.F 12 - 2 ^ (32 * g.k) % qV g σ.F 12 := by
      rw [hv4, p1.2.2.2.1, m1]
      unfold dfm
      rw [if_pos (Nat.le_of_lt (Nat.mod_lt _ p0.pos))]
    have v17 : qV g F4 17 = qV g F1 17 := hf4.V (by decide)
    refine lv_aload_n hx hb dX1_isProvedCompositeBy_53 rfl (lv_at hl 2 rfl) ?_
    refine lv_aload_n hx hb dX1_isProvedCompositeBy_54 rfl (lv_at hl 2 rfl) ?_
    refine q_get (C := RX1) (T := TX1) (v := .ref (g.P 18)) hx hb hts hown (fun _ h9 => iw_X1_isProvedCompositeBy_X1 _ h9) hW (i := 1) (by decide) rfl rfl 8 (by decide) (hts (.fieldLink RX1 37 "ModEngine$Ring" "right" "[I") (by decide +kernel)) rfl dX1_isProvedCompositeBy_55 ?_
    refine lv_aload_n hx hb dX1_isProvedCompositeBy_58 rfl (lv_at hl 2 rfl) ?_
    refine q_get (C := RX1) (T := TX1) (v := .ref (g.P 17)) hx hb hts hown (fun _ h9 => iw_X1_isProvedCompositeBy_X1 _ h9) hW (i := 1) (by decide) rfl rfl 7 (by decide) (hts (.fieldLink RX1 34 "ModEngine$Ring" "left" "[I") (by decide +kernel)) rfl dX1_isProvedCompositeBy_59 ?_
    refine lv_aload_n hx hb dX1_isProvedCompositeBy_62 rfl (lv_at hl 2 rfl) ?_
    refine q_get (C := RX1) (T := TX1) (v := .ref (g.P 12)) hx hb hts hown (fun _ h9 => iw_X1_isProvedCompositeBy_X1 _ h9) hW (i := 1) (by decide) rfl rfl 0 (by decide) (hts (.fieldLink RX1 18 "ModEngine$Ring" "modulus" "[I") (by decide +kernel)) rfl dX1_isProvedCompositeBy_63 ?_
    refine lv_iload_n hx hb dX1_isProvedCompositeBy_66 rfl (lv_at hl 1 rfl) ?_
    refine q_v (q_runV (As := [.ref (g.P 18), .ref (g.P 17), .ref (g.P 12), .int (nI u)]) (rest := []) (i := 1) S hW (by decide) rfl rfl (r_raise l g hg (σ.setF F4) (rowk (by decide)) (rowk (by decide)) (rowk (by decide)) (by omega) (by omega) (by decide) (by decide) (by decide) p4 u (qV g σ.F j) (by omega) (by show qV g F4 17 < qV g F4 12; rw [m4, v17]; exact hl1) (by show qV g F4 17 % qV g F4 12 = qV g σ.F j * 2 ^ (32 * g.k) % qV g F4 12; rw [m4, v17]; exact h1)) gX1_isProvedCompositeBy_X1_raise rfl (nA := 4) ⟨rfl, by decide +kernel, ⟨by decide, by decide⟩⟩ rfl hl.1 rfl (Nat.le_of_ble_eq_true rfl) dX1_isProvedCompositeBy_67 ⟨Nat.zero_le _, Nat.zero_le _⟩) hW Ad_hi (fun σ5 H locs hp hW => ?_)
    obtain ⟨F5, e5, hf5, hl5, hv5⟩ : ∃ F', σ5 = σ.setF F' ∧ Fr F4 F' [16, 18] ∧ qV g F' 18 < qV g F4 12 ∧ qV g F' 18 % qV g F4 12 = qV g σ.F j ^ (qV g F4 12 / 2 ^ u) * 2 ^ (32 * g.k) % qV g F4 12 := hp
    rw [e5] at hW
    obtain ⟨p5, m5⟩ := p4.keep hf5 (ge16 (by omega))
    rw [m4] at m5
    rw [m4] at hl5 hv5
    have u14 : qV g F5 14 = 2 ^ (32 * g.k) % qV g σ.F 12 := by rw [p5.2.2.2.1, m5]
    refine lv_aload_n hx hb dX1_isProvedCompositeBy_70 rfl (lv_at hl 2 rfl) ?_
    refine q_get (C := RX1) (T := TX1) (v := .ref (g.P 18)) hx hb hts hown (fun _ h9 => iw_X1_isProvedCompositeBy_X1 _ h9) hW (i := 1) (by decide) rfl rfl 8 (by decide) (hts (.fieldLink RX1 37 "ModEngine$Ring" "right" "[I") (by decide +kernel)) rfl dX1_isProvedCompositeBy_71 ?_
    refine lv_aload_n hx hb dX1_isProvedCompositeBy_74 rfl (lv_at hl 2 rfl) ?_
    refine q_get (C := RX1) (T := TX1) (v := .ref (g.P 14)) hx hb hts hown (fun _ h9 => iw_X1_isProvedCompositeBy_X1 _ h9) hW (i := 1) (by decide) rfl rfl 4 (by decide) (hts (.fieldLink RX1 25 "ModEngine$Ring" "unit" "[I") (by decide +kernel)) rfl dX1_isProvedCompositeBy_75 ?_
    refine lv_aload_n hx hb dX1_isProvedCompositeBy_78 rfl (lv_at hl 2 rfl) ?_
    refine q_get (C := RX1) (T := TX1) (v := .int (nI g.k)) hx hb hts hown (fun _ h9 => iw_X1_isProvedCompositeBy_X1 _ h9) hW (i := 1) (by decide) rfl rfl 1 (by decide) (hts (.fieldLink RX1 9 "ModEngine$Ring" "k" "I") (by decide +kernel)) rfl dX1_isProvedCompositeBy_79 ?_
    refine q_i (q_runS (As := [.ref (g.P 18), .ref (g.P 14), .int (nI g.k)]) (rest := []) S hW (k_order l g hg (σ.setF F5) (rowk (by decide)) (rowk (by decide))) gX1_isProvedCompositeBy_X0_order (nA := 3) ⟨rfl, by decide +kernel, ⟨by decide, by decide⟩⟩ rfl hl.1 rfl (Nat.le_of_ble_eq_true rfl) dX1_isProvedCompositeBy_82 ⟨Nat.zero_le _, Nat.zero_le _⟩) hW Ad_hi (fun r_82 σ6 H locs hp hW => ?_)
    obtain ⟨e6, er6⟩ : σ6 = σ.setF F5 ∧ r_82 = if qV g F5 18 < qV g F5 14 then -1 else if qV g F5 18 = qV g F5 14 then 0 else 1 := hp
    rw [e6] at hW
    have hone : qV g F5 18 = qV g F5 14 ↔ qV g σ.F j ^ (qV g σ.F 12 / 2 ^ u) % qV g σ.F 12 = 1 := by
      have h5 := mf_is (z := 1) p0.1 hv5
      rw [Nat.one_mul, Nat.mod_eq_of_lt hl5, Nat.mod_eq_of_lt (show 1 < qV g σ.F 12 by omega), ← u14] at h5
      exact h5
    have frB : Fr σ.F F5 [16, 17, 18, 19] := fun a ha => by
      have ha1 := ha
      simp only [List.mem_cons, List.not_mem_nil, or_false, not_or] at ha
      rw [hf5 a (by simp; omega), hf4 a (by simp; omega), frA a ha1]
    refine lv_if_ne (tgt := 90) hx hb dX1_isProvedCompositeBy_85 (by decide) (fun c8 => ?_) (fun c8 => ?_)
    · have hn1 : ¬ qV g σ.F j ^ (qV g σ.F 12 / 2 ^ u) % qV g σ.F 12 = 1 := fun q => c8 ((ord_eq er6).mpr (hone.mpr q))
      refine lv_iconst (v := 0) hx hb dX1_isProvedCompositeBy_90 (by decide) ?_
      refine lv_istore (lv' := [(4, .int 0), (3, .ref (g.P 19)), (2, .int (nI u)), (0, .ref (g.P 1)), (1, .ref (g.P j))]) hx hb dX1_isProvedCompositeBy_91 hl (by decide) rfl (fun ls hl => ?_)
      have loop : ∀ (n y : Nat) (F : Nat → Nat → Int32), y ≤ u → u + 1 ≤ y + n → Fr σ.F F [16, 17, 18, 19] → qV g F 19 = qV g σ.F 12 - 2 ^ (32 * g.k) % qV g σ.F 12 → qV g F 18 < qV g σ.F 12 → qV g F 18 % qV g σ.F 12 = qV g σ.F j ^ (qV g σ.F 12 / 2 ^ u * 2 ^ y) * 2 ^ (32 * g.k) % qV g σ.F 12 → (∀ z, z < y → ¬ qV g σ.F j ^ (qV g σ.F 12 / 2 ^ u * 2 ^ z) % qV g σ.F 12 = qV g σ.F 12 - 1) → ∀ (H : Heap) (locs : List Loc) (ls : Array Slot), Wo g (Ad g s.heap.size) s H locs (σ.setF F) → lv_has ls 5 [(4, .int (nI y)), (3, .ref (g.P 19)), (2, .int (nI u)), (0, .ref (g.P 1)), (1, .ref (g.P j))] → W p l e (rmm 4 100) s m args below meth c H locs 0 0 Q (F0 m 93 ls []) := by
        intro n
        induction n with
        | zero => intro y F h1 h2; exact absurd h2 (by omega)
        | succ n ih =>
          intro y F hy1 hy2 hf hv19 hl18 hv18 hall H locs ls hW hl
          obtain ⟨pF, mF⟩ := p0.keep hf (by decide)
          refine lv_iload hx hb dX1_isProvedCompositeBy_93 (lv_at hl 0 rfl) ?_
          refine lv_iload_n hx hb dX1_isProvedCompositeBy_95 rfl (lv_at hl 2 rfl) ?_
          refine lv_icmp_ge (tgt := 138) hx hb dX1_isProvedCompositeBy_96 (by decide) (fun c7 => ?_) (fun c7 => ?_)
          · have hx3 := nle c7 (by omega) (by omega)
            refine lv_iconst (v := 1) hx hb dX1_isProvedCompositeBy_138 (by decide) ?_
            exact fin _ _ _ _ _ _ (by decide) hW (⟨F, rfl, hf, u, htw, Or.inl ⟨rfl, hn0, hn1, fun z hz => hall z (by omega)⟩⟩) dX1_isProvedCompositeBy_139
          · have hx3 := nge c7 (by omega)
            refine lv_aload_n hx hb dX1_isProvedCompositeBy_99 rfl (lv_at hl 3 rfl) ?_
            refine q_get (C := RX1) (T := TX1) (v := .ref (g.P 18)) hx hb hts hown (fun _ h9 => iw_X1_isProvedCompositeBy_X1 _ h9) hW (i := 1) (by decide) rfl rfl 8 (by decide) (hts (.fieldLink RX1 37 "ModEngine$Ring" "right" "[I") (by decide +kernel)) rfl dX1_isProvedCompositeBy_100 ?_
            refine lv_aload_n hx hb dX1_isProvedCompositeBy_103 rfl (lv_at hl 1 rfl) ?_
            refine lv_aload_n hx hb dX1_isProvedCompositeBy_104 rfl (lv_at hl 3 rfl) ?_
            refine q_get (C := RX1) (T := TX1) (v := .int (nI g.k)) hx hb hts hown (fun _ h9 => iw_X1_isProvedCompositeBy_X1 _ h9) hW (i := 1) (by decide) rfl rfl 1 (by decide) (hts (.fieldLink RX1 9 "ModEngine$Ring" "k" "I") (by decide +kernel)) rfl dX1_isProvedCompositeBy_105 ?_
            refine q_i (q_runS (As := [.ref (g.P 18), .ref (g.P 19), .int (nI g.k)]) (rest := []) S hW (k_order l g hg (σ.setF F) (rowk (by decide)) (rowk (by decide))) gX1_isProvedCompositeBy_X0_order (nA := 3) ⟨rfl, by decide +kernel, ⟨by decide, by decide⟩⟩ rfl hl.1 rfl (Nat.le_of_ble_eq_true rfl) dX1_isProvedCompositeBy_108 ⟨Nat.zero_le _, Nat.zero_le _⟩) hW Ad_hi (fun r_108 σ1 H locs hp hW => ?_)
            obtain ⟨e1, er1⟩ : σ1 = σ.setF F ∧ r_108 = if qV g F 18 < qV g F 19 then -1 else if qV g F 18 = qV g F 19 then 0 else 1 := hp
            rw [e1] at hW
            have hm1 : qV g F 18 = qV g F 19 ↔ qV g σ.F j ^ (qV g σ.F 12 / 2 ^ u * 2 ^ y) % qV g σ.F 12 = qV g σ.F 12 - 1 := by
              have h5 := mf_is (z := qV g σ.F 12 - 1) p0.1 hv18
              rw [m1R h3 hmR, Nat.mod_eq_of_lt hl18, Nat.mod_eq_of_lt (show qV g σ.F 12 - 1 < qV g σ.F 12 by omega), ← hv19] at h5
              exact h5
            refine lv_if_ne (tgt := 116) hx hb dX1_isProvedCompositeBy_111 (by decide) (fun c6 => ?_) (fun c6 => ?_)
            · have hne : ¬ qV g σ.F j ^ (qV g σ.F 12 / 2 ^ u * 2 ^ y) % qV g σ.F 12 = qV g σ.F 12 - 1 := fun q => c6 ((ord_eq er1).mpr (hm1.mpr q))
              refine lv_aload_n hx hb dX1_isProvedCompositeBy_116 rfl (lv_at hl 3 rfl) ?_
              refine lv_aload_n hx hb dX1_isProvedCompositeBy_117 rfl (lv_at hl 3 rfl) ?_
              refine q_get (C := RX1) (T := TX1) (v := .ref (g.P 18)) hx hb hts hown (fun _ h9 => iw_X1_isProvedCompositeBy_X1 _ h9) hW (i := 1) (by decide) rfl rfl 8 (by decide) (hts (.fieldLink RX1 37 "ModEngine$Ring" "right" "[I") (by decide +kernel)) rfl dX1_isProvedCompositeBy_118 ?_
              refine lv_aload_n hx hb dX1_isProvedCompositeBy_121 rfl (lv_at hl 3 rfl) ?_
              refine q_get (C := RX1) (T := TX1) (v := .ref (g.P 18)) hx hb hts hown (fun _ h9 => iw_X1_isProvedCompositeBy_X1 _ h9) hW (i := 1) (by decide) rfl rfl 8 (by decide) (hts (.fieldLink RX1 37 "ModEngine$Ring" "right" "[I") (by decide +kernel)) rfl dX1_isProvedCompositeBy_122 ?_
              refine lv_aload_n hx hb dX1_isProvedCompositeBy_125 rfl (lv_at hl 3 rfl) ?_
              refine q_get (C := RX1) (T := TX1) (v := .ref (g.P 18)) hx hb hts hown (fun _ h9 => iw_X1_isProvedCompositeBy_X1 _ h9) hW (i := 1) (by decide) rfl rfl 8 (by decide) (hts (.fieldLink RX1 37 "ModEngine$Ring" "right" "[I") (by decide +kernel)) rfl dX1_isProvedCompositeBy_126 ?_
              refine q_v (q_runV (As := [.ref (g.P 18), .ref (g.P 18), .ref (g.P 18)]) (rest := []) (i := 1) S hW (by decide) rfl rfl (r_montgomery l g hg (σ.setF F) (rowk (by decide)) (rowk (by decide)) (rowk (by decide)) (by omega) (by omega) (by omega) (by omega) pF.pos pF.2.2.2.2.2 (mlt_l (by show qV g F 18 < qV g F 12; rw [mF]; exact hl18))) gX1_isProvedCompositeBy_X1_montgomery rfl (nA := 3) ⟨rfl, by decide +kernel, ⟨by decide, by decide⟩⟩ rfl hl.1 rfl (Nat.le_of_ble_eq_true rfl) dX1_isProvedCompositeBy_129 ⟨Nat.zero_le _, Nat.zero_le _⟩) hW Ad_hi (fun σ2 H locs hp hW => ?_)
              obtain ⟨F2, e2, hf2, hl2, hv2⟩ : ∃ F', σ2 = σ.setF F' ∧ Fr F F' [16, 18] ∧ qV g F' 18 < qV g F 12 ∧ qV g F' 18 * 2 ^ (32 * g.k) % qV g F 12 = qV g F 18 * qV g F 18 % qV g F 12 := hp
              rw [e2] at hW
              obtain ⟨p2, m2⟩ := pF.keep hf2 (ge16 (by omega))
              rw [mF] at m2
              rw [mF] at hv2 hl2
              have h6 := mf_mul p0.1 hv2 hv18 hv18
              rw [← Nat.pow_add, ← Nat.mul_two, Nat.mul_assoc, ← Nat.pow_succ] at h6
              refine lv_iinc (v := nI (y + 1)) (lv' := [(4, .int (nI (y + 1))), (3, .ref (g.P 19)), (2, .int (nI u)), (0, .ref (g.P 1)), (1, .ref (g.P j))]) hx hb dX1_isProvedCompositeBy_132 hl (k := 0) rfl (nI_1 _) (by decide) rfl (fun ls hl => ?_)
              refine lv_goto (tgt := 93) hx hb dX1_isProvedCompositeBy_135 (by decide) ?_
              exact ih (y + 1) F2 (by omega) (by omega) (fun a ha => by
                  have ha1 := ha
                  simp only [List.mem_cons, List.not_mem_nil, or_false, not_or] at ha
                  rw [hf2 a (by simp; omega), hf a ha1]) ((hf2.V (by decide)).trans hv19) hl2 h6 (fun z hz => by
                  by_cases q : z = y
                  · rw [q]; exact hne
                  · exact hall z (by omega)) H locs ls hW (lv_sub hl [0, 1, 2, 3, 4] rfl)
            · have heq := hm1.mp ((ord_eq er1).mp c6)
              refine lv_iconst (v := 0) hx hb dX1_isProvedCompositeBy_114 (by decide) ?_
              exact fin _ _ _ _ _ _ (by decide) hW (⟨F, rfl, hf, u, htw, Or.inr ⟨rfl, fun q => q.2.2 y hx3 heq⟩⟩) dX1_isProvedCompositeBy_115
      exact loop (u + 1) 0 F5 (by omega) (by omega) frB ((hf5.V (by decide)).trans v19) hl5 (by rw [Nat.pow_zero, Nat.mul_one]; exact hv5) (fun z hz => absurd hz (by omega)) H locs ls hW (lv_sub hl [0, 1, 2, 3, 4] rfl)
    · have heq := hone.mp ((ord_eq er6).mp c8)
      refine lv_iconst (v := 0) hx hb dX1_isProvedCompositeBy_88 (by decide) ?_
      exact fin _ _ _ _ _ _ (by decide) hW (⟨F5, rfl, frB, u, htw, Or.inr ⟨rfl, fun q => q.2.1 heq⟩⟩) dX1_isProvedCompositeBy_89
  · have h0 := hz.mp ((fa_boolp er2).2.mp c9)
    obtain ⟨u, htw⟩ := twos_ex p0.1 h3
    refine lv_iconst (v := 0) hx hb dX1_isProvedCompositeBy_28 (by decide) ?_
    exact fin _ _ _ _ _ _ (by decide) hW (⟨F1, rfl, frA, u, htw, Or.inr ⟨rfl, fun q => q.1 h0⟩⟩) dX1_isProvedCompositeBy_29
end
section
/-! ===== what each call does, of numbers: the same words for the class and for the reference ===== -/
def isR (x : Int32) (n : Nat) : Prop := ∃ j, j < n ∧ x = nI j
theorem isR_no {x : Int32} {n : Nat} (hn : n ≤ 8) (h : x < 0 ∨ nI n ≤ x) : ¬ isR x n := by
  rintro ⟨j, hj, rfl⟩
  rcases h with h | h
  · exact nI_pos (by omega) h
  · exact nI_ge hj (by omega) h
theorem isR_yes {x : Int32} {n : Nat} (hn : n ≤ 8) (h1 : ¬ x < 0) (h2 : ¬ nI n ≤ x) : isR x n := by
  rcases pk_ix x (n := n) (by omega) with h | h | h
  · exact absurd h h1
  · exact absurd h h2
  · exact h
theorem nI_inj8 {a b n : Nat} (hn : n ≤ 8) (ha : a < n) (hb : b < n) (h : nI a = nI b) : a = b := (nI_eq (by omega) (by omega)).mp h
/-- limb j of a number, and a number with another limb there -/
def dig (X j : Nat) : Nat := X / 2 ^ (32 * j) % 4294967296
def setd (X j w : Nat) : Nat := X + w * 2 ^ (32 * j) - dig X j * 2 ^ (32 * j)
theorem dv_div {d : Nat → Nat} : ∀ {k j : Nat}, dB d k → j < k → dv d k / 2 ^ (32 * j) % 4294967296 = d j
  | 0, _, _, h => absurd h (Nat.not_lt_zero _)
  | k + 1, j, hd, h => by
    have h1 := dv_lt (dB_le hd (Nat.le_succ k))
    show (dv d k + d k * 2 ^ (32 * k)) / 2 ^ (32 * j) % 4294967296 = d j
    by_cases q : j = k
    · subst q
      rw [Nat.add_mul_div_right _ _ (p32_pos j), Nat.div_eq_of_lt h1, Nat.zero_add, Nat.mod_eq_of_lt (hd j h)]
    · obtain ⟨e, he⟩ : ∃ e, k = j + 1 + e := ⟨k - j - 1, by omega⟩
      have e1 : d k * 2 ^ (32 * k) = 4294967296 * (d k * 2 ^ (32 * e)) * 2 ^ (32 * j) := by
        rw [he, show 32 * (j + 1 + e) = 32 + 32 * e + 32 * j by omega, Nat.pow_add, Nat.pow_add]
        grind
      rw [e1, Nat.add_mul_div_right _ _ (p32_pos j), Nat.add_mul_mod_self_left]
      exact dv_div (dB_le hd (Nat.le_succ k)) (by omega)
theorem dig_rv {f : Nat → Int32} {k j : Nat} (h : j < k) : dig (rv f k) j = uI (f j) := dv_div (rB f k) h
theorem setd_rv {f : Nat → Int32} {k j : Nat} {w : Int32} (h : j < k) : rv (upd f j w) k = setd (rv f k) j (uI w) := by
  unfold setd
  rw [dig_rv h]
  have := rv_updk (f := f) (v := w) h
  omega
def sPokeMod (k : Nat) (i w : Int32) (M : Nat) (X : Nat → Nat) (rd r : Int32) (M' : Nat) (X' : Nat → Nat) (rd' : Int32) : Prop :=
  (∃ j, j < k ∧ i = nI j ∧ r = 1 ∧ M' = setd M j (uI w) ∧ X' = X ∧ rd' = 0) ∨ (¬ isR i k ∧ r = 0 ∧ M' = M ∧ X' = X ∧ rd' = rd)
def sPeekMod (k : Nat) (i : Int32) (M : Nat) (X : Nat → Nat) (rd r : Int32) (M' : Nat) (X' : Nat → Nat) (rd' : Int32) : Prop :=
  ((∃ j, j < k ∧ i = nI j ∧ r = nI (dig M j)) ∨ (¬ isR i k ∧ r = 0)) ∧ M' = M ∧ X' = X ∧ rd' = rd
def sInit (M : Nat) (X : Nat → Nat) (rd r : Int32) (M' : Nat) (X' : Nat → Nat) (rd' : Int32) : Prop :=
  M' = M ∧ X' = X ∧ ((M % 2 = 1 ∧ 3 ≤ M ∧ r = 0 ∧ rd' = 1) ∨ (¬ (M % 2 = 1 ∧ 3 ≤ M) ∧ r = 1 ∧ rd' = rd))
def sReady (M : Nat) (X : Nat → Nat) (rd r : Int32) (M' : Nat) (X' : Nat → Nat) (rd' : Int32) : Prop := r = rd ∧ M' = M ∧ X' = X ∧ rd' = rd
def sPoke (n k : Nat) (d i w : Int32) (M : Nat) (X : Nat → Nat) (rd r : Int32) (M' : Nat) (X' : Nat → Nat) (rd' : Int32) : Prop :=
  ((∃ e j, e < n ∧ j < k ∧ d = nI e ∧ i = nI j ∧ r = 1 ∧ X' = va_up X e (setd (X e) j (uI w))) ∨ (¬ (isR d n ∧ isR i k) ∧ r = 0 ∧ X' = X)) ∧ M' = M ∧ rd' = rd
def sPeek (n k : Nat) (d i : Int32) (M : Nat) (X : Nat → Nat) (rd r : Int32) (M' : Nat) (X' : Nat → Nat) (rd' : Int32) : Prop :=
  ((∃ e j, e < n ∧ j < k ∧ d = nI e ∧ i = nI j ∧ r = nI (dig (X e) j)) ∨ (¬ (isR d n ∧ isR i k) ∧ r = 0)) ∧ M' = M ∧ X' = X ∧ rd' = rd
/-- a call on registers d, a, b; Pv says what comes into d -/
def sReg (n : Nat) (Pv : Nat → Nat → Nat → Nat → Prop) (d a b : Int32) (M : Nat) (X : Nat → Nat) (rd r : Int32) (M' : Nat) (X' : Nat → Nat) (rd' : Int32) : Prop :=
  ((∃ d1 a1 b1 v, d1 < n ∧ a1 < n ∧ b1 < n ∧ d = nI d1 ∧ a = nI a1 ∧ b = nI b1 ∧ rd = 1 ∧ r = 1 ∧ Pv M (X a1) (X b1) v ∧ X' = va_up X d1 v) ∨ (¬ (rd = 1 ∧ isR d n ∧ isR a n ∧ isR b n) ∧ r = 0 ∧ X' = X)) ∧ M' = M ∧ rd' = rd
def pRes (M x _y v : Nat) : Prop := v = x % M
def pAdd (M x y v : Nat) : Prop := v = (x % M + y % M) % M
def pSub (M x y v : Nat) : Prop := v = dfm M (x % M) (y % M)
def pMul (M x y v : Nat) : Prop := v = x * y % M
def pMon (k M x y v : Nat) : Prop := M % 2 = 1 ∧ v < M ∧ v * 2 ^ (32 * k) % M = x * y % M
def pPow (M x y v : Nat) : Prop := v = x ^ y % M
def sInv (n : Nat) (d a : Int32) (M : Nat) (X : Nat → Nat) (rd r : Int32) (M' : Nat) (X' : Nat → Nat) (rd' : Int32) : Prop :=
  ((∃ d1 a1, d1 < n ∧ a1 < n ∧ d = nI d1 ∧ a = nI a1 ∧ rd = 1 ∧ ((∃ v, r = 0 ∧ Nat.gcd (X a1) M = 1 ∧ 0 < M ∧ v < M ∧ v * X a1 % M = 1 % M ∧ X' = va_up X d1 v) ∨ (r = 1 ∧ Nat.gcd (X a1) M ≠ 1 ∧ X' = X))) ∨ (¬ (rd = 1 ∧ isR d n ∧ isR a n) ∧ r = 2 ∧ X' = X)) ∧ M' = M ∧ rd' = rd
def sWit (n : Nat) (a : Int32) (M : Nat) (X : Nat → Nat) (rd r : Int32) (M' : Nat) (X' : Nat → Nat) (rd' : Int32) : Prop :=
  ((∃ a1 u, a1 < n ∧ a = nI a1 ∧ rd = 1 ∧ twos M u ∧ ((r = 1 ∧ wit M u (X a1)) ∨ (r = 0 ∧ ¬ wit M u (X a1)))) ∨ (¬ (rd = 1 ∧ isR a n) ∧ r = 2)) ∧ M' = M ∧ X' = X ∧ rd' = rd
def sCmp (n : Nat) (a b : Int32) (M : Nat) (X : Nat → Nat) (rd r : Int32) (M' : Nat) (X' : Nat → Nat) (rd' : Int32) : Prop :=
  ((∃ a1 b1, a1 < n ∧ b1 < n ∧ a = nI a1 ∧ b = nI b1 ∧ r = if X a1 < X b1 then -1 else if X a1 = X b1 then 0 else 1) ∨ (¬ (isR a n ∧ isR b n) ∧ r = 2)) ∧ M' = M ∧ X' = X ∧ rd' = rd
/-! each leaves one answer and one state -/
def one1 (r1 r2 : Int32) (M1 M2 : Nat) (X1 X2 : Nat → Nat) (d1 d2 : Int32) : Prop := r1 = r2 ∧ M1 = M2 ∧ X1 = X2 ∧ d1 = d2
section ON
variable {n k M M1 M2 : Nat} {X X1 X2 : Nat → Nat} {rd r1 r2 d1 d2 i w d a b : Int32}
theorem o_pokeMod (hk : k ≤ 8) (h1 : sPokeMod k i w M X rd r1 M1 X1 d1) (h2 : sPokeMod k i w M X rd r2 M2 X2 d2) : one1 r1 r2 M1 M2 X1 X2 d1 d2 := by
  rcases h1 with ⟨j, hj, e1, e2, e3, e4, e5⟩ | ⟨hn, e2, e3, e4, e5⟩ <;> rcases h2 with ⟨j', hj', f1, f2, f3, f4, f5⟩ | ⟨hn', f2, f3, f4, f5⟩
  · have := nI_inj8 hk hj hj' (e1.symm.trans f1)
    subst this
    exact ⟨e2.trans f2.symm, e3.trans f3.symm, e4.trans f4.symm, e5.trans f5.symm⟩
  · exact absurd ⟨j, hj, e1⟩ hn'
  · exact absurd ⟨j', hj', f1⟩ hn
  · exact ⟨e2.trans f2.symm, e3.trans f3.symm, e4.trans f4.symm, e5.trans f5.symm⟩
theorem o_peekMod (hk : k ≤ 8) (h1 : sPeekMod k i M X rd r1 M1 X1 d1) (h2 : sPeekMod k i M X rd r2 M2 X2 d2) : one1 r1 r2 M1 M2 X1 X2 d1 d2 := by
  obtain ⟨h1, e3, e4, e5⟩ := h1
  obtain ⟨h2, f3, f4, f5⟩ := h2
  refine ⟨?_, e3.trans f3.symm, e4.trans f4.symm, e5.trans f5.symm⟩
  rcases h1 with ⟨j, hj, e1, e2⟩ | ⟨hn, e2⟩ <;> rcases h2 with ⟨j', hj', f1, f2⟩ | ⟨hn', f2⟩
  · have := nI_inj8 hk hj hj' (e1.symm.trans f1)
    subst this
    exact e2.trans f2.symm
  · exact absurd ⟨j, hj, e1⟩ hn'
  · exact absurd ⟨j', hj', f1⟩ hn
  · exact e2.trans f2.symm
theorem o_init (h1 : sInit M X rd r1 M1 X1 d1) (h2 : sInit M X rd r2 M2 X2 d2) : one1 r1 r2 M1 M2 X1 X2 d1 d2 := by
  obtain ⟨e3, e4, h1⟩ := h1
  obtain ⟨f3, f4, h2⟩ := h2
  rcases h1 with ⟨a1, a2, e1, e2⟩ | ⟨a1, e1, e2⟩ <;> rcases h2 with ⟨b1, b2, f1, f2⟩ | ⟨b1, f1, f2⟩
  · exact ⟨e1.trans f1.symm, e3.trans f3.symm, e4.trans f4.symm, e2.trans f2.symm⟩
  · exact absurd ⟨a1, a2⟩ b1
  · exact absurd ⟨b1, b2⟩ a1
  · exact ⟨e1.trans f1.symm, e3.trans f3.symm, e4.trans f4.symm, e2.trans f2.symm⟩
theorem o_ready (h1 : sReady M X rd r1 M1 X1 d1) (h2 : sReady M X rd r2 M2 X2 d2) : one1 r1 r2 M1 M2 X1 X2 d1 d2 := ⟨h1.1.trans h2.1.symm, h1.2.1.trans h2.2.1.symm, h1.2.2.1.trans h2.2.2.1.symm, h1.2.2.2.trans h2.2.2.2.symm⟩
theorem o_poke (hn8 : n ≤ 8) (hk : k ≤ 8) (h1 : sPoke n k d i w M X rd r1 M1 X1 d1) (h2 : sPoke n k d i w M X rd r2 M2 X2 d2) : one1 r1 r2 M1 M2 X1 X2 d1 d2 := by
  obtain ⟨h1, e3, e5⟩ := h1
  obtain ⟨h2, f3, f5⟩ := h2
  rcases h1 with ⟨x, j, hx, hj, ex, e1, e2, e4⟩ | ⟨hn, e2, e4⟩ <;> rcases h2 with ⟨x', j', hx', hj', fx, f1, f2, f4⟩ | ⟨hn', f2, f4⟩
  · have q1 := nI_inj8 hk hj hj' (e1.symm.trans f1)
    have q2 := nI_inj8 hn8 hx hx' (ex.symm.trans fx)
    subst q1
    subst q2
    exact ⟨e2.trans f2.symm, e3.trans f3.symm, e4.trans f4.symm, e5.trans f5.symm⟩
  · exact absurd ⟨⟨x, hx, ex⟩, ⟨j, hj, e1⟩⟩ hn'
  · exact absurd ⟨⟨x', hx', fx⟩, ⟨j', hj', f1⟩⟩ hn
  · exact ⟨e2.trans f2.symm, e3.trans f3.symm, e4.trans f4.symm, e5.trans f5.symm⟩
theorem o_peek (hn8 : n ≤ 8) (hk : k ≤ 8) (h1 : sPeek n k d i M X rd r1 M1 X1 d1) (h2 : sPeek n k d i M X rd r2 M2 X2 d2) : one1 r1 r2 M1 M2 X1 X2 d1 d2 := by
  obtain ⟨h1, e3, e4, e5⟩ := h1
  obtain ⟨h2, f3, f4, f5⟩ := h2
  refine ⟨?_, e3.trans f3.symm, e4.trans f4.symm, e5.trans f5.symm⟩
  rcases h1 with ⟨x, j, hx, hj, ex, e1, e2⟩ | ⟨hn, e2⟩ <;> rcases h2 with ⟨x', j', hx', hj', fx, f1, f2⟩ | ⟨hn', f2⟩
  · have q1 := nI_inj8 hk hj hj' (e1.symm.trans f1)
    have q2 := nI_inj8 hn8 hx hx' (ex.symm.trans fx)
    subst q1
    subst q2
    exact e2.trans f2.symm
  · exact absurd ⟨⟨x, hx, ex⟩, ⟨j, hj, e1⟩⟩ hn'
  · exact absurd ⟨⟨x', hx', fx⟩, ⟨j', hj', f1⟩⟩ hn
  · exact e2.trans f2.symm
theorem o_reg {Pv : Nat → Nat → Nat → Nat → Prop} (hPv : ∀ M x y v v', Pv M x y v → Pv M x y v' → v = v') (hn8 : n ≤ 8) (h1 : sReg n Pv d a b M X rd r1 M1 X1 d1) (h2 : sReg n Pv d a b M X rd r2 M2 X2 d2) : one1 r1 r2 M1 M2 X1 X2 d1 d2 := by
  obtain ⟨h1, e3, e5⟩ := h1
  obtain ⟨h2, f3, f5⟩ := h2
  rcases h1 with ⟨x, y, z, v, hx, hy, hz, ex, ey, ez, er, e2, ev, e4⟩ | ⟨hn, e2, e4⟩ <;> rcases h2 with ⟨x', y', z', v', hx', hy', hz', fx, fy, fz, fr, f2, fv, f4⟩ | ⟨hn', f2, f4⟩
  · have q1 := nI_inj8 hn8 hx hx' (ex.symm.trans fx)
    have q2 := nI_inj8 hn8 hy hy' (ey.symm.trans fy)
    have q3 := nI_inj8 hn8 hz hz' (ez.symm.trans fz)
    subst q1
    subst q2
    subst q3
    have q4 := hPv _ _ _ _ _ ev fv
    subst q4
    exact ⟨e2.trans f2.symm, e3.trans f3.symm, e4.trans f4.symm, e5.trans f5.symm⟩
  · exact absurd ⟨er, ⟨x, hx, ex⟩, ⟨y, hy, ey⟩, ⟨z, hz, ez⟩⟩ hn'
  · exact absurd ⟨fr, ⟨x', hx', fx⟩, ⟨y', hy', fy⟩, ⟨z', hz', fz⟩⟩ hn
  · exact ⟨e2.trans f2.symm, e3.trans f3.symm, e4.trans f4.symm, e5.trans f5.symm⟩
theorem o_inv (hn8 : n ≤ 8) (h1 : sInv n d a M X rd r1 M1 X1 d1) (h2 : sInv n d a M X rd r2 M2 X2 d2) : one1 r1 r2 M1 M2 X1 X2 d1 d2 := by
  obtain ⟨h1, e3, e5⟩ := h1
  obtain ⟨h2, f3, f5⟩ := h2
  rcases h1 with ⟨x, y, hx, hy, ex, ey, er, h1⟩ | ⟨hn, e2, e4⟩ <;> rcases h2 with ⟨x', y', hx', hy', fx, fy, fr, h2⟩ | ⟨hn', f2, f4⟩
  · have q1 := nI_inj8 hn8 hx hx' (ex.symm.trans fx)
    have q2 := nI_inj8 hn8 hy hy' (ey.symm.trans fy)
    subst q1
    subst q2
    rcases h1 with ⟨v, e2, eg, em, el, ev, e4⟩ | ⟨e2, eg, e4⟩ <;> rcases h2 with ⟨v', f2, fg, fm, fl, fv, f4⟩ | ⟨f2, fg, f4⟩
    · have q4 := inv_unique em el fl ev fv
      subst q4
      exact ⟨e2.trans f2.symm, e3.trans f3.symm, e4.trans f4.symm, e5.trans f5.symm⟩
    · exact absurd eg fg
    · exact absurd fg eg
    · exact ⟨e2.trans f2.symm, e3.trans f3.symm, e4.trans f4.symm, e5.trans f5.symm⟩
  · exact absurd ⟨er, ⟨x, hx, ex⟩, ⟨y, hy, ey⟩⟩ hn'
  · exact absurd ⟨fr, ⟨x', hx', fx⟩, ⟨y', hy', fy⟩⟩ hn
  · exact ⟨e2.trans f2.symm, e3.trans f3.symm, e4.trans f4.symm, e5.trans f5.symm⟩
theorem o_wit (hn8 : n ≤ 8) (h1 : sWit n a M X rd r1 M1 X1 d1) (h2 : sWit n a M X rd r2 M2 X2 d2) : one1 r1 r2 M1 M2 X1 X2 d1 d2 := by
  obtain ⟨h1, e3, e4, e5⟩ := h1
  obtain ⟨h2, f3, f4, f5⟩ := h2
  refine ⟨?_, e3.trans f3.symm, e4.trans f4.symm, e5.trans f5.symm⟩
  rcases h1 with ⟨y, u, hy, ey, er, et, h1⟩ | ⟨hn, e2⟩ <;> rcases h2 with ⟨y', u', hy', fy, fr, ft, h2⟩ | ⟨hn', f2⟩
  · have q1 := nI_inj8 hn8 hy hy' (ey.symm.trans fy)
    have q2 := twos_same et ft
    subst q1
    subst q2
    rcases h1 with ⟨e2, ew⟩ | ⟨e2, ew⟩ <;> rcases h2 with ⟨f2, fw⟩ | ⟨f2, fw⟩
    · exact e2.trans f2.symm
    · exact absurd ew fw
    · exact absurd fw ew
    · exact e2.trans f2.symm
  · exact absurd ⟨er, ⟨y, hy, ey⟩⟩ hn'
  · exact absurd ⟨fr, ⟨y', hy', fy⟩⟩ hn
  · exact e2.trans f2.symm
theorem o_cmp (hn8 : n ≤ 8) (h1 : sCmp n a b M X rd r1 M1 X1 d1) (h2 : sCmp n a b M X rd r2 M2 X2 d2) : one1 r1 r2 M1 M2 X1 X2 d1 d2 := by
  obtain ⟨h1, e3, e4, e5⟩ := h1
  obtain ⟨h2, f3, f4, f5⟩ := h2
  refine ⟨?_, e3.trans f3.symm, e4.trans f4.symm, e5.trans f5.symm⟩
  rcases h1 with ⟨x, j, hx, hj, ex, e1, e2⟩ | ⟨hn, e2⟩ <;> rcases h2 with ⟨x', j', hx', hj', fx, f1, f2⟩ | ⟨hn', f2⟩
  · have q1 := nI_inj8 hn8 hj hj' (e1.symm.trans f1)
    have q2 := nI_inj8 hn8 hx hx' (ex.symm.trans fx)
    subst q1
    subst q2
    exact e2.trans f2.symm
  · exact absurd ⟨⟨x, hx, ex⟩, ⟨j, hj, e1⟩⟩ hn'
  · exact absurd ⟨⟨x', hx', fx⟩, ⟨j', hj', f1⟩⟩ hn
  · exact e2.trans f2.symm
end ON
theorem pMon_one {k M x y v v' : Nat} (h : pMon k M x y v) (h' : pMon k M x y v') : v = v' := by
  have h1 := cancelP h.1 (32 * k) (h.2.2.trans h'.2.2.symm)
  rw [Nat.mod_eq_of_lt h.2.1, Nat.mod_eq_of_lt h'.2.1] at h1
  exact h1
/-! ===== the class's side ===== -/
def cAbs (g : qCfg) (σ : qSt) (M : Nat) (X : Nat → Nat) : Prop := qV g σ.F 12 = M ∧ ∀ r, r < g.n → qV g σ.F (21 + r) = X r
def cInv (g : qCfg) (σ : qSt) : Prop := qV g σ.F 13 = 1 ∧ (σ.rd = 0 ∨ σ.rd = 1) ∧ (σ.rd = 1 → Pp g σ.F σ.mi)
def cCh (σ σ' : qSt) : Prop := σ'.J = σ.J ∧ σ'.rm = σ.rm
/-- what a call of the class leaves -/
def cPost (g : qCfg) (σ : qSt) (sp : Int32 → Nat → (Nat → Nat) → Int32 → Prop) : Int32 → qSt → Prop := fun r σ' => cCh σ σ' ∧ cInv g σ' ∧ ∃ M' X', cAbs g σ' M' X' ∧ sp r M' X' σ'.rd
theorem cAbs_up {g : qCfg} {σ : qSt} {F' : Nat → Nat → Int32} {M d v : Nat} {X : Nat → Nat} {l : List Nat} (h : cAbs g σ M X) (hf : Fr σ.F F' l) (hl : ∀ r, r ∈ l → 16 ≤ r ∧ r < 21 ∨ r = 21 + d) (hv : qV g F' (21 + d) = v) : cAbs g (σ.setF F') M (va_up X d v) := by
  refine ⟨(hf.V (fun q => by have := hl 12 q; omega)).trans h.1, fun r hr => ?_⟩
  by_cases q : r = d
  · subst q
    rw [va_up_self]
    exact hv
  · rw [va_up_ne _ _ q]
    exact (hf.V (fun z => by have := hl _ z; omega)).trans (h.2 r hr)
theorem cAbs_keep {g : qCfg} {σ : qSt} {F' : Nat → Nat → Int32} {M : Nat} {X : Nat → Nat} {l : List Nat} (h : cAbs g σ M X) (hf : Fr σ.F F' l) (hl : ∀ r, r ∈ l → 13 ≤ r ∧ r < 21) : cAbs g (σ.setF F') M X := by
  refine ⟨(hf.V (fun q => by have := hl 12 q; omega)).trans h.1, fun r hr => ?_⟩
  exact (hf.V (fun z => by have := hl _ z; omega)).trans (h.2 r hr)
theorem cInv_keep {g : qCfg} {σ : qSt} {F' : Nat → Nat → Int32} {l : List Nat} (h : cInv g σ) (hf : Fr σ.F F' l) (hl : ∀ r, r ∈ l → 16 ≤ r) : cInv g (σ.setF F') := ⟨(hf.V (fun q => by have := hl 13 q; omega)).trans h.1, h.2.1, fun q => ((h.2.2 q).keep hf hl).1⟩
end
section
theorem iw_X2_hasLimb_X2 : ∀ w ∈ wsX20, w ∈ wsX2_hasLimb := by decide +kernel
theorem iw_X2_hasRegister_X2 : ∀ w ∈ wsX20, w ∈ wsX2_hasRegister := by decide +kernel
theorem iw_X2_canWork_X2 : ∀ w ∈ wsX20, w ∈ wsX2_canWork := by decide +kernel
theorem iw_X2_pokeMod_X1 : ∀ w ∈ wsX10, w ∈ wsX2_pokeMod := by decide +kernel
theorem iw_X2_pokeMod_X2 : ∀ w ∈ wsX20, w ∈ wsX2_pokeMod := by decide +kernel
theorem iw_X2_peekMod_X1 : ∀ w ∈ wsX10, w ∈ wsX2_peekMod := by decide +kernel
theorem iw_X2_peekMod_X2 : ∀ w ∈ wsX20, w ∈ wsX2_peekMod := by decide +kernel
theorem iw_X2_init__X1 : ∀ w ∈ wsX10, w ∈ wsX2_init_ := by decide +kernel
theorem iw_X2_init__X2 : ∀ w ∈ wsX20, w ∈ wsX2_init_ := by decide +kernel
theorem iw_X2_ready_X2 : ∀ w ∈ wsX20, w ∈ wsX2_ready := by decide +kernel
theorem iw_X2_poke_X2 : ∀ w ∈ wsX20, w ∈ wsX2_poke := by decide +kernel
theorem iw_X2_peek_X2 : ∀ w ∈ wsX20, w ∈ wsX2_peek := by decide +kernel
theorem iw_X2_reduce_X1 : ∀ w ∈ wsX10, w ∈ wsX2_reduce := by decide +kernel
theorem iw_X2_reduce_X2 : ∀ w ∈ wsX20, w ∈ wsX2_reduce := by decide +kernel
theorem iw_X2_addMod_X1 : ∀ w ∈ wsX10, w ∈ wsX2_addMod := by decide +kernel
theorem iw_X2_addMod_X2 : ∀ w ∈ wsX20, w ∈ wsX2_addMod := by decide +kernel
theorem iw_X2_subMod_X1 : ∀ w ∈ wsX10, w ∈ wsX2_subMod := by decide +kernel
theorem iw_X2_subMod_X2 : ∀ w ∈ wsX20, w ∈ wsX2_subMod := by decide +kernel
theorem iw_X2_mulMod_X1 : ∀ w ∈ wsX10, w ∈ wsX2_mulMod := by decide +kernel
theorem iw_X2_mulMod_X2 : ∀ w ∈ wsX20, w ∈ wsX2_mulMod := by decide +kernel
theorem iw_X2_montMod_X1 : ∀ w ∈ wsX10, w ∈ wsX2_montMod := by decide +kernel
theorem iw_X2_montMod_X2 : ∀ w ∈ wsX20, w ∈ wsX2_montMod := by decide +kernel
theorem iw_X2_powMod_X1 : ∀ w ∈ wsX10, w ∈ wsX2_powMod := by decide +kernel
theorem iw_X2_powMod_X2 : ∀ w ∈ wsX20, w ∈ wsX2_powMod := by decide +kernel
theorem iw_X2_invMod_X1 : ∀ w ∈ wsX10, w ∈ wsX2_invMod := by decide +kernel
theorem iw_X2_invMod_X2 : ∀ w ∈ wsX20, w ∈ wsX2_invMod := by decide +kernel
theorem iw_X2_witness_X1 : ∀ w ∈ wsX10, w ∈ wsX2_witness := by decide +kernel
theorem iw_X2_witness_X2 : ∀ w ∈ wsX20, w ∈ wsX2_witness := by decide +kernel
theorem iw_X2_compare_X2 : ∀ w ∈ wsX20, w ∈ wsX2_compare := by decide +kernel
set_option maxHeartbeats 4000000 in
set_option maxRecDepth 100000 in
/-- hasLimb -/
theorem m_hasLimb (l : Launch) (g : qCfg) (hg : g.ok) (σ : qSt) (x : Int32) : qCI l g yX2_hasLimb wsX2_hasLimb 0 0 [.ref (g.P 0), .int x] σ (fun r σ' => σ' = σ ∧ (r = 1 ∧ isR x g.k ∨ r = 0 ∧ ¬ isR x g.k)) := by
  refine q_sZ (cc := cX2_hasLimb) (maxL := 2) (by decide) rfl (Nat.le_of_ble_eq_true rfl) ?_
  intro p e s m args below meth c ls Q S hW hl fin
  obtain ⟨hx, hb, hml, hown, hts, hr, hlocks⟩ := id S
  obtain ⟨hk1, hk8, hn1, hn8⟩ := id hg
  have hl : lv_has ls 2 [(0, .ref (g.P 0)), (1, .int x)] := hl
  refine lv_iload_n hx hb dX2_hasLimb_0 rfl (lv_at hl 1 rfl) ?_
  refine lv_if_lt (tgt := 16) hx hb dX2_hasLimb_1 (by decide) (fun c1 => ?_) (fun c1 => ?_)
  · refine lv_iconst (v := 0) hx hb dX2_hasLimb_16 (by decide) ?_
    exact fin _ _ _ _ _ _ (by decide) hW (⟨rfl, Or.inr ⟨rfl, isR_no hk8 (Or.inl c1)⟩⟩) dX2_hasLimb_17
  · refine lv_iload_n hx hb dX2_hasLimb_4 rfl (lv_at hl 1 rfl) ?_
    refine lv_aload_n hx hb dX2_hasLimb_5 rfl (lv_at hl 0 rfl) ?_
    refine q_get (C := RX2) (T := TX2) (v := .int (nI g.k)) hx hb hts hown (fun _ h9 => iw_X2_hasLimb_X2 _ h9) hW (i := 0) (by decide) rfl rfl 0 (by decide) (hts (.fieldLink RX2 18 "ModEngine" "limbs" "I") (by decide +kernel)) rfl dX2_hasLimb_6 ?_
    refine lv_icmp_ge (tgt := 16) hx hb dX2_hasLimb_9 (by decide) (fun c2 => ?_) (fun c2 => ?_)
    · refine lv_iconst (v := 0) hx hb dX2_hasLimb_16 (by decide) ?_
      exact fin _ _ _ _ _ _ (by decide) hW (⟨rfl, Or.inr ⟨rfl, isR_no hk8 (Or.inr c2)⟩⟩) dX2_hasLimb_17
    · refine lv_iconst (v := 1) hx hb dX2_hasLimb_12 (by decide) ?_
      refine lv_goto (tgt := 17) hx hb dX2_hasLimb_13 (by decide) ?_
      exact fin _ _ _ _ _ _ (by decide) hW (⟨rfl, Or.inl ⟨rfl, isR_yes hk8 c1 c2⟩⟩) dX2_hasLimb_17
set_option maxHeartbeats 4000000 in
set_option maxRecDepth 100000 in
/-- hasRegister -/
theorem m_hasRegister (l : Launch) (g : qCfg) (hg : g.ok) (σ : qSt) (x : Int32) : qCI l g yX2_hasRegister wsX2_hasRegister 0 0 [.ref (g.P 0), .int x] σ (fun r σ' => σ' = σ ∧ (r = 1 ∧ isR x g.n ∨ r = 0 ∧ ¬ isR x g.n)) := by
  refine q_sZ (cc := cX2_hasRegister) (maxL := 2) (by decide) rfl (Nat.le_of_ble_eq_true rfl) ?_
  intro p e s m args below meth c ls Q S hW hl fin
  obtain ⟨hx, hb, hml, hown, hts, hr, hlocks⟩ := id S
  obtain ⟨hk1, hk8, hn1, hn8⟩ := id hg
  have hl : lv_has ls 2 [(0, .ref (g.P 0)), (1, .int x)] := hl
  refine lv_iload_n hx hb dX2_hasRegister_0 rfl (lv_at hl 1 rfl) ?_
  refine lv_if_lt (tgt := 16) hx hb dX2_hasRegister_1 (by decide) (fun c1 => ?_) (fun c1 => ?_)
  · refine lv_iconst (v := 0) hx hb dX2_hasRegister_16 (by decide) ?_
    exact fin _ _ _ _ _ _ (by decide) hW (⟨rfl, Or.inr ⟨rfl, isR_no hn8 (Or.inl c1)⟩⟩) dX2_hasRegister_17
  · refine lv_iload_n hx hb dX2_hasRegister_4 rfl (lv_at hl 1 rfl) ?_
    refine lv_aload_n hx hb dX2_hasRegister_5 rfl (lv_at hl 0 rfl) ?_
    refine q_get (C := RX2) (T := TX2) (v := .int (nI g.n)) hx hb hts hown (fun _ h9 => iw_X2_hasRegister_X2 _ h9) hW (i := 0) (by decide) rfl rfl 1 (by decide) (hts (.fieldLink RX2 22 "ModEngine" "count" "I") (by decide +kernel)) rfl dX2_hasRegister_6 ?_
    refine lv_icmp_ge (tgt := 16) hx hb dX2_hasRegister_9 (by decide) (fun c2 => ?_) (fun c2 => ?_)
    · refine lv_iconst (v := 0) hx hb dX2_hasRegister_16 (by decide) ?_
      exact fin _ _ _ _ _ _ (by decide) hW (⟨rfl, Or.inr ⟨rfl, isR_no hn8 (Or.inr c2)⟩⟩) dX2_hasRegister_17
    · refine lv_iconst (v := 1) hx hb dX2_hasRegister_12 (by decide) ?_
      refine lv_goto (tgt := 17) hx hb dX2_hasRegister_13 (by decide) ?_
      exact fin _ _ _ _ _ _ (by decide) hW (⟨rfl, Or.inl ⟨rfl, isR_yes hn8 c1 c2⟩⟩) dX2_hasRegister_17
set_option maxHeartbeats 4000000 in
set_option maxRecDepth 100000 in
/-- canWork(d, a, b) -/
theorem m_canWork (l : Launch) (g : qCfg) (hg : g.ok) (σ : qSt) (hrd : σ.rd = 0 ∨ σ.rd = 1) (d a b : Int32) : qCI l g yX2_canWork wsX2_canWork 1 21 [.ref (g.P 0), .int d, .int a, .int b] σ (fun r σ' => σ' = σ ∧ (r = 1 ∧ (σ.rd = 1 ∧ isR d g.n ∧ isR a g.n ∧ isR b g.n) ∨ r = 0 ∧ ¬ (σ.rd = 1 ∧ isR d g.n ∧ isR a g.n ∧ isR b g.n))) := by
  refine q_sZ (cc := cX2_canWork) (maxL := 4) (by decide) rfl (Nat.le_of_ble_eq_true rfl) ?_
  intro p e s m args below meth c ls Q S hW hl fin
  obtain ⟨hx, hb, hml, hown, hts, hr, hlocks⟩ := id S
  obtain ⟨hk1, hk8, hn1, hn8⟩ := id hg
  have hl : lv_has ls 4 [(0, .ref (g.P 0)), (1, .int d), (2, .int a), (3, .int b)] := hl
  refine lv_aload_n hx hb dX2_canWork_0 rfl (lv_at hl 0 rfl) ?_
  refine q_get (C := RX2) (T := TX2) (v := .int σ.rd) hx hb hts hown (fun _ h9 => iw_X2_canWork_X2 _ h9) hW (i := 0) (by decide) rfl rfl 4 (by decide) (hts (.fieldLink RX2 39 "ModEngine" "isReady" "Z") (by decide +kernel)) rfl dX2_canWork_1 ?_
  refine lv_if_eq (tgt := 35) hx hb dX2_canWork_4 (by decide) (fun c1 => ?_) (fun c1 => ?_)
  · refine lv_iconst (v := 0) hx hb dX2_canWork_35 (by decide) ?_
    exact fin _ _ _ _ _ _ (by decide) hW (⟨rfl, Or.inr ⟨rfl, fun q => absurd (c1.symm.trans q.1) (by decide)⟩⟩) dX2_canWork_36
  · have h0 : σ.rd = 1 := hrd.resolve_left c1
    refine lv_aload_n hx hb dX2_canWork_7 rfl (lv_at hl 0 rfl) ?_
    refine lv_iload_n hx hb dX2_canWork_8 rfl (lv_at hl 1 rfl) ?_
    refine q_i (q_runV (As := [.int d]) (rest := []) (i := 0) S hW (by decide) rfl rfl (m_hasRegister l g hg σ d) gX2_canWork_X2_hasRegister rfl (nA := 1) ⟨rfl, by decide +kernel, ⟨by decide, by decide⟩⟩ rfl hl.1 rfl (Nat.le_of_ble_eq_true rfl) dX2_canWork_9 ⟨Nat.zero_le _, Nat.zero_le _⟩) hW Ad_hi (fun r_9 σ1 H locs hp hW => ?_)
    obtain ⟨e1, er1⟩ : σ1 = σ ∧ (r_9 = 1 ∧ isR d g.n ∨ r_9 = 0 ∧ ¬ isR d g.n) := hp
    rw [e1] at hW
    refine lv_if_eq (tgt := 35) hx hb dX2_canWork_12 (by decide) (fun cd => ?_) (fun cd => ?_)
    · have hno : ¬ isR d g.n := er1.elim (fun z => absurd (z.1.symm.trans cd) (by decide)) (fun z => z.2)
      refine lv_iconst (v := 0) hx hb dX2_canWork_35 (by decide) ?_
      exact fin _ _ _ _ _ _ (by decide) hW (⟨rfl, Or.inr ⟨rfl, fun q => hno q.2.1⟩⟩) dX2_canWork_36
    · have hd : isR d g.n := er1.elim (fun z => z.2) (fun z => absurd z.1 cd)
      refine lv_aload_n hx hb dX2_canWork_15 rfl (lv_at hl 0 rfl) ?_
      refine lv_iload_n hx hb dX2_canWork_16 rfl (lv_at hl 2 rfl) ?_
      refine q_i (q_runV (As := [.int a]) (rest := []) (i := 0) S hW (by decide) rfl rfl (m_hasRegister l g hg σ a) gX2_canWork_X2_hasRegister rfl (nA := 1) ⟨rfl, by decide +kernel, ⟨by decide, by decide⟩⟩ rfl hl.1 rfl (Nat.le_of_ble_eq_true rfl) dX2_canWork_17 ⟨Nat.zero_le _, Nat.zero_le _⟩) hW Ad_hi (fun r_17 σ2 H locs hp hW => ?_)
      obtain ⟨e2, er2⟩ : σ2 = σ ∧ (r_17 = 1 ∧ isR a g.n ∨ r_17 = 0 ∧ ¬ isR a g.n) := hp
      rw [e2] at hW
      refine lv_if_eq (tgt := 35) hx hb dX2_canWork_20 (by decide) (fun ca => ?_) (fun ca => ?_)
      · have hno : ¬ isR a g.n := er2.elim (fun z => absurd (z.1.symm.trans ca) (by decide)) (fun z => z.2)
        refine lv_iconst (v := 0) hx hb dX2_canWork_35 (by decide) ?_
        exact fin _ _ _ _ _ _ (by decide) hW (⟨rfl, Or.inr ⟨rfl, fun q => hno q.2.2.1⟩⟩) dX2_canWork_36
      · have ha : isR a g.n := er2.elim (fun z => z.2) (fun z => absurd z.1 ca)
        refine lv_aload_n hx hb dX2_canWork_23 rfl (lv_at hl 0 rfl) ?_
        refine lv_iload_n hx hb dX2_canWork_24 rfl (lv_at hl 3 rfl) ?_
        refine q_i (q_runV (As := [.int b]) (rest := []) (i := 0) S hW (by decide) rfl rfl (m_hasRegister l g hg σ b) gX2_canWork_X2_hasRegister rfl (nA := 1) ⟨rfl, by decide +kernel, ⟨by decide, by decide⟩⟩ rfl hl.1 rfl (Nat.le_of_ble_eq_true rfl) dX2_canWork_25 ⟨Nat.zero_le _, Nat.zero_le _⟩) hW Ad_hi (fun r_25 σ3 H locs hp hW => ?_)
        obtain ⟨e3, er3⟩ : σ3 = σ ∧ (r_25 = 1 ∧ isR b g.n ∨ r_25 = 0 ∧ ¬ isR b g.n) := hp
        rw [e3] at hW
        refine lv_if_eq (tgt := 35) hx hb dX2_canWork_28 (by decide) (fun cb => ?_) (fun cb => ?_)
        · have hno : ¬ isR b g.n := er3.elim (fun z => absurd (z.1.symm.trans cb) (by decide)) (fun z => z.2)
          refine lv_iconst (v := 0) hx hb dX2_canWork_35 (by decide) ?_
          exact fin _ _ _ _ _ _ (by decide) hW (⟨rfl, Or.inr ⟨rfl, fun q => hno q.2.2.2⟩⟩) dX2_canWork_36
        · have hb2 : isR b g.n := er3.elim (fun z => z.2) (fun z => absurd z.1 cb)
          refine lv_iconst (v := 1) hx hb dX2_canWork_31 (by decide) ?_
          refine lv_goto (tgt := 36) hx hb dX2_canWork_32 (by decide) ?_
          exact fin _ _ _ _ _ _ (by decide) hW (⟨rfl, Or.inl ⟨rfl, h0, hd, ha, hb2⟩⟩) dX2_canWork_36
set_option maxHeartbeats 4000000 in
set_option maxRecDepth 100000 in
/-- peekMod(i) -/
theorem m_peekMod (l : Launch) (g : qCfg) (hg : g.ok) (σ : qSt) (hc : cInv g σ) {M : Nat} {X : Nat → Nat} (ha : cAbs g σ M X) (x : Int32) : qCI l g yX2_peekMod wsX2_peekMod 1 21 [.ref (g.P 0), .int x] σ (cPost g σ (sPeekMod g.k x M X σ.rd)) := by
  refine q_sI (cc := cX2_peekMod) (maxL := 2) (by decide) rfl (Nat.le_of_ble_eq_true rfl) ?_
  intro p e s m args below meth c ls Q S hW hl fin
  obtain ⟨hx, hb, hml, hown, hts, hr, hlocks⟩ := id S
  obtain ⟨hk1, hk8, hn1, hn8⟩ := id hg
  have hl : lv_has ls 2 [(0, .ref (g.P 0)), (1, .int x)] := hl
  refine lv_aload_n hx hb dX2_peekMod_0 rfl (lv_at hl 0 rfl) ?_
  refine lv_iload_n hx hb dX2_peekMod_1 rfl (lv_at hl 1 rfl) ?_
  refine q_i (q_runV (As := [.int x]) (rest := []) (i := 0) S hW (by decide) rfl rfl (m_hasLimb l g hg σ x) gX2_peekMod_X2_hasLimb rfl (nA := 1) ⟨rfl, by decide +kernel, ⟨by decide, by decide⟩⟩ rfl hl.1 rfl (Nat.le_of_ble_eq_true rfl) dX2_peekMod_2 ⟨Nat.zero_le _, Nat.zero_le _⟩) hW Ad_hi (fun r_2 σ1 H locs hp hW => ?_)
  obtain ⟨e1, er1⟩ : σ1 = σ ∧ (r_2 = 1 ∧ isR x g.k ∨ r_2 = 0 ∧ ¬ isR x g.k) := hp
  rw [e1] at hW
  refine lv_if_eq (tgt := 20) hx hb dX2_peekMod_5 (by decide) (fun c1 => ?_) (fun c1 => ?_)
  · have hno : ¬ isR x g.k := er1.elim (fun z => absurd (z.1.symm.trans c1) (by decide)) (fun z => z.2)
    refine lv_iconst (v := 0) hx hb dX2_peekMod_20 (by decide) ?_
    exact fin _ _ _ _ _ _ hW (⟨⟨rfl, rfl⟩, hc, M, X, ha, ⟨Or.inr ⟨hno, rfl⟩, rfl, rfl, rfl⟩⟩) dX2_peekMod_21
  · obtain ⟨j, hj, ej⟩ : isR x g.k := er1.elim (fun z => z.2) (fun z => absurd z.1 c1)
    refine lv_aload_n hx hb dX2_peekMod_8 rfl (lv_at hl 0 rfl) ?_
    refine q_get (C := RX2) (T := TX2) (v := .ref (g.P 1)) hx hb hts hown (fun _ h9 => iw_X2_peekMod_X2 _ h9) hW (i := 0) (by decide) rfl rfl 3 (by decide) (hts (.fieldLink RX2 35 "ModEngine" "ring" "LModEngine$Ring;") (by decide +kernel)) rfl dX2_peekMod_9 ?_
    refine q_get (C := RX1) (T := TX1) (v := .ref (g.P 12)) hx hb hts hown (fun _ h9 => iw_X2_peekMod_X1 _ h9) hW (i := 1) (by decide) rfl rfl 0 (by decide) (hts (.fieldLink RX2 47 "ModEngine$Ring" "modulus" "[I") (by decide +kernel)) rfl dX2_peekMod_12 ?_
    refine lv_iload_n hx hb dX2_peekMod_15 rfl (lv_at hl 1 rfl) ?_
    refine q_iald hx hb hW (i := 12) (j := j) (rowk (by decide)) (by omega) hk8 ej dX2_peekMod_16 ?_
    refine q_ti (y := σ.F 12 j) rfl ?_
    refine lv_goto (tgt := 21) hx hb dX2_peekMod_17 (by decide) ?_
    exact fin _ _ _ _ _ _ hW (⟨⟨rfl, rfl⟩, hc, M, X, ha, ⟨Or.inl ⟨j, hj, ej, by rw [← ha.1]; unfold qV; rw [dig_rv hj]; exact (nI_uI _).symm⟩, rfl, rfl, rfl⟩⟩) dX2_peekMod_21
set_option maxHeartbeats 4000000 in
set_option maxRecDepth 100000 in
/-- pokeMod(i, w) -/
theorem m_pokeMod (l : Launch) (g : qCfg) (hg : g.ok) (σ : qSt) (hc : cInv g σ) {M : Nat} {X : Nat → Nat} (ha : cAbs g σ M X) (x v : Int32) : qCI l g yX2_pokeMod wsX2_pokeMod 1 21 [.ref (g.P 0), .int x, .int v] σ (cPost g σ (sPokeMod g.k x v M X σ.rd)) := by
  refine q_sZ (cc := cX2_pokeMod) (maxL := 3) (by decide) rfl (Nat.le_of_ble_eq_true rfl) ?_
  intro p e s m args below meth c ls Q S hW hl fin
  obtain ⟨hx, hb, hml, hown, hts, hr, hlocks⟩ := id S
  obtain ⟨hk1, hk8, hn1, hn8⟩ := id hg
  have hl : lv_has ls 3 [(0, .ref (g.P 0)), (1, .int x), (2, .int v)] := hl
  refine lv_aload_n hx hb dX2_pokeMod_0 rfl (lv_at hl 0 rfl) ?_
  refine lv_iload_n hx hb dX2_pokeMod_1 rfl (lv_at hl 1 rfl) ?_
  refine q_i (q_runV (As := [.int x]) (rest := []) (i := 0) S hW (by decide) rfl rfl (m_hasLimb l g hg σ x) gX2_pokeMod_X2_hasLimb rfl (nA := 1) ⟨rfl, by decide +kernel, ⟨by decide, by decide⟩⟩ rfl hl.1 rfl (Nat.le_of_ble_eq_true rfl) dX2_pokeMod_2 ⟨Nat.zero_le _, Nat.zero_le _⟩) hW Ad_hi (fun r_2 σ1 H locs hp hW => ?_)
  obtain ⟨e1, er1⟩ : σ1 = σ ∧ (r_2 = 1 ∧ isR x g.k ∨ r_2 = 0 ∧ ¬ isR x g.k) := hp
  rw [e1] at hW
  refine lv_if_ne (tgt := 10) hx hb dX2_pokeMod_5 (by decide) (fun c1 => ?_) (fun c1 => ?_)
  · obtain ⟨j, hj, ej⟩ : isR x g.k := er1.elim (fun z => z.2) (fun z => absurd z.1 c1)
    refine lv_aload_n hx hb dX2_pokeMod_10 rfl (lv_at hl 0 rfl) ?_
    refine q_get (C := RX2) (T := TX2) (v := .ref (g.P 1)) hx hb hts hown (fun _ h9 => iw_X2_pokeMod_X2 _ h9) hW (i := 0) (by decide) rfl rfl 3 (by decide) (hts (.fieldLink RX2 35 "ModEngine" "ring" "LModEngine$Ring;") (by decide +kernel)) rfl dX2_pokeMod_11 ?_
    refine q_get (C := RX1) (T := TX1) (v := .ref (g.P 12)) hx hb hts hown (fun _ h9 => iw_X2_pokeMod_X1 _ h9) hW (i := 1) (by decide) rfl rfl 0 (by decide) (hts (.fieldLink RX2 47 "ModEngine$Ring" "modulus" "[I") (by decide +kernel)) rfl dX2_pokeMod_14 ?_
    refine lv_iload_n hx hb dX2_pokeMod_17 rfl (lv_at hl 1 rfl) ?_
    refine lv_iload_n hx hb dX2_pokeMod_18 rfl (lv_at hl 2 rfl) ?_
    refine q_iast hx hb hW (i := 12) (j := j) (rowk (by decide)) (by omega) hk8 ej dX2_pokeMod_19 (fun H locs hW => ?_)
    refine lv_aload_n hx hb dX2_pokeMod_20 rfl (lv_at hl 0 rfl) ?_
    refine lv_iconst (v := 0) hx hb dX2_pokeMod_21 (by decide) ?_
    generalize hF1 : va_up σ.F 12 (upd (σ.F 12) j v) = F1 at hW
    have hW : Wo g (Ad g s.heap.size) s H locs (σ.setF F1) := hW
    refine q_put (C := RX2) (T := TX2) hx hb hts hown (fun _ h9 => iw_X2_pokeMod_X2 _ h9) tyX2 tyX2_ok nmX2 hW (i := 0) (by decide) rfl rfl 4 (by decide) (hts (.fieldLink RX2 39 "ModEngine" "isReady" "Z") (by decide +kernel)) rfl (ty := .boolean) (by decide +kernel) rfl rfl (Nat.le_of_ble_eq_true rfl) ((σ.setF F1).setRd 0) rfl cel_rd dX2_pokeMod_22 (fun H locs hW => ?_)
    refine lv_iconst (v := 1) hx hb dX2_pokeMod_25 (by decide) ?_
    have hfr : ∀ r, r ≠ 12 → F1 r = σ.F r := fun r hr => by rw [← hF1, va_up_ne _ _ hr]
    have h12 : qV g F1 12 = setd M j (uI v) := by
      rw [← ha.1, ← hF1]
      unfold qV
      rw [va_up_self]
      exact setd_rv hj
    refine fin _ _ _ _ _ _ (by decide) hW ⟨⟨rfl, rfl⟩, ⟨?_, Or.inl rfl, fun q => absurd (show (0 : Int32) = 1 from q) (by decide)⟩, _, X, ⟨h12, fun r hr => ?_⟩, Or.inl ⟨j, hj, ej, rfl, rfl, rfl, rfl⟩⟩ dX2_pokeMod_26
    · show rv (F1 13) g.k = 1
      rw [hfr 13 (by decide)]
      exact hc.1
    · show rv (F1 (21 + r)) g.k = _
      rw [hfr _ (by omega)]
      exact ha.2 r hr
  · have hno : ¬ isR x g.k := er1.elim (fun z => absurd (z.1.symm.trans c1) (by decide)) (fun z => z.2)
    refine lv_iconst (v := 0) hx hb dX2_pokeMod_8 (by decide) ?_
    exact fin _ _ _ _ _ _ (by decide) hW (⟨⟨rfl, rfl⟩, hc, M, X, ha, Or.inr ⟨hno, rfl, rfl, rfl, rfl⟩⟩) dX2_pokeMod_9
set_option maxHeartbeats 4000000 in
set_option maxRecDepth 100000 in
/-- ready() -/
theorem m_ready (l : Launch) (g : qCfg) (hg : g.ok) (σ : qSt) (hc : cInv g σ) {M : Nat} {X : Nat → Nat} (ha : cAbs g σ M X)  : qCI l g yX2_ready wsX2_ready 0 0 [.ref (g.P 0)] σ (cPost g σ (sReady M X σ.rd)) := by
  refine q_sZ (cc := cX2_ready) (maxL := 1) (by decide) rfl (Nat.le_of_ble_eq_true rfl) ?_
  intro p e s m args below meth c ls Q S hW hl fin
  obtain ⟨hx, hb, hml, hown, hts, hr, hlocks⟩ := id S
  obtain ⟨hk1, hk8, hn1, hn8⟩ := id hg
  have hl : lv_has ls 1 [(0, .ref (g.P 0))] := hl
  refine lv_aload_n hx hb dX2_ready_0 rfl (lv_at hl 0 rfl) ?_
  refine q_get (C := RX2) (T := TX2) (v := .int σ.rd) hx hb hts hown (fun _ h9 => iw_X2_ready_X2 _ h9) hW (i := 0) (by decide) rfl rfl 4 (by decide) (hts (.fieldLink RX2 39 "ModEngine" "isReady" "Z") (by decide +kernel)) rfl dX2_ready_1 ?_
  exact fin _ _ _ _ _ _ hc.2.1 hW (⟨⟨rfl, rfl⟩, hc, M, X, ha, ⟨rfl, rfl, rfl, rfl⟩⟩) dX2_ready_4
set_option maxHeartbeats 4000000 in
set_option maxRecDepth 100000 in
/-- init() -/
theorem m_init (l : Launch) (g : qCfg) (hg : g.ok) (σ : qSt) (hc : cInv g σ) {M : Nat} {X : Nat → Nat} (ha : cAbs g σ M X)  : qCI l g yX2_init_ wsX2_init_ 5 116 [.ref (g.P 0)] σ (cPost g σ (sInit M X σ.rd)) := by
  refine q_sI (cc := cX2_init_) (maxL := 1) (by decide) rfl (Nat.le_of_ble_eq_true rfl) ?_
  intro p e s m args below meth c ls Q S hW hl fin
  obtain ⟨hx, hb, hml, hown, hts, hr, hlocks⟩ := id S
  obtain ⟨hk1, hk8, hn1, hn8⟩ := id hg
  have hl : lv_has ls 1 [(0, .ref (g.P 0))] := hl
  refine lv_aload_n hx hb dX2_init__0 rfl (lv_at hl 0 rfl) ?_
  refine q_get (C := RX2) (T := TX2) (v := .ref (g.P 1)) hx hb hts hown (fun _ h9 => iw_X2_init__X2 _ h9) hW (i := 0) (by decide) rfl rfl 3 (by decide) (hts (.fieldLink RX2 35 "ModEngine" "ring" "LModEngine$Ring;") (by decide +kernel)) rfl dX2_init__1 ?_
  refine q_i (q_runV (As := []) (rest := []) (i := 1) S hW (by decide) rfl rfl (r_hasFitModulus l g hg σ) gX2_init__X1_hasFitModulus rfl (nA := 0) ⟨rfl, by decide +kernel, ⟨by decide, by decide⟩⟩ rfl hl.1 rfl (Nat.le_of_ble_eq_true rfl) dX2_init__4 ⟨Nat.zero_le _, Nat.zero_le _⟩) hW Ad_hi (fun r_4 σ1 H locs hp hW => ?_)
  obtain ⟨e1, er1⟩ : σ1 = σ ∧ r_4 = if qV g σ.F 12 % 2 = 1 ∧ qV g σ.F 12 ≠ 1 then 1 else 0 := hp
  rw [e1] at hW
  rw [ha.1] at er1
  refine lv_if_ne (tgt := 12) hx hb dX2_init__7 (by decide) (fun c1 => ?_) (fun c1 => ?_)
  · have h1 := (fa_boolp er1).2.mp c1
    have h3 : 3 ≤ M := by omega
    refine lv_aload_n hx hb dX2_init__12 rfl (lv_at hl 0 rfl) ?_
    refine q_get (C := RX2) (T := TX2) (v := .ref (g.P 1)) hx hb hts hown (fun _ h9 => iw_X2_init__X2 _ h9) hW (i := 0) (by decide) rfl rfl 3 (by decide) (hts (.fieldLink RX2 35 "ModEngine" "ring" "LModEngine$Ring;") (by decide +kernel)) rfl dX2_init__13 ?_
    refine q_v (q_runV (As := []) (rest := []) (i := 1) S hW (by decide) rfl rfl (r_prepare l g hg σ (by rw [ha.1]; exact h1.1) (by rw [ha.1]; exact h3) hc.1) gX2_init__X1_prepare rfl (nA := 0) ⟨rfl, by decide +kernel, ⟨by decide, by decide⟩⟩ rfl hl.1 rfl (Nat.le_of_ble_eq_true rfl) dX2_init__16 ⟨Nat.zero_le _, Nat.zero_le _⟩) hW Ad_hi (fun σ2 H locs hp hW => ?_)
    obtain ⟨F2, v, e2, hf2, pp⟩ := hp
    rw [e2] at hW
    refine lv_aload_n hx hb dX2_init__19 rfl (lv_at hl 0 rfl) ?_
    refine lv_iconst (v := 1) hx hb dX2_init__20 (by decide) ?_
    refine q_put (C := RX2) (T := TX2) hx hb hts hown (fun _ h9 => iw_X2_init__X2 _ h9) tyX2 tyX2_ok nmX2 hW (i := 0) (by decide) rfl rfl 4 (by decide) (hts (.fieldLink RX2 39 "ModEngine" "isReady" "Z") (by decide +kernel)) rfl (ty := .boolean) (by decide +kernel) rfl rfl (Nat.le_of_ble_eq_true rfl) (((σ.setMi v).setF F2).setRd 1) rfl cel_rd dX2_init__21 (fun H locs hW => ?_)
    refine lv_iconst (v := 0) hx hb dX2_init__24 (by decide) ?_
    have hk2 := cAbs_keep ha hf2 (by decide)
    exact fin _ _ _ _ _ _ hW (⟨⟨rfl, rfl⟩, ⟨pp.2.2.1, Or.inr rfl, fun _ => pp⟩, M, X, hk2, rfl, rfl, Or.inl ⟨h1.1, h3, rfl, rfl⟩⟩) dX2_init__25
  · have h1 := (fa_boolp er1).1.mp c1
    refine lv_iconst (v := 1) hx hb dX2_init__10 (by decide) ?_
    exact fin _ _ _ _ _ _ hW (⟨⟨rfl, rfl⟩, hc, M, X, ha, ⟨rfl, rfl, Or.inr ⟨fun q => h1 ⟨q.1, by omega⟩, rfl, rfl⟩⟩⟩) dX2_init__11
set_option maxHeartbeats 4000000 in
set_option maxRecDepth 100000 in
/-- poke(r, i, w) -/
theorem m_poke (l : Launch) (g : qCfg) (hg : g.ok) (σ : qSt) (hc : cInv g σ) {M : Nat} {X : Nat → Nat} (ha : cAbs g σ M X) (d x v : Int32) : qCI l g yX2_poke wsX2_poke 1 21 [.ref (g.P 0), .int d, .int x, .int v] σ (cPost g σ (sPoke g.n g.k d x v M X σ.rd)) := by
  refine q_sZ (cc := cX2_poke) (maxL := 4) (by decide) rfl (Nat.le_of_ble_eq_true rfl) ?_
  intro p e s m args below meth c ls Q S hW hl fin
  obtain ⟨hx, hb, hml, hown, hts, hr, hlocks⟩ := id S
  obtain ⟨hk1, hk8, hn1, hn8⟩ := id hg
  have hl : lv_has ls 4 [(0, .ref (g.P 0)), (1, .int d), (2, .int x), (3, .int v)] := hl
  refine lv_aload_n hx hb dX2_poke_0 rfl (lv_at hl 0 rfl) ?_
  refine lv_iload_n hx hb dX2_poke_1 rfl (lv_at hl 1 rfl) ?_
  refine q_i (q_runV (As := [.int d]) (rest := []) (i := 0) S hW (by decide) rfl rfl (m_hasRegister l g hg σ d) gX2_poke_X2_hasRegister rfl (nA := 1) ⟨rfl, by decide +kernel, ⟨by decide, by decide⟩⟩ rfl hl.1 rfl (Nat.le_of_ble_eq_true rfl) dX2_poke_2 ⟨Nat.zero_le _, Nat.zero_le _⟩) hW Ad_hi (fun r_2 σ1 H locs hp hW => ?_)
  obtain ⟨e1, er1⟩ : σ1 = σ ∧ (r_2 = 1 ∧ isR d g.n ∨ r_2 = 0 ∧ ¬ isR d g.n) := hp
  rw [e1] at hW
  refine lv_if_eq (tgt := 16) hx hb dX2_poke_5 (by decide) (fun c1 => ?_) (fun c1 => ?_)
  · have hno : ¬ isR d g.n := er1.elim (fun z => absurd (z.1.symm.trans c1) (by decide)) (fun z => z.2)
    refine lv_iconst (v := 0) hx hb dX2_poke_16 (by decide) ?_
    exact fin _ _ _ _ _ _ (by decide) hW (⟨⟨rfl, rfl⟩, hc, M, X, ha, ⟨Or.inr ⟨fun q => hno q.1, rfl, rfl⟩, rfl, rfl⟩⟩) dX2_poke_17
  · obtain ⟨y, hy, ey⟩ : isR d g.n := er1.elim (fun z => z.2) (fun z => absurd z.1 c1)
    refine lv_aload_n hx hb dX2_poke_8 rfl (lv_at hl 0 rfl) ?_
    refine lv_iload_n hx hb dX2_poke_9 rfl (lv_at hl 2 rfl) ?_
    refine q_i (q_runV (As := [.int x]) (rest := []) (i := 0) S hW (by decide) rfl rfl (m_hasLimb l g hg σ x) gX2_poke_X2_hasLimb rfl (nA := 1) ⟨rfl, by decide +kernel, ⟨by decide, by decide⟩⟩ rfl hl.1 rfl (Nat.le_of_ble_eq_true rfl) dX2_poke_10 ⟨Nat.zero_le _, Nat.zero_le _⟩) hW Ad_hi (fun r_10 σ2 H locs hp hW => ?_)
    obtain ⟨e2, er2⟩ : σ2 = σ ∧ (r_10 = 1 ∧ isR x g.k ∨ r_10 = 0 ∧ ¬ isR x g.k) := hp
    rw [e2] at hW
    refine lv_if_ne (tgt := 18) hx hb dX2_poke_13 (by decide) (fun c2 => ?_) (fun c2 => ?_)
    · obtain ⟨j, hj, ej⟩ : isR x g.k := er2.elim (fun z => z.2) (fun z => absurd z.1 c2)
      refine lv_aload_n hx hb dX2_poke_18 rfl (lv_at hl 0 rfl) ?_
      refine q_get (C := RX2) (T := TX2) (v := .ref (g.P 2)) hx hb hts hown (fun _ h9 => iw_X2_poke_X2 _ h9) hW (i := 0) (by decide) rfl rfl 2 (by decide) (hts (.fieldLink RX2 27 "ModEngine" "registers" "[[I") (by decide +kernel)) rfl dX2_poke_19 ?_
      refine lv_iload_n hx hb dX2_poke_22 rfl (lv_at hl 1 rfl) ?_
      refine q_regs hx hb hW (j := y) (by omega) hn8 ey dX2_poke_23 ?_
      refine lv_iload_n hx hb dX2_poke_24 rfl (lv_at hl 2 rfl) ?_
      refine lv_iload_n hx hb dX2_poke_25 rfl (lv_at hl 3 rfl) ?_
      refine q_iast hx hb hW (i := (21 + y)) (j := j) (rowr hy) (by omega) hk8 ej dX2_poke_26 (fun H locs hW => ?_)
      refine lv_iconst (v := 1) hx hb dX2_poke_27 (by decide) ?_
      have h12 : qV g (va_up σ.F (21 + y) (upd (σ.F (21 + y)) j v)) (21 + y) = setd (X y) j (uI v) := by
        rw [← ha.2 y hy]
        unfold qV
        rw [va_up_self]
        exact setd_rv hj
      have hfr : Fr σ.F (va_up σ.F (21 + y) (upd (σ.F (21 + y)) j v)) [21 + y] := fun r hr => va_up_ne _ _ (by simpa using hr)
      exact fin _ _ _ _ _ _ (by decide) hW (⟨⟨rfl, rfl⟩, cInv_keep hc hfr (fun r hr => by simp at hr; omega), M, _, cAbs_up ha hfr (fun r hr => Or.inr (by simpa using hr)) h12, Or.inl ⟨y, j, hy, hj, ey, ej, rfl, rfl⟩, rfl, rfl⟩) dX2_poke_28
    · have hno : ¬ isR x g.k := er2.elim (fun z => absurd (z.1.symm.trans c2) (by decide)) (fun z => z.2)
      refine lv_iconst (v := 0) hx hb dX2_poke_16 (by decide) ?_
      exact fin _ _ _ _ _ _ (by decide) hW (⟨⟨rfl, rfl⟩, hc, M, X, ha, ⟨Or.inr ⟨fun q => hno q.2, rfl, rfl⟩, rfl, rfl⟩⟩) dX2_poke_17
set_option maxHeartbeats 4000000 in
set_option maxRecDepth 100000 in
/-- peek(r, i) -/
theorem m_peek (l : Launch) (g : qCfg) (hg : g.ok) (σ : qSt) (hc : cInv g σ) {M : Nat} {X : Nat → Nat} (ha : cAbs g σ M X) (d x : Int32) : qCI l g yX2_peek wsX2_peek 1 21 [.ref (g.P 0), .int d, .int x] σ (cPost g σ (sPeek g.n g.k d x M X σ.rd)) := by
  refine q_sI (cc := cX2_peek) (maxL := 3) (by decide) rfl (Nat.le_of_ble_eq_true rfl) ?_
  intro p e s m args below meth c ls Q S hW hl fin
  obtain ⟨hx, hb, hml, hown, hts, hr, hlocks⟩ := id S
  obtain ⟨hk1, hk8, hn1, hn8⟩ := id hg
  have hl : lv_has ls 3 [(0, .ref (g.P 0)), (1, .int d), (2, .int x)] := hl
  refine lv_aload_n hx hb dX2_peek_0 rfl (lv_at hl 0 rfl) ?_
  refine lv_iload_n hx hb dX2_peek_1 rfl (lv_at hl 1 rfl) ?_
  refine q_i (q_runV (As := [.int d]) (rest := []) (i := 0) S hW (by decide) rfl rfl (m_hasRegister l g hg σ d) gX2_peek_X2_hasRegister rfl (nA := 1) ⟨rfl, by decide +kernel, ⟨by decide, by decide⟩⟩ rfl hl.1 rfl (Nat.le_of_ble_eq_true rfl) dX2_peek_2 ⟨Nat.zero_le _, Nat.zero_le _⟩) hW Ad_hi (fun r_2 σ1 H locs hp hW => ?_)
  obtain ⟨e1, er1⟩ : σ1 = σ ∧ (r_2 = 1 ∧ isR d g.n ∨ r_2 = 0 ∧ ¬ isR d g.n) := hp
  rw [e1] at hW
  refine lv_if_eq (tgt := 27) hx hb dX2_peek_5 (by decide) (fun c1 => ?_) (fun c1 => ?_)
  · have hno : ¬ isR d g.n := er1.elim (fun z => absurd (z.1.symm.trans c1) (by decide)) (fun z => z.2)
    refine lv_iconst (v := 0) hx hb dX2_peek_27 (by decide) ?_
    exact fin _ _ _ _ _ _ hW (⟨⟨rfl, rfl⟩, hc, M, X, ha, ⟨Or.inr ⟨fun q => hno q.1, rfl⟩, rfl, rfl, rfl⟩⟩) dX2_peek_28
  · obtain ⟨y, hy, ey⟩ : isR d g.n := er1.elim (fun z => z.2) (fun z => absurd z.1 c1)
    refine lv_aload_n hx hb dX2_peek_8 rfl (lv_at hl 0 rfl) ?_
    refine lv_iload_n hx hb dX2_peek_9 rfl (lv_at hl 2 rfl) ?_
    refine q_i (q_runV (As := [.int x]) (rest := []) (i := 0) S hW (by decide) rfl rfl (m_hasLimb l g hg σ x) gX2_peek_X2_hasLimb rfl (nA := 1) ⟨rfl, by decide +kernel, ⟨by decide, by decide⟩⟩ rfl hl.1 rfl (Nat.le_of_ble_eq_true rfl) dX2_peek_10 ⟨Nat.zero_le _, Nat.zero_le _⟩) hW Ad_hi (fun r_10 σ2 H locs hp hW => ?_)
    obtain ⟨e2, er2⟩ : σ2 = σ ∧ (r_10 = 1 ∧ isR x g.k ∨ r_10 = 0 ∧ ¬ isR x g.k) := hp
    rw [e2] at hW
    refine lv_if_eq (tgt := 27) hx hb dX2_peek_13 (by decide) (fun c2 => ?_) (fun c2 => ?_)
    · have hno : ¬ isR x g.k := er2.elim (fun z => absurd (z.1.symm.trans c2) (by decide)) (fun z => z.2)
      refine lv_iconst (v := 0) hx hb dX2_peek_27 (by decide) ?_
      exact fin _ _ _ _ _ _ hW (⟨⟨rfl, rfl⟩, hc, M, X, ha, ⟨Or.inr ⟨fun q => hno q.2, rfl⟩, rfl, rfl, rfl⟩⟩) dX2_peek_28
    · obtain ⟨j, hj, ej⟩ : isR x g.k := er2.elim (fun z => z.2) (fun z => absurd z.1 c2)
      refine lv_aload_n hx hb dX2_peek_16 rfl (lv_at hl 0 rfl) ?_
      refine q_get (C := RX2) (T := TX2) (v := .ref (g.P 2)) hx hb hts hown (fun _ h9 => iw_X2_peek_X2 _ h9) hW (i := 0) (by decide) rfl rfl 2 (by decide) (hts (.fieldLink RX2 27 "ModEngine" "registers" "[[I") (by decide +kernel)) rfl dX2_peek_17 ?_
      refine lv_iload_n hx hb dX2_peek_20 rfl (lv_at hl 1 rfl) ?_
      refine q_regs hx hb hW (j := y) (by omega) hn8 ey dX2_peek_21 ?_
      refine lv_iload_n hx hb dX2_peek_22 rfl (lv_at hl 2 rfl) ?_
      refine q_iald hx hb hW (i := (21 + y)) (j := j) (rowr hy) (by omega) hk8 ej dX2_peek_23 ?_
      refine q_ti (y := σ.F (21 + y) j) rfl ?_
      refine lv_goto (tgt := 28) hx hb dX2_peek_24 (by decide) ?_
      exact fin _ _ _ _ _ _ hW (⟨⟨rfl, rfl⟩, hc, M, X, ha, ⟨Or.inl ⟨y, j, hy, hj, ey, ej, by rw [← ha.2 y hy]; unfold qV; rw [dig_rv hj]; exact (nI_uI _).symm⟩, rfl, rfl, rfl⟩⟩) dX2_peek_28
set_option maxHeartbeats 4000000 in
set_option maxRecDepth 100000 in
/-- reduce(r) -/
theorem m_reduce (l : Launch) (g : qCfg) (hg : g.ok) (σ : qSt) (hc : cInv g σ) {M : Nat} {X : Nat → Nat} (ha : cAbs g σ M X) (d : Int32) : qCI l g yX2_reduce wsX2_reduce 4 97 [.ref (g.P 0), .int d] σ (cPost g σ (sReg g.n pRes d d d M X σ.rd)) := by
  refine q_sZ (cc := cX2_reduce) (maxL := 2) (by decide) rfl (Nat.le_of_ble_eq_true rfl) ?_
  intro p e s m args below meth c ls Q S hW hl fin
  obtain ⟨hx, hb, hml, hown, hts, hr, hlocks⟩ := id S
  obtain ⟨hk1, hk8, hn1, hn8⟩ := id hg
  have hl : lv_has ls 2 [(0, .ref (g.P 0)), (1, .int d)] := hl
  refine lv_aload_n hx hb dX2_reduce_0 rfl (lv_at hl 0 rfl) ?_
  refine q_get (C := RX2) (T := TX2) (v := .int σ.rd) hx hb hts hown (fun _ h9 => iw_X2_reduce_X2 _ h9) hW (i := 0) (by decide) rfl rfl 4 (by decide) (hts (.fieldLink RX2 39 "ModEngine" "isReady" "Z") (by decide +kernel)) rfl dX2_reduce_1 ?_
  refine lv_if_eq (tgt := 15) hx hb dX2_reduce_4 (by decide) (fun c0 => ?_) (fun c0 => ?_)
  · refine lv_iconst (v := 0) hx hb dX2_reduce_15 (by decide) ?_
    exact fin _ _ _ _ _ _ (by decide) hW (⟨⟨rfl, rfl⟩, hc, M, X, ha, ⟨Or.inr ⟨fun q => absurd (c0.symm.trans q.1) (by decide), rfl, rfl⟩, rfl, rfl⟩⟩) dX2_reduce_16
  · have h0 : σ.rd = 1 := hc.2.1.resolve_left c0
    have p0 := hc.2.2 h0
    refine lv_aload_n hx hb dX2_reduce_7 rfl (lv_at hl 0 rfl) ?_
    refine lv_iload_n hx hb dX2_reduce_8 rfl (lv_at hl 1 rfl) ?_
    refine q_i (q_runV (As := [.int d]) (rest := []) (i := 0) S hW (by decide) rfl rfl (m_hasRegister l g hg σ d) gX2_reduce_X2_hasRegister rfl (nA := 1) ⟨rfl, by decide +kernel, ⟨by decide, by decide⟩⟩ rfl hl.1 rfl (Nat.le_of_ble_eq_true rfl) dX2_reduce_9 ⟨Nat.zero_le _, Nat.zero_le _⟩) hW Ad_hi (fun r_9 σ1 H locs hp hW => ?_)
    obtain ⟨e1, er1⟩ : σ1 = σ ∧ (r_9 = 1 ∧ isR d g.n ∨ r_9 = 0 ∧ ¬ isR d g.n) := hp
    rw [e1] at hW
    refine lv_if_ne (tgt := 17) hx hb dX2_reduce_12 (by decide) (fun c1 => ?_) (fun c1 => ?_)
    · obtain ⟨y, hy, ey⟩ : isR d g.n := er1.elim (fun z => z.2) (fun z => absurd z.1 c1)
      refine lv_aload_n hx hb dX2_reduce_17 rfl (lv_at hl 0 rfl) ?_
      refine q_get (C := RX2) (T := TX2) (v := .ref (g.P 1)) hx hb hts hown (fun _ h9 => iw_X2_reduce_X2 _ h9) hW (i := 0) (by decide) rfl rfl 3 (by decide) (hts (.fieldLink RX2 35 "ModEngine" "ring" "LModEngine$Ring;") (by decide +kernel)) rfl dX2_reduce_18 ?_
      refine lv_aload_n hx hb dX2_reduce_21 rfl (lv_at hl 0 rfl) ?_
      refine q_get (C := RX2) (T := TX2) (v := .ref (g.P 2)) hx hb hts hown (fun _ h9 => iw_X2_reduce_X2 _ h9) hW (i := 0) (by decide) rfl rfl 2 (by decide) (hts (.fieldLink RX2 27 "ModEngine" "registers" "[[I") (by decide +kernel)) rfl dX2_reduce_22 ?_
      refine lv_iload_n hx hb dX2_reduce_25 rfl (lv_at hl 1 rfl) ?_
      refine q_regs hx hb hW (j := y) (by omega) hn8 ey dX2_reduce_26 ?_
      refine lv_aload_n hx hb dX2_reduce_27 rfl (lv_at hl 0 rfl) ?_
      refine q_get (C := RX2) (T := TX2) (v := .ref (g.P 2)) hx hb hts hown (fun _ h9 => iw_X2_reduce_X2 _ h9) hW (i := 0) (by decide) rfl rfl 2 (by decide) (hts (.fieldLink RX2 27 "ModEngine" "registers" "[[I") (by decide +kernel)) rfl dX2_reduce_28 ?_
      refine lv_iload_n hx hb dX2_reduce_31 rfl (lv_at hl 1 rfl) ?_
      refine q_regs hx hb hW (j := y) (by omega) hn8 ey dX2_reduce_32 ?_
      refine q_v (q_runV (As := [.ref (g.P (21 + y)), .ref (g.P (21 + y))]) (rest := []) (i := 1) S hW (by decide) rfl rfl (r_residue l g hg σ (rowr hy) (rowr hy) (by omega) (by omega) p0) gX2_reduce_X1_residue rfl (nA := 2) ⟨rfl, by decide +kernel, ⟨by decide, by decide⟩⟩ rfl hl.1 rfl (Nat.le_of_ble_eq_true rfl) dX2_reduce_33 ⟨Nat.zero_le _, Nat.zero_le _⟩) hW Ad_hi (fun σ2 H locs hp hW => ?_)
      obtain ⟨F2, e2, hf2, hv2⟩ : ∃ F', σ2 = σ.setF F' ∧ Fr σ.F F' [16, 21 + y] ∧ qV g F' (21 + y) = qV g σ.F (21 + y) % qV g σ.F 12 := hp
      rw [e2] at hW
      rw [ha.1, ha.2 y hy] at hv2
      refine lv_iconst (v := 1) hx hb dX2_reduce_36 (by decide) ?_
      exact fin _ _ _ _ _ _ (by decide) hW (⟨⟨rfl, rfl⟩, cInv_keep hc hf2 (fun r hr => by simp at hr; omega), M, _, cAbs_up ha hf2 (fun r hr => by simp at hr; omega) hv2, Or.inl ⟨y, y, y, _, hy, hy, hy, ey, ey, ey, h0, rfl, rfl, rfl⟩, rfl, rfl⟩) dX2_reduce_37
    · have hno : ¬ isR d g.n := er1.elim (fun z => absurd (z.1.symm.trans c1) (by decide)) (fun z => z.2)
      refine lv_iconst (v := 0) hx hb dX2_reduce_15 (by decide) ?_
      exact fin _ _ _ _ _ _ (by decide) hW (⟨⟨rfl, rfl⟩, hc, M, X, ha, ⟨Or.inr ⟨fun q => hno q.2.1, rfl, rfl⟩, rfl, rfl⟩⟩) dX2_reduce_16
set_option maxHeartbeats 4000000 in
set_option maxRecDepth 100000 in
/-- addMod(d, a, b) -/
theorem m_addMod (l : Launch) (g : qCfg) (hg : g.ok) (σ : qSt) (hc : cInv g σ) {M : Nat} {X : Nat → Nat} (ha : cAbs g σ M X) (d a b : Int32) : qCI l g yX2_addMod wsX2_addMod 5 120 [.ref (g.P 0), .int d, .int a, .int b] σ (cPost g σ (sReg g.n pAdd d a b M X σ.rd)) := by
  refine q_sZ (cc := cX2_addMod) (maxL := 4) (by decide) rfl (Nat.le_of_ble_eq_true rfl) ?_
  intro p e s m args below meth c ls Q S hW hl fin
  obtain ⟨hx, hb, hml, hown, hts, hr, hlocks⟩ := id S
  obtain ⟨hk1, hk8, hn1, hn8⟩ := id hg
  have hl : lv_has ls 4 [(0, .ref (g.P 0)), (1, .int d), (2, .int a), (3, .int b)] := hl
  refine lv_aload_n hx hb dX2_addMod_0 rfl (lv_at hl 0 rfl) ?_
  refine lv_iload_n hx hb dX2_addMod_1 rfl (lv_at hl 1 rfl) ?_
  refine lv_iload_n hx hb dX2_addMod_2 rfl (lv_at hl 2 rfl) ?_
  refine lv_iload_n hx hb dX2_addMod_3 rfl (lv_at hl 3 rfl) ?_
  refine q_i (q_runV (As := [.int d, .int a, .int b]) (rest := []) (i := 0) S hW (by decide) rfl rfl (m_canWork l g hg σ hc.2.1 d a b) gX2_addMod_X2_canWork rfl (nA := 3) ⟨rfl, by decide +kernel, ⟨by decide, by decide⟩⟩ rfl hl.1 rfl (Nat.le_of_ble_eq_true rfl) dX2_addMod_4 ⟨Nat.zero_le _, Nat.zero_le _⟩) hW Ad_hi (fun r_4 σ1 H locs hp hW => ?_)
  obtain ⟨e1, er1⟩ : σ1 = σ ∧ (r_4 = 1 ∧ (σ.rd = 1 ∧ isR d g.n ∧ isR a g.n ∧ isR b g.n) ∨ r_4 = 0 ∧ ¬ (σ.rd = 1 ∧ isR d g.n ∧ isR a g.n ∧ isR b g.n)) := hp
  rw [e1] at hW
  refine lv_if_ne (tgt := 12) hx hb dX2_addMod_7 (by decide) (fun c1 => ?_) (fun c1 => ?_)
  · obtain ⟨h0, ⟨d1, hd1, ed1⟩, ⟨y, hy, ey⟩, ⟨z, hz, ez⟩⟩ : (σ.rd = 1 ∧ isR d g.n ∧ isR a g.n ∧ isR b g.n) := er1.elim (fun z => z.2) (fun z => absurd z.1 c1)
    have p0 := hc.2.2 h0
    refine lv_aload_n hx hb dX2_addMod_12 rfl (lv_at hl 0 rfl) ?_
    refine q_get (C := RX2) (T := TX2) (v := .ref (g.P 1)) hx hb hts hown (fun _ h9 => iw_X2_addMod_X2 _ h9) hW (i := 0) (by decide) rfl rfl 3 (by decide) (hts (.fieldLink RX2 35 "ModEngine" "ring" "LModEngine$Ring;") (by decide +kernel)) rfl dX2_addMod_13 ?_
    refine lv_aload_n hx hb dX2_addMod_16 rfl (lv_at hl 0 rfl) ?_
    refine q_get (C := RX2) (T := TX2) (v := .ref (g.P 2)) hx hb hts hown (fun _ h9 => iw_X2_addMod_X2 _ h9) hW (i := 0) (by decide) rfl rfl 2 (by decide) (hts (.fieldLink RX2 27 "ModEngine" "registers" "[[I") (by decide +kernel)) rfl dX2_addMod_17 ?_
    refine lv_iload_n hx hb dX2_addMod_20 rfl (lv_at hl 1 rfl) ?_
    refine q_regs hx hb hW (j := d1) (by omega) hn8 ed1 dX2_addMod_21 ?_
    refine lv_aload_n hx hb dX2_addMod_22 rfl (lv_at hl 0 rfl) ?_
    refine q_get (C := RX2) (T := TX2) (v := .ref (g.P 2)) hx hb hts hown (fun _ h9 => iw_X2_addMod_X2 _ h9) hW (i := 0) (by decide) rfl rfl 2 (by decide) (hts (.fieldLink RX2 27 "ModEngine" "registers" "[[I") (by decide +kernel)) rfl dX2_addMod_23 ?_
    refine lv_iload_n hx hb dX2_addMod_26 rfl (lv_at hl 2 rfl) ?_
    refine q_regs hx hb hW (j := y) (by omega) hn8 ey dX2_addMod_27 ?_
    refine lv_aload_n hx hb dX2_addMod_28 rfl (lv_at hl 0 rfl) ?_
    refine q_get (C := RX2) (T := TX2) (v := .ref (g.P 2)) hx hb hts hown (fun _ h9 => iw_X2_addMod_X2 _ h9) hW (i := 0) (by decide) rfl rfl 2 (by decide) (hts (.fieldLink RX2 27 "ModEngine" "registers" "[[I") (by decide +kernel)) rfl dX2_addMod_29 ?_
    refine lv_iload_n hx hb dX2_addMod_32 rfl (lv_at hl 3 rfl) ?_
    refine q_regs hx hb hW (j := z) (by omega) hn8 ez dX2_addMod_33 ?_
    refine q_v (q_runV (As := [.ref (g.P (21 + d1)), .ref (g.P (21 + y)), .ref (g.P (21 + z))]) (rest := []) (i := 1) S hW (by decide) rfl rfl (r_sum l g hg σ (rowr hd1) (rowr hy) (rowr hz) (by omega) (by omega) (by omega) p0) gX2_addMod_X1_sum rfl (nA := 3) ⟨rfl, by decide +kernel, ⟨by decide, by decide⟩⟩ rfl hl.1 rfl (Nat.le_of_ble_eq_true rfl) dX2_addMod_34 ⟨Nat.zero_le _, Nat.zero_le _⟩) hW Ad_hi (fun σ2 H locs hp hW => ?_)
    obtain ⟨F2, e2, hf2, hv2⟩ : ∃ F', σ2 = σ.setF F' ∧ Fr σ.F F' [16, 17, 18, 21 + d1] ∧ qV g F' (21 + d1) = (qV g σ.F (21 + y) % qV g σ.F 12 + qV g σ.F (21 + z) % qV g σ.F 12) % qV g σ.F 12 := hp
    rw [e2] at hW
    rw [ha.1, ha.2 y hy, ha.2 z hz] at hv2
    refine lv_iconst (v := 1) hx hb dX2_addMod_37 (by decide) ?_
    exact fin _ _ _ _ _ _ (by decide) hW (⟨⟨rfl, rfl⟩, cInv_keep hc hf2 (fun r hr => by simp at hr; omega), M, _, cAbs_up ha hf2 (fun r hr => by simp at hr; omega) hv2, Or.inl ⟨d1, y, z, _, hd1, hy, hz, ed1, ey, ez, h0, rfl, rfl, rfl⟩, rfl, rfl⟩) dX2_addMod_38
  · have hno : ¬ (σ.rd = 1 ∧ isR d g.n ∧ isR a g.n ∧ isR b g.n) := er1.elim (fun z => absurd (z.1.symm.trans c1) (by decide)) (fun z => z.2)
    refine lv_iconst (v := 0) hx hb dX2_addMod_10 (by decide) ?_
    exact fin _ _ _ _ _ _ (by decide) hW (⟨⟨rfl, rfl⟩, hc, M, X, ha, ⟨Or.inr ⟨hno, rfl, rfl⟩, rfl, rfl⟩⟩) dX2_addMod_11
set_option maxHeartbeats 4000000 in
set_option maxRecDepth 100000 in
/-- subMod(d, a, b) -/
theorem m_subMod (l : Launch) (g : qCfg) (hg : g.ok) (σ : qSt) (hc : cInv g σ) {M : Nat} {X : Nat → Nat} (ha : cAbs g σ M X) (d a b : Int32) : qCI l g yX2_subMod wsX2_subMod 5 120 [.ref (g.P 0), .int d, .int a, .int b] σ (cPost g σ (sReg g.n pSub d a b M X σ.rd)) := by
  refine q_sZ (cc := cX2_subMod) (maxL := 4) (by decide) rfl (Nat.le_of_ble_eq_true rfl) ?_
  intro p e s m args below meth c ls Q S hW hl fin
  obtain ⟨hx, hb, hml, hown, hts, hr, hlocks⟩ := id S
  obtain ⟨hk1, hk8, hn1, hn8⟩ := id hg
  have hl : lv_has ls 4 [(0, .ref (g.P 0)), (1, .int d), (2, .int a), (3, .int b)] := hl
  refine lv_aload_n hx hb dX2_subMod_0 rfl (lv_at hl 0 rfl) ?_
  refine lv_iload_n hx hb dX2_subMod_1 rfl (lv_at hl 1 rfl) ?_
  refine lv_iload_n hx hb dX2_subMod_2 rfl (lv_at hl 2 rfl) ?_
  refine lv_iload_n hx hb dX2_subMod_3 rfl (lv_at hl 3 rfl) ?_
  refine q_i (q_runV (As := [.int d, .int a, .int b]) (rest := []) (i := 0) S hW (by decide) rfl rfl (m_canWork l g hg σ hc.2.1 d a b) gX2_subMod_X2_canWork rfl (nA := 3) ⟨rfl, by decide +kernel, ⟨by decide, by decide⟩⟩ rfl hl.1 rfl (Nat.le_of_ble_eq_true rfl) dX2_subMod_4 ⟨Nat.zero_le _, Nat.zero_le _⟩) hW Ad_hi (fun r_4 σ1 H locs hp hW => ?_)
  obtain ⟨e1, er1⟩ : σ1 = σ ∧ (r_4 = 1 ∧ (σ.rd = 1 ∧ isR d g.n ∧ isR a g.n ∧ isR b g.n) ∨ r_4 = 0 ∧ ¬ (σ.rd = 1 ∧ isR d g.n ∧ isR a g.n ∧ isR b g.n)) := hp
  rw [e1] at hW
  refine lv_if_ne (tgt := 12) hx hb dX2_subMod_7 (by decide) (fun c1 => ?_) (fun c1 => ?_)
  · obtain ⟨h0, ⟨d1, hd1, ed1⟩, ⟨y, hy, ey⟩, ⟨z, hz, ez⟩⟩ : (σ.rd = 1 ∧ isR d g.n ∧ isR a g.n ∧ isR b g.n) := er1.elim (fun z => z.2) (fun z => absurd z.1 c1)
    have p0 := hc.2.2 h0
    refine lv_aload_n hx hb dX2_subMod_12 rfl (lv_at hl 0 rfl) ?_
    refine q_get (C := RX2) (T := TX2) (v := .ref (g.P 1)) hx hb hts hown (fun _ h9 => iw_X2_subMod_X2 _ h9) hW (i := 0) (by decide) rfl rfl 3 (by decide) (hts (.fieldLink RX2 35 "ModEngine" "ring" "LModEngine$Ring;") (by decide +kernel)) rfl dX2_subMod_13 ?_
    refine lv_aload_n hx hb dX2_subMod_16 rfl (lv_at hl 0 rfl) ?_
    refine q_get (C := RX2) (T := TX2) (v := .ref (g.P 2)) hx hb hts hown (fun _ h9 => iw_X2_subMod_X2 _ h9) hW (i := 0) (by decide) rfl rfl 2 (by decide) (hts (.fieldLink RX2 27 "ModEngine" "registers" "[[I") (by decide +kernel)) rfl dX2_subMod_17 ?_
    refine lv_iload_n hx hb dX2_subMod_20 rfl (lv_at hl 1 rfl) ?_
    refine q_regs hx hb hW (j := d1) (by omega) hn8 ed1 dX2_subMod_21 ?_
    refine lv_aload_n hx hb dX2_subMod_22 rfl (lv_at hl 0 rfl) ?_
    refine q_get (C := RX2) (T := TX2) (v := .ref (g.P 2)) hx hb hts hown (fun _ h9 => iw_X2_subMod_X2 _ h9) hW (i := 0) (by decide) rfl rfl 2 (by decide) (hts (.fieldLink RX2 27 "ModEngine" "registers" "[[I") (by decide +kernel)) rfl dX2_subMod_23 ?_
    refine lv_iload_n hx hb dX2_subMod_26 rfl (lv_at hl 2 rfl) ?_
    refine q_regs hx hb hW (j := y) (by omega) hn8 ey dX2_subMod_27 ?_
    refine lv_aload_n hx hb dX2_subMod_28 rfl (lv_at hl 0 rfl) ?_
    refine q_get (C := RX2) (T := TX2) (v := .ref (g.P 2)) hx hb hts hown (fun _ h9 => iw_X2_subMod_X2 _ h9) hW (i := 0) (by decide) rfl rfl 2 (by decide) (hts (.fieldLink RX2 27 "ModEngine" "registers" "[[I") (by decide +kernel)) rfl dX2_subMod_29 ?_
    refine lv_iload_n hx hb dX2_subMod_32 rfl (lv_at hl 3 rfl) ?_
    refine q_regs hx hb hW (j := z) (by omega) hn8 ez dX2_subMod_33 ?_
    refine q_v (q_runV (As := [.ref (g.P (21 + d1)), .ref (g.P (21 + y)), .ref (g.P (21 + z))]) (rest := []) (i := 1) S hW (by decide) rfl rfl (r_difference l g hg σ (rowr hd1) (rowr hy) (rowr hz) (by omega) (by omega) (by omega) p0) gX2_subMod_X1_difference rfl (nA := 3) ⟨rfl, by decide +kernel, ⟨by decide, by decide⟩⟩ rfl hl.1 rfl (Nat.le_of_ble_eq_true rfl) dX2_subMod_34 ⟨Nat.zero_le _, Nat.zero_le _⟩) hW Ad_hi (fun σ2 H locs hp hW => ?_)
    obtain ⟨F2, e2, hf2, hv2⟩ : ∃ F', σ2 = σ.setF F' ∧ Fr σ.F F' [16, 17, 18, 21 + d1] ∧ qV g F' (21 + d1) = dfm (qV g σ.F 12) (qV g σ.F (21 + y) % qV g σ.F 12) (qV g σ.F (21 + z) % qV g σ.F 12) := hp
    rw [e2] at hW
    rw [ha.1, ha.2 y hy, ha.2 z hz] at hv2
    refine lv_iconst (v := 1) hx hb dX2_subMod_37 (by decide) ?_
    exact fin _ _ _ _ _ _ (by decide) hW (⟨⟨rfl, rfl⟩, cInv_keep hc hf2 (fun r hr => by simp at hr; omega), M, _, cAbs_up ha hf2 (fun r hr => by simp at hr; omega) hv2, Or.inl ⟨d1, y, z, _, hd1, hy, hz, ed1, ey, ez, h0, rfl, rfl, rfl⟩, rfl, rfl⟩) dX2_subMod_38
  · have hno : ¬ (σ.rd = 1 ∧ isR d g.n ∧ isR a g.n ∧ isR b g.n) := er1.elim (fun z => absurd (z.1.symm.trans c1) (by decide)) (fun z => z.2)
    refine lv_iconst (v := 0) hx hb dX2_subMod_10 (by decide) ?_
    exact fin _ _ _ _ _ _ (by decide) hW (⟨⟨rfl, rfl⟩, hc, M, X, ha, ⟨Or.inr ⟨hno, rfl, rfl⟩, rfl, rfl⟩⟩) dX2_subMod_11
set_option maxHeartbeats 4000000 in
set_option maxRecDepth 100000 in
/-- mulMod(d, a, b) -/
theorem m_mulMod (l : Launch) (g : qCfg) (hg : g.ok) (σ : qSt) (hc : cInv g σ) {M : Nat} {X : Nat → Nat} (ha : cAbs g σ M X) (d a b : Int32) : qCI l g yX2_mulMod wsX2_mulMod 4 98 [.ref (g.P 0), .int d, .int a, .int b] σ (cPost g σ (sReg g.n pMul d a b M X σ.rd)) := by
  refine q_sZ (cc := cX2_mulMod) (maxL := 4) (by decide) rfl (Nat.le_of_ble_eq_true rfl) ?_
  intro p e s m args below meth c ls Q S hW hl fin
  obtain ⟨hx, hb, hml, hown, hts, hr, hlocks⟩ := id S
  obtain ⟨hk1, hk8, hn1, hn8⟩ := id hg
  have hl : lv_has ls 4 [(0, .ref (g.P 0)), (1, .int d), (2, .int a), (3, .int b)] := hl
  refine lv_aload_n hx hb dX2_mulMod_0 rfl (lv_at hl 0 rfl) ?_
  refine lv_iload_n hx hb dX2_mulMod_1 rfl (lv_at hl 1 rfl) ?_
  refine lv_iload_n hx hb dX2_mulMod_2 rfl (lv_at hl 2 rfl) ?_
  refine lv_iload_n hx hb dX2_mulMod_3 rfl (lv_at hl 3 rfl) ?_
  refine q_i (q_runV (As := [.int d, .int a, .int b]) (rest := []) (i := 0) S hW (by decide) rfl rfl (m_canWork l g hg σ hc.2.1 d a b) gX2_mulMod_X2_canWork rfl (nA := 3) ⟨rfl, by decide +kernel, ⟨by decide, by decide⟩⟩ rfl hl.1 rfl (Nat.le_of_ble_eq_true rfl) dX2_mulMod_4 ⟨Nat.zero_le _, Nat.zero_le _⟩) hW Ad_hi (fun r_4 σ1 H locs hp hW => ?_)
  obtain ⟨e1, er1⟩ : σ1 = σ ∧ (r_4 = 1 ∧ (σ.rd = 1 ∧ isR d g.n ∧ isR a g.n ∧ isR b g.n) ∨ r_4 = 0 ∧ ¬ (σ.rd = 1 ∧ isR d g.n ∧ isR a g.n ∧ isR b g.n)) := hp
  rw [e1] at hW
  refine lv_if_ne (tgt := 12) hx hb dX2_mulMod_7 (by decide) (fun c1 => ?_) (fun c1 => ?_)
  · obtain ⟨h0, ⟨d1, hd1, ed1⟩, ⟨y, hy, ey⟩, ⟨z, hz, ez⟩⟩ : (σ.rd = 1 ∧ isR d g.n ∧ isR a g.n ∧ isR b g.n) := er1.elim (fun z => z.2) (fun z => absurd z.1 c1)
    have p0 := hc.2.2 h0
    refine lv_aload_n hx hb dX2_mulMod_12 rfl (lv_at hl 0 rfl) ?_
    refine q_get (C := RX2) (T := TX2) (v := .ref (g.P 1)) hx hb hts hown (fun _ h9 => iw_X2_mulMod_X2 _ h9) hW (i := 0) (by decide) rfl rfl 3 (by decide) (hts (.fieldLink RX2 35 "ModEngine" "ring" "LModEngine$Ring;") (by decide +kernel)) rfl dX2_mulMod_13 ?_
    refine lv_aload_n hx hb dX2_mulMod_16 rfl (lv_at hl 0 rfl) ?_
    refine q_get (C := RX2) (T := TX2) (v := .ref (g.P 2)) hx hb hts hown (fun _ h9 => iw_X2_mulMod_X2 _ h9) hW (i := 0) (by decide) rfl rfl 2 (by decide) (hts (.fieldLink RX2 27 "ModEngine" "registers" "[[I") (by decide +kernel)) rfl dX2_mulMod_17 ?_
    refine lv_iload_n hx hb dX2_mulMod_20 rfl (lv_at hl 1 rfl) ?_
    refine q_regs hx hb hW (j := d1) (by omega) hn8 ed1 dX2_mulMod_21 ?_
    refine lv_aload_n hx hb dX2_mulMod_22 rfl (lv_at hl 0 rfl) ?_
    refine q_get (C := RX2) (T := TX2) (v := .ref (g.P 2)) hx hb hts hown (fun _ h9 => iw_X2_mulMod_X2 _ h9) hW (i := 0) (by decide) rfl rfl 2 (by decide) (hts (.fieldLink RX2 27 "ModEngine" "registers" "[[I") (by decide +kernel)) rfl dX2_mulMod_23 ?_
    refine lv_iload_n hx hb dX2_mulMod_26 rfl (lv_at hl 2 rfl) ?_
    refine q_regs hx hb hW (j := y) (by omega) hn8 ey dX2_mulMod_27 ?_
    refine lv_aload_n hx hb dX2_mulMod_28 rfl (lv_at hl 0 rfl) ?_
    refine q_get (C := RX2) (T := TX2) (v := .ref (g.P 2)) hx hb hts hown (fun _ h9 => iw_X2_mulMod_X2 _ h9) hW (i := 0) (by decide) rfl rfl 2 (by decide) (hts (.fieldLink RX2 27 "ModEngine" "registers" "[[I") (by decide +kernel)) rfl dX2_mulMod_29 ?_
    refine lv_iload_n hx hb dX2_mulMod_32 rfl (lv_at hl 3 rfl) ?_
    refine q_regs hx hb hW (j := z) (by omega) hn8 ez dX2_mulMod_33 ?_
    refine q_v (q_runV (As := [.ref (g.P (21 + d1)), .ref (g.P (21 + y)), .ref (g.P (21 + z))]) (rest := []) (i := 1) S hW (by decide) rfl rfl (r_product l g hg σ (rowr hd1) (rowr hy) (rowr hz) (by omega) (by omega) (by omega) p0) gX2_mulMod_X1_product rfl (nA := 3) ⟨rfl, by decide +kernel, ⟨by decide, by decide⟩⟩ rfl hl.1 rfl (Nat.le_of_ble_eq_true rfl) dX2_mulMod_34 ⟨Nat.zero_le _, Nat.zero_le _⟩) hW Ad_hi (fun σ2 H locs hp hW => ?_)
    obtain ⟨F2, e2, hf2, hv2⟩ : ∃ F', σ2 = σ.setF F' ∧ Fr σ.F F' [16, 17, 21 + d1] ∧ qV g F' (21 + d1) = qV g σ.F (21 + y) * qV g σ.F (21 + z) % qV g σ.F 12 := hp
    rw [e2] at hW
    rw [ha.1, ha.2 y hy, ha.2 z hz] at hv2
    refine lv_iconst (v := 1) hx hb dX2_mulMod_37 (by decide) ?_
    exact fin _ _ _ _ _ _ (by decide) hW (⟨⟨rfl, rfl⟩, cInv_keep hc hf2 (fun r hr => by simp at hr; omega), M, _, cAbs_up ha hf2 (fun r hr => by simp at hr; omega) hv2, Or.inl ⟨d1, y, z, _, hd1, hy, hz, ed1, ey, ez, h0, rfl, rfl, rfl⟩, rfl, rfl⟩) dX2_mulMod_38
  · have hno : ¬ (σ.rd = 1 ∧ isR d g.n ∧ isR a g.n ∧ isR b g.n) := er1.elim (fun z => absurd (z.1.symm.trans c1) (by decide)) (fun z => z.2)
    refine lv_iconst (v := 0) hx hb dX2_mulMod_10 (by decide) ?_
    exact fin _ _ _ _ _ _ (by decide) hW (⟨⟨rfl, rfl⟩, hc, M, X, ha, ⟨Or.inr ⟨hno, rfl, rfl⟩, rfl, rfl⟩⟩) dX2_mulMod_11
set_option maxHeartbeats 4000000 in
set_option maxRecDepth 100000 in
/-- montMod(d, a, b) -/
theorem m_montMod (l : Launch) (g : qCfg) (hg : g.ok) (σ : qSt) (hc : cInv g σ) {M : Nat} {X : Nat → Nat} (ha : cAbs g σ M X) (d a b : Int32) : qCI l g yX2_montMod wsX2_montMod 5 121 [.ref (g.P 0), .int d, .int a, .int b] σ (cPost g σ (sReg g.n (pMon g.k) d a b M X σ.rd)) := by
  refine q_sZ (cc := cX2_montMod) (maxL := 4) (by decide) rfl (Nat.le_of_ble_eq_true rfl) ?_
  intro p e s m args below meth c ls Q S hW hl fin
  obtain ⟨hx, hb, hml, hown, hts, hr, hlocks⟩ := id S
  obtain ⟨hk1, hk8, hn1, hn8⟩ := id hg
  have hl : lv_has ls 4 [(0, .ref (g.P 0)), (1, .int d), (2, .int a), (3, .int b)] := hl
  refine lv_aload_n hx hb dX2_montMod_0 rfl (lv_at hl 0 rfl) ?_
  refine lv_iload_n hx hb dX2_montMod_1 rfl (lv_at hl 1 rfl) ?_
  refine lv_iload_n hx hb dX2_montMod_2 rfl (lv_at hl 2 rfl) ?_
  refine lv_iload_n hx hb dX2_montMod_3 rfl (lv_at hl 3 rfl) ?_
  refine q_i (q_runV (As := [.int d, .int a, .int b]) (rest := []) (i := 0) S hW (by decide) rfl rfl (m_canWork l g hg σ hc.2.1 d a b) gX2_montMod_X2_canWork rfl (nA := 3) ⟨rfl, by decide +kernel, ⟨by decide, by decide⟩⟩ rfl hl.1 rfl (Nat.le_of_ble_eq_true rfl) dX2_montMod_4 ⟨Nat.zero_le _, Nat.zero_le _⟩) hW Ad_hi (fun r_4 σ1 H locs hp hW => ?_)
  obtain ⟨e1, er1⟩ : σ1 = σ ∧ (r_4 = 1 ∧ (σ.rd = 1 ∧ isR d g.n ∧ isR a g.n ∧ isR b g.n) ∨ r_4 = 0 ∧ ¬ (σ.rd = 1 ∧ isR d g.n ∧ isR a g.n ∧ isR b g.n)) := hp
  rw [e1] at hW
  refine lv_if_ne (tgt := 12) hx hb dX2_montMod_7 (by decide) (fun c1 => ?_) (fun c1 => ?_)
  · obtain ⟨h0, ⟨d1, hd1, ed1⟩, ⟨y, hy, ey⟩, ⟨z, hz, ez⟩⟩ : (σ.rd = 1 ∧ isR d g.n ∧ isR a g.n ∧ isR b g.n) := er1.elim (fun z => z.2) (fun z => absurd z.1 c1)
    have p0 := hc.2.2 h0
    refine lv_aload_n hx hb dX2_montMod_12 rfl (lv_at hl 0 rfl) ?_
    refine q_get (C := RX2) (T := TX2) (v := .ref (g.P 1)) hx hb hts hown (fun _ h9 => iw_X2_montMod_X2 _ h9) hW (i := 0) (by decide) rfl rfl 3 (by decide) (hts (.fieldLink RX2 35 "ModEngine" "ring" "LModEngine$Ring;") (by decide +kernel)) rfl dX2_montMod_13 ?_
    refine lv_aload_n hx hb dX2_montMod_16 rfl (lv_at hl 0 rfl) ?_
    refine q_get (C := RX2) (T := TX2) (v := .ref (g.P 2)) hx hb hts hown (fun _ h9 => iw_X2_montMod_X2 _ h9) hW (i := 0) (by decide) rfl rfl 2 (by decide) (hts (.fieldLink RX2 27 "ModEngine" "registers" "[[I") (by decide +kernel)) rfl dX2_montMod_17 ?_
    refine lv_iload_n hx hb dX2_montMod_20 rfl (lv_at hl 1 rfl) ?_
    refine q_regs hx hb hW (j := d1) (by omega) hn8 ed1 dX2_montMod_21 ?_
    refine lv_aload_n hx hb dX2_montMod_22 rfl (lv_at hl 0 rfl) ?_
    refine q_get (C := RX2) (T := TX2) (v := .ref (g.P 2)) hx hb hts hown (fun _ h9 => iw_X2_montMod_X2 _ h9) hW (i := 0) (by decide) rfl rfl 2 (by decide) (hts (.fieldLink RX2 27 "ModEngine" "registers" "[[I") (by decide +kernel)) rfl dX2_montMod_23 ?_
    refine lv_iload_n hx hb dX2_montMod_26 rfl (lv_at hl 2 rfl) ?_
    refine q_regs hx hb hW (j := y) (by omega) hn8 ey dX2_montMod_27 ?_
    refine lv_aload_n hx hb dX2_montMod_28 rfl (lv_at hl 0 rfl) ?_
    refine q_get (C := RX2) (T := TX2) (v := .ref (g.P 2)) hx hb hts hown (fun _ h9 => iw_X2_montMod_X2 _ h9) hW (i := 0) (by decide) rfl rfl 2 (by decide) (hts (.fieldLink RX2 27 "ModEngine" "registers" "[[I") (by decide +kernel)) rfl dX2_montMod_29 ?_
    refine lv_iload_n hx hb dX2_montMod_32 rfl (lv_at hl 3 rfl) ?_
    refine q_regs hx hb hW (j := z) (by omega) hn8 ez dX2_montMod_33 ?_
    refine q_v (q_runV (As := [.ref (g.P (21 + d1)), .ref (g.P (21 + y)), .ref (g.P (21 + z))]) (rest := []) (i := 1) S hW (by decide) rfl rfl (r_productByR l g hg σ (rowr hd1) (rowr hy) (rowr hz) (by omega) (by omega) (by omega) p0) gX2_montMod_X1_productByR rfl (nA := 3) ⟨rfl, by decide +kernel, ⟨by decide, by decide⟩⟩ rfl hl.1 rfl (Nat.le_of_ble_eq_true rfl) dX2_montMod_34 ⟨Nat.zero_le _, Nat.zero_le _⟩) hW Ad_hi (fun σ2 H locs hp hW => ?_)
    obtain ⟨F2, e2, hf2, hl2, hv2⟩ : ∃ F', σ2 = σ.setF F' ∧ Fr σ.F F' [16, 17, 21 + d1] ∧ qV g F' (21 + d1) < qV g σ.F 12 ∧ qV g F' (21 + d1) * 2 ^ (32 * g.k) % qV g σ.F 12 = qV g σ.F (21 + y) * qV g σ.F (21 + z) % qV g σ.F 12 := hp
    rw [e2] at hW
    rw [ha.1, ha.2 y hy, ha.2 z hz] at hv2
    rw [ha.1] at hl2
    refine lv_iconst (v := 1) hx hb dX2_montMod_37 (by decide) ?_
    exact fin _ _ _ _ _ _ (by decide) hW (⟨⟨rfl, rfl⟩, cInv_keep hc hf2 (fun r hr => by simp at hr; omega), M, _, cAbs_up ha hf2 (fun r hr => by simp at hr; omega) rfl, Or.inl ⟨d1, y, z, qV g F2 (21 + d1), hd1, hy, hz, ed1, ey, ez, h0, rfl, ⟨by rw [← ha.1]; exact p0.1, hl2, hv2⟩, rfl⟩, rfl, rfl⟩) dX2_montMod_38
  · have hno : ¬ (σ.rd = 1 ∧ isR d g.n ∧ isR a g.n ∧ isR b g.n) := er1.elim (fun z => absurd (z.1.symm.trans c1) (by decide)) (fun z => z.2)
    refine lv_iconst (v := 0) hx hb dX2_montMod_10 (by decide) ?_
    exact fin _ _ _ _ _ _ (by decide) hW (⟨⟨rfl, rfl⟩, hc, M, X, ha, ⟨Or.inr ⟨hno, rfl, rfl⟩, rfl, rfl⟩⟩) dX2_montMod_11
set_option maxHeartbeats 4000000 in
set_option maxRecDepth 100000 in
/-- powMod(d, a, b) -/
theorem m_powMod (l : Launch) (g : qCfg) (hg : g.ok) (σ : qSt) (hc : cInv g σ) {M : Nat} {X : Nat → Nat} (ha : cAbs g σ M X) (d a b : Int32) : qCI l g yX2_powMod wsX2_powMod 5 123 [.ref (g.P 0), .int d, .int a, .int b] σ (cPost g σ (sReg g.n pPow d a b M X σ.rd)) := by
  refine q_sZ (cc := cX2_powMod) (maxL := 4) (by decide) rfl (Nat.le_of_ble_eq_true rfl) ?_
  intro p e s m args below meth c ls Q S hW hl fin
  obtain ⟨hx, hb, hml, hown, hts, hr, hlocks⟩ := id S
  obtain ⟨hk1, hk8, hn1, hn8⟩ := id hg
  have hl : lv_has ls 4 [(0, .ref (g.P 0)), (1, .int d), (2, .int a), (3, .int b)] := hl
  refine lv_aload_n hx hb dX2_powMod_0 rfl (lv_at hl 0 rfl) ?_
  refine lv_iload_n hx hb dX2_powMod_1 rfl (lv_at hl 1 rfl) ?_
  refine lv_iload_n hx hb dX2_powMod_2 rfl (lv_at hl 2 rfl) ?_
  refine lv_iload_n hx hb dX2_powMod_3 rfl (lv_at hl 3 rfl) ?_
  refine q_i (q_runV (As := [.int d, .int a, .int b]) (rest := []) (i := 0) S hW (by decide) rfl rfl (m_canWork l g hg σ hc.2.1 d a b) gX2_powMod_X2_canWork rfl (nA := 3) ⟨rfl, by decide +kernel, ⟨by decide, by decide⟩⟩ rfl hl.1 rfl (Nat.le_of_ble_eq_true rfl) dX2_powMod_4 ⟨Nat.zero_le _, Nat.zero_le _⟩) hW Ad_hi (fun r_4 σ1 H locs hp hW => ?_)
  obtain ⟨e1, er1⟩ : σ1 = σ ∧ (r_4 = 1 ∧ (σ.rd = 1 ∧ isR d g.n ∧ isR a g.n ∧ isR b g.n) ∨ r_4 = 0 ∧ ¬ (σ.rd = 1 ∧ isR d g.n ∧ isR a g.n ∧ isR b g.n)) := hp
  rw [e1] at hW
  refine lv_if_ne (tgt := 12) hx hb dX2_powMod_7 (by decide) (fun c1 => ?_) (fun c1 => ?_)
  · obtain ⟨h0, ⟨d1, hd1, ed1⟩, ⟨y, hy, ey⟩, ⟨z, hz, ez⟩⟩ : (σ.rd = 1 ∧ isR d g.n ∧ isR a g.n ∧ isR b g.n) := er1.elim (fun z => z.2) (fun z => absurd z.1 c1)
    have p0 := hc.2.2 h0
    refine lv_aload_n hx hb dX2_powMod_12 rfl (lv_at hl 0 rfl) ?_
    refine q_get (C := RX2) (T := TX2) (v := .ref (g.P 1)) hx hb hts hown (fun _ h9 => iw_X2_powMod_X2 _ h9) hW (i := 0) (by decide) rfl rfl 3 (by decide) (hts (.fieldLink RX2 35 "ModEngine" "ring" "LModEngine$Ring;") (by decide +kernel)) rfl dX2_powMod_13 ?_
    refine lv_aload_n hx hb dX2_powMod_16 rfl (lv_at hl 0 rfl) ?_
    refine q_get (C := RX2) (T := TX2) (v := .ref (g.P 2)) hx hb hts hown (fun _ h9 => iw_X2_powMod_X2 _ h9) hW (i := 0) (by decide) rfl rfl 2 (by decide) (hts (.fieldLink RX2 27 "ModEngine" "registers" "[[I") (by decide +kernel)) rfl dX2_powMod_17 ?_
    refine lv_iload_n hx hb dX2_powMod_20 rfl (lv_at hl 1 rfl) ?_
    refine q_regs hx hb hW (j := d1) (by omega) hn8 ed1 dX2_powMod_21 ?_
    refine lv_aload_n hx hb dX2_powMod_22 rfl (lv_at hl 0 rfl) ?_
    refine q_get (C := RX2) (T := TX2) (v := .ref (g.P 2)) hx hb hts hown (fun _ h9 => iw_X2_powMod_X2 _ h9) hW (i := 0) (by decide) rfl rfl 2 (by decide) (hts (.fieldLink RX2 27 "ModEngine" "registers" "[[I") (by decide +kernel)) rfl dX2_powMod_23 ?_
    refine lv_iload_n hx hb dX2_powMod_26 rfl (lv_at hl 2 rfl) ?_
    refine q_regs hx hb hW (j := y) (by omega) hn8 ey dX2_powMod_27 ?_
    refine lv_aload_n hx hb dX2_powMod_28 rfl (lv_at hl 0 rfl) ?_
    refine q_get (C := RX2) (T := TX2) (v := .ref (g.P 2)) hx hb hts hown (fun _ h9 => iw_X2_powMod_X2 _ h9) hW (i := 0) (by decide) rfl rfl 2 (by decide) (hts (.fieldLink RX2 27 "ModEngine" "registers" "[[I") (by decide +kernel)) rfl dX2_powMod_29 ?_
    refine lv_iload_n hx hb dX2_powMod_32 rfl (lv_at hl 3 rfl) ?_
    refine q_regs hx hb hW (j := z) (by omega) hn8 ez dX2_powMod_33 ?_
    refine q_v (q_runV (As := [.ref (g.P (21 + d1)), .ref (g.P (21 + y)), .ref (g.P (21 + z))]) (rest := []) (i := 1) S hW (by decide) rfl rfl (r_power l g hg σ (rowr hd1) (rowr hy) (rowr hz) (by omega) (by omega) (by omega) p0) gX2_powMod_X1_power rfl (nA := 3) ⟨rfl, by decide +kernel, ⟨by decide, by decide⟩⟩ rfl hl.1 rfl (Nat.le_of_ble_eq_true rfl) dX2_powMod_34 ⟨Nat.zero_le _, Nat.zero_le _⟩) hW Ad_hi (fun σ2 H locs hp hW => ?_)
    obtain ⟨F2, e2, hf2, hv2⟩ : ∃ F', σ2 = σ.setF F' ∧ Fr σ.F F' [16, 17, 18, 21 + d1] ∧ qV g F' (21 + d1) = qV g σ.F (21 + y) ^ qV g σ.F (21 + z) % qV g σ.F 12 := hp
    rw [e2] at hW
    rw [ha.1, ha.2 y hy, ha.2 z hz] at hv2
    refine lv_iconst (v := 1) hx hb dX2_powMod_37 (by decide) ?_
    exact fin _ _ _ _ _ _ (by decide) hW (⟨⟨rfl, rfl⟩, cInv_keep hc hf2 (fun r hr => by simp at hr; omega), M, _, cAbs_up ha hf2 (fun r hr => by simp at hr; omega) hv2, Or.inl ⟨d1, y, z, _, hd1, hy, hz, ed1, ey, ez, h0, rfl, rfl, rfl⟩, rfl, rfl⟩) dX2_powMod_38
  · have hno : ¬ (σ.rd = 1 ∧ isR d g.n ∧ isR a g.n ∧ isR b g.n) := er1.elim (fun z => absurd (z.1.symm.trans c1) (by decide)) (fun z => z.2)
    refine lv_iconst (v := 0) hx hb dX2_powMod_10 (by decide) ?_
    exact fin _ _ _ _ _ _ (by decide) hW (⟨⟨rfl, rfl⟩, hc, M, X, ha, ⟨Or.inr ⟨hno, rfl, rfl⟩, rfl, rfl⟩⟩) dX2_powMod_11
set_option maxHeartbeats 4000000 in
set_option maxRecDepth 100000 in
/-- invMod(d, a) -/
theorem m_invMod (l : Launch) (g : qCfg) (hg : g.ok) (σ : qSt) (hc : cInv g σ) {M : Nat} {X : Nat → Nat} (ha : cAbs g σ M X) (d a : Int32) : qCI l g yX2_invMod wsX2_invMod 5 121 [.ref (g.P 0), .int d, .int a] σ (cPost g σ (sInv g.n d a M X σ.rd)) := by
  refine q_sI (cc := cX2_invMod) (maxL := 3) (by decide) rfl (Nat.le_of_ble_eq_true rfl) ?_
  intro p e s m args below meth c ls Q S hW hl fin
  obtain ⟨hx, hb, hml, hown, hts, hr, hlocks⟩ := id S
  obtain ⟨hk1, hk8, hn1, hn8⟩ := id hg
  have hl : lv_has ls 3 [(0, .ref (g.P 0)), (1, .int d), (2, .int a)] := hl
  refine lv_aload_n hx hb dX2_invMod_0 rfl (lv_at hl 0 rfl) ?_
  refine lv_iload_n hx hb dX2_invMod_1 rfl (lv_at hl 1 rfl) ?_
  refine lv_iload_n hx hb dX2_invMod_2 rfl (lv_at hl 2 rfl) ?_
  refine lv_iload_n hx hb dX2_invMod_3 rfl (lv_at hl 2 rfl) ?_
  refine q_i (q_runV (As := [.int d, .int a, .int a]) (rest := []) (i := 0) S hW (by decide) rfl rfl (m_canWork l g hg σ hc.2.1 d a a) gX2_invMod_X2_canWork rfl (nA := 3) ⟨rfl, by decide +kernel, ⟨by decide, by decide⟩⟩ rfl hl.1 rfl (Nat.le_of_ble_eq_true rfl) dX2_invMod_4 ⟨Nat.zero_le _, Nat.zero_le _⟩) hW Ad_hi (fun r_4 σ1 H locs hp hW => ?_)
  obtain ⟨e1, er1⟩ : σ1 = σ ∧ (r_4 = 1 ∧ (σ.rd = 1 ∧ isR d g.n ∧ isR a g.n ∧ isR a g.n) ∨ r_4 = 0 ∧ ¬ (σ.rd = 1 ∧ isR d g.n ∧ isR a g.n ∧ isR a g.n)) := hp
  rw [e1] at hW
  refine lv_if_ne (tgt := 12) hx hb dX2_invMod_7 (by decide) (fun c1 => ?_) (fun c1 => ?_)
  · obtain ⟨h0, ⟨d1, hd1, ed1⟩, ⟨y, hy, ey⟩, -⟩ : (σ.rd = 1 ∧ isR d g.n ∧ isR a g.n ∧ isR a g.n) := er1.elim (fun z => z.2) (fun z => absurd z.1 c1)
    have p0 := hc.2.2 h0
    refine lv_aload_n hx hb dX2_invMod_12 rfl (lv_at hl 0 rfl) ?_
    refine q_get (C := RX2) (T := TX2) (v := .ref (g.P 1)) hx hb hts hown (fun _ h9 => iw_X2_invMod_X2 _ h9) hW (i := 0) (by decide) rfl rfl 3 (by decide) (hts (.fieldLink RX2 35 "ModEngine" "ring" "LModEngine$Ring;") (by decide +kernel)) rfl dX2_invMod_13 ?_
    refine lv_aload_n hx hb dX2_invMod_16 rfl (lv_at hl 0 rfl) ?_
    refine q_get (C := RX2) (T := TX2) (v := .ref (g.P 2)) hx hb hts hown (fun _ h9 => iw_X2_invMod_X2 _ h9) hW (i := 0) (by decide) rfl rfl 2 (by decide) (hts (.fieldLink RX2 27 "ModEngine" "registers" "[[I") (by decide +kernel)) rfl dX2_invMod_17 ?_
    refine lv_iload_n hx hb dX2_invMod_20 rfl (lv_at hl 1 rfl) ?_
    refine q_regs hx hb hW (j := d1) (by omega) hn8 ed1 dX2_invMod_21 ?_
    refine lv_aload_n hx hb dX2_invMod_22 rfl (lv_at hl 0 rfl) ?_
    refine q_get (C := RX2) (T := TX2) (v := .ref (g.P 2)) hx hb hts hown (fun _ h9 => iw_X2_invMod_X2 _ h9) hW (i := 0) (by decide) rfl rfl 2 (by decide) (hts (.fieldLink RX2 27 "ModEngine" "registers" "[[I") (by decide +kernel)) rfl dX2_invMod_23 ?_
    refine lv_iload_n hx hb dX2_invMod_26 rfl (lv_at hl 2 rfl) ?_
    refine q_regs hx hb hW (j := y) (by omega) hn8 ey dX2_invMod_27 ?_
    refine q_i (q_runV (As := [.ref (g.P (21 + d1)), .ref (g.P (21 + y))]) (rest := []) (i := 1) S hW (by decide) rfl rfl (r_invert l g hg σ (rowr hd1) (rowr hy) (by omega) (by omega) p0) gX2_invMod_X1_invert rfl (nA := 2) ⟨rfl, by decide +kernel, ⟨by decide, by decide⟩⟩ rfl hl.1 rfl (Nat.le_of_ble_eq_true rfl) dX2_invMod_28 ⟨Nat.zero_le _, Nat.zero_le _⟩) hW Ad_hi (fun r_28 σ2 H locs hp hW => ?_)
    obtain ⟨F2, e2, hcase⟩ := hp
    rw [e2] at hW
    rw [ha.1, ha.2 y hy] at hcase
    refine lv_if_eq (tgt := 38) hx hb dX2_invMod_31 (by decide) (fun c2 => ?_) (fun c2 => ?_)
    · obtain ⟨hg0, hf2⟩ := (hcase.resolve_left (fun z => absurd (z.1.symm.trans c2) (by decide))).2
      refine lv_iconst (v := 1) hx hb dX2_invMod_38 (by decide) ?_
      exact fin _ _ _ _ _ _ hW (⟨⟨rfl, rfl⟩, cInv_keep hc hf2 (by decide), M, X, cAbs_keep ha hf2 (by decide), Or.inl ⟨d1, y, hd1, hy, ed1, ey, h0, Or.inr ⟨rfl, hg0, rfl⟩⟩, rfl, rfl⟩) dX2_invMod_39
    · obtain ⟨hg0, hf2, hl2, hv2⟩ := (hcase.resolve_right (fun z => absurd z.1 c2)).2
      refine lv_iconst (v := 0) hx hb dX2_invMod_34 (by decide) ?_
      refine lv_goto (tgt := 39) hx hb dX2_invMod_35 (by decide) ?_
      exact fin _ _ _ _ _ _ hW (⟨⟨rfl, rfl⟩, cInv_keep hc hf2 (fun r hr => by simp at hr; omega), M, _, cAbs_up ha hf2 (fun r hr => by simp at hr; omega) rfl, Or.inl ⟨d1, y, hd1, hy, ed1, ey, h0, Or.inl ⟨_, rfl, hg0, by omega, hl2, hv2, rfl⟩⟩, rfl, rfl⟩) dX2_invMod_39
  · have hno : ¬ (σ.rd = 1 ∧ isR d g.n ∧ isR a g.n ∧ isR a g.n) := er1.elim (fun z => absurd (z.1.symm.trans c1) (by decide)) (fun z => z.2)
    refine lv_iconst (v := 2) hx hb dX2_invMod_10 (by decide) ?_
    exact fin _ _ _ _ _ _ hW (⟨⟨rfl, rfl⟩, hc, M, X, ha, ⟨Or.inr ⟨fun q => hno ⟨q.1, q.2.1, q.2.2, q.2.2⟩, rfl, rfl⟩, rfl, rfl⟩⟩) dX2_invMod_11
set_option maxHeartbeats 4000000 in
set_option maxRecDepth 100000 in
/-- witness(a) -/
theorem m_witness (l : Launch) (g : qCfg) (hg : g.ok) (σ : qSt) (hc : cInv g σ) {M : Nat} {X : Nat → Nat} (ha : cAbs g σ M X) (d : Int32) : qCI l g yX2_witness wsX2_witness 5 124 [.ref (g.P 0), .int d] σ (cPost g σ (sWit g.n d M X σ.rd)) := by
  refine q_sI (cc := cX2_witness) (maxL := 2) (by decide) rfl (Nat.le_of_ble_eq_true rfl) ?_
  intro p e s m args below meth c ls Q S hW hl fin
  obtain ⟨hx, hb, hml, hown, hts, hr, hlocks⟩ := id S
  obtain ⟨hk1, hk8, hn1, hn8⟩ := id hg
  have hl : lv_has ls 2 [(0, .ref (g.P 0)), (1, .int d)] := hl
  refine lv_aload_n hx hb dX2_witness_0 rfl (lv_at hl 0 rfl) ?_
  refine q_get (C := RX2) (T := TX2) (v := .int σ.rd) hx hb hts hown (fun _ h9 => iw_X2_witness_X2 _ h9) hW (i := 0) (by decide) rfl rfl 4 (by decide) (hts (.fieldLink RX2 39 "ModEngine" "isReady" "Z") (by decide +kernel)) rfl dX2_witness_1 ?_
  refine lv_if_eq (tgt := 15) hx hb dX2_witness_4 (by decide) (fun c0 => ?_) (fun c0 => ?_)
  · refine lv_iconst (v := 2) hx hb dX2_witness_15 (by decide) ?_
    exact fin _ _ _ _ _ _ hW (⟨⟨rfl, rfl⟩, hc, M, X, ha, ⟨Or.inr ⟨fun q => absurd (c0.symm.trans q.1) (by decide), rfl⟩, rfl, rfl, rfl⟩⟩) dX2_witness_16
  · have h0 : σ.rd = 1 := hc.2.1.resolve_left c0
    have p0 := hc.2.2 h0
    refine lv_aload_n hx hb dX2_witness_7 rfl (lv_at hl 0 rfl) ?_
    refine lv_iload_n hx hb dX2_witness_8 rfl (lv_at hl 1 rfl) ?_
    refine q_i (q_runV (As := [.int d]) (rest := []) (i := 0) S hW (by decide) rfl rfl (m_hasRegister l g hg σ d) gX2_witness_X2_hasRegister rfl (nA := 1) ⟨rfl, by decide +kernel, ⟨by decide, by decide⟩⟩ rfl hl.1 rfl (Nat.le_of_ble_eq_true rfl) dX2_witness_9 ⟨Nat.zero_le _, Nat.zero_le _⟩) hW Ad_hi (fun r_9 σ1 H locs hp hW => ?_)
    obtain ⟨e1, er1⟩ : σ1 = σ ∧ (r_9 = 1 ∧ isR d g.n ∨ r_9 = 0 ∧ ¬ isR d g.n) := hp
    rw [e1] at hW
    refine lv_if_ne (tgt := 17) hx hb dX2_witness_12 (by decide) (fun c1 => ?_) (fun c1 => ?_)
    · obtain ⟨y, hy, ey⟩ : isR d g.n := er1.elim (fun z => z.2) (fun z => absurd z.1 c1)
      refine lv_aload_n hx hb dX2_witness_17 rfl (lv_at hl 0 rfl) ?_
      refine q_get (C := RX2) (T := TX2) (v := .ref (g.P 1)) hx hb hts hown (fun _ h9 => iw_X2_witness_X2 _ h9) hW (i := 0) (by decide) rfl rfl 3 (by decide) (hts (.fieldLink RX2 35 "ModEngine" "ring" "LModEngine$Ring;") (by decide +kernel)) rfl dX2_witness_18 ?_
      refine lv_aload_n hx hb dX2_witness_21 rfl (lv_at hl 0 rfl) ?_
      refine q_get (C := RX2) (T := TX2) (v := .ref (g.P 2)) hx hb hts hown (fun _ h9 => iw_X2_witness_X2 _ h9) hW (i := 0) (by decide) rfl rfl 2 (by decide) (hts (.fieldLink RX2 27 "ModEngine" "registers" "[[I") (by decide +kernel)) rfl dX2_witness_22 ?_
      refine lv_iload_n hx hb dX2_witness_25 rfl (lv_at hl 1 rfl) ?_
      refine q_regs hx hb hW (j := y) (by omega) hn8 ey dX2_witness_26 ?_
      refine q_i (q_runV (As := [.ref (g.P (21 + y))]) (rest := []) (i := 1) S hW (by decide) rfl rfl (r_witness l g hg σ (rowr hy) (by omega) p0) gX2_witness_X1_isProvedCompositeBy rfl (nA := 1) ⟨rfl, by decide +kernel, ⟨by decide, by decide⟩⟩ rfl hl.1 rfl (Nat.le_of_ble_eq_true rfl) dX2_witness_27 ⟨Nat.zero_le _, Nat.zero_le _⟩) hW Ad_hi (fun r_27 σ2 H locs hp hW => ?_)
      obtain ⟨F2, e2, hf2, u, htw, hcase⟩ := hp
      rw [e2] at hW
      rw [ha.1, ha.2 y hy] at hcase
      rw [ha.1] at htw
      refine lv_if_eq (tgt := 37) hx hb dX2_witness_30 (by decide) (fun c2 => ?_) (fun c2 => ?_)
      · have hw := (hcase.resolve_left (fun z => absurd (z.1.symm.trans c2) (by decide))).2
        refine lv_iconst (v := 0) hx hb dX2_witness_37 (by decide) ?_
        exact fin _ _ _ _ _ _ hW (⟨⟨rfl, rfl⟩, cInv_keep hc hf2 (by decide), M, X, cAbs_keep ha hf2 (by decide), Or.inl ⟨y, u, hy, ey, h0, htw, Or.inr ⟨rfl, hw⟩⟩, rfl, rfl, rfl⟩) dX2_witness_38
      · have hw := (hcase.resolve_right (fun z => absurd z.1 c2)).2
        refine lv_iconst (v := 1) hx hb dX2_witness_33 (by decide) ?_
        refine lv_goto (tgt := 38) hx hb dX2_witness_34 (by decide) ?_
        exact fin _ _ _ _ _ _ hW (⟨⟨rfl, rfl⟩, cInv_keep hc hf2 (by decide), M, X, cAbs_keep ha hf2 (by decide), Or.inl ⟨y, u, hy, ey, h0, htw, Or.inl ⟨rfl, hw⟩⟩, rfl, rfl, rfl⟩) dX2_witness_38
    · have hno : ¬ isR d g.n := er1.elim (fun z => absurd (z.1.symm.trans c1) (by decide)) (fun z => z.2)
      refine lv_iconst (v := 2) hx hb dX2_witness_15 (by decide) ?_
      exact fin _ _ _ _ _ _ hW (⟨⟨rfl, rfl⟩, hc, M, X, ha, ⟨Or.inr ⟨fun q => hno q.2, rfl⟩, rfl, rfl, rfl⟩⟩) dX2_witness_16
set_option maxHeartbeats 4000000 in
set_option maxRecDepth 100000 in
/-- compare(a, b) -/
theorem m_compare (l : Launch) (g : qCfg) (hg : g.ok) (σ : qSt) (hc : cInv g σ) {M : Nat} {X : Nat → Nat} (ha : cAbs g σ M X) (d a : Int32) : qCI l g yX2_compare wsX2_compare 1 23 [.ref (g.P 0), .int d, .int a] σ (cPost g σ (sCmp g.n d a M X σ.rd)) := by
  refine q_sI (cc := cX2_compare) (maxL := 3) (by decide) rfl (Nat.le_of_ble_eq_true rfl) ?_
  intro p e s m args below meth c ls Q S hW hl fin
  obtain ⟨hx, hb, hml, hown, hts, hr, hlocks⟩ := id S
  obtain ⟨hk1, hk8, hn1, hn8⟩ := id hg
  have hl : lv_has ls 3 [(0, .ref (g.P 0)), (1, .int d), (2, .int a)] := hl
  refine lv_aload_n hx hb dX2_compare_0 rfl (lv_at hl 0 rfl) ?_
  refine lv_iload_n hx hb dX2_compare_1 rfl (lv_at hl 1 rfl) ?_
  refine q_i (q_runV (As := [.int d]) (rest := []) (i := 0) S hW (by decide) rfl rfl (m_hasRegister l g hg σ d) gX2_compare_X2_hasRegister rfl (nA := 1) ⟨rfl, by decide +kernel, ⟨by decide, by decide⟩⟩ rfl hl.1 rfl (Nat.le_of_ble_eq_true rfl) dX2_compare_2 ⟨Nat.zero_le _, Nat.zero_le _⟩) hW Ad_hi (fun r_2 σ1 H locs hp hW => ?_)
  obtain ⟨e1, er1⟩ : σ1 = σ ∧ (r_2 = 1 ∧ isR d g.n ∨ r_2 = 0 ∧ ¬ isR d g.n) := hp
  rw [e1] at hW
  refine lv_if_eq (tgt := 16) hx hb dX2_compare_5 (by decide) (fun c1 => ?_) (fun c1 => ?_)
  · have hno : ¬ isR d g.n := er1.elim (fun z => absurd (z.1.symm.trans c1) (by decide)) (fun z => z.2)
    refine lv_iconst (v := 2) hx hb dX2_compare_16 (by decide) ?_
    exact fin _ _ _ _ _ _ hW (⟨⟨rfl, rfl⟩, hc, M, X, ha, ⟨Or.inr ⟨fun q => hno q.1, rfl⟩, rfl, rfl, rfl⟩⟩) dX2_compare_17
  · obtain ⟨y, hy, ey⟩ : isR d g.n := er1.elim (fun z => z.2) (fun z => absurd z.1 c1)
    refine lv_aload_n hx hb dX2_compare_8 rfl (lv_at hl 0 rfl) ?_
    refine lv_iload_n hx hb dX2_compare_9 rfl (lv_at hl 2 rfl) ?_
    refine q_i (q_runV (As := [.int a]) (rest := []) (i := 0) S hW (by decide) rfl rfl (m_hasRegister l g hg σ a) gX2_compare_X2_hasRegister rfl (nA := 1) ⟨rfl, by decide +kernel, ⟨by decide, by decide⟩⟩ rfl hl.1 rfl (Nat.le_of_ble_eq_true rfl) dX2_compare_10 ⟨Nat.zero_le _, Nat.zero_le _⟩) hW Ad_hi (fun r_10 σ2 H locs hp hW => ?_)
    obtain ⟨e2, er2⟩ : σ2 = σ ∧ (r_10 = 1 ∧ isR a g.n ∨ r_10 = 0 ∧ ¬ isR a g.n) := hp
    rw [e2] at hW
    refine lv_if_ne (tgt := 18) hx hb dX2_compare_13 (by decide) (fun c2 => ?_) (fun c2 => ?_)
    · obtain ⟨z, hz, ez⟩ : isR a g.n := er2.elim (fun z => z.2) (fun z => absurd z.1 c2)
      refine lv_aload_n hx hb dX2_compare_18 rfl (lv_at hl 0 rfl) ?_
      refine q_get (C := RX2) (T := TX2) (v := .ref (g.P 2)) hx hb hts hown (fun _ h9 => iw_X2_compare_X2 _ h9) hW (i := 0) (by decide) rfl rfl 2 (by decide) (hts (.fieldLink RX2 27 "ModEngine" "registers" "[[I") (by decide +kernel)) rfl dX2_compare_19 ?_
      refine lv_iload_n hx hb dX2_compare_22 rfl (lv_at hl 1 rfl) ?_
      refine q_regs hx hb hW (j := y) (by omega) hn8 ey dX2_compare_23 ?_
      refine lv_aload_n hx hb dX2_compare_24 rfl (lv_at hl 0 rfl) ?_
      refine q_get (C := RX2) (T := TX2) (v := .ref (g.P 2)) hx hb hts hown (fun _ h9 => iw_X2_compare_X2 _ h9) hW (i := 0) (by decide) rfl rfl 2 (by decide) (hts (.fieldLink RX2 27 "ModEngine" "registers" "[[I") (by decide +kernel)) rfl dX2_compare_25 ?_
      refine lv_iload_n hx hb dX2_compare_28 rfl (lv_at hl 2 rfl) ?_
      refine q_regs hx hb hW (j := z) (by omega) hn8 ez dX2_compare_29 ?_
      refine lv_aload_n hx hb dX2_compare_30 rfl (lv_at hl 0 rfl) ?_
      refine q_get (C := RX2) (T := TX2) (v := .int (nI g.k)) hx hb hts hown (fun _ h9 => iw_X2_compare_X2 _ h9) hW (i := 0) (by decide) rfl rfl 0 (by decide) (hts (.fieldLink RX2 18 "ModEngine" "limbs" "I") (by decide +kernel)) rfl dX2_compare_31 ?_
      refine q_i (q_runS (As := [.ref (g.P (21 + y)), .ref (g.P (21 + z)), .int (nI g.k)]) (rest := []) S hW (k_order l g hg σ (rowr hy) (rowr hz)) gX2_compare_X0_order (nA := 3) ⟨rfl, by decide +kernel, ⟨by decide, by decide⟩⟩ rfl hl.1 rfl (Nat.le_of_ble_eq_true rfl) dX2_compare_34 ⟨Nat.zero_le _, Nat.zero_le _⟩) hW Ad_hi (fun r_34 σ3 H locs hp hW => ?_)
      obtain ⟨e3, er3⟩ : σ3 = σ ∧ r_34 = if qV g σ.F (21 + y) < qV g σ.F (21 + z) then -1 else if qV g σ.F (21 + y) = qV g σ.F (21 + z) then 0 else 1 := hp
      rw [e3] at hW
      rw [ha.2 y hy, ha.2 z hz] at er3
      exact fin _ _ _ _ _ _ hW (⟨⟨rfl, rfl⟩, hc, M, X, ha, ⟨Or.inl ⟨y, z, hy, hz, ey, ez, er3⟩, rfl, rfl, rfl⟩⟩) dX2_compare_37
    · have hno : ¬ isR a g.n := er2.elim (fun z => absurd (z.1.symm.trans c2) (by decide)) (fun z => z.2)
      refine lv_iconst (v := 2) hx hb dX2_compare_16 (by decide) ?_
      exact fin _ _ _ _ _ _ hW (⟨⟨rfl, rfl⟩, hc, M, X, ha, ⟨Or.inr ⟨fun q => hno q.2, rfl⟩, rfl, rfl, rfl⟩⟩) dX2_compare_17
end
section
/-! ===== the reference's rows: numbers of nine limbs in longs ===== -/
def Nb (J : Nat → Nat → Int64) (i v : Nat) : Prop := dB (fun x => uL (J i x)) 9 ∧ dv (fun x => uL (J i x)) 9 = v
/-- the number that stands in held from place 9 r on -/
def Nh (J : Nat → Nat → Int64) (r v : Nat) : Prop := dB (fun x => uL (J 4 (9 * r + x))) 9 ∧ dv (fun x => uL (J 4 (9 * r + x))) 9 = v
def Gr (J0 J : Nat → Nat → Int64) (l : List Nat) : Prop := ∀ r, r ∉ l → J r = J0 r
theorem Gr.rf {J : Nat → Nat → Int64} {l : List Nat} : Gr J J l := fun _ _ => rfl
theorem Gr.N {J0 J : Nat → Nat → Int64} {l : List Nat} {i v : Nat} (h : Gr J0 J l) (hi : i ∉ l) (hN : Nb J0 i v) : Nb J i v := by
  unfold Nb
  rw [h i hi]
  exact hN
theorem Gr.H {J0 J : Nat → Nat → Int64} {l : List Nat} {i v : Nat} (h : Gr J0 J l) (hi : 4 ∉ l) (hN : Nh J0 i v) : Nh J i v := by
  unfold Nh
  rw [h 4 hi]
  exact hN
theorem Nb.cp {J J' : Nat → Nat → Int64} {i j v : Nat} (h : Nb J j v) (he : ∀ x, x < 9 → J' i x = J j x) : Nb J' i v := by
  refine ⟨fun x hx => by show uL (J' i x) < _; rw [he x hx]; exact h.1 x hx, ?_⟩
  rw [dv_cong (e := fun x => uL (J j x)) (fun x hx => by rw [he x hx])]
  exact h.2
def Ju (J0 J : Nat → Nat → Int64) (i x : Nat) : Prop := (∀ r, r ≠ i → J r = J0 r) ∧ ∀ y, x ≤ y → J i y = J0 i y
theorem Ju.rf {J : Nat → Nat → Int64} {i x : Nat} : Ju J J i x := ⟨fun _ _ => rfl, fun _ _ => rfl⟩
theorem Ju.rd {J0 J : Nat → Nat → Int64} {i x : Nat} (h : Ju J0 J i x) (j : Nat) : J j x = J0 j x := by
  by_cases q : j = i
  · subst q
    exact h.2 x (Nat.le_refl x)
  · rw [h.1 j q]
theorem Ju.st {J0 J : Nat → Nat → Int64} {i x : Nat} (h : Ju J0 J i x) (v : Int64) : Ju J0 (va_up J i (va_up (J i) x v)) i (x + 1) :=
  ⟨fun r hr => by rw [va_up_ne _ _ hr]; exact h.1 r hr, fun y hy => by rw [va_up_self, va_up_ne _ _ (by omega)]; exact h.2 y (by omega)⟩
theorem Ju.fr {J0 J : Nat → Nat → Int64} {i x : Nat} (h : Ju J0 J i x) : Gr J0 J [i] := fun r hr => h.1 r (fun q => hr (by rw [q]; exact List.mem_singleton_self i))
def Jw (J0 J : Nat → Nat → Int64) (i x : Nat) : Prop := (∀ r, r ≠ i → J r = J0 r) ∧ ∀ y, y < x → J i y = J0 i y
theorem Jw.rf {J : Nat → Nat → Int64} {i x : Nat} : Jw J J i x := ⟨fun _ _ => rfl, fun _ _ => rfl⟩
theorem Jw.rd {J0 J : Nat → Nat → Int64} {i x y : Nat} (h : Jw J0 J i x) (hy : y < x) (j : Nat) : J j y = J0 j y := by
  by_cases q : j = i
  · subst q
    exact h.2 y hy
  · rw [h.1 j q]
theorem Jw.st {J0 J : Nat → Nat → Int64} {i x : Nat} (h : Jw J0 J i (x + 1)) (v : Int64) : Jw J0 (va_up J i (va_up (J i) x v)) i x :=
  ⟨fun r hr => by rw [va_up_ne _ _ hr]; exact h.1 r hr, fun y hy => by rw [va_up_self, va_up_ne _ _ (by omega)]; exact h.2 y (by omega)⟩
theorem Jw.fr {J0 J : Nat → Nat → Int64} {i x : Nat} (h : Jw J0 J i x) : Gr J0 J [i] := fun r hr => h.1 r (fun q => hr (by rw [q]; exact List.mem_singleton_self i))
/-- digits up to x behind a store at x -/
theorem dv_st {J : Nat → Nat → Int64} {i x v : Nat} (hv : v < 4294967296) : dv (fun y => uL (va_up J i (va_up (J i) x (lN v)) i y)) (x + 1) = dv (fun y => uL (J i y)) x + v * 2 ^ (32 * x) := by
  rw [va_up_self, dv_step (e := fun y => uL (J i y)) (fun y hy => by rw [va_up_ne _ _ (by omega)]), va_up_self, uL_lN (by omega)]
theorem dB_st {J : Nat → Nat → Int64} {i x v : Nat} (hv : v < 4294967296) (h : dB (fun y => uL (J i y)) x) : dB (fun y => uL (va_up J i (va_up (J i) x (lN v)) i y)) (x + 1) := fun y hy => by
  show uL (va_up J i (va_up (J i) x (lN v)) i y) < _
  rw [va_up_self]
  by_cases q : y = x
  · rw [q, va_up_self, uL_lN (by omega)]
    exact hv
  · rw [va_up_ne _ _ q]
    exact h y (by omega)
theorem dv_updk {d : Nat → Nat} {y v : Nat} : ∀ {k : Nat}, y < k → dv (va_up d y v) k + d y * 2 ^ (32 * y) = dv d k + v * 2 ^ (32 * y)
  | 0, h => absurd h (Nat.not_lt_zero y)
  | k + 1, h => by
    show dv (va_up d y v) k + va_up d y v k * _ + _ = dv d k + d k * _ + _
    by_cases q : y = k
    · subst q
      rw [va_up_self, dv_cong (e := d) (fun x hx => va_up_ne _ _ (by omega))]
      omega
    · have ih := dv_updk (d := d) (v := v) (show y < k by omega)
      rw [va_up_ne _ _ (by omega)]
      omega
theorem uL_up {f : Nat → Int64} {x v : Nat} (hv : v < 4294967296) : (fun y => uL (va_up f x (lN v) y)) = va_up (fun y => uL (f y)) x v := by
  funext y
  by_cases q : y = x
  · rw [q, va_up_self, va_up_self, uL_lN (by omega)]
  · rw [va_up_ne _ _ q, va_up_ne _ _ q]
theorem lN_lo {n : Nat} (h : n < 18446744073709551616) : lN n &&& 4294967295 = lN (n % 4294967296) := wb_mask (k := 32) h (by decide)
theorem sub_limb2 {a b β : Nat} (ha : a < 4294967296) (hb : b < 4294967296) (hβ : β ≤ 1) : ∃ v β' : Nat, v < 4294967296 ∧ β' ≤ 1 ∧ v + b + β = a + β' * 4294967296 ∧ (lN a - lN b - lN β) &&& 4294967295 = lN v ∧ (0 ≤ lg_cmp (lN a - lN b - lN β) 0 ↔ β' = 0) := by
  have e0 : lN a - lN b - lN β = if b + β ≤ a then lN (a - b - β) else lN (18446744073709551616 + a - b - β) := by
    apply wb_inj
    apply BitVec.eq_of_toNat_eq
    rw [Int64.toBitVec_sub, Int64.toBitVec_sub, BitVec.toNat_sub, BitVec.toNat_sub, wb_tn (show a < 2 ^ 64 by omega), wb_tn (show b < 2 ^ 64 by omega), wb_tn (show β < 2 ^ 64 by omega)]
    by_cases h : b + β ≤ a
    · rw [if_pos h, wb_tn (by omega)]; omega
    · rw [if_neg h, wb_tn (by omega)]; omega
  rw [e0]
  by_cases h : b + β ≤ a
  · rw [if_pos h]
    refine ⟨a - b - β, 0, by omega, by omega, by omega, by rw [lN_lo (by omega), Nat.mod_eq_of_lt (by omega)], ?_⟩
    have h2 := lcmp_ge (a := a - b - β) (b := 0) (by omega) (by decide)
    exact ⟨fun _ => rfl, fun _ => h2.mpr (Nat.zero_le _)⟩
  · rw [if_neg h]
    refine ⟨4294967296 + a - b - β, 1, by omega, by omega, by omega, ?_, ?_⟩
    · rw [lN_lo (by omega), show (18446744073709551616 + a - b - β) % 4294967296 = 4294967296 + a - b - β by omega]
    · have hneg : lN (18446744073709551616 + a - b - β) < 0 := by
        rw [Int64.lt_iff_toInt_lt]
        show (BitVec.ofNat 64 _).toInt < 0
        rw [BitVec.toInt_eq_toNat_cond, BitVec.toNat_ofNat]
        split <;> omega
      unfold lg_cmp
      rw [if_neg (fun q => absurd (Int64.lt_trans q hneg) (Int64.lt_irrefl)), if_neg (fun q => by rw [q] at hneg; exact absurd hneg (by decide))]
      exact ⟨fun q => absurd q (by decide), fun q => absurd q (by decide)⟩
theorem lcmp_eq {a b : Nat} (ha : a < 2 ^ 63) (hb : b < 2 ^ 63) : lg_cmp (lN a) (lN b) = 0 ↔ a = b := by
  unfold lg_cmp
  by_cases h1 : lN a > lN b
  · rw [if_pos h1]
    have := (pk_lLT hb ha).mp h1
    exact ⟨fun q => absurd q (by decide), fun q => by omega⟩
  · rw [if_neg h1]
    by_cases h3 : lN a = lN b
    · rw [if_pos h3]
      exact ⟨fun _ => (pk_lEQ ha hb).mp h3, fun _ => rfl⟩
    · rw [if_neg h3]
      exact ⟨fun q => absurd q (by decide), fun q => absurd (by rw [q]) h3⟩
theorem lshr_nI {n j : Nat} (hn : n < 18446744073709551616) (hj : j < 32) : ((lN n).toUInt64 >>> ((nI j : Int32).toInt64.toUInt64 &&& Int64.toUInt64 63)).toInt64 = lN (n / 2 ^ j) := wb_shr hn (by omega)
theorem half_num {R t m : Nat} (h : 2 * R + t = m) (ht : t ≤ 1) : R = m / 2 := by omega
/-- 2 x + bit, modulo m, once less -/
theorem rest_step {v x m acc : Nat} (hm : 0 < m) (ha : acc = v / 2 ^ (x + 1) % m) : (if m ≤ 2 * acc + v / 2 ^ x % 2 then 2 * acc + v / 2 ^ x % 2 - m else 2 * acc + v / 2 ^ x % 2) = v / 2 ^ x % m := by
  have h1 : acc < m := by rw [ha]; exact Nat.mod_lt _ hm
  have h2 : v / 2 ^ x = 2 * (v / 2 ^ (x + 1)) + v / 2 ^ x % 2 := by
    rw [Nat.pow_succ, ← Nat.div_div_eq_div_mul]
    omega
  have h3 : v / 2 ^ x % m = (2 * acc + v / 2 ^ x % 2) % m := by
    have h4 : (2 * (v / 2 ^ (x + 1)) + v / 2 ^ x % 2) % m = (2 * acc + v / 2 ^ x % 2) % m := by
      rw [Nat.add_mod, Nat.mul_mod, ← ha, Nat.add_mod (2 * acc), Nat.mul_mod 2 acc, Nat.mod_eq_of_lt h1]
    rw [← h4, ← h2]
  rw [h3]
  split
  · rename_i h
    rw [mod_two h (by omega)]
  · rename_i h
    exact (Nat.mod_eq_of_lt (Nat.not_le.mp h)).symm
theorem tb_mod (v x : Nat) : v / 2 ^ x % 2 = if v.testBit x = true then 1 else 0 := by
  rw [Nat.testBit_eq_decide_div_mod_eq]
  generalize v / 2 ^ x = z
  by_cases h : z % 2 = 1
  · simp [h]
  · have : z % 2 = 0 := by omega
    simp [this]
theorem prod_step {u v x m acc : Nat} (ha : acc = u / 2 ^ (x + 1) * v % m) : (if u.testBit x = true then ((acc + acc) % m + v) % m else (acc + acc) % m) = u / 2 ^ x * v % m := by
  have h2 : u / 2 ^ x = 2 * (u / 2 ^ (x + 1)) + u / 2 ^ x % 2 := by
    rw [Nat.pow_succ, ← Nat.div_div_eq_div_mul]
    omega
  have h3 : (acc + acc) % m = 2 * (u / 2 ^ (x + 1)) * v % m := by
    rw [ha, ← Nat.add_mod]
    congr 1
    grind
  have h4 := tb_mod u x
  split
  · rename_i h
    rw [if_pos h] at h4
    rw [h2, h4, h3, Nat.mod_add_mod]
    congr 1
    grind
  · rename_i h
    rw [if_neg h] at h4
    rw [h2, h4, h3]
    rfl
theorem pw_up {c e x m a b : Nat} (ha : a = c ^ (e % 2 ^ x) % m) (hb : b = c ^ 2 ^ x % m) : (if e.testBit x = true then a * b % m else a) = c ^ (e % 2 ^ (x + 1)) % m ∧ b * b % m = c ^ 2 ^ (x + 1) % m := by
  have h4 := tb_mod e x
  refine ⟨?_, ?_⟩
  · rw [Nat.mod_pow_succ]
    split
    · rename_i h
      rw [if_pos h] at h4
      rw [h4, Nat.mul_one, Nat.pow_add, ha, hb, ← Nat.mul_mod]
    · rename_i h
      rw [if_neg h] at h4
      rw [h4, Nat.mul_zero, Nat.add_zero]
      exact ha
  · rw [hb, ← Nat.mul_mod, ← Nat.pow_add, Nat.pow_succ, Nat.mul_two]
theorem lsz9 {i : Nat} (h : 5 ≤ i) : lsz i = 9 := by unfold lsz; rw [if_neg (by omega)]
section QJ
variable {p : Program} {l : Launch} {e : Env} {R : Room} {s : State} {m : MethodId} {args : Array Value} {below : List Frame} {meth : Method} {c : Code} {H : Heap} {locs : List Loc} {cells slots : Nat} {Q : State → Prop}
variable {cc : ByteArray} {pc : Nat} {ls : Array Slot} {rest st : List Value} {A : Nat → Prop} {g : qCfg} {σ : qSt}
theorem q_lastJ (hx : p.tables.exec = Jvm.exec) (hb : c.code = cc) {i : Nat} {J : Nat → Nat → Int64} (hW : Wo g A s H locs (σ.setJ J)) {j : Nat} {x : Int32} {v : Int64} (hi : 4 ≤ i ∧ i < 12) (hj : j < lsz i) (ej : x = nI j) (hdg : decode cc pc = .ok (.lastore, 1))
    (kk : ∀ (H1 : Heap) (locs1 : List Loc), Wo g A s H1 locs1 (σ.setJ (va_up J i (va_up (J i) j v))) → W p l e R s m args below meth c H1 locs1 cells slots Q (F0 m (pc + 1) ls rest)) : W p l e R s m args below meth c H locs cells slots Q (F0 m pc ls (.long v :: .int x :: .ref (g.P i) :: rest)) :=
  q_last hx hb hW hi hj ej hdg kk
end QJ
end
section
set_option maxHeartbeats 4000000 in
set_option maxRecDepth 100000 in
/-- reference: copy(to, from) -/
theorem n_copy (l : Launch) (g : qCfg) (hg : g.ok) (σ : qSt) {i j : Nat} (hi : 5 ≤ i ∧ i < 12)(hj : 5 ≤ j ∧ j < 12) : qCV l g yX3_copy wsX3_copy 0 0 [.ref (g.P i), .ref (g.P j)] σ (fun σ' => ∃ J', σ' = σ.setJ J' ∧ Gr σ.J J' [i] ∧ ∀ x, x < 9 → J' i x = σ.J j x) := by
  refine q_sV (cc := cX3_copy) (maxL := 3) (by decide) rfl (Nat.le_of_ble_eq_true rfl) ?_
  intro p e s m args below meth c ls Q S hW hl fin
  obtain ⟨hx, hb, hml, hown, hts, hr, hlocks⟩ := id S
  obtain ⟨hk1, hk8, hn1, hn8⟩ := id hg
  have hl : lv_has ls 3 [(0, .ref (g.P i)), (1, .ref (g.P j))] := hl
  have loop : ∀ (n x : Nat) (J : Nat → Nat → Int64), x ≤ 9 → 9 + 1 ≤ x + n → Ju σ.J J i x → (∀ y, y < x → J i y = σ.J j y) → ∀ (H : Heap) (locs : List Loc) (ls : Array Slot), Wo g (Ad g s.heap.size) s H locs (σ.setJ J) → lv_has ls 3 [(2, .int (nI x)), (0, .ref (g.P i)), (1, .ref (g.P j))] → W p l e (rmm 0 0) s m args below meth c H locs 0 0 Q (F0 m 2 ls []) := by
    intro n
    induction n with
    | zero => intro x J h1 h2; exact absurd h2 (by omega)
    | succ n ih =>
      intro x J hx1 hx2 hR hd H locs ls hW hl
      refine lv_iload_n hx hb dX3_copy_2 rfl (lv_at hl 0 rfl) ?_
      refine lv_bipush (v := 9) hx hb dX3_copy_3 (by decide) ?_
      refine lv_icmp_ge (tgt := 20) hx hb dX3_copy_5 (by decide) (fun c1 => ?_) (fun c1 => ?_)
      · have hx3 := nle (b := 9) c1 (by omega) (by omega)
        exact fin _ _ _ _ _ hW (⟨J, rfl, hR.fr, fun y hy => hd y (by omega)⟩) dX3_copy_20
      · have hx3 := nge (b := 9) c1 (by omega)
        refine lv_aload_n hx hb dX3_copy_8 rfl (lv_at hl 1 rfl) ?_
        refine lv_iload_n hx hb dX3_copy_9 rfl (lv_at hl 0 rfl) ?_
        refine lv_aload_n hx hb dX3_copy_10 rfl (lv_at hl 2 rfl) ?_
        refine lv_iload_n hx hb dX3_copy_11 rfl (lv_at hl 0 rfl) ?_
        refine q_lald hx hb hW (i := j) (j := x) ⟨by omega, by omega⟩ (by rw [lsz9 (by omega)]; omega) rfl dX3_copy_12 ?_
        refine q_tl (y := σ.J j x) (hR.rd _) ?_
        refine q_lastJ (i := i) (J := J) hx hb hW (j := x) ⟨by omega, by omega⟩ (by rw [lsz9 (by omega)]; omega) rfl dX3_copy_13 (fun H locs hW => ?_)
        refine lv_iinc (v := nI (x + 1)) (lv' := [(2, .int (nI (x + 1))), (0, .ref (g.P i)), (1, .ref (g.P j))]) hx hb dX3_copy_14 hl (k := 0) rfl (nI_1 _) (by decide) rfl (fun ls hl => ?_)
        refine lv_goto (tgt := 2) hx hb dX3_copy_17 (by decide) ?_
        exact ih (x + 1) _ (by omega) (by omega) (hR.st _) (fun y hy => by
          rw [va_up_self]
          by_cases q : y = x
          · rw [q, va_up_self]
          · rw [va_up_ne _ _ q]; exact hd y (by omega)) H locs ls hW (lv_sub hl [0, 1, 2] rfl)
  refine lv_iconst (v := 0) hx hb dX3_copy_0 (by decide) ?_
  refine lv_istore_n (lv' := [(2, .int 0), (0, .ref (g.P i)), (1, .ref (g.P j))]) hx hb dX3_copy_1 rfl hl (by decide) rfl (fun ls hl => ?_)
  exact loop 10 0 σ.J (by omega) (by omega) Ju.rf (fun y hy => absurd hy (by omega)) _ _ ls hW (lv_sub hl [0, 1, 2] rfl)
set_option maxHeartbeats 4000000 in
set_option maxRecDepth 100000 in
/-- reference: be(to, v) -/
theorem n_be (l : Launch) (g : qCfg) (hg : g.ok) (σ : qSt) {i t : Nat} (hi : 5 ≤ i ∧ i < 12)(ht : t < 4294967296) : qCV l g yX3_be wsX3_be 0 0 [.ref (g.P i), .long (lN t)] σ (fun σ' => ∃ J', σ' = σ.setJ J' ∧ Gr σ.J J' [i] ∧ Nb J' i t) := by
  refine q_sV (cc := cX3_be) (maxL := 4) (by decide) rfl (Nat.le_of_ble_eq_true rfl) ?_
  intro p e s m args below meth c ls Q S hW hl fin
  obtain ⟨hx, hb, hml, hown, hts, hr, hlocks⟩ := id S
  obtain ⟨hk1, hk8, hn1, hn8⟩ := id hg
  have hl : lv_has ls 4 [(0, .ref (g.P i)), (1, .long (lN t))] := hl
  have loop : ∀ (n x : Nat) (J : Nat → Nat → Int64), x ≤ 9 → 9 + 1 ≤ x + n → Ju σ.J J i x → (∀ y, y < x → J i y = if y = 0 then lN t else 0) → ∀ (H : Heap) (locs : List Loc) (ls : Array Slot), Wo g (Ad g s.heap.size) s H locs (σ.setJ J) → lv_has ls 4 [(3, .int (nI x)), (0, .ref (g.P i)), (1, .long (lN t))] → W p l e (rmm 0 0) s m args below meth c H locs 0 0 Q (F0 m 2 ls []) := by
    intro n
    induction n with
    | zero => intro x J h1 h2; exact absurd h2 (by omega)
    | succ n ih =>
      intro x J hx1 hx2 hR hd H locs ls hW hl
      refine lv_iload_n hx hb dX3_be_2 rfl (lv_at hl 0 rfl) ?_
      refine lv_bipush (v := 9) hx hb dX3_be_3 (by decide) ?_
      refine lv_icmp_ge (tgt := 26) hx hb dX3_be_5 (by decide) (fun c1 => ?_) (fun c1 => ?_)
      · have hx3 := nle (b := 9) c1 (by omega) (by omega)
        have hdg : ∀ y, y < 9 → uL (J i y) = if y = 0 then t else 0 := fun y hy => by
          rw [hd y (by omega)]
          split
          · exact uL_lN (by omega)
          · rfl
        exact fin _ _ _ _ _ hW (⟨J, rfl, hR.fr, fun y hy => by show uL (J i y) < _; rw [hdg y hy]; split <;> omega, by rw [dv_one (by decide) (fun y h1 h2 => by rw [hdg y h2, if_neg (by omega)]), hdg 0 (by decide), if_pos rfl]⟩) dX3_be_26
      · have hx3 := nge (b := 9) c1 (by omega)
        refine lv_aload_n hx hb dX3_be_8 rfl (lv_at hl 1 rfl) ?_
        refine lv_iload_n hx hb dX3_be_9 rfl (lv_at hl 0 rfl) ?_
        refine lv_iload_n hx hb dX3_be_10 rfl (lv_at hl 0 rfl) ?_
        refine lv_if_ne (tgt := 18) hx hb dX3_be_11 (by decide) (fun c2 => ?_) (fun c2 => ?_)
        · have hx0 : x ≠ 0 := fun q => c2 (by rw [q]; rfl)
          refine lv_lconst (v := 0) hx hb dX3_be_18 (by decide) ?_
          refine q_lastJ (i := i) (J := J) hx hb hW (j := x) ⟨by omega, by omega⟩ (by rw [lsz9 (by omega)]; omega) rfl dX3_be_19 (fun H locs hW => ?_)
          refine lv_iinc (v := nI (x + 1)) (lv' := [(3, .int (nI (x + 1))), (0, .ref (g.P i)), (1, .long (lN t))]) hx hb dX3_be_20 hl (k := 0) rfl (nI_1 _) (by decide) rfl (fun ls hl => ?_)
          refine lv_goto (tgt := 2) hx hb dX3_be_23 (by decide) ?_
          exact ih (x + 1) _ (by omega) (by omega) (hR.st _) (fun y hy => by
            rw [va_up_self]
            by_cases q : y = x
            · rw [q, va_up_self, if_neg hx0]
            · rw [va_up_ne _ _ q]; exact hd y (by omega)) H locs ls hW (lv_sub hl [0, 1, 2] rfl)
        · have hx0 : x = 0 := (nI_eq (by omega) (by decide)).mp (c2.trans nI_0.symm)
          refine lv_lload_n hx hb dX3_be_14 rfl (lv_at hl 2 rfl) ?_
          refine lv_goto (tgt := 19) hx hb dX3_be_15 (by decide) ?_
          refine q_lastJ (i := i) (J := J) hx hb hW (j := x) ⟨by omega, by omega⟩ (by rw [lsz9 (by omega)]; omega) rfl dX3_be_19 (fun H locs hW => ?_)
          refine lv_iinc (v := nI (x + 1)) (lv' := [(3, .int (nI (x + 1))), (0, .ref (g.P i)), (1, .long (lN t))]) hx hb dX3_be_20 hl (k := 0) rfl (nI_1 _) (by decide) rfl (fun ls hl => ?_)
          refine lv_goto (tgt := 2) hx hb dX3_be_23 (by decide) ?_
          exact ih (x + 1) _ (by omega) (by omega) (hR.st _) (fun y hy => by
            rw [va_up_self]
            by_cases q : y = x
            · rw [q, va_up_self, if_pos hx0]
            · rw [va_up_ne _ _ q]; exact hd y (by omega)) H locs ls hW (lv_sub hl [0, 1, 2] rfl)
  refine lv_iconst (v := 0) hx hb dX3_be_0 (by decide) ?_
  refine lv_istore_n (lv' := [(3, .int 0), (0, .ref (g.P i)), (1, .long (lN t))]) hx hb dX3_be_1 rfl hl (by decide) rfl (fun ls hl => ?_)
  exact loop 10 0 σ.J (by omega) (by omega) Ju.rf (fun y hy => absurd hy (by omega)) _ _ ls hW (lv_sub hl [0, 1, 2] rfl)
set_option maxHeartbeats 4000000 in
set_option maxRecDepth 100000 in
/-- reference: compared(a, b) -/
theorem n_compared (l : Launch) (g : qCfg) (hg : g.ok) (σ : qSt) {i j u v : Nat} (hi : 5 ≤ i ∧ i < 12)(hj : 5 ≤ j ∧ j < 12)(hu : Nb σ.J i u) (hv : Nb σ.J j v) : qCI l g yX3_compared wsX3_compared 0 0 [.ref (g.P i), .ref (g.P j)] σ (fun r σ' => σ' = σ ∧ r = if u < v then -1 else if u = v then 0 else 1) := by
  refine q_sI (cc := cX3_compared) (maxL := 3) (by decide) rfl (Nat.le_of_ble_eq_true rfl) ?_
  intro p e s m args below meth c ls Q S hW hl fin
  obtain ⟨hx, hb, hml, hown, hts, hr, hlocks⟩ := id S
  obtain ⟨hk1, hk8, hn1, hn8⟩ := id hg
  have hl : lv_has ls 3 [(0, .ref (g.P i)), (1, .ref (g.P j))] := hl
  have loop : ∀ (x : Nat), x ≤ 9 → (∀ y, x ≤ y → y < 9 → uL (σ.J i y) = uL (σ.J j y)) → ∀ (H : Heap) (locs : List Loc) (ls : Array Slot), Wo g (Ad g s.heap.size) s H locs σ → lv_has ls 3 [(2, .int (nI x - 1)), (0, .ref (g.P i)), (1, .ref (g.P j))] → W p l e (rmm 0 0) s m args below meth c H locs 0 0 Q (F0 m 3 ls []) := by
    intro x
    induction x with
    | zero =>
      intro hx1 hd H locs ls hW hl
      refine lv_iload_n hx hb dX3_compared_3 rfl (lv_at hl 0 rfl) ?_
      refine lv_if_lt (tgt := 39) hx hb dX3_compared_4 (by decide) (fun _ => ?_) (fun c9 => absurd (by decide) c9)
      refine lv_iconst (v := 0) hx hb dX3_compared_39 (by decide) ?_
      have he : u = v := by
        rw [← hu.2, ← hv.2]
        exact dv_cong (fun y hy => hd y (Nat.zero_le y) hy)
      exact fin _ _ _ _ _ _ hW (⟨rfl, by rw [if_neg (by omega), if_pos he]⟩) dX3_compared_40
    | succ x ih =>
      intro hx1 hd H locs ls hW hl
      rw [nI_pred] at hl
      have hb1 : uL (σ.J i x) < 4294967296 := hu.1 x (by omega)
      have hb2 : uL (σ.J j x) < 4294967296 := hv.1 x (by omega)
      refine lv_iload_n hx hb dX3_compared_3 rfl (lv_at hl 0 rfl) ?_
      refine lv_if_lt (tgt := 39) hx hb dX3_compared_4 (by decide) (fun c9 => absurd c9 (nI_pos (by omega))) (fun _ => ?_)
      refine lv_aload_n hx hb dX3_compared_7 rfl (lv_at hl 1 rfl) ?_
      refine lv_iload_n hx hb dX3_compared_8 rfl (lv_at hl 0 rfl) ?_
      refine q_lald hx hb hW (i := i) (j := x) ⟨by omega, by omega⟩ (by rw [lsz9 (by omega)]; omega) rfl dX3_compared_9 ?_
      refine q_tl (y := lN (uL (σ.J i x))) ((lN_uL _).symm) ?_
      refine lv_aload_n hx hb dX3_compared_10 rfl (lv_at hl 2 rfl) ?_
      refine lv_iload_n hx hb dX3_compared_11 rfl (lv_at hl 0 rfl) ?_
      refine q_lald hx hb hW (i := j) (j := x) ⟨by omega, by omega⟩ (by rw [lsz9 (by omega)]; omega) rfl dX3_compared_12 ?_
      refine q_tl (y := lN (uL (σ.J j x))) ((lN_uL _).symm) ?_
      refine W.lcmp hx hb dX3_compared_13 ?_
      refine lv_if_eq (tgt := 33) hx hb dX3_compared_14 (by decide) (fun c1 => ?_) (fun c1 => ?_)
      · have h0 := (lcmp_eq (by omega) (by omega)).mp c1
        refine lv_iinc (v := nI x - 1) (lv' := [(2, .int (nI x - 1)), (0, .ref (g.P i)), (1, .ref (g.P j))]) hx hb dX3_compared_33 hl (k := 0) rfl (by rw [Int32.sub_eq_add_neg]; rfl) (by decide) rfl (fun ls hl => ?_)
        refine lv_goto (tgt := 3) hx hb dX3_compared_36 (by decide) ?_
        exact ih (by omega) (fun y h1 h2 => by
          by_cases q : y = x
          · rw [q]; exact h0
          · exact hd y (by omega) h2) H locs ls hW (lv_sub hl [0, 1, 2] rfl)
      · have hne : ¬ uL (σ.J i x) = uL (σ.J j x) := fun q => c1 ((lcmp_eq (by omega) (by omega)).mpr q)
        refine lv_aload_n hx hb dX3_compared_17 rfl (lv_at hl 1 rfl) ?_
        refine lv_iload_n hx hb dX3_compared_18 rfl (lv_at hl 0 rfl) ?_
        refine q_lald hx hb hW (i := i) (j := x) ⟨by omega, by omega⟩ (by rw [lsz9 (by omega)]; omega) rfl dX3_compared_19 ?_
        refine q_tl (y := lN (uL (σ.J i x))) ((lN_uL _).symm) ?_
        refine lv_aload_n hx hb dX3_compared_20 rfl (lv_at hl 2 rfl) ?_
        refine lv_iload_n hx hb dX3_compared_21 rfl (lv_at hl 0 rfl) ?_
        refine q_lald hx hb hW (i := j) (j := x) ⟨by omega, by omega⟩ (by rw [lsz9 (by omega)]; omega) rfl dX3_compared_22 ?_
        refine q_tl (y := lN (uL (σ.J j x))) ((lN_uL _).symm) ?_
        refine W.lcmp hx hb dX3_compared_23 ?_
        have hj1 : x + 1 + (9 - (x + 1)) = 9 := by omega
        have hlt : uL (σ.J i x) < uL (σ.J j x) → u < v := fun q => by
          have h9 := dv_less (d := fun y => uL (σ.J i y)) (e := fun y => uL (σ.J j y)) (x := x) (dB_le hu.1 (by omega)) q (j := 9 - (x + 1)) (fun y h1 h2 => by rw [hd y (by omega) (by omega)])
          rw [hj1, hu.2, hv.2] at h9
          exact h9
        have hgt : uL (σ.J j x) < uL (σ.J i x) → v < u := fun q => by
          have h9 := dv_less (d := fun y => uL (σ.J j y)) (e := fun y => uL (σ.J i y)) (x := x) (dB_le hv.1 (by omega)) q (j := 9 - (x + 1)) (fun y h1 h2 => by rw [hd y (by omega) (by omega)])
          rw [hj1, hu.2, hv.2] at h9
          exact h9
        refine lv_if_ge (tgt := 31) hx hb dX3_compared_24 (by decide) (fun c2 => ?_) (fun c2 => ?_)
        · refine lv_iconst (v := 1) hx hb dX3_compared_31 (by decide) ?_
          have h0 := hgt (by have := (lcmp_ge (by omega) (by omega)).mp c2; omega)
          exact fin _ _ _ _ _ _ hW (⟨rfl, by rw [if_neg (by omega), if_neg (by omega)]⟩) dX3_compared_32
        · refine lv_iconst (v := (-1)) hx hb dX3_compared_27 (by decide) ?_
          refine lv_goto (tgt := 32) hx hb dX3_compared_28 (by decide) ?_
          have h0 := hlt (Nat.not_le.mp (fun q => c2 ((lcmp_ge (by omega) (by omega)).mpr q)))
          exact fin _ _ _ _ _ _ hW (⟨rfl, by rw [if_pos h0]⟩) dX3_compared_32
  refine lv_bipush (v := 8) hx hb dX3_compared_0 (by decide) ?_
  refine q_ti (y := nI 9 - 1) (by decide) ?_
  refine lv_istore_n (lv' := [(2, .int (nI 9 - 1)), (0, .ref (g.P i)), (1, .ref (g.P j))]) hx hb dX3_compared_2 rfl hl (by decide) rfl (fun ls hl => ?_)
  exact loop 9 (Nat.le_refl _) (fun y h1 h2 => absurd h2 (by omega)) _ _ ls hW (lv_sub hl [0, 1, 2] rfl)
set_option maxHeartbeats 4000000 in
set_option maxRecDepth 100000 in
/-- reference: isNought -/
theorem n_isNought (l : Launch) (g : qCfg) (hg : g.ok) (σ : qSt) {i u : Nat} (hi : 5 ≤ i ∧ i < 12)(hu : Nb σ.J i u) : qCI l g yX3_isNought wsX3_isNought 0 0 [.ref (g.P i)] σ (fun r σ' => σ' = σ ∧ r = if u = 0 then 1 else 0) := by
  refine q_sZ (cc := cX3_isNought) (maxL := 3) (by decide) rfl (Nat.le_of_ble_eq_true rfl) ?_
  intro p e s m args below meth c ls Q S hW hl fin
  obtain ⟨hx, hb, hml, hown, hts, hr, hlocks⟩ := id S
  obtain ⟨hk1, hk8, hn1, hn8⟩ := id hg
  have hl : lv_has ls 3 [(0, .ref (g.P i))] := hl
  have hiff := dv_small (d := fun x => uL (σ.J i x)) (k := 9) (v := 0) (by decide) hu.1 (by decide)
  rw [hu.2] at hiff
  have loop : ∀ (n x : Nat) (z : Int32), x ≤ 9 → 10 ≤ x + n → 0 ≤ x → (z = 1 ∧ (∀ y, y < x → uL (σ.J i y) = if y = 0 then 0 else 0) ∨ z = 0 ∧ ¬ (∀ y, y < x → uL (σ.J i y) = if y = 0 then 0 else 0)) → ∀ (H : Heap) (locs : List Loc) (ls : Array Slot), Wo g (Ad g s.heap.size) s H locs σ → lv_has ls 3 [(2, .int (nI x)), (1, .int z), (0, .ref (g.P i))] → W p l e (rmm 0 0) s m args below meth c H locs 0 0 Q (F0 m 4 ls []) := by
    intro n
    induction n with
    | zero => intro x z h1 h2; exact absurd h2 (by omega)
    | succ n ih =>
      intro x z hx1 hx2 hx0 hz H locs ls hW hl
      refine lv_iload_n hx hb dX3_isNought_4 rfl (lv_at hl 0 rfl) ?_
      refine lv_bipush (v := 9) hx hb dX3_isNought_5 (by decide) ?_
      refine lv_icmp_ge (tgt := 34) hx hb dX3_isNought_7 (by decide) (fun c1 => ?_) (fun c1 => ?_)
      · have hx3 := nle (b := 9) c1 (by omega) (by omega)
        have hx4 : x = 9 := by omega
        subst hx4
        refine lv_iload_n hx hb dX3_isNought_34 rfl (lv_at hl 1 rfl) ?_
        have hall : u = 0 ↔ (∀ y, y < 9 → uL (σ.J i y) = if y = 0 then 0 else 0) := by
          rw [hiff]
          exact ⟨fun q y hy => by
            by_cases q0 : y = 0
            · rw [q0, if_pos rfl]; exact q.1
            · rw [if_neg q0]; exact q.2 y (by omega) hy, fun q => ⟨q 0 (by decide), fun y h1 h2 => (q y h2).trans (if_neg (by omega))⟩⟩
        rcases hz with ⟨e1, e2⟩ | ⟨e1, e2⟩
        · subst e1
          exact fin _ _ _ _ _ _ (Or.inr rfl) hW ⟨rfl, (if_pos (hall.mpr e2)).symm⟩ dX3_isNought_35
        · subst e1
          exact fin _ _ _ _ _ _ (Or.inl rfl) hW ⟨rfl, (if_neg (fun q => e2 (hall.mp q))).symm⟩ dX3_isNought_35
      · have hx3 := nge (b := 9) c1 (by omega)
        have hb1 : uL (σ.J i x) < 4294967296 := hu.1 x hx3
        refine lv_iload_n hx hb dX3_isNought_10 rfl (lv_at hl 1 rfl) ?_
        refine lv_if_eq (tgt := 26) hx hb dX3_isNought_11 (by decide) (fun c2 => ?_) (fun c2 => ?_)
        · have hz0 := hz.resolve_left (fun q => absurd (q.1.symm.trans c2) (by decide))
          refine lv_iconst (v := 0) hx hb dX3_isNought_26 (by decide) ?_
          refine lv_istore_n (lv' := [(1, .int 0), (2, .int (nI x)), (0, .ref (g.P i))]) hx hb dX3_isNought_27 rfl hl (by decide) rfl (fun ls hl => ?_)
          refine lv_iinc (v := nI (x + 1)) (lv' := [(2, .int (nI (x + 1))), (1, .int 0), (0, .ref (g.P i))]) hx hb dX3_isNought_28 hl (k := 1) rfl (nI_1 _) (by decide) rfl (fun ls hl => ?_)
          refine lv_goto (tgt := 4) hx hb dX3_isNought_31 (by decide) ?_
          exact ih (x + 1) 0 (by omega) (by omega) (by omega) (Or.inr ⟨rfl, fun q => hz0.2 (fun y hy => q y (by omega))⟩) H locs ls hW (lv_sub hl [0, 1, 2] rfl)
        · have hz0 := hz.resolve_right (fun q => c2 q.1)
          refine lv_aload_n hx hb dX3_isNought_14 rfl (lv_at hl 2 rfl) ?_
          refine lv_iload_n hx hb dX3_isNought_15 rfl (lv_at hl 0 rfl) ?_
          refine q_lald hx hb hW (i := i) (j := x) ⟨by omega, by omega⟩ (by rw [lsz9 (by omega)]; omega) rfl dX3_isNought_16 ?_
          refine q_tl (y := lN (uL (σ.J i x))) ((lN_uL _).symm) ?_
          refine lv_lconst (v := 0) hx hb dX3_isNought_17 (by decide) ?_
          refine W.lcmp hx hb dX3_isNought_18 ?_
          refine lv_if_ne (tgt := 26) hx hb dX3_isNought_19 (by decide) (fun c3 => ?_) (fun c3 => ?_)
          · have h0 : ¬ uL (σ.J i x) = 0 := fun q => c3 ((lcmp_0 (by omega)).mpr q)
            refine lv_iconst (v := 0) hx hb dX3_isNought_26 (by decide) ?_
            refine lv_istore_n (lv' := [(1, .int 0), (2, .int (nI x)), (0, .ref (g.P i))]) hx hb dX3_isNought_27 rfl hl (by decide) rfl (fun ls hl => ?_)
            refine lv_iinc (v := nI (x + 1)) (lv' := [(2, .int (nI (x + 1))), (1, .int 0), (0, .ref (g.P i))]) hx hb dX3_isNought_28 hl (k := 1) rfl (nI_1 _) (by decide) rfl (fun ls hl => ?_)
            refine lv_goto (tgt := 4) hx hb dX3_isNought_31 (by decide) ?_
            exact ih (x + 1) 0 (by omega) (by omega) (by omega) (Or.inr ⟨rfl, fun q => h0 ((q x (Nat.lt_succ_self x)).trans (by split <;> rfl))⟩) H locs ls hW (lv_sub hl [0, 1, 2] rfl)
          · have h0 : uL (σ.J i x) = 0 := (lcmp_0 (by omega)).mp c3
            refine lv_iconst (v := 1) hx hb dX3_isNought_22 (by decide) ?_
            refine lv_goto (tgt := 27) hx hb dX3_isNought_23 (by decide) ?_
            refine lv_istore_n (lv' := [(1, .int 1), (2, .int (nI x)), (0, .ref (g.P i))]) hx hb dX3_isNought_27 rfl hl (by decide) rfl (fun ls hl => ?_)
            refine lv_iinc (v := nI (x + 1)) (lv' := [(2, .int (nI (x + 1))), (1, .int 1), (0, .ref (g.P i))]) hx hb dX3_isNought_28 hl (k := 1) rfl (nI_1 _) (by decide) rfl (fun ls hl => ?_)
            refine lv_goto (tgt := 4) hx hb dX3_isNought_31 (by decide) ?_
            exact ih (x + 1) 1 (by omega) (by omega) (by omega) (Or.inl ⟨rfl, fun y hy => by
              by_cases q : y = x
              · rw [q, h0]; split <;> rfl
              · exact hz0.2 y (by omega)⟩) H locs ls hW (lv_sub hl [0, 1, 2] rfl)
  refine lv_iconst (v := 1) hx hb dX3_isNought_0 (by decide) ?_
  refine lv_istore_n (lv' := [(1, .int 1), (0, .ref (g.P i))]) hx hb dX3_isNought_1 rfl hl (by decide) rfl (fun ls hl => ?_)
  refine lv_iconst (v := 0) hx hb dX3_isNought_2 (by decide) ?_
  refine lv_istore_n (lv' := [(2, .int 0), (1, .int 1), (0, .ref (g.P i))]) hx hb dX3_isNought_3 rfl hl (by decide) rfl (fun ls hl => ?_)
  exact loop 10 0 1 (by omega) (by omega) (by omega) (Or.inl ⟨rfl, fun y hy => absurd hy (by omega)⟩) _ _ ls hW (lv_sub hl [0, 1, 2] rfl)
set_option maxHeartbeats 4000000 in
set_option maxRecDepth 100000 in
/-- reference: isOne -/
theorem n_isOne (l : Launch) (g : qCfg) (hg : g.ok) (σ : qSt) {i u : Nat} (hi : 5 ≤ i ∧ i < 12)(hu : Nb σ.J i u) : qCI l g yX3_isOne wsX3_isOne 0 0 [.ref (g.P i)] σ (fun r σ' => σ' = σ ∧ r = if u = 1 then 1 else 0) := by
  refine q_sZ (cc := cX3_isOne) (maxL := 3) (by decide) rfl (Nat.le_of_ble_eq_true rfl) ?_
  intro p e s m args below meth c ls Q S hW hl fin
  obtain ⟨hx, hb, hml, hown, hts, hr, hlocks⟩ := id S
  obtain ⟨hk1, hk8, hn1, hn8⟩ := id hg
  have hl : lv_has ls 3 [(0, .ref (g.P i))] := hl
  have hiff := dv_small (d := fun x => uL (σ.J i x)) (k := 9) (v := 1) (by decide) hu.1 (by decide)
  rw [hu.2] at hiff
  have loop : ∀ (n x : Nat) (z : Int32), x ≤ 9 → 10 ≤ x + n → 1 ≤ x → (z = 1 ∧ (∀ y, y < x → uL (σ.J i y) = if y = 0 then 1 else 0) ∨ z = 0 ∧ ¬ (∀ y, y < x → uL (σ.J i y) = if y = 0 then 1 else 0)) → ∀ (H : Heap) (locs : List Loc) (ls : Array Slot), Wo g (Ad g s.heap.size) s H locs σ → lv_has ls 3 [(2, .int (nI x)), (1, .int z), (0, .ref (g.P i))] → W p l e (rmm 0 0) s m args below meth c H locs 0 0 Q (F0 m 16 ls []) := by
    intro n
    induction n with
    | zero => intro x z h1 h2; exact absurd h2 (by omega)
    | succ n ih =>
      intro x z hx1 hx2 hx0 hz H locs ls hW hl
      refine lv_iload_n hx hb dX3_isOne_16 rfl (lv_at hl 0 rfl) ?_
      refine lv_bipush (v := 9) hx hb dX3_isOne_17 (by decide) ?_
      refine lv_icmp_ge (tgt := 46) hx hb dX3_isOne_19 (by decide) (fun c1 => ?_) (fun c1 => ?_)
      · have hx3 := nle (b := 9) c1 (by omega) (by omega)
        have hx4 : x = 9 := by omega
        subst hx4
        refine lv_iload_n hx hb dX3_isOne_46 rfl (lv_at hl 1 rfl) ?_
        have hall : u = 1 ↔ (∀ y, y < 9 → uL (σ.J i y) = if y = 0 then 1 else 0) := by
          rw [hiff]
          exact ⟨fun q y hy => by
            by_cases q0 : y = 0
            · rw [q0, if_pos rfl]; exact q.1
            · rw [if_neg q0]; exact q.2 y (by omega) hy, fun q => ⟨q 0 (by decide), fun y h1 h2 => (q y h2).trans (if_neg (by omega))⟩⟩
        rcases hz with ⟨e1, e2⟩ | ⟨e1, e2⟩
        · subst e1
          exact fin _ _ _ _ _ _ (Or.inr rfl) hW ⟨rfl, (if_pos (hall.mpr e2)).symm⟩ dX3_isOne_47
        · subst e1
          exact fin _ _ _ _ _ _ (Or.inl rfl) hW ⟨rfl, (if_neg (fun q => e2 (hall.mp q))).symm⟩ dX3_isOne_47
      · have hx3 := nge (b := 9) c1 (by omega)
        have hb1 : uL (σ.J i x) < 4294967296 := hu.1 x hx3
        refine lv_iload_n hx hb dX3_isOne_22 rfl (lv_at hl 1 rfl) ?_
        refine lv_if_eq (tgt := 38) hx hb dX3_isOne_23 (by decide) (fun c2 => ?_) (fun c2 => ?_)
        · have hz0 := hz.resolve_left (fun q => absurd (q.1.symm.trans c2) (by decide))
          refine lv_iconst (v := 0) hx hb dX3_isOne_38 (by decide) ?_
          refine lv_istore_n (lv' := [(1, .int 0), (2, .int (nI x)), (0, .ref (g.P i))]) hx hb dX3_isOne_39 rfl hl (by decide) rfl (fun ls hl => ?_)
          refine lv_iinc (v := nI (x + 1)) (lv' := [(2, .int (nI (x + 1))), (1, .int 0), (0, .ref (g.P i))]) hx hb dX3_isOne_40 hl (k := 1) rfl (nI_1 _) (by decide) rfl (fun ls hl => ?_)
          refine lv_goto (tgt := 16) hx hb dX3_isOne_43 (by decide) ?_
          exact ih (x + 1) 0 (by omega) (by omega) (by omega) (Or.inr ⟨rfl, fun q => hz0.2 (fun y hy => q y (by omega))⟩) H locs ls hW (lv_sub hl [0, 1, 2] rfl)
        · have hz0 := hz.resolve_right (fun q => c2 q.1)
          refine lv_aload_n hx hb dX3_isOne_26 rfl (lv_at hl 2 rfl) ?_
          refine lv_iload_n hx hb dX3_isOne_27 rfl (lv_at hl 0 rfl) ?_
          refine q_lald hx hb hW (i := i) (j := x) ⟨by omega, by omega⟩ (by rw [lsz9 (by omega)]; omega) rfl dX3_isOne_28 ?_
          refine q_tl (y := lN (uL (σ.J i x))) ((lN_uL _).symm) ?_
          refine lv_lconst (v := 0) hx hb dX3_isOne_29 (by decide) ?_
          refine W.lcmp hx hb dX3_isOne_30 ?_
          refine lv_if_ne (tgt := 38) hx hb dX3_isOne_31 (by decide) (fun c3 => ?_) (fun c3 => ?_)
          · have h0 : ¬ uL (σ.J i x) = 0 := fun q => c3 ((lcmp_0 (by omega)).mpr q)
            refine lv_iconst (v := 0) hx hb dX3_isOne_38 (by decide) ?_
            refine lv_istore_n (lv' := [(1, .int 0), (2, .int (nI x)), (0, .ref (g.P i))]) hx hb dX3_isOne_39 rfl hl (by decide) rfl (fun ls hl => ?_)
            refine lv_iinc (v := nI (x + 1)) (lv' := [(2, .int (nI (x + 1))), (1, .int 0), (0, .ref (g.P i))]) hx hb dX3_isOne_40 hl (k := 1) rfl (nI_1 _) (by decide) rfl (fun ls hl => ?_)
            refine lv_goto (tgt := 16) hx hb dX3_isOne_43 (by decide) ?_
            exact ih (x + 1) 0 (by omega) (by omega) (by omega) (Or.inr ⟨rfl, fun q => h0 ((q x (Nat.lt_succ_self x)).trans (if_neg (by omega)))⟩) H locs ls hW (lv_sub hl [0, 1, 2] rfl)
          · have h0 : uL (σ.J i x) = 0 := (lcmp_0 (by omega)).mp c3
            refine lv_iconst (v := 1) hx hb dX3_isOne_34 (by decide) ?_
            refine lv_goto (tgt := 39) hx hb dX3_isOne_35 (by decide) ?_
            refine lv_istore_n (lv' := [(1, .int 1), (2, .int (nI x)), (0, .ref (g.P i))]) hx hb dX3_isOne_39 rfl hl (by decide) rfl (fun ls hl => ?_)
            refine lv_iinc (v := nI (x + 1)) (lv' := [(2, .int (nI (x + 1))), (1, .int 1), (0, .ref (g.P i))]) hx hb dX3_isOne_40 hl (k := 1) rfl (nI_1 _) (by decide) rfl (fun ls hl => ?_)
            refine lv_goto (tgt := 16) hx hb dX3_isOne_43 (by decide) ?_
            exact ih (x + 1) 1 (by omega) (by omega) (by omega) (Or.inl ⟨rfl, fun y hy => by
              by_cases q : y = x
              · rw [q, h0, if_neg (by omega)]
              · exact hz0.2 y (by omega)⟩) H locs ls hW (lv_sub hl [0, 1, 2] rfl)
  have hb0 : uL (σ.J i 0) < 4294967296 := hu.1 0 (by decide)
  refine lv_aload_n hx hb dX3_isOne_0 rfl (lv_at hl 0 rfl) ?_
  refine lv_iconst (v := 0) hx hb dX3_isOne_1 (by decide) ?_
  refine q_lald hx hb hW (i := i) (j := 0) ⟨by omega, by omega⟩ (by rw [lsz9 (by omega)]; omega) rfl dX3_isOne_2 ?_
  refine q_tl (y := lN (uL (σ.J i 0))) ((lN_uL _).symm) ?_
  refine lv_lconst (v := 1) hx hb dX3_isOne_3 (by decide) ?_
  refine W.lcmp hx hb dX3_isOne_4 ?_
  refine lv_if_ne (tgt := 12) hx hb dX3_isOne_5 (by decide) (fun c1 => ?_) (fun c1 => ?_)
  · have h0 : ¬ uL (σ.J i 0) = 1 := fun q => c1 ((lcmp_eq (b := 1) (by omega) (by decide)).mpr q)
    refine lv_iconst (v := 0) hx hb dX3_isOne_12 (by decide) ?_
    refine lv_istore_n (lv' := [(1, .int 0), (0, .ref (g.P i))]) hx hb dX3_isOne_13 rfl hl (by decide) rfl (fun ls hl => ?_)
    refine lv_iconst (v := 1) hx hb dX3_isOne_14 (by decide) ?_
    refine lv_istore_n (lv' := [(2, .int 1), (1, .int 0), (0, .ref (g.P i))]) hx hb dX3_isOne_15 rfl hl (by decide) rfl (fun ls hl => ?_)
    exact loop 9 1 0 (by omega) (by omega) (by omega) (Or.inr ⟨rfl, fun q => h0 (q 0 (by decide))⟩) _ _ ls hW (lv_sub hl [0, 1, 2] rfl)
  · have h0 : uL (σ.J i 0) = 1 := (lcmp_eq (b := 1) (by omega) (by decide)).mp c1
    refine lv_iconst (v := 1) hx hb dX3_isOne_8 (by decide) ?_
    refine lv_goto (tgt := 13) hx hb dX3_isOne_9 (by decide) ?_
    refine lv_istore_n (lv' := [(1, .int 1), (0, .ref (g.P i))]) hx hb dX3_isOne_13 rfl hl (by decide) rfl (fun ls hl => ?_)
    refine lv_iconst (v := 1) hx hb dX3_isOne_14 (by decide) ?_
    refine lv_istore_n (lv' := [(2, .int 1), (1, .int 1), (0, .ref (g.P i))]) hx hb dX3_isOne_15 rfl hl (by decide) rfl (fun ls hl => ?_)
    exact loop 9 1 1 (by omega) (by omega) (by omega) (Or.inl ⟨rfl, fun y hy => by rw [show y = 0 by omega, h0]; rfl⟩) _ _ ls hW (lv_sub hl [0, 1, 2] rfl)
set_option maxHeartbeats 4000000 in
set_option maxRecDepth 100000 in
/-- reference: plus(a, b) -/
theorem n_plus (l : Launch) (g : qCfg) (hg : g.ok) (σ : qSt) {i j u v : Nat} (hi : 5 ≤ i ∧ i < 12)(hj : 5 ≤ j ∧ j < 12)(hu : Nb σ.J i u) (hv : Nb σ.J j v) (hlt : u + v < 2 ^ (32 * 9)) : qCV l g yX3_plus wsX3_plus 0 0 [.ref (g.P i), .ref (g.P j)] σ (fun σ' => ∃ J', σ' = σ.setJ J' ∧ Gr σ.J J' [i] ∧ Nb J' i (u + v)) := by
  refine q_sV (cc := cX3_plus) (maxL := 7) (by decide) rfl (Nat.le_of_ble_eq_true rfl) ?_
  intro p e s m args below meth c ls Q S hW hl fin
  obtain ⟨hx, hb, hml, hown, hts, hr, hlocks⟩ := id S
  obtain ⟨hk1, hk8, hn1, hn8⟩ := id hg
  have hl : lv_has ls 7 [(0, .ref (g.P i)), (1, .ref (g.P j))] := hl
  have loop : ∀ (n x : Nat) (c0 : Nat) (J : Nat → Nat → Int64), x ≤ 9 → 9 + 1 ≤ x + n → Ju σ.J J i x → c0 ≤ 1 → dB (fun y => uL (J i y)) x → dv (fun y => uL (J i y)) x + c0 * 2 ^ (32 * x) = dv (fun y => uL (σ.J i y)) x + dv (fun y => uL (σ.J j y)) x → ∀ (H : Heap) (locs : List Loc) (ls : Array Slot), Wo g (Ad g s.heap.size) s H locs (σ.setJ J) → lv_has ls 7 [(4, .int (nI x)), (2, .long (lN c0)), (0, .ref (g.P i)), (1, .ref (g.P j))] → W p l e (rmm 0 0) s m args below meth c H locs 0 0 Q (F0 m 5 ls []) := by
    intro n
    induction n with
    | zero => intro x c0 J h1 h2; exact absurd h2 (by omega)
    | succ n ih =>
      intro x c0 J hx1 hx2 hR hc hB hV H locs ls hW hl
      refine lv_iload hx hb dX3_plus_5 (lv_at hl 0 rfl) ?_
      refine lv_bipush (v := 9) hx hb dX3_plus_7 (by decide) ?_
      refine lv_icmp_ge (tgt := 47) hx hb dX3_plus_9 (by decide) (fun c1 => ?_) (fun c1 => ?_)
      · have hx3 := nle (b := 9) c1 (by omega) (by omega)
        have hx4 : x = 9 := by omega
        subst hx4
        rw [hu.2, hv.2] at hV
        have hc0 : c0 = 0 := by
          rcases (show c0 = 0 ∨ c0 = 1 by omega) with q | q
          · exact q
          · rw [q] at hV; omega
        rw [hc0, Nat.zero_mul, Nat.add_zero] at hV
        exact fin _ _ _ _ _ hW (⟨J, rfl, hR.fr, hB, hV⟩) dX3_plus_47
      · have hx3 := nge (b := 9) c1 (by omega)
        have hb1 : uL (σ.J i x) < 4294967296 := hu.1 x hx3
        have hb2 : uL (σ.J j x) < 4294967296 := hv.1 x hx3
        refine lv_aload_n hx hb dX3_plus_12 rfl (lv_at hl 2 rfl) ?_
        refine lv_iload hx hb dX3_plus_13 (lv_at hl 0 rfl) ?_
        refine q_lald hx hb hW (i := i) (j := x) ⟨by omega, by omega⟩ (by rw [lsz9 (by omega)]; omega) rfl dX3_plus_15 ?_
        refine q_tl (y := lN (uL (σ.J i x))) (by rw [lN_uL]; exact hR.rd _) ?_
        refine lv_aload_n hx hb dX3_plus_16 rfl (lv_at hl 3 rfl) ?_
        refine lv_iload hx hb dX3_plus_17 (lv_at hl 0 rfl) ?_
        refine q_lald hx hb hW (i := j) (j := x) ⟨by omega, by omega⟩ (by rw [lsz9 (by omega)]; omega) rfl dX3_plus_19 ?_
        refine q_tl (y := lN (uL (σ.J j x))) (by rw [lN_uL]; exact hR.rd _) ?_
        refine lv_ladd hx hb dX3_plus_20 ?_
        refine q_tl (y := lN ((uL (σ.J i x)) + (uL (σ.J j x)))) (lN_add _ _) ?_
        refine lv_lload_n hx hb dX3_plus_21 rfl (lv_at hl 1 rfl) ?_
        refine lv_ladd hx hb dX3_plus_22 ?_
        refine q_tl (y := lN (((uL (σ.J i x)) + (uL (σ.J j x))) + c0)) (lN_add _ _) ?_
        generalize hT : uL (σ.J i x) + uL (σ.J j x) + c0 = T
        refine lv_lstore (lv' := [(5, .long (lN T)), (4, .int (nI x)), (2, .long (lN c0)), (0, .ref (g.P i)), (1, .ref (g.P j))]) hx hb dX3_plus_23 hl (by decide) rfl (fun ls hl => ?_)
        refine lv_aload_n hx hb dX3_plus_25 rfl (lv_at hl 3 rfl) ?_
        refine lv_iload hx hb dX3_plus_26 (lv_at hl 1 rfl) ?_
        refine lv_lload hx hb dX3_plus_28 (lv_at hl 0 rfl) ?_
        refine lv_ldc2 (v := 4294967295) hx hb hown (hts (.constantLong RX3 53 (4294967295)) (by decide +kernel)) dX3_plus_30 ?_
        refine lv_land hx hb dX3_plus_33 ?_
        refine q_tl (y := lN (T % 4294967296)) (lN_lo (by omega)) ?_
        refine q_lastJ (i := i) (J := J) hx hb hW (j := x) ⟨by omega, by omega⟩ (by rw [lsz9 (by omega)]; omega) rfl dX3_plus_34 (fun H locs hW => ?_)
        refine lv_lload hx hb dX3_plus_35 (lv_at hl 0 rfl) ?_
        refine lv_bipush (v := 32) hx hb dX3_plus_37 (by decide) ?_
        refine lv_lushr hx hb dX3_plus_39 rfl ?_
        refine q_tl (y := lN (T / 4294967296)) (lN_ushr32 (by omega)) ?_
        refine lv_lstore_n (lv' := [(2, .long (lN (T / 4294967296))), (5, .long (lN T)), (4, .int (nI x)), (0, .ref (g.P i)), (1, .ref (g.P j))]) hx hb dX3_plus_40 rfl hl (by decide) rfl (fun ls hl => ?_)
        refine lv_iinc (v := nI (x + 1)) (lv' := [(4, .int (nI (x + 1))), (2, .long (lN (T / 4294967296))), (5, .long (lN T)), (0, .ref (g.P i)), (1, .ref (g.P j))]) hx hb dX3_plus_41 hl (k := 2) rfl (nI_1 _) (by decide) rfl (fun ls hl => ?_)
        refine lv_goto (tgt := 5) hx hb dX3_plus_44 (by decide) ?_
        refine ih (x + 1) _ _ (by omega) (by omega) (hR.st _) (by omega) (dB_st (Nat.mod_lt _ (by decide)) hB) ?_ H locs ls hW (lv_sub hl [0, 1, 3, 4] rfl)
        rw [dv_st (Nat.mod_lt _ (by decide)), p32]
        exact st_add (a := uL (σ.J i x)) (b := uL (σ.J j x)) (by omega) hV
  refine lv_lconst (v := 0) hx hb dX3_plus_0 (by decide) ?_
  refine q_tl (y := lN 0) rfl ?_
  refine lv_lstore_n (lv' := [(2, .long (lN 0)), (0, .ref (g.P i)), (1, .ref (g.P j))]) hx hb dX3_plus_1 rfl hl (by decide) rfl (fun ls hl => ?_)
  refine lv_iconst (v := 0) hx hb dX3_plus_2 (by decide) ?_
  refine lv_istore (lv' := [(4, .int 0), (2, .long (lN 0)), (0, .ref (g.P i)), (1, .ref (g.P j))]) hx hb dX3_plus_3 hl (by decide) rfl (fun ls hl => ?_)
  exact loop 10 0 0 σ.J (by omega) (by omega) Ju.rf (by omega) (fun y hy => absurd hy (by omega)) rfl _ _ ls hW (lv_sub hl [0, 1, 2, 3] rfl)
set_option maxHeartbeats 4000000 in
set_option maxRecDepth 100000 in
/-- reference: minus(a, b) -/
theorem n_minus (l : Launch) (g : qCfg) (hg : g.ok) (σ : qSt) {i j u v : Nat} (hi : 5 ≤ i ∧ i < 12)(hj : 5 ≤ j ∧ j < 12)(hu : Nb σ.J i u) (hv : Nb σ.J j v) (hle : v ≤ u) : qCV l g yX3_minus wsX3_minus 0 0 [.ref (g.P i), .ref (g.P j)] σ (fun σ' => ∃ J', σ' = σ.setJ J' ∧ Gr σ.J J' [i] ∧ Nb J' i (u - v)) := by
  refine q_sV (cc := cX3_minus) (maxL := 7) (by decide) rfl (Nat.le_of_ble_eq_true rfl) ?_
  intro p e s m args below meth c ls Q S hW hl fin
  obtain ⟨hx, hb, hml, hown, hts, hr, hlocks⟩ := id S
  obtain ⟨hk1, hk8, hn1, hn8⟩ := id hg
  have hl : lv_has ls 7 [(0, .ref (g.P i)), (1, .ref (g.P j))] := hl
  have loop : ∀ (n x : Nat) (c0 : Nat) (J : Nat → Nat → Int64), x ≤ 9 → 9 + 1 ≤ x + n → Ju σ.J J i x → c0 ≤ 1 → dB (fun y => uL (J i y)) x → dv (fun y => uL (J i y)) x + dv (fun y => uL (σ.J j y)) x = dv (fun y => uL (σ.J i y)) x + c0 * 2 ^ (32 * x) → ∀ (H : Heap) (locs : List Loc) (ls : Array Slot), Wo g (Ad g s.heap.size) s H locs (σ.setJ J) → lv_has ls 7 [(4, .int (nI x)), (2, .long (lN c0)), (0, .ref (g.P i)), (1, .ref (g.P j))] → W p l e (rmm 0 0) s m args below meth c H locs 0 0 Q (F0 m 5 ls []) := by
    intro n
    induction n with
    | zero => intro x c0 J h1 h2; exact absurd h2 (by omega)
    | succ n ih =>
      intro x c0 J hx1 hx2 hR hc hB hV H locs ls hW hl
      refine lv_iload hx hb dX3_minus_5 (lv_at hl 0 rfl) ?_
      refine lv_bipush (v := 9) hx hb dX3_minus_7 (by decide) ?_
      refine lv_icmp_ge (tgt := 54) hx hb dX3_minus_9 (by decide) (fun c1 => ?_) (fun c1 => ?_)
      · have hx3 := nle (b := 9) c1 (by omega) (by omega)
        have hx4 : x = 9 := by omega
        subst hx4
        have hlt := dv_lt hB
        rw [hu.2, hv.2] at hV
        have hc0 : c0 = 0 := by
          rcases (show c0 = 0 ∨ c0 = 1 by omega) with q | q
          · exact q
          · rw [q] at hV; omega
        rw [hc0, Nat.zero_mul, Nat.add_zero] at hV
        exact fin _ _ _ _ _ hW (⟨J, rfl, hR.fr, hB, by omega⟩) dX3_minus_54
      · have hx3 := nge (b := 9) c1 (by omega)
        obtain ⟨d, c2, hd2, hc2, hs2, hi2, hl2⟩ := sub_limb2 (hu.1 x hx3) (hv.1 x hx3) hc
        refine lv_aload_n hx hb dX3_minus_12 rfl (lv_at hl 2 rfl) ?_
        refine lv_iload hx hb dX3_minus_13 (lv_at hl 0 rfl) ?_
        refine q_lald hx hb hW (i := i) (j := x) ⟨by omega, by omega⟩ (by rw [lsz9 (by omega)]; omega) rfl dX3_minus_15 ?_
        refine q_tl (y := lN (uL (σ.J i x))) (by rw [lN_uL]; exact hR.rd _) ?_
        refine lv_aload_n hx hb dX3_minus_16 rfl (lv_at hl 3 rfl) ?_
        refine lv_iload hx hb dX3_minus_17 (lv_at hl 0 rfl) ?_
        refine q_lald hx hb hW (i := j) (j := x) ⟨by omega, by omega⟩ (by rw [lsz9 (by omega)]; omega) rfl dX3_minus_19 ?_
        refine q_tl (y := lN (uL (σ.J j x))) (by rw [lN_uL]; exact hR.rd _) ?_
        refine lv_lsub hx hb dX3_minus_20 ?_
        refine lv_lload_n hx hb dX3_minus_21 rfl (lv_at hl 1 rfl) ?_
        refine lv_lsub hx hb dX3_minus_22 ?_
        generalize hT : lN (uL (σ.J i x)) - lN (uL (σ.J j x)) - lN c0 = T at hi2 hl2 ⊢
        refine lv_lstore (lv' := [(5, .long T), (4, .int (nI x)), (2, .long (lN c0)), (0, .ref (g.P i)), (1, .ref (g.P j))]) hx hb dX3_minus_23 hl (by decide) rfl (fun ls hl => ?_)
        refine lv_aload_n hx hb dX3_minus_25 rfl (lv_at hl 3 rfl) ?_
        refine lv_iload hx hb dX3_minus_26 (lv_at hl 1 rfl) ?_
        refine lv_lload hx hb dX3_minus_28 (lv_at hl 0 rfl) ?_
        refine lv_ldc2 (v := 4294967295) hx hb hown (hts (.constantLong RX3 53 (4294967295)) (by decide +kernel)) dX3_minus_30 ?_
        refine lv_land hx hb dX3_minus_33 ?_
        refine q_tl (y := lN d) hi2 ?_
        refine q_lastJ (i := i) (J := J) hx hb hW (j := x) ⟨by omega, by omega⟩ (by rw [lsz9 (by omega)]; omega) rfl dX3_minus_34 (fun H locs hW => ?_)
        refine lv_lload hx hb dX3_minus_35 (lv_at hl 0 rfl) ?_
        refine lv_lconst (v := 0) hx hb dX3_minus_37 (by decide) ?_
        refine W.lcmp hx hb dX3_minus_38 ?_
        refine lv_if_ge (tgt := 46) hx hb dX3_minus_39 (by decide) (fun c3 => ?_) (fun c3 => ?_)
        · have h0 : c2 = 0 := hl2.mp c3
          refine lv_lconst (v := 0) hx hb dX3_minus_46 (by decide) ?_
          refine q_tl (y := lN c2) (by rw [h0]; rfl) ?_
          refine lv_lstore_n (lv' := [(2, .long (lN c2)), (5, .long T), (4, .int (nI x)), (0, .ref (g.P i)), (1, .ref (g.P j))]) hx hb dX3_minus_47 rfl hl (by decide) rfl (fun ls hl => ?_)
          refine lv_iinc (v := nI (x + 1)) (lv' := [(4, .int (nI (x + 1))), (2, .long (lN c2)), (5, .long T), (0, .ref (g.P i)), (1, .ref (g.P j))]) hx hb dX3_minus_48 hl (k := 2) rfl (nI_1 _) (by decide) rfl (fun ls hl => ?_)
          refine lv_goto (tgt := 5) hx hb dX3_minus_51 (by decide) ?_
          refine ih (x + 1) _ _ (by omega) (by omega) (hR.st _) hc2 (dB_st hd2 hB) ?_ H locs ls hW (lv_sub hl [0, 1, 3, 4] rfl)
          rw [dv_st hd2, p32]
          exact st_sub hs2 hV
        · have h0 : c2 = 1 := by
            rcases (show c2 = 0 ∨ c2 = 1 by omega) with q | q
            · exact absurd (hl2.mpr q) c3
            · exact q
          refine lv_lconst (v := 1) hx hb dX3_minus_42 (by decide) ?_
          refine lv_goto (tgt := 47) hx hb dX3_minus_43 (by decide) ?_
          refine q_tl (y := lN c2) (by rw [h0]; rfl) ?_
          refine lv_lstore_n (lv' := [(2, .long (lN c2)), (5, .long T), (4, .int (nI x)), (0, .ref (g.P i)), (1, .ref (g.P j))]) hx hb dX3_minus_47 rfl hl (by decide) rfl (fun ls hl => ?_)
          refine lv_iinc (v := nI (x + 1)) (lv' := [(4, .int (nI (x + 1))), (2, .long (lN c2)), (5, .long T), (0, .ref (g.P i)), (1, .ref (g.P j))]) hx hb dX3_minus_48 hl (k := 2) rfl (nI_1 _) (by decide) rfl (fun ls hl => ?_)
          refine lv_goto (tgt := 5) hx hb dX3_minus_51 (by decide) ?_
          refine ih (x + 1) _ _ (by omega) (by omega) (hR.st _) hc2 (dB_st hd2 hB) ?_ H locs ls hW (lv_sub hl [0, 1, 3, 4] rfl)
          rw [dv_st hd2, p32]
          exact st_sub hs2 hV
  refine lv_lconst (v := 0) hx hb dX3_minus_0 (by decide) ?_
  refine q_tl (y := lN 0) rfl ?_
  refine lv_lstore_n (lv' := [(2, .long (lN 0)), (0, .ref (g.P i)), (1, .ref (g.P j))]) hx hb dX3_minus_1 rfl hl (by decide) rfl (fun ls hl => ?_)
  refine lv_iconst (v := 0) hx hb dX3_minus_2 (by decide) ?_
  refine lv_istore (lv' := [(4, .int 0), (2, .long (lN 0)), (0, .ref (g.P i)), (1, .ref (g.P j))]) hx hb dX3_minus_3 hl (by decide) rfl (fun ls hl => ?_)
  exact loop 10 0 0 σ.J (by omega) (by omega) Ju.rf (by omega) (fun y hy => absurd hy (by omega)) rfl _ _ ls hW (lv_sub hl [0, 1, 2, 3] rfl)
set_option maxHeartbeats 4000000 in
set_option maxRecDepth 100000 in
/-- reference: half(a) -/
theorem n_half (l : Launch) (g : qCfg) (hg : g.ok) (σ : qSt) {i u : Nat} (hi : 5 ≤ i ∧ i < 12)(hu : Nb σ.J i u) : qCV l g yX3_half wsX3_half 0 0 [.ref (g.P i)] σ (fun σ' => ∃ J', σ' = σ.setJ J' ∧ Gr σ.J J' [i] ∧ Nb J' i (u / 2)) := by
  refine q_sV (cc := cX3_half) (maxL := 6) (by decide) rfl (Nat.le_of_ble_eq_true rfl) ?_
  intro p e s m args below meth c ls Q S hW hl fin
  obtain ⟨hx, hb, hml, hown, hts, hr, hlocks⟩ := id S
  obtain ⟨hk1, hk8, hn1, hn8⟩ := id hg
  have hl : lv_has ls 6 [(0, .ref (g.P i))] := hl
  have loop : ∀ (x a0 : Nat) (J : Nat → Nat → Int64), x ≤ 9 → Jw σ.J J i x → a0 ≤ 1 → dB (fun y => uL (J i y)) 9 → 2 * dv (fun y => uL (J i y)) 9 + a0 * 2 ^ (32 * x) = u + dv (fun y => uL (σ.J i y)) x → ∀ (H : Heap) (locs : List Loc) (ls : Array Slot), Wo g (Ad g s.heap.size) s H locs (σ.setJ J) → lv_has ls 6 [(3, .int (nI x - 1)), (1, .long (lN a0)), (0, .ref (g.P i))] → W p l e (rmm 0 0) s m args below meth c H locs 0 0 Q (F0 m 5 ls []) := by
    intro x
    induction x with
    | zero =>
      intro a0 J hx1 hR ha hB hV H locs ls hW hl
      refine lv_iload_n hx hb dX3_half_5 rfl (lv_at hl 0 rfl) ?_
      refine lv_if_lt (tgt := 37) hx hb dX3_half_6 (by decide) (fun _ => ?_) (fun c9 => absurd (by decide) c9)
      exact fin _ _ _ _ _ hW (⟨J, rfl, hR.fr, hB, by
              have h1 : 2 * dv (fun y => uL (J i y)) 9 + a0 * 1 = u + 0 := hV
              omega⟩) dX3_half_37
    | succ x ih =>
      intro a0 J hx1 hR ha hB hV H locs ls hW hl
      rw [nI_pred] at hl
      refine lv_iload_n hx hb dX3_half_5 rfl (lv_at hl 0 rfl) ?_
      refine lv_if_lt (tgt := 37) hx hb dX3_half_6 (by decide) (fun c9 => absurd c9 (nI_pos (by omega))) (fun _ => ?_)
      have hb1 : uL (σ.J i x) < 4294967296 := hu.1 x (by omega)
      refine lv_aload_n hx hb dX3_half_9 rfl (lv_at hl 2 rfl) ?_
      refine lv_iload_n hx hb dX3_half_10 rfl (lv_at hl 0 rfl) ?_
      refine q_lald hx hb hW (i := i) (j := x) ⟨by omega, by omega⟩ (by rw [lsz9 (by omega)]; omega) rfl dX3_half_11 ?_
      refine q_tl (y := lN (uL (σ.J i x))) (by rw [lN_uL]; exact hR.rd (Nat.lt_succ_self _) _) ?_
      refine lv_lload_n hx hb dX3_half_12 rfl (lv_at hl 1 rfl) ?_
      refine lv_bipush (v := 32) hx hb dX3_half_13 (by decide) ?_
      refine lv_lshl hx hb dX3_half_15 rfl ?_
      refine q_tl (y := lN (a0 * 4294967296)) (wb_shl (k := 32) a0 (by decide)) ?_
      refine lv_ladd hx hb dX3_half_16 ?_
      refine q_tl (y := lN ((uL (σ.J i x)) + (a0 * 4294967296))) (lN_add _ _) ?_
      generalize hT : uL (σ.J i x) + a0 * 4294967296 = T
      refine lv_lstore (lv' := [(4, .long (lN T)), (3, .int (nI x)), (1, .long (lN a0)), (0, .ref (g.P i))]) hx hb dX3_half_17 hl (by decide) rfl (fun ls hl => ?_)
      refine lv_aload_n hx hb dX3_half_19 rfl (lv_at hl 3 rfl) ?_
      refine lv_iload_n hx hb dX3_half_20 rfl (lv_at hl 1 rfl) ?_
      refine lv_lload hx hb dX3_half_21 (lv_at hl 0 rfl) ?_
      refine lv_iconst (v := 1) hx hb dX3_half_23 (by decide) ?_
      refine lv_lushr hx hb dX3_half_24 rfl ?_
      refine q_tl (y := lN (T / 2)) (lN_ushr1 (by omega)) ?_
      refine q_lastJ (i := i) (J := J) hx hb hW (j := x) ⟨by omega, by omega⟩ (by rw [lsz9 (by omega)]; omega) rfl dX3_half_25 (fun H locs hW => ?_)
      refine lv_lload hx hb dX3_half_26 (lv_at hl 0 rfl) ?_
      refine lv_lconst (v := 1) hx hb dX3_half_28 (by decide) ?_
      refine lv_land hx hb dX3_half_29 ?_
      refine q_tl (y := lN (T % 2)) (wb_a1 (by omega)) ?_
      refine lv_lstore_n (lv' := [(1, .long (lN (T % 2))), (4, .long (lN T)), (3, .int (nI x)), (0, .ref (g.P i))]) hx hb dX3_half_30 rfl hl (by decide) rfl (fun ls hl => ?_)
      refine lv_iinc (v := nI x - 1) (lv' := [(3, .int (nI x - 1)), (1, .long (lN (T % 2))), (4, .long (lN T)), (0, .ref (g.P i))]) hx hb dX3_half_31 hl (k := 2) rfl (by rw [Int32.sub_eq_add_neg]; rfl) (by decide) rfl (fun ls hl => ?_)
      refine lv_goto (tgt := 5) hx hb dX3_half_34 (by decide) ?_
      have hT2 : T / 2 < 4294967296 := by omega
      refine ih (T % 2) _ (by omega) (hR.st _) (by omega) ?_ ?_ H locs ls hW (lv_sub hl [0, 1, 3] rfl)
      · intro y hy
        show uL (va_up J i (va_up (J i) x (lN (T / 2))) i y) < _
        rw [va_up_self]
        by_cases q : y = x
        · rw [q, va_up_self, uL_lN (by omega)]; exact hT2
        · rw [va_up_ne _ _ q]; exact hB y hy
      · have h1 := dv_updk (d := fun y => uL (J i y)) (v := T / 2) (show x < 9 by omega)
        rw [va_up_self, uL_up hT2]
        rw [show uL (J i x) = uL (σ.J i x) by rw [hR.rd (Nat.lt_succ_self _) i]] at h1
        have hV2 : 2 * dv (fun y => uL (J i y)) 9 + a0 * (2 ^ (32 * x) * 4294967296) = u + (dv (fun y => uL (σ.J i y)) x + uL (σ.J i x) * 2 ^ (32 * x)) := by rw [← p32]; exact hV
        exact st_half (by omega) h1 hV2
  refine lv_lconst (v := 0) hx hb dX3_half_0 (by decide) ?_
  refine q_tl (y := lN 0) rfl ?_
  refine lv_lstore_n (lv' := [(1, .long (lN 0)), (0, .ref (g.P i))]) hx hb dX3_half_1 rfl hl (by decide) rfl (fun ls hl => ?_)
  refine lv_bipush (v := 8) hx hb dX3_half_2 (by decide) ?_
  refine q_ti (y := nI 9 - 1) (by decide) ?_
  refine lv_istore_n (lv' := [(3, .int (nI 9 - 1)), (1, .long (lN 0)), (0, .ref (g.P i))]) hx hb dX3_half_4 rfl hl (by decide) rfl (fun ls hl => ?_)
  exact loop 9 0 σ.J (Nat.le_refl _) Jw.rf (by omega) hu.1 (by rw [hu.2]; omega) _ _ ls hW (lv_sub hl [0, 1, 2] rfl)
set_option maxHeartbeats 4000000 in
set_option maxRecDepth 100000 in
/-- reference: bit(a, i) -/
theorem n_bit (l : Launch) (g : qCfg) (hg : g.ok) (σ : qSt) {i u b : Nat} (hi : 5 ≤ i ∧ i < 12)(hu : Nb σ.J i u) (hbt : b < 288) : qCI l g yX3_bit wsX3_bit 0 0 [.ref (g.P i), .int (nI b)] σ (fun r σ' => σ' = σ ∧ r = if u.testBit b = true then 1 else 0) := by
  refine q_sZ (cc := cX3_bit) (maxL := 2) (by decide) rfl (Nat.le_of_ble_eq_true rfl) ?_
  intro p e s m args below meth c ls Q S hW hl fin
  obtain ⟨hx, hb, hml, hown, hts, hr, hlocks⟩ := id S
  obtain ⟨hk1, hk8, hn1, hn8⟩ := id hg
  have hl : lv_has ls 2 [(0, .ref (g.P i)), (1, .int (nI b))] := hl
  have hm : u.testBit b = decide (uL (σ.J i (b / 32)) / 2 ^ (b % 32) % 2 = 1) := by
    rw [← hu.2]
    exact (dv_bit hu.1 (by omega)).trans Nat.testBit_eq_decide_div_mod_eq
  have hm2 : b % 32 < 32 := Nat.mod_lt _ (by decide)
  have hb1 : uL (σ.J i (b / 32)) < 4294967296 := hu.1 (b / 32) (by omega)
  refine lv_aload_n hx hb dX3_bit_0 rfl (lv_at hl 0 rfl) ?_
  refine lv_iload_n hx hb dX3_bit_1 rfl (lv_at hl 1 rfl) ?_
  refine lv_bipush (v := 32) hx hb dX3_bit_2 (by decide) ?_
  refine lv_idiv hx hb dX3_bit_4 (by decide) ?_
  refine q_ti (y := nI (b / 32)) (pk_div (d := 32) (by omega) (by decide) (by decide)) ?_
  refine q_lald hx hb hW (i := i) (j := (b / 32)) ⟨by omega, by omega⟩ (by rw [lsz9 (by omega)]; omega) rfl dX3_bit_5 ?_
  refine q_tl (y := lN (uL (σ.J i (b / 32)))) ((lN_uL _).symm) ?_
  refine lv_iload_n hx hb dX3_bit_6 rfl (lv_at hl 1 rfl) ?_
  refine lv_bipush (v := 32) hx hb dX3_bit_7 (by decide) ?_
  refine lv_irem hx hb dX3_bit_9 (by decide) ?_
  refine q_ti (y := nI (b % 32)) (pk_rem (d := 32) (by omega) (by decide) (by decide)) ?_
  refine lv_lushr hx hb dX3_bit_10 rfl ?_
  refine q_tl (y := lN (uL (σ.J i (b / 32)) / 2 ^ (b % 32))) (lshr_nI (by omega) hm2) ?_
  have hz2 : uL (σ.J i (b / 32)) / 2 ^ (b % 32) < 4294967296 := Nat.lt_of_le_of_lt (Nat.div_le_self _ _) hb1
  generalize uL (σ.J i (b / 32)) / 2 ^ (b % 32) = z at hm hz2 ⊢
  refine lv_lconst (v := 1) hx hb dX3_bit_11 (by decide) ?_
  refine lv_land hx hb dX3_bit_12 ?_
  refine q_tl (y := lN (z % 2)) (wb_a1 (by omega)) ?_
  refine lv_lconst (v := 1) hx hb dX3_bit_13 (by decide) ?_
  refine W.lcmp hx hb dX3_bit_14 ?_
  refine lv_if_ne (tgt := 22) hx hb dX3_bit_15 (by decide) (fun c1 => ?_) (fun c1 => ?_)
  · refine lv_iconst (v := 0) hx hb dX3_bit_22 (by decide) ?_
    have h0 : ¬ z % 2 = 1 := fun q => c1 ((lcmp_eq (b := 1) (by omega) (by decide)).mpr q)
    exact fin _ _ _ _ _ _ (by decide) hW (⟨rfl, (if_neg (by rw [hm]; simp [h0])).symm⟩) dX3_bit_23
  · refine lv_iconst (v := 1) hx hb dX3_bit_18 (by decide) ?_
    refine lv_goto (tgt := 23) hx hb dX3_bit_19 (by decide) ?_
    have h0 : z % 2 = 1 := (lcmp_eq (b := 1) (by omega) (by decide)).mp c1
    exact fin _ _ _ _ _ _ (by decide) hW (⟨rfl, (if_pos (by rw [hm]; simp [h0])).symm⟩) dX3_bit_23
end
