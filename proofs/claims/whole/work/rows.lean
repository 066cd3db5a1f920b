section
-- ===== PART A: goes FIRST, ahead of the names: the tables' words, and 'selects' of the private methods out of them =====
/-- a private method of a class that the tables say can be made, by its rows of tables_1 -/
def lw_okq (q : MethodName × Nat) : Prop := (q.1.cls ≠ "java/lang/invoke/MethodHandle" ∧ q.1.cls ≠ "java/lang/invoke/VarHandle") ∧ Cond.instantiable q.1.cls q.2 ∈ tables_1 ∧ Cond.privateMethod q.1 ∈ tables_1 ∧ Cond.instanceMethod q.1 ∈ tables_1
theorem lw_p0 : lw_okq (⟨"WheelShop$Wheel", "fullCut", "()I"⟩, 7) := ⟨⟨by decide +kernel, by decide +kernel⟩, List.mem_of_getElem? (i := 88) (by decide +kernel), List.mem_of_getElem? (i := 187) (by decide +kernel), List.mem_of_getElem? (i := 188) (by decide +kernel)⟩
theorem lw_p1 : lw_okq (⟨"WheelShop$Wheel", "greatestDepth", "()I"⟩, 7) := ⟨⟨by decide +kernel, by decide +kernel⟩, List.mem_of_getElem? (i := 88) (by decide +kernel), List.mem_of_getElem? (i := 191) (by decide +kernel), List.mem_of_getElem? (i := 192) (by decide +kernel)⟩
theorem lw_p2 : lw_okq (⟨"WheelShop$Wheel", "leastDepth", "()I"⟩, 7) := ⟨⟨by decide +kernel, by decide +kernel⟩, List.mem_of_getElem? (i := 88) (by decide +kernel), List.mem_of_getElem? (i := 198) (by decide +kernel), List.mem_of_getElem? (i := 199) (by decide +kernel)⟩
theorem lw_p3 : lw_okq (⟨"WheelShop$Wheel", "thinCut", "(I)I"⟩, 7) := ⟨⟨by decide +kernel, by decide +kernel⟩, List.mem_of_getElem? (i := 88) (by decide +kernel), List.mem_of_getElem? (i := 205) (by decide +kernel), List.mem_of_getElem? (i := 206) (by decide +kernel)⟩
theorem lw_p4 : lw_okq (⟨"WheelShop$Wheel", "evenCut", "(I)I"⟩, 7) := ⟨⟨by decide +kernel, by decide +kernel⟩, List.mem_of_getElem? (i := 88) (by decide +kernel), List.mem_of_getElem? (i := 209) (by decide +kernel), List.mem_of_getElem? (i := 210) (by decide +kernel)⟩
theorem lw_p5 : lw_okq (⟨"WheelShop", "fillSizes", "()V"⟩, 9) := ⟨⟨by decide +kernel, by decide +kernel⟩, List.mem_of_getElem? (i := 9) (by decide +kernel), List.mem_of_getElem? (i := 241) (by decide +kernel), List.mem_of_getElem? (i := 242) (by decide +kernel)⟩
theorem lw_p6 : lw_okq (⟨"WheelShop$Laws", "between", "(II)I"⟩, 1) := ⟨⟨by decide +kernel, by decide +kernel⟩, List.mem_of_getElem? (i := 19) (by decide +kernel), List.mem_of_getElem? (i := 252) (by decide +kernel), List.mem_of_getElem? (i := 253) (by decide +kernel)⟩
theorem lw_p7 : lw_okq (⟨"WheelShop", "fillKeptSizes", "()V"⟩, 9) := ⟨⟨by decide +kernel, by decide +kernel⟩, List.mem_of_getElem? (i := 9) (by decide +kernel), List.mem_of_getElem? (i := 260) (by decide +kernel), List.mem_of_getElem? (i := 261) (by decide +kernel)⟩
theorem lw_p8 : lw_okq (⟨"WheelShop$Laws", "lowerOnce", "([I)Z"⟩, 1) := ⟨⟨by decide +kernel, by decide +kernel⟩, List.mem_of_getElem? (i := 19) (by decide +kernel), List.mem_of_getElem? (i := 268) (by decide +kernel), List.mem_of_getElem? (i := 269) (by decide +kernel)⟩
theorem lw_p9 : lw_okq (⟨"WheelShop$Spares", "sort", "()V"⟩, 5) := ⟨⟨by decide +kernel, by decide +kernel⟩, List.mem_of_getElem? (i := 31) (by decide +kernel), List.mem_of_getElem? (i := 300) (by decide +kernel), List.mem_of_getElem? (i := 301) (by decide +kernel)⟩
theorem lw_p10 : lw_okq (⟨"WheelShop$Spares", "pairLastTwo", "(II)V"⟩, 5) := ⟨⟨by decide +kernel, by decide +kernel⟩, List.mem_of_getElem? (i := 31) (by decide +kernel), List.mem_of_getElem? (i := 304) (by decide +kernel), List.mem_of_getElem? (i := 305) (by decide +kernel)⟩
theorem lw_p11 : lw_okq (⟨"WheelShop$Readings", "narrow", "([I[III)V"⟩, 9) := ⟨⟨by decide +kernel, by decide +kernel⟩, List.mem_of_getElem? (i := 54) (by decide +kernel), List.mem_of_getElem? (i := 339) (by decide +kernel), List.mem_of_getElem? (i := 340) (by decide +kernel)⟩
theorem lw_p12 : lw_okq (⟨"WheelShop$Readings", "contradict", "([I[I)Z"⟩, 9) := ⟨⟨by decide +kernel, by decide +kernel⟩, List.mem_of_getElem? (i := 54) (by decide +kernel), List.mem_of_getElem? (i := 349) (by decide +kernel), List.mem_of_getElem? (i := 350) (by decide +kernel)⟩
theorem lw_p13 : lw_okq (⟨"WheelShop$Readings", "leftOutAt", "(I)I"⟩, 9) := ⟨⟨by decide +kernel, by decide +kernel⟩, List.mem_of_getElem? (i := 54) (by decide +kernel), List.mem_of_getElem? (i := 353) (by decide +kernel), List.mem_of_getElem? (i := 354) (by decide +kernel)⟩
theorem lw_p14 : lw_okq (⟨"WheelShop$Readings", "agreeingFrom", "(II)I"⟩, 9) := ⟨⟨by decide +kernel, by decide +kernel⟩, List.mem_of_getElem? (i := 54) (by decide +kernel), List.mem_of_getElem? (i := 357) (by decide +kernel), List.mem_of_getElem? (i := 358) (by decide +kernel)⟩
theorem lw_p15 : lw_okq (⟨"WheelShop", "flatness", "(LWheelShop$Wheel;)I"⟩, 9) := ⟨⟨by decide +kernel, by decide +kernel⟩, List.mem_of_getElem? (i := 9) (by decide +kernel), List.mem_of_getElem? (i := 385) (by decide +kernel), List.mem_of_getElem? (i := 386) (by decide +kernel)⟩
def lw_privs_1 : List (MethodName × Nat) := [(⟨"WheelShop$Wheel", "fullCut", "()I"⟩, 7), (⟨"WheelShop$Wheel", "greatestDepth", "()I"⟩, 7), (⟨"WheelShop$Wheel", "leastDepth", "()I"⟩, 7), (⟨"WheelShop$Wheel", "thinCut", "(I)I"⟩, 7), (⟨"WheelShop$Wheel", "evenCut", "(I)I"⟩, 7), (⟨"WheelShop", "fillSizes", "()V"⟩, 9), (⟨"WheelShop$Laws", "between", "(II)I"⟩, 1), (⟨"WheelShop", "fillKeptSizes", "()V"⟩, 9), (⟨"WheelShop$Laws", "lowerOnce", "([I)Z"⟩, 1), (⟨"WheelShop$Spares", "sort", "()V"⟩, 5), (⟨"WheelShop$Spares", "pairLastTwo", "(II)V"⟩, 5), (⟨"WheelShop$Readings", "narrow", "([I[III)V"⟩, 9), (⟨"WheelShop$Readings", "contradict", "([I[I)Z"⟩, 9), (⟨"WheelShop$Readings", "leftOutAt", "(I)I"⟩, 9), (⟨"WheelShop$Readings", "agreeingFrom", "(II)I"⟩, 9), (⟨"WheelShop", "flatness", "(LWheelShop$Wheel;)I"⟩, 9)]
theorem lw_r1 : ∀ q ∈ lw_privs_1, lw_okq q := List.forall_mem_cons.mpr ⟨lw_p0, List.forall_mem_cons.mpr ⟨lw_p1, List.forall_mem_cons.mpr ⟨lw_p2, List.forall_mem_cons.mpr ⟨lw_p3, List.forall_mem_cons.mpr ⟨lw_p4, List.forall_mem_cons.mpr ⟨lw_p5, List.forall_mem_cons.mpr ⟨lw_p6, List.forall_mem_cons.mpr ⟨lw_p7, List.forall_mem_cons.mpr ⟨lw_p8, List.forall_mem_cons.mpr ⟨lw_p9, List.forall_mem_cons.mpr ⟨lw_p10, List.forall_mem_cons.mpr ⟨lw_p11, List.forall_mem_cons.mpr ⟨lw_p12, List.forall_mem_cons.mpr ⟨lw_p13, List.forall_mem_cons.mpr ⟨lw_p14, List.forall_mem_cons.mpr ⟨lw_p15, fun _ h => absurd h List.not_mem_nil⟩⟩⟩⟩⟩⟩⟩⟩⟩⟩⟩⟩⟩⟩⟩⟩
theorem lw_p16 : lw_okq (⟨"WheelShop", "flatWheels", "()I"⟩, 9) := ⟨⟨by decide +kernel, by decide +kernel⟩, List.mem_of_getElem? (i := 9) (by decide +kernel), List.mem_of_getElem? (i := 413) (by decide +kernel), List.mem_of_getElem? (i := 414) (by decide +kernel)⟩
theorem lw_p17 : lw_okq (⟨"WheelShopModel", "cutOf", "(II)I"⟩, 23) := ⟨⟨by decide +kernel, by decide +kernel⟩, List.mem_of_getElem? (i := 421) (by decide +kernel), List.mem_of_getElem? (i := 529) (by decide +kernel), List.mem_of_getElem? (i := 530) (by decide +kernel)⟩
theorem lw_p18 : lw_okq (⟨"WheelShopModel", "most", "(I)I"⟩, 23) := ⟨⟨by decide +kernel, by decide +kernel⟩, List.mem_of_getElem? (i := 421) (by decide +kernel), List.mem_of_getElem? (i := 533) (by decide +kernel), List.mem_of_getElem? (i := 534) (by decide +kernel)⟩
theorem lw_p19 : lw_okq (⟨"WheelShopModel", "least", "(I)I"⟩, 23) := ⟨⟨by decide +kernel, by decide +kernel⟩, List.mem_of_getElem? (i := 421) (by decide +kernel), List.mem_of_getElem? (i := 537) (by decide +kernel), List.mem_of_getElem? (i := 538) (by decide +kernel)⟩
theorem lw_p20 : lw_okq (⟨"WheelShopModel", "lawOf", "(II)I"⟩, 23) := ⟨⟨by decide +kernel, by decide +kernel⟩, List.mem_of_getElem? (i := 421) (by decide +kernel), List.mem_of_getElem? (i := 557) (by decide +kernel), List.mem_of_getElem? (i := 558) (by decide +kernel)⟩
theorem lw_p21 : lw_okq (⟨"WheelShopModel", "keeps", "()V"⟩, 23) := ⟨⟨by decide +kernel, by decide +kernel⟩, List.mem_of_getElem? (i := 421) (by decide +kernel), List.mem_of_getElem? (i := 565) (by decide +kernel), List.mem_of_getElem? (i := 566) (by decide +kernel)⟩
theorem lw_p22 : lw_okq (⟨"WheelShopModel", "hands", "()Z"⟩, 23) := ⟨⟨by decide +kernel, by decide +kernel⟩, List.mem_of_getElem? (i := 421) (by decide +kernel), List.mem_of_getElem? (i := 602) (by decide +kernel), List.mem_of_getElem? (i := 603) (by decide +kernel)⟩
theorem lw_p23 : lw_okq (⟨"WheelShopModel", "leftOut", "(I)I"⟩, 23) := ⟨⟨by decide +kernel, by decide +kernel⟩, List.mem_of_getElem? (i := 421) (by decide +kernel), List.mem_of_getElem? (i := 609) (by decide +kernel), List.mem_of_getElem? (i := 610) (by decide +kernel)⟩
theorem lw_p24 : lw_okq (⟨"WheelShopModel", "agree", "(III)I"⟩, 23) := ⟨⟨by decide +kernel, by decide +kernel⟩, List.mem_of_getElem? (i := 421) (by decide +kernel), List.mem_of_getElem? (i := 613) (by decide +kernel), List.mem_of_getElem? (i := 614) (by decide +kernel)⟩
theorem lw_p25 : lw_okq (⟨"WheelShopModel", "isFlat", "(I)Z"⟩, 23) := ⟨⟨by decide +kernel, by decide +kernel⟩, List.mem_of_getElem? (i := 421) (by decide +kernel), List.mem_of_getElem? (i := 621) (by decide +kernel), List.mem_of_getElem? (i := 622) (by decide +kernel)⟩
def lw_privs_2 : List (MethodName × Nat) := [(⟨"WheelShop", "flatWheels", "()I"⟩, 9), (⟨"WheelShopModel", "cutOf", "(II)I"⟩, 23), (⟨"WheelShopModel", "most", "(I)I"⟩, 23), (⟨"WheelShopModel", "least", "(I)I"⟩, 23), (⟨"WheelShopModel", "lawOf", "(II)I"⟩, 23), (⟨"WheelShopModel", "keeps", "()V"⟩, 23), (⟨"WheelShopModel", "hands", "()Z"⟩, 23), (⟨"WheelShopModel", "leftOut", "(I)I"⟩, 23), (⟨"WheelShopModel", "agree", "(III)I"⟩, 23), (⟨"WheelShopModel", "isFlat", "(I)Z"⟩, 23)]
theorem lw_r2 : ∀ q ∈ lw_privs_2, lw_okq q := List.forall_mem_cons.mpr ⟨lw_p16, List.forall_mem_cons.mpr ⟨lw_p17, List.forall_mem_cons.mpr ⟨lw_p18, List.forall_mem_cons.mpr ⟨lw_p19, List.forall_mem_cons.mpr ⟨lw_p20, List.forall_mem_cons.mpr ⟨lw_p21, List.forall_mem_cons.mpr ⟨lw_p22, List.forall_mem_cons.mpr ⟨lw_p23, List.forall_mem_cons.mpr ⟨lw_p24, List.forall_mem_cons.mpr ⟨lw_p25, fun _ h => absurd h List.not_mem_nil⟩⟩⟩⟩⟩⟩⟩⟩⟩⟩
def lw_privs : List (MethodName × Nat) := lw_privs_1 ++ (lw_privs_2)
def lw_tbl : List Cond := k2_sels lw_privs ++ tables_1
theorem lw_privs_ok : ∀ q ∈ lw_privs, lw_okq q := by
  show ∀ q ∈ lw_privs_1 ++ (lw_privs_2), lw_okq q
  exact List.forall_mem_append.mpr ⟨lw_r1, lw_r2⟩
end
section
def RX0 : String := "WheelShop$Laws"
def TX0 : u_T := fun k => match k with
  | _ => ("WheelShop$Laws", "apart", "[I", true)
def tyX0 : Nat → FieldType := fun k => match k with
  | _ => .array .int
abbrev wsX00 : List Cond := u_ws RX0 TX0 1
theorem nmX0 : ∀ a, a < 1 → ∀ b, b < 1 → a ≠ b → (TX0 a).2.1 ≠ (TX0 b).2.1 := by decide +kernel
theorem tyX0_ok : ∀ k, k < 1 → parseFieldDescriptor (TX0 k).2.2.1 = some (tyX0 k) := by decide +kernel
abbrev cX0_init : ByteArray := prog_2_method_1_code
def yX0_init : MethodName := ⟨RX0, "<init>", "()V"⟩
abbrev cX0_between : ByteArray := prog_2_method_2_code
def yX0_between : MethodName := ⟨RX0, "between", "(II)I"⟩
abbrev cX0_brokenPairs : ByteArray := prog_2_method_3_code
def yX0_brokenPairs : MethodName := ⟨RX0, "brokenPairs", "([I)I"⟩
abbrev cX0_lower : ByteArray := prog_2_method_4_code
def yX0_lower : MethodName := ⟨RX0, "lower", "([I)V"⟩
abbrev cX0_lowerOnce : ByteArray := prog_2_method_5_code
def yX0_lowerOnce : MethodName := ⟨RX0, "lowerOnce", "([I)Z"⟩
def RX1 : String := "WheelShop$Readings"
def TX1 : u_T := fun k => match k with
  | 0 => ("WheelShop$Readings", "told", "I", false)
  | 1 => ("WheelShop$Readings", "wheelOf", "[I", true)
  | 2 => ("WheelShop$Readings", "byOf", "[I", true)
  | 3 => ("WheelShop$Readings", "sizeOf", "[I", true)
  | 4 => ("WheelShop$Readings", "handLow", "[I", true)
  | 5 => ("WheelShop$Readings", "handHigh", "[I", true)
  | 6 => ("WheelShop$Readings", "readerLow", "[I", true)
  | 7 => ("WheelShop$Readings", "readerHigh", "[I", true)
  | _ => ("WheelShop$Readings", "mostAgreeing", "[I", true)
def tyX1 : Nat → FieldType := fun k => match k with
  | 0 => .int
  | 1 => .array .int
  | 2 => .array .int
  | 3 => .array .int
  | 4 => .array .int
  | 5 => .array .int
  | 6 => .array .int
  | 7 => .array .int
  | _ => .array .int
abbrev wsX10 : List Cond := u_ws RX1 TX1 9
theorem nmX1 : ∀ a, a < 9 → ∀ b, b < 9 → a ≠ b → (TX1 a).2.1 ≠ (TX1 b).2.1 := by decide +kernel
theorem tyX1_ok : ∀ k, k < 9 → parseFieldDescriptor (TX1 k).2.2.1 = some (tyX1 k) := by decide +kernel
abbrev cX1_init : ByteArray := prog_3_method_1_code
def yX1_init : MethodName := ⟨RX1, "<init>", "()V"⟩
abbrev cX1_tell : ByteArray := prog_3_method_2_code
def yX1_tell : MethodName := ⟨RX1, "tell", "(III)V"⟩
abbrev cX1_fillBounds : ByteArray := prog_3_method_3_code
def yX1_fillBounds : MethodName := ⟨RX1, "fillBounds", "()V"⟩
abbrev cX1_narrow : ByteArray := prog_3_method_4_code
def yX1_narrow : MethodName := ⟨RX1, "narrow", "([I[III)V"⟩
abbrev cX1_contradict : ByteArray := prog_3_method_5_code
def yX1_contradict : MethodName := ⟨RX1, "contradict", "([I[I)Z"⟩
abbrev cX1_leastOffset : ByteArray := prog_3_method_6_code
def yX1_leastOffset : MethodName := ⟨RX1, "leastOffset", "()I"⟩
abbrev cX1_greatestOffset : ByteArray := prog_3_method_7_code
def yX1_greatestOffset : MethodName := ⟨RX1, "greatestOffset", "()I"⟩
abbrev cX1_agreeingOffsets : ByteArray := prog_3_method_8_code
def yX1_agreeingOffsets : MethodName := ⟨RX1, "agreeingOffsets", "()I"⟩
abbrev cX1_fewestLeftOut : ByteArray := prog_3_method_9_code
def yX1_fewestLeftOut : MethodName := ⟨RX1, "fewestLeftOut", "()I"⟩
abbrev cX1_leftOutAt : ByteArray := prog_3_method_10_code
def yX1_leftOutAt : MethodName := ⟨RX1, "leftOutAt", "(I)I"⟩
abbrev cX1_agreeingFrom : ByteArray := prog_3_method_11_code
def yX1_agreeingFrom : MethodName := ⟨RX1, "agreeingFrom", "(II)I"⟩
def RX2 : String := "WheelShop$Spares"
def TX2 : u_T := fun k => match k with
  | 0 => ("WheelShop$Spares", "held", "I", false)
  | 1 => ("WheelShop$Spares", "sizes", "[I", true)
  | 2 => ("WheelShop$Spares", "sorted", "[I", true)
  | 3 => ("WheelShop$Spares", "pairsOf", "[I", true)
  | _ => ("WheelShop$Spares", "sumOf", "[I", true)
def tyX2 : Nat → FieldType := fun k => match k with
  | 0 => .int
  | 1 => .array .int
  | 2 => .array .int
  | 3 => .array .int
  | _ => .array .int
abbrev wsX20 : List Cond := u_ws RX2 TX2 5
theorem nmX2 : ∀ a, a < 5 → ∀ b, b < 5 → a ≠ b → (TX2 a).2.1 ≠ (TX2 b).2.1 := by decide +kernel
theorem tyX2_ok : ∀ k, k < 5 → parseFieldDescriptor (TX2 k).2.2.1 = some (tyX2 k) := by decide +kernel
abbrev cX2_init : ByteArray := prog_4_method_1_code
def yX2_init : MethodName := ⟨RX2, "<init>", "()V"⟩
abbrev cX2_store : ByteArray := prog_4_method_2_code
def yX2_store : MethodName := ⟨RX2, "store", "(I)I"⟩
abbrev cX2_bestPairs : ByteArray := prog_4_method_3_code
def yX2_bestPairs : MethodName := ⟨RX2, "bestPairs", "()I"⟩
abbrev cX2_leastSum : ByteArray := prog_4_method_4_code
def yX2_leastSum : MethodName := ⟨RX2, "leastSum", "()I"⟩
abbrev cX2_pairUp : ByteArray := prog_4_method_5_code
def yX2_pairUp : MethodName := ⟨RX2, "pairUp", "(I)V"⟩
abbrev cX2_pairLastTwo : ByteArray := prog_4_method_6_code
def yX2_pairLastTwo : MethodName := ⟨RX2, "pairLastTwo", "(II)V"⟩
abbrev cX2_sort : ByteArray := prog_4_method_7_code
def yX2_sort : MethodName := ⟨RX2, "sort", "()V"⟩
def RX3 : String := "WheelShop$Wheel"
def TX3 : u_T := fun k => match k with
  | 0 => ("WheelShop$Wheel", "depths", "[I", true)
  | 1 => ("WheelShop$Wheel", "size", "I", false)
  | 2 => ("WheelShop$Wheel", "wear", "I", false)
  | 3 => ("WheelShop$Wheel", "road", "I", false)
  | 4 => ("WheelShop$Wheel", "blows", "[I", true)
  | 5 => ("WheelShop$Wheel", "blowsKept", "I", false)
  | _ => ("WheelShop$Wheel", "oldestBlow", "I", false)
def tyX3 : Nat → FieldType := fun k => match k with
  | 0 => .array .int
  | 1 => .int
  | 2 => .int
  | 3 => .int
  | 4 => .array .int
  | 5 => .int
  | _ => .int
abbrev wsX30 : List Cond := u_ws RX3 TX3 7
theorem nmX3 : ∀ a, a < 7 → ∀ b, b < 7 → a ≠ b → (TX3 a).2.1 ≠ (TX3 b).2.1 := by decide +kernel
theorem tyX3_ok : ∀ k, k < 7 → parseFieldDescriptor (TX3 k).2.2.1 = some (tyX3 k) := by decide +kernel
abbrev cX3_init : ByteArray := prog_5_method_1_code
def yX3_init : MethodName := ⟨RX3, "<init>", "()V"⟩
abbrev cX3_neededCut : ByteArray := prog_5_method_2_code
def yX3_neededCut : MethodName := ⟨RX3, "neededCut", "(II)I"⟩
abbrev cX3_fullCut : ByteArray := prog_5_method_3_code
def yX3_fullCut : MethodName := ⟨RX3, "fullCut", "()I"⟩
abbrev cX3_thinCut : ByteArray := prog_5_method_4_code
def yX3_thinCut : MethodName := ⟨RX3, "thinCut", "(I)I"⟩
abbrev cX3_evenCut : ByteArray := prog_5_method_5_code
def yX3_evenCut : MethodName := ⟨RX3, "evenCut", "(I)I"⟩
abbrev cX3_greatestDepth : ByteArray := prog_5_method_6_code
def yX3_greatestDepth : MethodName := ⟨RX3, "greatestDepth", "()I"⟩
abbrev cX3_leastDepth : ByteArray := prog_5_method_7_code
def yX3_leastDepth : MethodName := ⟨RX3, "leastDepth", "()I"⟩
abbrev cX3_takeOff : ByteArray := prog_5_method_8_code
def yX3_takeOff : MethodName := ⟨RX3, "takeOff", "(I)V"⟩
abbrev cX3_run : ByteArray := prog_5_method_9_code
def yX3_run : MethodName := ⟨RX3, "run", "(I)V"⟩
abbrev cX3_milesLeft : ByteArray := prog_5_method_10_code
def yX3_milesLeft : MethodName := ⟨RX3, "milesLeft", "()I"⟩
abbrev cX3_feel : ByteArray := prog_5_method_11_code
def yX3_feel : MethodName := ⟨RX3, "feel", "(I)V"⟩
abbrev cX3_isFlat : ByteArray := prog_5_method_12_code
def yX3_isFlat : MethodName := ⟨RX3, "isFlat", "(I)Z"⟩
def RX4 : String := "WheelShop"
def TX4 : u_T := fun k => match k with
  | 0 => ("WheelShop", "wheels", "[LWheelShop$Wheel;", true)
  | 1 => ("WheelShop", "laws", "LWheelShop$Laws;", true)
  | 2 => ("WheelShop", "spares", "LWheelShop$Spares;", true)
  | 3 => ("WheelShop", "readings", "LWheelShop$Readings;", true)
  | 4 => ("WheelShop", "sizes", "[I", true)
  | 5 => ("WheelShop", "thinning", "I", false)
  | 6 => ("WheelShop", "bar", "I", false)
  | 7 => ("WheelShop", "turnings", "I", false)
  | _ => ("WheelShop", "trace", "J", false)
def tyX4 : Nat → FieldType := fun k => match k with
  | 0 => .array (.object "WheelShop$Wheel")
  | 1 => .object "WheelShop$Laws"
  | 2 => .object "WheelShop$Spares"
  | 3 => .object "WheelShop$Readings"
  | 4 => .array .int
  | 5 => .int
  | 6 => .int
  | 7 => .int
  | _ => .long
abbrev wsX40 : List Cond := u_ws RX4 TX4 9
theorem nmX4 : ∀ a, a < 9 → ∀ b, b < 9 → a ≠ b → (TX4 a).2.1 ≠ (TX4 b).2.1 := by decide +kernel
theorem tyX4_ok : ∀ k, k < 9 → parseFieldDescriptor (TX4 k).2.2.1 = some (tyX4 k) := by decide +kernel
abbrev cX4_init : ByteArray := prog_1_method_1_code
def yX4_init : MethodName := ⟨RX4, "<init>", "()V"⟩
abbrev cX4_size : ByteArray := prog_1_method_2_code
def yX4_size : MethodName := ⟨RX4, "size", "(II)I"⟩
abbrev cX4_depth : ByteArray := prog_1_method_3_code
def yX4_depth : MethodName := ⟨RX4, "depth", "(III)I"⟩
abbrev cX4_wear : ByteArray := prog_1_method_4_code
def yX4_wear : MethodName := ⟨RX4, "wear", "(II)I"⟩
abbrev cX4_about : ByteArray := prog_1_method_5_code
def yX4_about : MethodName := ⟨RX4, "about", "(II)I"⟩
abbrev cX4_thinning : ByteArray := prog_1_method_6_code
def yX4_thinning : MethodName := ⟨RX4, "thinning", "(I)I"⟩
abbrev cX4_cut : ByteArray := prog_1_method_7_code
def yX4_cut : MethodName := ⟨RX4, "cut", "(II)I"⟩
abbrev cX4_turn : ByteArray := prog_1_method_8_code
def yX4_turn : MethodName := ⟨RX4, "turn", "(II)I"⟩
abbrev cX4_miles : ByteArray := prog_1_method_9_code
def yX4_miles : MethodName := ⟨RX4, "miles", "(I)I"⟩
abbrev cX4_law : ByteArray := prog_1_method_10_code
def yX4_law : MethodName := ⟨RX4, "law", "(II)I"⟩
abbrev cX4_broken : ByteArray := prog_1_method_11_code
def yX4_broken : MethodName := ⟨RX4, "broken", "()I"⟩
abbrev cX4_kept : ByteArray := prog_1_method_12_code
def yX4_kept : MethodName := ⟨RX4, "kept", "(I)I"⟩
abbrev cX4_steel : ByteArray := prog_1_method_13_code
def yX4_steel : MethodName := ⟨RX4, "steel", "()I"⟩
abbrev cX4_even : ByteArray := prog_1_method_14_code
def yX4_even : MethodName := ⟨RX4, "even", "()I"⟩
abbrev cX4_spare : ByteArray := prog_1_method_15_code
def yX4_spare : MethodName := ⟨RX4, "spare", "(I)I"⟩
abbrev cX4_sell : ByteArray := prog_1_method_16_code
def yX4_sell : MethodName := ⟨RX4, "sell", "()I"⟩
abbrev cX4_pairs : ByteArray := prog_1_method_17_code
def yX4_pairs : MethodName := ⟨RX4, "pairs", "(I)I"⟩
abbrev cX4_read : ByteArray := prog_1_method_18_code
def yX4_read : MethodName := ⟨RX4, "read", "(III)I"⟩
abbrev cX4_forget : ByteArray := prog_1_method_19_code
def yX4_forget : MethodName := ⟨RX4, "forget", "()I"⟩
abbrev cX4_offset : ByteArray := prog_1_method_20_code
def yX4_offset : MethodName := ⟨RX4, "offset", "(I)I"⟩
abbrev cX4_pass : ByteArray := prog_1_method_21_code
def yX4_pass : MethodName := ⟨RX4, "pass", "(II)I"⟩
abbrev cX4_bar : ByteArray := prog_1_method_22_code
def yX4_bar : MethodName := ⟨RX4, "bar", "(I)I"⟩
abbrev cX4_flat : ByteArray := prog_1_method_23_code
def yX4_flat : MethodName := ⟨RX4, "flat", "(I)I"⟩
abbrev cX4_look : ByteArray := prog_1_method_24_code
def yX4_look : MethodName := ⟨RX4, "look", "(I)I"⟩
abbrev cX4_due : ByteArray := prog_1_method_25_code
def yX4_due : MethodName := ⟨RX4, "due", "(I)I"⟩
abbrev cX4_count : ByteArray := prog_1_method_26_code
def yX4_count : MethodName := ⟨RX4, "count", "(I)I"⟩
abbrev cX4_trace : ByteArray := prog_1_method_27_code
def yX4_trace : MethodName := ⟨RX4, "trace", "()J"⟩
abbrev cX4_within : ByteArray := prog_1_method_28_code
def yX4_within : MethodName := ⟨RX4, "within", "(III)Z"⟩
abbrev cX4_isWheel : ByteArray := prog_1_method_29_code
def yX4_isWheel : MethodName := ⟨RX4, "isWheel", "(I)Z"⟩
abbrev cX4_isKind : ByteArray := prog_1_method_30_code
def yX4_isKind : MethodName := ⟨RX4, "isKind", "(I)Z"⟩
abbrev cX4_fillSizes : ByteArray := prog_1_method_31_code
def yX4_fillSizes : MethodName := ⟨RX4, "fillSizes", "()V"⟩
abbrev cX4_fillKeptSizes : ByteArray := prog_1_method_32_code
def yX4_fillKeptSizes : MethodName := ⟨RX4, "fillKeptSizes", "()V"⟩
abbrev cX4_flatness : ByteArray := prog_1_method_33_code
def yX4_flatness : MethodName := ⟨RX4, "flatness", "(LWheelShop$Wheel;)I"⟩
abbrev cX4_flatWheels : ByteArray := prog_1_method_34_code
def yX4_flatWheels : MethodName := ⟨RX4, "flatWheels", "()I"⟩
def RX5 : String := "WheelShopModel"
def TX5 : u_T := fun k => match k with
  | 0 => ("WheelShopModel", "thrown", "I", false)
  | 1 => ("WheelShopModel", "trace", "J", false)
  | 2 => ("WheelShopModel", "size", "[I", true)
  | 3 => ("WheelShopModel", "depth", "[I", true)
  | 4 => ("WheelShopModel", "wear", "[I", true)
  | 5 => ("WheelShopModel", "road", "[I", true)
  | 6 => ("WheelShopModel", "thinning", "I", false)
  | 7 => ("WheelShopModel", "turnings", "I", false)
  | 8 => ("WheelShopModel", "laws", "[I", true)
  | 9 => ("WheelShopModel", "kept", "[I", true)
  | 10 => ("WheelShopModel", "spares", "I", false)
  | 11 => ("WheelShopModel", "spare", "[I", true)
  | 12 => ("WheelShopModel", "pairMany", "[I", true)
  | 13 => ("WheelShopModel", "pairSum", "[I", true)
  | 14 => ("WheelShopModel", "readings", "I", false)
  | 15 => ("WheelShopModel", "wheelOf", "[I", true)
  | 16 => ("WheelShopModel", "byOf", "[I", true)
  | 17 => ("WheelShopModel", "told", "[I", true)
  | 18 => ("WheelShopModel", "low", "[I", true)
  | 19 => ("WheelShopModel", "high", "[I", true)
  | 20 => ("WheelShopModel", "passes", "[I", true)
  | 21 => ("WheelShopModel", "blow", "[I", true)
  | _ => ("WheelShopModel", "bar", "I", false)
def tyX5 : Nat → FieldType := fun k => match k with
  | 0 => .int
  | 1 => .long
  | 2 => .array .int
  | 3 => .array .int
  | 4 => .array .int
  | 5 => .array .int
  | 6 => .int
  | 7 => .int
  | 8 => .array .int
  | 9 => .array .int
  | 10 => .int
  | 11 => .array .int
  | 12 => .array .int
  | 13 => .array .int
  | 14 => .int
  | 15 => .array .int
  | 16 => .array .int
  | 17 => .array .int
  | 18 => .array .int
  | 19 => .array .int
  | 20 => .array .int
  | 21 => .array .int
  | _ => .int
abbrev wsX50 : List Cond := u_ws RX5 TX5 23
theorem nmX5 : ∀ a, a < 23 → ∀ b, b < 23 → a ≠ b → (TX5 a).2.1 ≠ (TX5 b).2.1 := by decide +kernel
theorem tyX5_ok : ∀ k, k < 23 → parseFieldDescriptor (TX5 k).2.2.1 = some (tyX5 k) := by decide +kernel
abbrev cX5_init : ByteArray := prog_7_method_1_code
def yX5_init : MethodName := ⟨RX5, "<init>", "()V"⟩
abbrev cX5_in : ByteArray := prog_7_method_3_code
def yX5_in : MethodName := ⟨RX5, "in", "(III)Z"⟩
abbrev cX5_isWheel : ByteArray := prog_7_method_4_code
def yX5_isWheel : MethodName := ⟨RX5, "isWheel", "(I)Z"⟩
abbrev cX5_size : ByteArray := prog_7_method_5_code
def yX5_size : MethodName := ⟨RX5, "size", "(II)I"⟩
abbrev cX5_depth : ByteArray := prog_7_method_6_code
def yX5_depth : MethodName := ⟨RX5, "depth", "(III)I"⟩
abbrev cX5_wear : ByteArray := prog_7_method_7_code
def yX5_wear : MethodName := ⟨RX5, "wear", "(II)I"⟩
abbrev cX5_about : ByteArray := prog_7_method_8_code
def yX5_about : MethodName := ⟨RX5, "about", "(II)I"⟩
abbrev cX5_thinning : ByteArray := prog_7_method_9_code
def yX5_thinning : MethodName := ⟨RX5, "thinning", "(I)I"⟩
abbrev cX5_least : ByteArray := prog_7_method_10_code
def yX5_least : MethodName := ⟨RX5, "least", "(I)I"⟩
abbrev cX5_most : ByteArray := prog_7_method_11_code
def yX5_most : MethodName := ⟨RX5, "most", "(I)I"⟩
abbrev cX5_cutOf : ByteArray := prog_7_method_12_code
def yX5_cutOf : MethodName := ⟨RX5, "cutOf", "(II)I"⟩
abbrev cX5_cut : ByteArray := prog_7_method_13_code
def yX5_cut : MethodName := ⟨RX5, "cut", "(II)I"⟩
abbrev cX5_turn : ByteArray := prog_7_method_14_code
def yX5_turn : MethodName := ⟨RX5, "turn", "(II)I"⟩
abbrev cX5_miles : ByteArray := prog_7_method_15_code
def yX5_miles : MethodName := ⟨RX5, "miles", "(I)I"⟩
abbrev cX5_law : ByteArray := prog_7_method_16_code
def yX5_law : MethodName := ⟨RX5, "law", "(II)I"⟩
abbrev cX5_lawOf : ByteArray := prog_7_method_17_code
def yX5_lawOf : MethodName := ⟨RX5, "lawOf", "(II)I"⟩
abbrev cX5_broken : ByteArray := prog_7_method_18_code
def yX5_broken : MethodName := ⟨RX5, "broken", "()I"⟩
abbrev cX5_keeps : ByteArray := prog_7_method_19_code
def yX5_keeps : MethodName := ⟨RX5, "keeps", "()V"⟩
abbrev cX5_kept : ByteArray := prog_7_method_20_code
def yX5_kept : MethodName := ⟨RX5, "kept", "(I)I"⟩
abbrev cX5_steel : ByteArray := prog_7_method_21_code
def yX5_steel : MethodName := ⟨RX5, "steel", "()I"⟩
abbrev cX5_even : ByteArray := prog_7_method_22_code
def yX5_even : MethodName := ⟨RX5, "even", "()I"⟩
abbrev cX5_spare : ByteArray := prog_7_method_23_code
def yX5_spare : MethodName := ⟨RX5, "spare", "(I)I"⟩
abbrev cX5_sell : ByteArray := prog_7_method_24_code
def yX5_sell : MethodName := ⟨RX5, "sell", "()I"⟩
abbrev cX5_pairs : ByteArray := prog_7_method_25_code
def yX5_pairs : MethodName := ⟨RX5, "pairs", "(I)I"⟩
abbrev cX5_read : ByteArray := prog_7_method_26_code
def yX5_read : MethodName := ⟨RX5, "read", "(III)I"⟩
abbrev cX5_forget : ByteArray := prog_7_method_27_code
def yX5_forget : MethodName := ⟨RX5, "forget", "()I"⟩
abbrev cX5_hands : ByteArray := prog_7_method_28_code
def yX5_hands : MethodName := ⟨RX5, "hands", "()Z"⟩
abbrev cX5_agree : ByteArray := prog_7_method_29_code
def yX5_agree : MethodName := ⟨RX5, "agree", "(III)I"⟩
abbrev cX5_leftOut : ByteArray := prog_7_method_30_code
def yX5_leftOut : MethodName := ⟨RX5, "leftOut", "(I)I"⟩
abbrev cX5_offset : ByteArray := prog_7_method_31_code
def yX5_offset : MethodName := ⟨RX5, "offset", "(I)I"⟩
abbrev cX5_isFlat : ByteArray := prog_7_method_32_code
def yX5_isFlat : MethodName := ⟨RX5, "isFlat", "(I)Z"⟩
abbrev cX5_pass : ByteArray := prog_7_method_33_code
def yX5_pass : MethodName := ⟨RX5, "pass", "(II)I"⟩
abbrev cX5_bar : ByteArray := prog_7_method_34_code
def yX5_bar : MethodName := ⟨RX5, "bar", "(I)I"⟩
abbrev cX5_flat : ByteArray := prog_7_method_35_code
def yX5_flat : MethodName := ⟨RX5, "flat", "(I)I"⟩
abbrev cX5_look : ByteArray := prog_7_method_36_code
def yX5_look : MethodName := ⟨RX5, "look", "(I)I"⟩
abbrev cX5_due : ByteArray := prog_7_method_37_code
def yX5_due : MethodName := ⟨RX5, "due", "(I)I"⟩
abbrev cX5_count : ByteArray := prog_7_method_38_code
def yX5_count : MethodName := ⟨RX5, "count", "(I)I"⟩
abbrev cX5_trace : ByteArray := prog_7_method_39_code
def yX5_trace : MethodName := ⟨RX5, "trace", "()J"⟩
def RJ9 : String := "java/lang/Math"
def TJ9 : u_T := fun k => match k with
  | _ => ("", "", "", false)
def tyJ9 : Nat → FieldType := fun k => match k with
  | _ => .int
abbrev wsJ90 : List Cond := u_ws RJ9 TJ9 0
theorem nmJ9 : ∀ a, a < 0 → ∀ b, b < 0 → a ≠ b → (TJ9 a).2.1 ≠ (TJ9 b).2.1 := by decide +kernel
theorem tyJ9_ok : ∀ k, k < 0 → parseFieldDescriptor (TJ9 k).2.2.1 = some (tyJ9 k) := by decide +kernel
abbrev cJ9_abs_0f7a4 : ByteArray := prog_8_method_59_code
def yJ9_abs_0f7a4 : MethodName := ⟨RJ9, "abs", "(I)I"⟩
abbrev cJ9_max_7cf53 : ByteArray := prog_8_method_65_code
def yJ9_max_7cf53 : MethodName := ⟨RJ9, "max", "(II)I"⟩
abbrev cJ9_min_7cf53 : ByteArray := prog_8_method_69_code
def yJ9_min_7cf53 : MethodName := ⟨RJ9, "min", "(II)I"⟩
def RL : String := "WheelShopLaw"
abbrev cL_law : ByteArray := code
def yL_law : MethodName := ⟨RL, "law", "([I)Z"⟩
abbrev vwCl : List vw_C := [(RX0, TX0, 1), (RX1, TX1, 9), (RX2, TX2, 5), (RX3, TX3, 7), (RX4, TX4, 9), (RX5, TX5, 23)]
end
section
theorem dX0_init_0 : decode cX0_init 0 = .ok (.aload_n 0, 1) := by decide +kernel
theorem dX0_init_1 : decode cX0_init 1 = .ok (.invokespecial 1, 3) := by decide +kernel
theorem dX0_init_4 : decode cX0_init 4 = .ok (.aload_n 0, 1) := by decide +kernel
theorem dX0_init_5 : decode cX0_init 5 = .ok (.iconst 4, 1) := by decide +kernel
theorem dX0_init_6 : decode cX0_init 6 = .ok (.newarray .int, 2) := by decide +kernel
theorem dX0_init_8 : decode cX0_init 8 = .ok (.dup, 1) := by decide +kernel
theorem dX0_init_9 : decode cX0_init 9 = .ok (.iconst 0, 1) := by decide +kernel
theorem dX0_init_10 : decode cX0_init 10 = .ok (.bipush 10, 2) := by decide +kernel
theorem dX0_init_12 : decode cX0_init 12 = .ok (.iastore, 1) := by decide +kernel
theorem dX0_init_13 : decode cX0_init 13 = .ok (.dup, 1) := by decide +kernel
theorem dX0_init_14 : decode cX0_init 14 = .ok (.iconst 1, 1) := by decide +kernel
theorem dX0_init_15 : decode cX0_init 15 = .ok (.bipush 40, 2) := by decide +kernel
theorem dX0_init_17 : decode cX0_init 17 = .ok (.iastore, 1) := by decide +kernel
theorem dX0_init_18 : decode cX0_init 18 = .ok (.dup, 1) := by decide +kernel
theorem dX0_init_19 : decode cX0_init 19 = .ok (.iconst 2, 1) := by decide +kernel
theorem dX0_init_20 : decode cX0_init 20 = .ok (.bipush 80, 2) := by decide +kernel
theorem dX0_init_22 : decode cX0_init 22 = .ok (.iastore, 1) := by decide +kernel
theorem dX0_init_23 : decode cX0_init 23 = .ok (.dup, 1) := by decide +kernel
theorem dX0_init_24 : decode cX0_init 24 = .ok (.iconst 3, 1) := by decide +kernel
theorem dX0_init_25 : decode cX0_init 25 = .ok (.sipush 4000, 3) := by decide +kernel
theorem dX0_init_28 : decode cX0_init 28 = .ok (.iastore, 1) := by decide +kernel
theorem dX0_init_29 : decode cX0_init 29 = .ok (.putfield 7, 3) := by decide +kernel
theorem dX0_init_32 : decode cX0_init 32 = .ok (.return_, 1) := by decide +kernel
theorem dX0_between_0 : decode cX0_between 0 = .ok (.iload_n 1, 1) := by decide +kernel
theorem dX0_between_1 : decode cX0_between 1 = .ok (.iconst 2, 1) := by decide +kernel
theorem dX0_between_2 : decode cX0_between 2 = .ok (.idiv, 1) := by decide +kernel
theorem dX0_between_3 : decode cX0_between 3 = .ok (.iload_n 2, 1) := by decide +kernel
theorem dX0_between_4 : decode cX0_between 4 = .ok (.iconst 2, 1) := by decide +kernel
theorem dX0_between_5 : decode cX0_between 5 = .ok (.idiv, 1) := by decide +kernel
theorem dX0_between_6 : decode cX0_between 6 = .ok (.if_icmp .ne 10, 3) := by decide +kernel
theorem dX0_between_9 : decode cX0_between 9 = .ok (.aload_n 0, 1) := by decide +kernel
theorem dX0_between_10 : decode cX0_between 10 = .ok (.getfield 7, 3) := by decide +kernel
theorem dX0_between_13 : decode cX0_between 13 = .ok (.iconst 0, 1) := by decide +kernel
theorem dX0_between_14 : decode cX0_between 14 = .ok (.iaload, 1) := by decide +kernel
theorem dX0_between_15 : decode cX0_between 15 = .ok (.ireturn, 1) := by decide +kernel
theorem dX0_between_16 : decode cX0_between 16 = .ok (.iload_n 1, 1) := by decide +kernel
theorem dX0_between_17 : decode cX0_between 17 = .ok (.iconst 4, 1) := by decide +kernel
theorem dX0_between_18 : decode cX0_between 18 = .ok (.idiv, 1) := by decide +kernel
theorem dX0_between_19 : decode cX0_between 19 = .ok (.iload_n 2, 1) := by decide +kernel
theorem dX0_between_20 : decode cX0_between 20 = .ok (.iconst 4, 1) := by decide +kernel
theorem dX0_between_21 : decode cX0_between 21 = .ok (.idiv, 1) := by decide +kernel
theorem dX0_between_22 : decode cX0_between 22 = .ok (.if_icmp .ne 10, 3) := by decide +kernel
theorem dX0_between_25 : decode cX0_between 25 = .ok (.aload_n 0, 1) := by decide +kernel
theorem dX0_between_26 : decode cX0_between 26 = .ok (.getfield 7, 3) := by decide +kernel
theorem dX0_between_29 : decode cX0_between 29 = .ok (.iconst 1, 1) := by decide +kernel
theorem dX0_between_30 : decode cX0_between 30 = .ok (.iaload, 1) := by decide +kernel
theorem dX0_between_31 : decode cX0_between 31 = .ok (.ireturn, 1) := by decide +kernel
theorem dX0_between_32 : decode cX0_between 32 = .ok (.iload_n 1, 1) := by decide +kernel
theorem dX0_between_33 : decode cX0_between 33 = .ok (.bipush 8, 2) := by decide +kernel
theorem dX0_between_35 : decode cX0_between 35 = .ok (.idiv, 1) := by decide +kernel
theorem dX0_between_36 : decode cX0_between 36 = .ok (.iload_n 2, 1) := by decide +kernel
theorem dX0_between_37 : decode cX0_between 37 = .ok (.bipush 8, 2) := by decide +kernel
theorem dX0_between_39 : decode cX0_between 39 = .ok (.idiv, 1) := by decide +kernel
theorem dX0_between_40 : decode cX0_between 40 = .ok (.if_icmp .ne 12, 3) := by decide +kernel
theorem dX0_between_43 : decode cX0_between 43 = .ok (.aload_n 0, 1) := by decide +kernel
theorem dX0_between_44 : decode cX0_between 44 = .ok (.getfield 7, 3) := by decide +kernel
theorem dX0_between_47 : decode cX0_between 47 = .ok (.iconst 2, 1) := by decide +kernel
theorem dX0_between_48 : decode cX0_between 48 = .ok (.iaload, 1) := by decide +kernel
theorem dX0_between_49 : decode cX0_between 49 = .ok (.goto 9, 3) := by decide +kernel
theorem dX0_between_52 : decode cX0_between 52 = .ok (.aload_n 0, 1) := by decide +kernel
theorem dX0_between_53 : decode cX0_between 53 = .ok (.getfield 7, 3) := by decide +kernel
theorem dX0_between_56 : decode cX0_between 56 = .ok (.iconst 3, 1) := by decide +kernel
theorem dX0_between_57 : decode cX0_between 57 = .ok (.iaload, 1) := by decide +kernel
theorem dX0_between_58 : decode cX0_between 58 = .ok (.ireturn, 1) := by decide +kernel
theorem dX0_brokenPairs_0 : decode cX0_brokenPairs 0 = .ok (.iconst 0, 1) := by decide +kernel
theorem dX0_brokenPairs_1 : decode cX0_brokenPairs 1 = .ok (.istore_n 2, 1) := by decide +kernel
theorem dX0_brokenPairs_2 : decode cX0_brokenPairs 2 = .ok (.iconst 0, 1) := by decide +kernel
theorem dX0_brokenPairs_3 : decode cX0_brokenPairs 3 = .ok (.istore_n 3, 1) := by decide +kernel
theorem dX0_brokenPairs_4 : decode cX0_brokenPairs 4 = .ok (.iload_n 3, 1) := by decide +kernel
theorem dX0_brokenPairs_5 : decode cX0_brokenPairs 5 = .ok (.aload_n 1, 1) := by decide +kernel
theorem dX0_brokenPairs_6 : decode cX0_brokenPairs 6 = .ok (.arraylength, 1) := by decide +kernel
theorem dX0_brokenPairs_7 : decode cX0_brokenPairs 7 = .ok (.if_icmp .ge 51, 3) := by decide +kernel
theorem dX0_brokenPairs_10 : decode cX0_brokenPairs 10 = .ok (.iload_n 3, 1) := by decide +kernel
theorem dX0_brokenPairs_11 : decode cX0_brokenPairs 11 = .ok (.iconst 1, 1) := by decide +kernel
theorem dX0_brokenPairs_12 : decode cX0_brokenPairs 12 = .ok (.iadd, 1) := by decide +kernel
theorem dX0_brokenPairs_13 : decode cX0_brokenPairs 13 = .ok (.istore 4, 2) := by decide +kernel
theorem dX0_brokenPairs_15 : decode cX0_brokenPairs 15 = .ok (.iload 4, 2) := by decide +kernel
theorem dX0_brokenPairs_17 : decode cX0_brokenPairs 17 = .ok (.aload_n 1, 1) := by decide +kernel
theorem dX0_brokenPairs_18 : decode cX0_brokenPairs 18 = .ok (.arraylength, 1) := by decide +kernel
theorem dX0_brokenPairs_19 : decode cX0_brokenPairs 19 = .ok (.if_icmp .ge 33, 3) := by decide +kernel
theorem dX0_brokenPairs_22 : decode cX0_brokenPairs 22 = .ok (.aload_n 1, 1) := by decide +kernel
theorem dX0_brokenPairs_23 : decode cX0_brokenPairs 23 = .ok (.iload_n 3, 1) := by decide +kernel
theorem dX0_brokenPairs_24 : decode cX0_brokenPairs 24 = .ok (.iaload, 1) := by decide +kernel
theorem dX0_brokenPairs_25 : decode cX0_brokenPairs 25 = .ok (.aload_n 1, 1) := by decide +kernel
theorem dX0_brokenPairs_26 : decode cX0_brokenPairs 26 = .ok (.iload 4, 2) := by decide +kernel
theorem dX0_brokenPairs_28 : decode cX0_brokenPairs 28 = .ok (.iaload, 1) := by decide +kernel
theorem dX0_brokenPairs_29 : decode cX0_brokenPairs 29 = .ok (.isub, 1) := by decide +kernel
theorem dX0_brokenPairs_30 : decode cX0_brokenPairs 30 = .ok (.invokestatic 13, 3) := by decide +kernel
theorem dX0_brokenPairs_33 : decode cX0_brokenPairs 33 = .ok (.aload_n 0, 1) := by decide +kernel
theorem dX0_brokenPairs_34 : decode cX0_brokenPairs 34 = .ok (.iload_n 3, 1) := by decide +kernel
theorem dX0_brokenPairs_35 : decode cX0_brokenPairs 35 = .ok (.iload 4, 2) := by decide +kernel
theorem dX0_brokenPairs_37 : decode cX0_brokenPairs 37 = .ok (.invokevirtual 19, 3) := by decide +kernel
theorem dX0_brokenPairs_40 : decode cX0_brokenPairs 40 = .ok (.if_icmp .le 6, 3) := by decide +kernel
theorem dX0_brokenPairs_43 : decode cX0_brokenPairs 43 = .ok (.iinc 2 1, 3) := by decide +kernel
theorem dX0_brokenPairs_46 : decode cX0_brokenPairs 46 = .ok (.iinc 4 1, 3) := by decide +kernel
theorem dX0_brokenPairs_49 : decode cX0_brokenPairs 49 = .ok (.goto (-34), 3) := by decide +kernel
theorem dX0_brokenPairs_52 : decode cX0_brokenPairs 52 = .ok (.iinc 3 1, 3) := by decide +kernel
theorem dX0_brokenPairs_55 : decode cX0_brokenPairs 55 = .ok (.goto (-51), 3) := by decide +kernel
theorem dX0_brokenPairs_58 : decode cX0_brokenPairs 58 = .ok (.iload_n 2, 1) := by decide +kernel
theorem dX0_brokenPairs_59 : decode cX0_brokenPairs 59 = .ok (.ireturn, 1) := by decide +kernel
theorem dX0_lower_0 : decode cX0_lower 0 = .ok (.iconst 1, 1) := by decide +kernel
theorem dX0_lower_1 : decode cX0_lower 1 = .ok (.istore_n 2, 1) := by decide +kernel
theorem dX0_lower_2 : decode cX0_lower 2 = .ok (.iconst 0, 1) := by decide +kernel
theorem dX0_lower_3 : decode cX0_lower 3 = .ok (.istore_n 3, 1) := by decide +kernel
theorem dX0_lower_4 : decode cX0_lower 4 = .ok (.iload_n 2, 1) := by decide +kernel
theorem dX0_lower_5 : decode cX0_lower 5 = .ok (.ifCond .eq 21, 3) := by decide +kernel
theorem dX0_lower_8 : decode cX0_lower 8 = .ok (.iload_n 3, 1) := by decide +kernel
theorem dX0_lower_9 : decode cX0_lower 9 = .ok (.aload_n 1, 1) := by decide +kernel
theorem dX0_lower_10 : decode cX0_lower 10 = .ok (.arraylength, 1) := by decide +kernel
theorem dX0_lower_11 : decode cX0_lower 11 = .ok (.if_icmp .ge 15, 3) := by decide +kernel
theorem dX0_lower_14 : decode cX0_lower 14 = .ok (.aload_n 0, 1) := by decide +kernel
theorem dX0_lower_15 : decode cX0_lower 15 = .ok (.aload_n 1, 1) := by decide +kernel
theorem dX0_lower_16 : decode cX0_lower 16 = .ok (.invokevirtual 23, 3) := by decide +kernel
theorem dX0_lower_19 : decode cX0_lower 19 = .ok (.istore_n 2, 1) := by decide +kernel
theorem dX0_lower_20 : decode cX0_lower 20 = .ok (.iinc 3 1, 3) := by decide +kernel
theorem dX0_lower_23 : decode cX0_lower 23 = .ok (.goto (-19), 3) := by decide +kernel
theorem dX0_lower_26 : decode cX0_lower 26 = .ok (.return_, 1) := by decide +kernel
theorem dX0_lowerOnce_0 : decode cX0_lowerOnce 0 = .ok (.iconst 0, 1) := by decide +kernel
theorem dX0_lowerOnce_1 : decode cX0_lowerOnce 1 = .ok (.istore_n 2, 1) := by decide +kernel
theorem dX0_lowerOnce_2 : decode cX0_lowerOnce 2 = .ok (.iconst 0, 1) := by decide +kernel
theorem dX0_lowerOnce_3 : decode cX0_lowerOnce 3 = .ok (.istore_n 3, 1) := by decide +kernel
theorem dX0_lowerOnce_4 : decode cX0_lowerOnce 4 = .ok (.iload_n 3, 1) := by decide +kernel
theorem dX0_lowerOnce_5 : decode cX0_lowerOnce 5 = .ok (.aload_n 1, 1) := by decide +kernel
theorem dX0_lowerOnce_6 : decode cX0_lowerOnce 6 = .ok (.arraylength, 1) := by decide +kernel
theorem dX0_lowerOnce_7 : decode cX0_lowerOnce 7 = .ok (.if_icmp .ge 54, 3) := by decide +kernel
theorem dX0_lowerOnce_10 : decode cX0_lowerOnce 10 = .ok (.iconst 0, 1) := by decide +kernel
theorem dX0_lowerOnce_11 : decode cX0_lowerOnce 11 = .ok (.istore 4, 2) := by decide +kernel
theorem dX0_lowerOnce_13 : decode cX0_lowerOnce 13 = .ok (.iload 4, 2) := by decide +kernel
theorem dX0_lowerOnce_15 : decode cX0_lowerOnce 15 = .ok (.aload_n 1, 1) := by decide +kernel
theorem dX0_lowerOnce_16 : decode cX0_lowerOnce 16 = .ok (.arraylength, 1) := by decide +kernel
theorem dX0_lowerOnce_17 : decode cX0_lowerOnce 17 = .ok (.if_icmp .ge 38, 3) := by decide +kernel
theorem dX0_lowerOnce_20 : decode cX0_lowerOnce 20 = .ok (.aload_n 1, 1) := by decide +kernel
theorem dX0_lowerOnce_21 : decode cX0_lowerOnce 21 = .ok (.iload 4, 2) := by decide +kernel
theorem dX0_lowerOnce_23 : decode cX0_lowerOnce 23 = .ok (.iaload, 1) := by decide +kernel
theorem dX0_lowerOnce_24 : decode cX0_lowerOnce 24 = .ok (.aload_n 0, 1) := by decide +kernel
theorem dX0_lowerOnce_25 : decode cX0_lowerOnce 25 = .ok (.iload_n 3, 1) := by decide +kernel
theorem dX0_lowerOnce_26 : decode cX0_lowerOnce 26 = .ok (.iload 4, 2) := by decide +kernel
theorem dX0_lowerOnce_28 : decode cX0_lowerOnce 28 = .ok (.invokevirtual 19, 3) := by decide +kernel
theorem dX0_lowerOnce_31 : decode cX0_lowerOnce 31 = .ok (.iadd, 1) := by decide +kernel
theorem dX0_lowerOnce_32 : decode cX0_lowerOnce 32 = .ok (.istore 5, 2) := by decide +kernel
theorem dX0_lowerOnce_34 : decode cX0_lowerOnce 34 = .ok (.aload_n 1, 1) := by decide +kernel
theorem dX0_lowerOnce_35 : decode cX0_lowerOnce 35 = .ok (.iload_n 3, 1) := by decide +kernel
theorem dX0_lowerOnce_36 : decode cX0_lowerOnce 36 = .ok (.iaload, 1) := by decide +kernel
theorem dX0_lowerOnce_37 : decode cX0_lowerOnce 37 = .ok (.iload 5, 2) := by decide +kernel
theorem dX0_lowerOnce_39 : decode cX0_lowerOnce 39 = .ok (.if_icmp .le 10, 3) := by decide +kernel
theorem dX0_lowerOnce_42 : decode cX0_lowerOnce 42 = .ok (.aload_n 1, 1) := by decide +kernel
theorem dX0_lowerOnce_43 : decode cX0_lowerOnce 43 = .ok (.iload_n 3, 1) := by decide +kernel
theorem dX0_lowerOnce_44 : decode cX0_lowerOnce 44 = .ok (.iload 5, 2) := by decide +kernel
theorem dX0_lowerOnce_46 : decode cX0_lowerOnce 46 = .ok (.iastore, 1) := by decide +kernel
theorem dX0_lowerOnce_47 : decode cX0_lowerOnce 47 = .ok (.iconst 1, 1) := by decide +kernel
theorem dX0_lowerOnce_48 : decode cX0_lowerOnce 48 = .ok (.istore_n 2, 1) := by decide +kernel
theorem dX0_lowerOnce_49 : decode cX0_lowerOnce 49 = .ok (.iinc 4 1, 3) := by decide +kernel
theorem dX0_lowerOnce_52 : decode cX0_lowerOnce 52 = .ok (.goto (-39), 3) := by decide +kernel
theorem dX0_lowerOnce_55 : decode cX0_lowerOnce 55 = .ok (.iinc 3 1, 3) := by decide +kernel
theorem dX0_lowerOnce_58 : decode cX0_lowerOnce 58 = .ok (.goto (-54), 3) := by decide +kernel
theorem dX0_lowerOnce_61 : decode cX0_lowerOnce 61 = .ok (.iload_n 2, 1) := by decide +kernel
theorem dX0_lowerOnce_62 : decode cX0_lowerOnce 62 = .ok (.ireturn, 1) := by decide +kernel
theorem dX1_init_0 : decode cX1_init 0 = .ok (.aload_n 0, 1) := by decide +kernel
theorem dX1_init_1 : decode cX1_init 1 = .ok (.invokespecial 3, 3) := by decide +kernel
theorem dX1_init_4 : decode cX1_init 4 = .ok (.aload_n 0, 1) := by decide +kernel
theorem dX1_init_5 : decode cX1_init 5 = .ok (.bipush 20, 2) := by decide +kernel
theorem dX1_init_7 : decode cX1_init 7 = .ok (.newarray .int, 2) := by decide +kernel
theorem dX1_init_9 : decode cX1_init 9 = .ok (.putfield 11, 3) := by decide +kernel
theorem dX1_init_12 : decode cX1_init 12 = .ok (.aload_n 0, 1) := by decide +kernel
theorem dX1_init_13 : decode cX1_init 13 = .ok (.bipush 20, 2) := by decide +kernel
theorem dX1_init_15 : decode cX1_init 15 = .ok (.newarray .int, 2) := by decide +kernel
theorem dX1_init_17 : decode cX1_init 17 = .ok (.putfield 15, 3) := by decide +kernel
theorem dX1_init_20 : decode cX1_init 20 = .ok (.aload_n 0, 1) := by decide +kernel
theorem dX1_init_21 : decode cX1_init 21 = .ok (.bipush 20, 2) := by decide +kernel
theorem dX1_init_23 : decode cX1_init 23 = .ok (.newarray .int, 2) := by decide +kernel
theorem dX1_init_25 : decode cX1_init 25 = .ok (.putfield 18, 3) := by decide +kernel
theorem dX1_init_28 : decode cX1_init 28 = .ok (.aload_n 0, 1) := by decide +kernel
theorem dX1_init_29 : decode cX1_init 29 = .ok (.bipush 16, 2) := by decide +kernel
theorem dX1_init_31 : decode cX1_init 31 = .ok (.newarray .int, 2) := by decide +kernel
theorem dX1_init_33 : decode cX1_init 33 = .ok (.putfield 21, 3) := by decide +kernel
theorem dX1_init_36 : decode cX1_init 36 = .ok (.aload_n 0, 1) := by decide +kernel
theorem dX1_init_37 : decode cX1_init 37 = .ok (.bipush 16, 2) := by decide +kernel
theorem dX1_init_39 : decode cX1_init 39 = .ok (.newarray .int, 2) := by decide +kernel
theorem dX1_init_41 : decode cX1_init 41 = .ok (.putfield 24, 3) := by decide +kernel
theorem dX1_init_44 : decode cX1_init 44 = .ok (.aload_n 0, 1) := by decide +kernel
theorem dX1_init_45 : decode cX1_init 45 = .ok (.bipush 16, 2) := by decide +kernel
theorem dX1_init_47 : decode cX1_init 47 = .ok (.newarray .int, 2) := by decide +kernel
theorem dX1_init_49 : decode cX1_init 49 = .ok (.putfield 27, 3) := by decide +kernel
theorem dX1_init_52 : decode cX1_init 52 = .ok (.aload_n 0, 1) := by decide +kernel
theorem dX1_init_53 : decode cX1_init 53 = .ok (.bipush 16, 2) := by decide +kernel
theorem dX1_init_55 : decode cX1_init 55 = .ok (.newarray .int, 2) := by decide +kernel
theorem dX1_init_57 : decode cX1_init 57 = .ok (.putfield 30, 3) := by decide +kernel
theorem dX1_init_60 : decode cX1_init 60 = .ok (.aload_n 0, 1) := by decide +kernel
theorem dX1_init_61 : decode cX1_init 61 = .ok (.bipush 16, 2) := by decide +kernel
theorem dX1_init_63 : decode cX1_init 63 = .ok (.newarray .int, 2) := by decide +kernel
theorem dX1_init_65 : decode cX1_init 65 = .ok (.putfield 33, 3) := by decide +kernel
theorem dX1_init_68 : decode cX1_init 68 = .ok (.return_, 1) := by decide +kernel
theorem dX1_tell_0 : decode cX1_tell 0 = .ok (.aload_n 0, 1) := by decide +kernel
theorem dX1_tell_1 : decode cX1_tell 1 = .ok (.getfield 11, 3) := by decide +kernel
theorem dX1_tell_4 : decode cX1_tell 4 = .ok (.aload_n 0, 1) := by decide +kernel
theorem dX1_tell_5 : decode cX1_tell 5 = .ok (.getfield 36, 3) := by decide +kernel
theorem dX1_tell_8 : decode cX1_tell 8 = .ok (.iload_n 1, 1) := by decide +kernel
theorem dX1_tell_9 : decode cX1_tell 9 = .ok (.iastore, 1) := by decide +kernel
theorem dX1_tell_10 : decode cX1_tell 10 = .ok (.aload_n 0, 1) := by decide +kernel
theorem dX1_tell_11 : decode cX1_tell 11 = .ok (.getfield 15, 3) := by decide +kernel
theorem dX1_tell_14 : decode cX1_tell 14 = .ok (.aload_n 0, 1) := by decide +kernel
theorem dX1_tell_15 : decode cX1_tell 15 = .ok (.getfield 36, 3) := by decide +kernel
theorem dX1_tell_18 : decode cX1_tell 18 = .ok (.iload_n 2, 1) := by decide +kernel
theorem dX1_tell_19 : decode cX1_tell 19 = .ok (.iastore, 1) := by decide +kernel
theorem dX1_tell_20 : decode cX1_tell 20 = .ok (.aload_n 0, 1) := by decide +kernel
theorem dX1_tell_21 : decode cX1_tell 21 = .ok (.getfield 18, 3) := by decide +kernel
theorem dX1_tell_24 : decode cX1_tell 24 = .ok (.aload_n 0, 1) := by decide +kernel
theorem dX1_tell_25 : decode cX1_tell 25 = .ok (.getfield 36, 3) := by decide +kernel
theorem dX1_tell_28 : decode cX1_tell 28 = .ok (.iload_n 3, 1) := by decide +kernel
theorem dX1_tell_29 : decode cX1_tell 29 = .ok (.iastore, 1) := by decide +kernel
theorem dX1_tell_30 : decode cX1_tell 30 = .ok (.aload_n 0, 1) := by decide +kernel
theorem dX1_tell_31 : decode cX1_tell 31 = .ok (.dup, 1) := by decide +kernel
theorem dX1_tell_32 : decode cX1_tell 32 = .ok (.getfield 36, 3) := by decide +kernel
theorem dX1_tell_35 : decode cX1_tell 35 = .ok (.iconst 1, 1) := by decide +kernel
theorem dX1_tell_36 : decode cX1_tell 36 = .ok (.iadd, 1) := by decide +kernel
theorem dX1_tell_37 : decode cX1_tell 37 = .ok (.putfield 36, 3) := by decide +kernel
theorem dX1_tell_40 : decode cX1_tell 40 = .ok (.return_, 1) := by decide +kernel
theorem dX1_fillBounds_0 : decode cX1_fillBounds 0 = .ok (.iconst 0, 1) := by decide +kernel
theorem dX1_fillBounds_1 : decode cX1_fillBounds 1 = .ok (.istore_n 1, 1) := by decide +kernel
theorem dX1_fillBounds_2 : decode cX1_fillBounds 2 = .ok (.iload_n 1, 1) := by decide +kernel
theorem dX1_fillBounds_3 : decode cX1_fillBounds 3 = .ok (.bipush 16, 2) := by decide +kernel
theorem dX1_fillBounds_5 : decode cX1_fillBounds 5 = .ok (.if_icmp .ge 41, 3) := by decide +kernel
theorem dX1_fillBounds_8 : decode cX1_fillBounds 8 = .ok (.aload_n 0, 1) := by decide +kernel
theorem dX1_fillBounds_9 : decode cX1_fillBounds 9 = .ok (.getfield 21, 3) := by decide +kernel
theorem dX1_fillBounds_12 : decode cX1_fillBounds 12 = .ok (.iload_n 1, 1) := by decide +kernel
theorem dX1_fillBounds_13 : decode cX1_fillBounds 13 = .ok (.ldc 40, 2) := by decide +kernel
theorem dX1_fillBounds_15 : decode cX1_fillBounds 15 = .ok (.iastore, 1) := by decide +kernel
theorem dX1_fillBounds_16 : decode cX1_fillBounds 16 = .ok (.aload_n 0, 1) := by decide +kernel
theorem dX1_fillBounds_17 : decode cX1_fillBounds 17 = .ok (.getfield 24, 3) := by decide +kernel
theorem dX1_fillBounds_20 : decode cX1_fillBounds 20 = .ok (.iload_n 1, 1) := by decide +kernel
theorem dX1_fillBounds_21 : decode cX1_fillBounds 21 = .ok (.ldc 41, 2) := by decide +kernel
theorem dX1_fillBounds_23 : decode cX1_fillBounds 23 = .ok (.iastore, 1) := by decide +kernel
theorem dX1_fillBounds_24 : decode cX1_fillBounds 24 = .ok (.aload_n 0, 1) := by decide +kernel
theorem dX1_fillBounds_25 : decode cX1_fillBounds 25 = .ok (.getfield 27, 3) := by decide +kernel
theorem dX1_fillBounds_28 : decode cX1_fillBounds 28 = .ok (.iload_n 1, 1) := by decide +kernel
theorem dX1_fillBounds_29 : decode cX1_fillBounds 29 = .ok (.ldc 40, 2) := by decide +kernel
theorem dX1_fillBounds_31 : decode cX1_fillBounds 31 = .ok (.iastore, 1) := by decide +kernel
theorem dX1_fillBounds_32 : decode cX1_fillBounds 32 = .ok (.aload_n 0, 1) := by decide +kernel
theorem dX1_fillBounds_33 : decode cX1_fillBounds 33 = .ok (.getfield 30, 3) := by decide +kernel
theorem dX1_fillBounds_36 : decode cX1_fillBounds 36 = .ok (.iload_n 1, 1) := by decide +kernel
theorem dX1_fillBounds_37 : decode cX1_fillBounds 37 = .ok (.ldc 41, 2) := by decide +kernel
theorem dX1_fillBounds_39 : decode cX1_fillBounds 39 = .ok (.iastore, 1) := by decide +kernel
theorem dX1_fillBounds_40 : decode cX1_fillBounds 40 = .ok (.iinc 1 1, 3) := by decide +kernel
theorem dX1_fillBounds_43 : decode cX1_fillBounds 43 = .ok (.goto (-41), 3) := by decide +kernel
theorem dX1_fillBounds_46 : decode cX1_fillBounds 46 = .ok (.iconst 0, 1) := by decide +kernel
theorem dX1_fillBounds_47 : decode cX1_fillBounds 47 = .ok (.istore_n 1, 1) := by decide +kernel
theorem dX1_fillBounds_48 : decode cX1_fillBounds 48 = .ok (.iload_n 1, 1) := by decide +kernel
theorem dX1_fillBounds_49 : decode cX1_fillBounds 49 = .ok (.aload_n 0, 1) := by decide +kernel
theorem dX1_fillBounds_50 : decode cX1_fillBounds 50 = .ok (.getfield 36, 3) := by decide +kernel
theorem dX1_fillBounds_53 : decode cX1_fillBounds 53 = .ok (.if_icmp .ge 49, 3) := by decide +kernel
theorem dX1_fillBounds_56 : decode cX1_fillBounds 56 = .ok (.aload_n 0, 1) := by decide +kernel
theorem dX1_fillBounds_57 : decode cX1_fillBounds 57 = .ok (.getfield 15, 3) := by decide +kernel
theorem dX1_fillBounds_60 : decode cX1_fillBounds 60 = .ok (.iload_n 1, 1) := by decide +kernel
theorem dX1_fillBounds_61 : decode cX1_fillBounds 61 = .ok (.iaload, 1) := by decide +kernel
theorem dX1_fillBounds_62 : decode cX1_fillBounds 62 = .ok (.ifCond .ne 20, 3) := by decide +kernel
theorem dX1_fillBounds_65 : decode cX1_fillBounds 65 = .ok (.aload_n 0, 1) := by decide +kernel
theorem dX1_fillBounds_66 : decode cX1_fillBounds 66 = .ok (.aload_n 0, 1) := by decide +kernel
theorem dX1_fillBounds_67 : decode cX1_fillBounds 67 = .ok (.getfield 21, 3) := by decide +kernel
theorem dX1_fillBounds_70 : decode cX1_fillBounds 70 = .ok (.aload_n 0, 1) := by decide +kernel
theorem dX1_fillBounds_71 : decode cX1_fillBounds 71 = .ok (.getfield 24, 3) := by decide +kernel
theorem dX1_fillBounds_74 : decode cX1_fillBounds 74 = .ok (.iload_n 1, 1) := by decide +kernel
theorem dX1_fillBounds_75 : decode cX1_fillBounds 75 = .ok (.iconst 2, 1) := by decide +kernel
theorem dX1_fillBounds_76 : decode cX1_fillBounds 76 = .ok (.invokevirtual 42, 3) := by decide +kernel
theorem dX1_fillBounds_79 : decode cX1_fillBounds 79 = .ok (.goto 17, 3) := by decide +kernel
theorem dX1_fillBounds_82 : decode cX1_fillBounds 82 = .ok (.aload_n 0, 1) := by decide +kernel
theorem dX1_fillBounds_83 : decode cX1_fillBounds 83 = .ok (.aload_n 0, 1) := by decide +kernel
theorem dX1_fillBounds_84 : decode cX1_fillBounds 84 = .ok (.getfield 27, 3) := by decide +kernel
theorem dX1_fillBounds_87 : decode cX1_fillBounds 87 = .ok (.aload_n 0, 1) := by decide +kernel
theorem dX1_fillBounds_88 : decode cX1_fillBounds 88 = .ok (.getfield 30, 3) := by decide +kernel
theorem dX1_fillBounds_91 : decode cX1_fillBounds 91 = .ok (.iload_n 1, 1) := by decide +kernel
theorem dX1_fillBounds_92 : decode cX1_fillBounds 92 = .ok (.iconst 5, 1) := by decide +kernel
theorem dX1_fillBounds_93 : decode cX1_fillBounds 93 = .ok (.invokevirtual 42, 3) := by decide +kernel
theorem dX1_fillBounds_96 : decode cX1_fillBounds 96 = .ok (.iinc 1 1, 3) := by decide +kernel
theorem dX1_fillBounds_99 : decode cX1_fillBounds 99 = .ok (.goto (-51), 3) := by decide +kernel
theorem dX1_fillBounds_102 : decode cX1_fillBounds 102 = .ok (.return_, 1) := by decide +kernel
theorem dX1_narrow_0 : decode cX1_narrow 0 = .ok (.aload_n 0, 1) := by decide +kernel
theorem dX1_narrow_1 : decode cX1_narrow 1 = .ok (.getfield 11, 3) := by decide +kernel
theorem dX1_narrow_4 : decode cX1_narrow 4 = .ok (.iload_n 3, 1) := by decide +kernel
theorem dX1_narrow_5 : decode cX1_narrow 5 = .ok (.iaload, 1) := by decide +kernel
theorem dX1_narrow_6 : decode cX1_narrow 6 = .ok (.istore 5, 2) := by decide +kernel
theorem dX1_narrow_8 : decode cX1_narrow 8 = .ok (.aload_n 1, 1) := by decide +kernel
theorem dX1_narrow_9 : decode cX1_narrow 9 = .ok (.iload 5, 2) := by decide +kernel
theorem dX1_narrow_11 : decode cX1_narrow 11 = .ok (.aload_n 1, 1) := by decide +kernel
theorem dX1_narrow_12 : decode cX1_narrow 12 = .ok (.iload 5, 2) := by decide +kernel
theorem dX1_narrow_14 : decode cX1_narrow 14 = .ok (.iaload, 1) := by decide +kernel
theorem dX1_narrow_15 : decode cX1_narrow 15 = .ok (.aload_n 0, 1) := by decide +kernel
theorem dX1_narrow_16 : decode cX1_narrow 16 = .ok (.getfield 18, 3) := by decide +kernel
theorem dX1_narrow_19 : decode cX1_narrow 19 = .ok (.iload_n 3, 1) := by decide +kernel
theorem dX1_narrow_20 : decode cX1_narrow 20 = .ok (.iaload, 1) := by decide +kernel
theorem dX1_narrow_21 : decode cX1_narrow 21 = .ok (.iload 4, 2) := by decide +kernel
theorem dX1_narrow_23 : decode cX1_narrow 23 = .ok (.isub, 1) := by decide +kernel
theorem dX1_narrow_24 : decode cX1_narrow 24 = .ok (.invokestatic 46, 3) := by decide +kernel
theorem dX1_narrow_27 : decode cX1_narrow 27 = .ok (.iastore, 1) := by decide +kernel
theorem dX1_narrow_28 : decode cX1_narrow 28 = .ok (.aload_n 2, 1) := by decide +kernel
theorem dX1_narrow_29 : decode cX1_narrow 29 = .ok (.iload 5, 2) := by decide +kernel
theorem dX1_narrow_31 : decode cX1_narrow 31 = .ok (.aload_n 2, 1) := by decide +kernel
theorem dX1_narrow_32 : decode cX1_narrow 32 = .ok (.iload 5, 2) := by decide +kernel
theorem dX1_narrow_34 : decode cX1_narrow 34 = .ok (.iaload, 1) := by decide +kernel
theorem dX1_narrow_35 : decode cX1_narrow 35 = .ok (.aload_n 0, 1) := by decide +kernel
theorem dX1_narrow_36 : decode cX1_narrow 36 = .ok (.getfield 18, 3) := by decide +kernel
theorem dX1_narrow_39 : decode cX1_narrow 39 = .ok (.iload_n 3, 1) := by decide +kernel
theorem dX1_narrow_40 : decode cX1_narrow 40 = .ok (.iaload, 1) := by decide +kernel
theorem dX1_narrow_41 : decode cX1_narrow 41 = .ok (.iload 4, 2) := by decide +kernel
theorem dX1_narrow_43 : decode cX1_narrow 43 = .ok (.iadd, 1) := by decide +kernel
theorem dX1_narrow_44 : decode cX1_narrow 44 = .ok (.invokestatic 52, 3) := by decide +kernel
theorem dX1_narrow_47 : decode cX1_narrow 47 = .ok (.iastore, 1) := by decide +kernel
theorem dX1_narrow_48 : decode cX1_narrow 48 = .ok (.return_, 1) := by decide +kernel
theorem dX1_contradict_0 : decode cX1_contradict 0 = .ok (.iconst 0, 1) := by decide +kernel
theorem dX1_contradict_1 : decode cX1_contradict 1 = .ok (.istore_n 3, 1) := by decide +kernel
theorem dX1_contradict_2 : decode cX1_contradict 2 = .ok (.iload_n 3, 1) := by decide +kernel
theorem dX1_contradict_3 : decode cX1_contradict 3 = .ok (.bipush 16, 2) := by decide +kernel
theorem dX1_contradict_5 : decode cX1_contradict 5 = .ok (.if_icmp .ge 20, 3) := by decide +kernel
theorem dX1_contradict_8 : decode cX1_contradict 8 = .ok (.aload_n 1, 1) := by decide +kernel
theorem dX1_contradict_9 : decode cX1_contradict 9 = .ok (.iload_n 3, 1) := by decide +kernel
theorem dX1_contradict_10 : decode cX1_contradict 10 = .ok (.iaload, 1) := by decide +kernel
theorem dX1_contradict_11 : decode cX1_contradict 11 = .ok (.aload_n 2, 1) := by decide +kernel
theorem dX1_contradict_12 : decode cX1_contradict 12 = .ok (.iload_n 3, 1) := by decide +kernel
theorem dX1_contradict_13 : decode cX1_contradict 13 = .ok (.iaload, 1) := by decide +kernel
theorem dX1_contradict_14 : decode cX1_contradict 14 = .ok (.if_icmp .le 5, 3) := by decide +kernel
theorem dX1_contradict_17 : decode cX1_contradict 17 = .ok (.iconst 1, 1) := by decide +kernel
theorem dX1_contradict_18 : decode cX1_contradict 18 = .ok (.ireturn, 1) := by decide +kernel
theorem dX1_contradict_19 : decode cX1_contradict 19 = .ok (.iinc 3 1, 3) := by decide +kernel
theorem dX1_contradict_22 : decode cX1_contradict 22 = .ok (.goto (-20), 3) := by decide +kernel
theorem dX1_contradict_25 : decode cX1_contradict 25 = .ok (.iconst 0, 1) := by decide +kernel
theorem dX1_contradict_26 : decode cX1_contradict 26 = .ok (.ireturn, 1) := by decide +kernel
theorem dX1_leastOffset_0 : decode cX1_leastOffset 0 = .ok (.sipush (-200), 3) := by decide +kernel
theorem dX1_leastOffset_3 : decode cX1_leastOffset 3 = .ok (.istore_n 1, 1) := by decide +kernel
theorem dX1_leastOffset_4 : decode cX1_leastOffset 4 = .ok (.iconst 0, 1) := by decide +kernel
theorem dX1_leastOffset_5 : decode cX1_leastOffset 5 = .ok (.istore_n 2, 1) := by decide +kernel
theorem dX1_leastOffset_6 : decode cX1_leastOffset 6 = .ok (.iload_n 2, 1) := by decide +kernel
theorem dX1_leastOffset_7 : decode cX1_leastOffset 7 = .ok (.bipush 16, 2) := by decide +kernel
theorem dX1_leastOffset_9 : decode cX1_leastOffset 9 = .ok (.if_icmp .ge 27, 3) := by decide +kernel
theorem dX1_leastOffset_12 : decode cX1_leastOffset 12 = .ok (.iload_n 1, 1) := by decide +kernel
theorem dX1_leastOffset_13 : decode cX1_leastOffset 13 = .ok (.aload_n 0, 1) := by decide +kernel
theorem dX1_leastOffset_14 : decode cX1_leastOffset 14 = .ok (.getfield 27, 3) := by decide +kernel
theorem dX1_leastOffset_17 : decode cX1_leastOffset 17 = .ok (.iload_n 2, 1) := by decide +kernel
theorem dX1_leastOffset_18 : decode cX1_leastOffset 18 = .ok (.iaload, 1) := by decide +kernel
theorem dX1_leastOffset_19 : decode cX1_leastOffset 19 = .ok (.aload_n 0, 1) := by decide +kernel
theorem dX1_leastOffset_20 : decode cX1_leastOffset 20 = .ok (.getfield 24, 3) := by decide +kernel
theorem dX1_leastOffset_23 : decode cX1_leastOffset 23 = .ok (.iload_n 2, 1) := by decide +kernel
theorem dX1_leastOffset_24 : decode cX1_leastOffset 24 = .ok (.iaload, 1) := by decide +kernel
theorem dX1_leastOffset_25 : decode cX1_leastOffset 25 = .ok (.isub, 1) := by decide +kernel
theorem dX1_leastOffset_26 : decode cX1_leastOffset 26 = .ok (.invokestatic 46, 3) := by decide +kernel
theorem dX1_leastOffset_29 : decode cX1_leastOffset 29 = .ok (.istore_n 1, 1) := by decide +kernel
theorem dX1_leastOffset_30 : decode cX1_leastOffset 30 = .ok (.iinc 2 1, 3) := by decide +kernel
theorem dX1_leastOffset_33 : decode cX1_leastOffset 33 = .ok (.goto (-27), 3) := by decide +kernel
theorem dX1_leastOffset_36 : decode cX1_leastOffset 36 = .ok (.iload_n 1, 1) := by decide +kernel
theorem dX1_leastOffset_37 : decode cX1_leastOffset 37 = .ok (.ireturn, 1) := by decide +kernel
theorem dX1_greatestOffset_0 : decode cX1_greatestOffset 0 = .ok (.sipush 200, 3) := by decide +kernel
theorem dX1_greatestOffset_3 : decode cX1_greatestOffset 3 = .ok (.istore_n 1, 1) := by decide +kernel
theorem dX1_greatestOffset_4 : decode cX1_greatestOffset 4 = .ok (.iconst 0, 1) := by decide +kernel
theorem dX1_greatestOffset_5 : decode cX1_greatestOffset 5 = .ok (.istore_n 2, 1) := by decide +kernel
theorem dX1_greatestOffset_6 : decode cX1_greatestOffset 6 = .ok (.iload_n 2, 1) := by decide +kernel
theorem dX1_greatestOffset_7 : decode cX1_greatestOffset 7 = .ok (.bipush 16, 2) := by decide +kernel
theorem dX1_greatestOffset_9 : decode cX1_greatestOffset 9 = .ok (.if_icmp .ge 27, 3) := by decide +kernel
theorem dX1_greatestOffset_12 : decode cX1_greatestOffset 12 = .ok (.iload_n 1, 1) := by decide +kernel
theorem dX1_greatestOffset_13 : decode cX1_greatestOffset 13 = .ok (.aload_n 0, 1) := by decide +kernel
theorem dX1_greatestOffset_14 : decode cX1_greatestOffset 14 = .ok (.getfield 30, 3) := by decide +kernel
theorem dX1_greatestOffset_17 : decode cX1_greatestOffset 17 = .ok (.iload_n 2, 1) := by decide +kernel
theorem dX1_greatestOffset_18 : decode cX1_greatestOffset 18 = .ok (.iaload, 1) := by decide +kernel
theorem dX1_greatestOffset_19 : decode cX1_greatestOffset 19 = .ok (.aload_n 0, 1) := by decide +kernel
theorem dX1_greatestOffset_20 : decode cX1_greatestOffset 20 = .ok (.getfield 21, 3) := by decide +kernel
theorem dX1_greatestOffset_23 : decode cX1_greatestOffset 23 = .ok (.iload_n 2, 1) := by decide +kernel
theorem dX1_greatestOffset_24 : decode cX1_greatestOffset 24 = .ok (.iaload, 1) := by decide +kernel
theorem dX1_greatestOffset_25 : decode cX1_greatestOffset 25 = .ok (.isub, 1) := by decide +kernel
theorem dX1_greatestOffset_26 : decode cX1_greatestOffset 26 = .ok (.invokestatic 52, 3) := by decide +kernel
theorem dX1_greatestOffset_29 : decode cX1_greatestOffset 29 = .ok (.istore_n 1, 1) := by decide +kernel
theorem dX1_greatestOffset_30 : decode cX1_greatestOffset 30 = .ok (.iinc 2 1, 3) := by decide +kernel
theorem dX1_greatestOffset_33 : decode cX1_greatestOffset 33 = .ok (.goto (-27), 3) := by decide +kernel
theorem dX1_greatestOffset_36 : decode cX1_greatestOffset 36 = .ok (.iload_n 1, 1) := by decide +kernel
theorem dX1_greatestOffset_37 : decode cX1_greatestOffset 37 = .ok (.ireturn, 1) := by decide +kernel
theorem dX1_agreeingOffsets_0 : decode cX1_agreeingOffsets 0 = .ok (.aload_n 0, 1) := by decide +kernel
theorem dX1_agreeingOffsets_1 : decode cX1_agreeingOffsets 1 = .ok (.aload_n 0, 1) := by decide +kernel
theorem dX1_agreeingOffsets_2 : decode cX1_agreeingOffsets 2 = .ok (.getfield 21, 3) := by decide +kernel
theorem dX1_agreeingOffsets_5 : decode cX1_agreeingOffsets 5 = .ok (.aload_n 0, 1) := by decide +kernel
theorem dX1_agreeingOffsets_6 : decode cX1_agreeingOffsets 6 = .ok (.getfield 24, 3) := by decide +kernel
theorem dX1_agreeingOffsets_9 : decode cX1_agreeingOffsets 9 = .ok (.invokevirtual 55, 3) := by decide +kernel
theorem dX1_agreeingOffsets_12 : decode cX1_agreeingOffsets 12 = .ok (.ifCond .ne 18, 3) := by decide +kernel
theorem dX1_agreeingOffsets_15 : decode cX1_agreeingOffsets 15 = .ok (.aload_n 0, 1) := by decide +kernel
theorem dX1_agreeingOffsets_16 : decode cX1_agreeingOffsets 16 = .ok (.aload_n 0, 1) := by decide +kernel
theorem dX1_agreeingOffsets_17 : decode cX1_agreeingOffsets 17 = .ok (.getfield 27, 3) := by decide +kernel
theorem dX1_agreeingOffsets_20 : decode cX1_agreeingOffsets 20 = .ok (.aload_n 0, 1) := by decide +kernel
theorem dX1_agreeingOffsets_21 : decode cX1_agreeingOffsets 21 = .ok (.getfield 30, 3) := by decide +kernel
theorem dX1_agreeingOffsets_24 : decode cX1_agreeingOffsets 24 = .ok (.invokevirtual 55, 3) := by decide +kernel
theorem dX1_agreeingOffsets_27 : decode cX1_agreeingOffsets 27 = .ok (.ifCond .eq 5, 3) := by decide +kernel
theorem dX1_agreeingOffsets_30 : decode cX1_agreeingOffsets 30 = .ok (.iconst 0, 1) := by decide +kernel
theorem dX1_agreeingOffsets_31 : decode cX1_agreeingOffsets 31 = .ok (.ireturn, 1) := by decide +kernel
theorem dX1_agreeingOffsets_32 : decode cX1_agreeingOffsets 32 = .ok (.iconst 0, 1) := by decide +kernel
theorem dX1_agreeingOffsets_33 : decode cX1_agreeingOffsets 33 = .ok (.aload_n 0, 1) := by decide +kernel
theorem dX1_agreeingOffsets_34 : decode cX1_agreeingOffsets 34 = .ok (.invokevirtual 59, 3) := by decide +kernel
theorem dX1_agreeingOffsets_37 : decode cX1_agreeingOffsets 37 = .ok (.aload_n 0, 1) := by decide +kernel
theorem dX1_agreeingOffsets_38 : decode cX1_agreeingOffsets 38 = .ok (.invokevirtual 63, 3) := by decide +kernel
theorem dX1_agreeingOffsets_41 : decode cX1_agreeingOffsets 41 = .ok (.isub, 1) := by decide +kernel
theorem dX1_agreeingOffsets_42 : decode cX1_agreeingOffsets 42 = .ok (.iconst 1, 1) := by decide +kernel
theorem dX1_agreeingOffsets_43 : decode cX1_agreeingOffsets 43 = .ok (.iadd, 1) := by decide +kernel
theorem dX1_agreeingOffsets_44 : decode cX1_agreeingOffsets 44 = .ok (.invokestatic 46, 3) := by decide +kernel
theorem dX1_agreeingOffsets_47 : decode cX1_agreeingOffsets 47 = .ok (.ireturn, 1) := by decide +kernel
theorem dX1_fewestLeftOut_0 : decode cX1_fewestLeftOut 0 = .ok (.aload_n 0, 1) := by decide +kernel
theorem dX1_fewestLeftOut_1 : decode cX1_fewestLeftOut 1 = .ok (.aload_n 0, 1) := by decide +kernel
theorem dX1_fewestLeftOut_2 : decode cX1_fewestLeftOut 2 = .ok (.getfield 21, 3) := by decide +kernel
theorem dX1_fewestLeftOut_5 : decode cX1_fewestLeftOut 5 = .ok (.aload_n 0, 1) := by decide +kernel
theorem dX1_fewestLeftOut_6 : decode cX1_fewestLeftOut 6 = .ok (.getfield 24, 3) := by decide +kernel
theorem dX1_fewestLeftOut_9 : decode cX1_fewestLeftOut 9 = .ok (.invokevirtual 55, 3) := by decide +kernel
theorem dX1_fewestLeftOut_12 : decode cX1_fewestLeftOut 12 = .ok (.ifCond .eq 6, 3) := by decide +kernel
theorem dX1_fewestLeftOut_15 : decode cX1_fewestLeftOut 15 = .ok (.bipush (-9), 2) := by decide +kernel
theorem dX1_fewestLeftOut_17 : decode cX1_fewestLeftOut 17 = .ok (.ireturn, 1) := by decide +kernel
theorem dX1_fewestLeftOut_18 : decode cX1_fewestLeftOut 18 = .ok (.aload_n 0, 1) := by decide +kernel
theorem dX1_fewestLeftOut_19 : decode cX1_fewestLeftOut 19 = .ok (.sipush (-200), 3) := by decide +kernel
theorem dX1_fewestLeftOut_22 : decode cX1_fewestLeftOut 22 = .ok (.invokevirtual 66, 3) := by decide +kernel
theorem dX1_fewestLeftOut_25 : decode cX1_fewestLeftOut 25 = .ok (.istore_n 1, 1) := by decide +kernel
theorem dX1_fewestLeftOut_26 : decode cX1_fewestLeftOut 26 = .ok (.iconst 0, 1) := by decide +kernel
theorem dX1_fewestLeftOut_27 : decode cX1_fewestLeftOut 27 = .ok (.istore_n 2, 1) := by decide +kernel
theorem dX1_fewestLeftOut_28 : decode cX1_fewestLeftOut 28 = .ok (.iload_n 2, 1) := by decide +kernel
theorem dX1_fewestLeftOut_29 : decode cX1_fewestLeftOut 29 = .ok (.aload_n 0, 1) := by decide +kernel
theorem dX1_fewestLeftOut_30 : decode cX1_fewestLeftOut 30 = .ok (.getfield 36, 3) := by decide +kernel
theorem dX1_fewestLeftOut_33 : decode cX1_fewestLeftOut 33 = .ok (.if_icmp .ge 64, 3) := by decide +kernel
theorem dX1_fewestLeftOut_36 : decode cX1_fewestLeftOut 36 = .ok (.aload_n 0, 1) := by decide +kernel
theorem dX1_fewestLeftOut_37 : decode cX1_fewestLeftOut 37 = .ok (.getfield 18, 3) := by decide +kernel
theorem dX1_fewestLeftOut_40 : decode cX1_fewestLeftOut 40 = .ok (.iload_n 2, 1) := by decide +kernel
theorem dX1_fewestLeftOut_41 : decode cX1_fewestLeftOut 41 = .ok (.iaload, 1) := by decide +kernel
theorem dX1_fewestLeftOut_42 : decode cX1_fewestLeftOut 42 = .ok (.iconst 5, 1) := by decide +kernel
theorem dX1_fewestLeftOut_43 : decode cX1_fewestLeftOut 43 = .ok (.isub, 1) := by decide +kernel
theorem dX1_fewestLeftOut_44 : decode cX1_fewestLeftOut 44 = .ok (.aload_n 0, 1) := by decide +kernel
theorem dX1_fewestLeftOut_45 : decode cX1_fewestLeftOut 45 = .ok (.getfield 24, 3) := by decide +kernel
theorem dX1_fewestLeftOut_48 : decode cX1_fewestLeftOut 48 = .ok (.aload_n 0, 1) := by decide +kernel
theorem dX1_fewestLeftOut_49 : decode cX1_fewestLeftOut 49 = .ok (.getfield 11, 3) := by decide +kernel
theorem dX1_fewestLeftOut_52 : decode cX1_fewestLeftOut 52 = .ok (.iload_n 2, 1) := by decide +kernel
theorem dX1_fewestLeftOut_53 : decode cX1_fewestLeftOut 53 = .ok (.iaload, 1) := by decide +kernel
theorem dX1_fewestLeftOut_54 : decode cX1_fewestLeftOut 54 = .ok (.iaload, 1) := by decide +kernel
theorem dX1_fewestLeftOut_55 : decode cX1_fewestLeftOut 55 = .ok (.isub, 1) := by decide +kernel
theorem dX1_fewestLeftOut_56 : decode cX1_fewestLeftOut 56 = .ok (.istore_n 3, 1) := by decide +kernel
theorem dX1_fewestLeftOut_57 : decode cX1_fewestLeftOut 57 = .ok (.aload_n 0, 1) := by decide +kernel
theorem dX1_fewestLeftOut_58 : decode cX1_fewestLeftOut 58 = .ok (.getfield 15, 3) := by decide +kernel
theorem dX1_fewestLeftOut_61 : decode cX1_fewestLeftOut 61 = .ok (.iload_n 2, 1) := by decide +kernel
theorem dX1_fewestLeftOut_62 : decode cX1_fewestLeftOut 62 = .ok (.iaload, 1) := by decide +kernel
theorem dX1_fewestLeftOut_63 : decode cX1_fewestLeftOut 63 = .ok (.iconst 1, 1) := by decide +kernel
theorem dX1_fewestLeftOut_64 : decode cX1_fewestLeftOut 64 = .ok (.if_icmp .ne 27, 3) := by decide +kernel
theorem dX1_fewestLeftOut_67 : decode cX1_fewestLeftOut 67 = .ok (.iload_n 3, 1) := by decide +kernel
theorem dX1_fewestLeftOut_68 : decode cX1_fewestLeftOut 68 = .ok (.sipush (-200), 3) := by decide +kernel
theorem dX1_fewestLeftOut_71 : decode cX1_fewestLeftOut 71 = .ok (.if_icmp .lt 20, 3) := by decide +kernel
theorem dX1_fewestLeftOut_74 : decode cX1_fewestLeftOut 74 = .ok (.iload_n 3, 1) := by decide +kernel
theorem dX1_fewestLeftOut_75 : decode cX1_fewestLeftOut 75 = .ok (.sipush 200, 3) := by decide +kernel
theorem dX1_fewestLeftOut_78 : decode cX1_fewestLeftOut 78 = .ok (.if_icmp .gt 13, 3) := by decide +kernel
theorem dX1_fewestLeftOut_81 : decode cX1_fewestLeftOut 81 = .ok (.iload_n 1, 1) := by decide +kernel
theorem dX1_fewestLeftOut_82 : decode cX1_fewestLeftOut 82 = .ok (.aload_n 0, 1) := by decide +kernel
theorem dX1_fewestLeftOut_83 : decode cX1_fewestLeftOut 83 = .ok (.iload_n 3, 1) := by decide +kernel
theorem dX1_fewestLeftOut_84 : decode cX1_fewestLeftOut 84 = .ok (.invokevirtual 66, 3) := by decide +kernel
theorem dX1_fewestLeftOut_87 : decode cX1_fewestLeftOut 87 = .ok (.invokestatic 52, 3) := by decide +kernel
theorem dX1_fewestLeftOut_90 : decode cX1_fewestLeftOut 90 = .ok (.istore_n 1, 1) := by decide +kernel
theorem dX1_fewestLeftOut_91 : decode cX1_fewestLeftOut 91 = .ok (.iinc 2 1, 3) := by decide +kernel
theorem dX1_fewestLeftOut_94 : decode cX1_fewestLeftOut 94 = .ok (.goto (-66), 3) := by decide +kernel
theorem dX1_fewestLeftOut_97 : decode cX1_fewestLeftOut 97 = .ok (.iload_n 1, 1) := by decide +kernel
theorem dX1_fewestLeftOut_98 : decode cX1_fewestLeftOut 98 = .ok (.ireturn, 1) := by decide +kernel
theorem dX1_leftOutAt_0 : decode cX1_leftOutAt 0 = .ok (.iconst 0, 1) := by decide +kernel
theorem dX1_leftOutAt_1 : decode cX1_leftOutAt 1 = .ok (.istore_n 2, 1) := by decide +kernel
theorem dX1_leftOutAt_2 : decode cX1_leftOutAt 2 = .ok (.iload_n 2, 1) := by decide +kernel
theorem dX1_leftOutAt_3 : decode cX1_leftOutAt 3 = .ok (.bipush 16, 2) := by decide +kernel
theorem dX1_leftOutAt_5 : decode cX1_leftOutAt 5 = .ok (.if_icmp .ge 16, 3) := by decide +kernel
theorem dX1_leftOutAt_8 : decode cX1_leftOutAt 8 = .ok (.aload_n 0, 1) := by decide +kernel
theorem dX1_leftOutAt_9 : decode cX1_leftOutAt 9 = .ok (.getfield 33, 3) := by decide +kernel
theorem dX1_leftOutAt_12 : decode cX1_leftOutAt 12 = .ok (.iload_n 2, 1) := by decide +kernel
theorem dX1_leftOutAt_13 : decode cX1_leftOutAt 13 = .ok (.iconst 0, 1) := by decide +kernel
theorem dX1_leftOutAt_14 : decode cX1_leftOutAt 14 = .ok (.iastore, 1) := by decide +kernel
theorem dX1_leftOutAt_15 : decode cX1_leftOutAt 15 = .ok (.iinc 2 1, 3) := by decide +kernel
theorem dX1_leftOutAt_18 : decode cX1_leftOutAt 18 = .ok (.goto (-16), 3) := by decide +kernel
theorem dX1_leftOutAt_21 : decode cX1_leftOutAt 21 = .ok (.iconst 0, 1) := by decide +kernel
theorem dX1_leftOutAt_22 : decode cX1_leftOutAt 22 = .ok (.istore_n 2, 1) := by decide +kernel
theorem dX1_leftOutAt_23 : decode cX1_leftOutAt 23 = .ok (.iconst 0, 1) := by decide +kernel
theorem dX1_leftOutAt_24 : decode cX1_leftOutAt 24 = .ok (.istore_n 3, 1) := by decide +kernel
theorem dX1_leftOutAt_25 : decode cX1_leftOutAt 25 = .ok (.iload_n 3, 1) := by decide +kernel
theorem dX1_leftOutAt_26 : decode cX1_leftOutAt 26 = .ok (.aload_n 0, 1) := by decide +kernel
theorem dX1_leftOutAt_27 : decode cX1_leftOutAt 27 = .ok (.getfield 36, 3) := by decide +kernel
theorem dX1_leftOutAt_30 : decode cX1_leftOutAt 30 = .ok (.if_icmp .ge 53, 3) := by decide +kernel
theorem dX1_leftOutAt_33 : decode cX1_leftOutAt 33 = .ok (.aload_n 0, 1) := by decide +kernel
theorem dX1_leftOutAt_34 : decode cX1_leftOutAt 34 = .ok (.getfield 15, 3) := by decide +kernel
theorem dX1_leftOutAt_37 : decode cX1_leftOutAt 37 = .ok (.iload_n 3, 1) := by decide +kernel
theorem dX1_leftOutAt_38 : decode cX1_leftOutAt 38 = .ok (.iaload, 1) := by decide +kernel
theorem dX1_leftOutAt_39 : decode cX1_leftOutAt 39 = .ok (.iconst 1, 1) := by decide +kernel
theorem dX1_leftOutAt_40 : decode cX1_leftOutAt 40 = .ok (.if_icmp .ne 37, 3) := by decide +kernel
theorem dX1_leftOutAt_43 : decode cX1_leftOutAt 43 = .ok (.aload_n 0, 1) := by decide +kernel
theorem dX1_leftOutAt_44 : decode cX1_leftOutAt 44 = .ok (.getfield 11, 3) := by decide +kernel
theorem dX1_leftOutAt_47 : decode cX1_leftOutAt 47 = .ok (.iload_n 3, 1) := by decide +kernel
theorem dX1_leftOutAt_48 : decode cX1_leftOutAt 48 = .ok (.iaload, 1) := by decide +kernel
theorem dX1_leftOutAt_49 : decode cX1_leftOutAt 49 = .ok (.istore 4, 2) := by decide +kernel
theorem dX1_leftOutAt_51 : decode cX1_leftOutAt 51 = .ok (.aload_n 0, 1) := by decide +kernel
theorem dX1_leftOutAt_52 : decode cX1_leftOutAt 52 = .ok (.getfield 33, 3) := by decide +kernel
theorem dX1_leftOutAt_55 : decode cX1_leftOutAt 55 = .ok (.iload 4, 2) := by decide +kernel
theorem dX1_leftOutAt_57 : decode cX1_leftOutAt 57 = .ok (.aload_n 0, 1) := by decide +kernel
theorem dX1_leftOutAt_58 : decode cX1_leftOutAt 58 = .ok (.getfield 33, 3) := by decide +kernel
theorem dX1_leftOutAt_61 : decode cX1_leftOutAt 61 = .ok (.iload 4, 2) := by decide +kernel
theorem dX1_leftOutAt_63 : decode cX1_leftOutAt 63 = .ok (.iaload, 1) := by decide +kernel
theorem dX1_leftOutAt_64 : decode cX1_leftOutAt 64 = .ok (.aload_n 0, 1) := by decide +kernel
theorem dX1_leftOutAt_65 : decode cX1_leftOutAt 65 = .ok (.iload_n 3, 1) := by decide +kernel
theorem dX1_leftOutAt_66 : decode cX1_leftOutAt 66 = .ok (.iload_n 1, 1) := by decide +kernel
theorem dX1_leftOutAt_67 : decode cX1_leftOutAt 67 = .ok (.invokevirtual 70, 3) := by decide +kernel
theorem dX1_leftOutAt_70 : decode cX1_leftOutAt 70 = .ok (.invokestatic 46, 3) := by decide +kernel
theorem dX1_leftOutAt_73 : decode cX1_leftOutAt 73 = .ok (.iastore, 1) := by decide +kernel
theorem dX1_leftOutAt_74 : decode cX1_leftOutAt 74 = .ok (.iinc 2 1, 3) := by decide +kernel
theorem dX1_leftOutAt_77 : decode cX1_leftOutAt 77 = .ok (.iinc 3 1, 3) := by decide +kernel
theorem dX1_leftOutAt_80 : decode cX1_leftOutAt 80 = .ok (.goto (-55), 3) := by decide +kernel
theorem dX1_leftOutAt_83 : decode cX1_leftOutAt 83 = .ok (.iconst 0, 1) := by decide +kernel
theorem dX1_leftOutAt_84 : decode cX1_leftOutAt 84 = .ok (.istore_n 3, 1) := by decide +kernel
theorem dX1_leftOutAt_85 : decode cX1_leftOutAt 85 = .ok (.iload_n 3, 1) := by decide +kernel
theorem dX1_leftOutAt_86 : decode cX1_leftOutAt 86 = .ok (.bipush 16, 2) := by decide +kernel
theorem dX1_leftOutAt_88 : decode cX1_leftOutAt 88 = .ok (.if_icmp .ge 18, 3) := by decide +kernel
theorem dX1_leftOutAt_91 : decode cX1_leftOutAt 91 = .ok (.iload_n 2, 1) := by decide +kernel
theorem dX1_leftOutAt_92 : decode cX1_leftOutAt 92 = .ok (.aload_n 0, 1) := by decide +kernel
theorem dX1_leftOutAt_93 : decode cX1_leftOutAt 93 = .ok (.getfield 33, 3) := by decide +kernel
theorem dX1_leftOutAt_96 : decode cX1_leftOutAt 96 = .ok (.iload_n 3, 1) := by decide +kernel
theorem dX1_leftOutAt_97 : decode cX1_leftOutAt 97 = .ok (.iaload, 1) := by decide +kernel
theorem dX1_leftOutAt_98 : decode cX1_leftOutAt 98 = .ok (.isub, 1) := by decide +kernel
theorem dX1_leftOutAt_99 : decode cX1_leftOutAt 99 = .ok (.istore_n 2, 1) := by decide +kernel
theorem dX1_leftOutAt_100 : decode cX1_leftOutAt 100 = .ok (.iinc 3 1, 3) := by decide +kernel
theorem dX1_leftOutAt_103 : decode cX1_leftOutAt 103 = .ok (.goto (-18), 3) := by decide +kernel
theorem dX1_leftOutAt_106 : decode cX1_leftOutAt 106 = .ok (.iload_n 2, 1) := by decide +kernel
theorem dX1_leftOutAt_107 : decode cX1_leftOutAt 107 = .ok (.ireturn, 1) := by decide +kernel
theorem dX1_agreeingFrom_0 : decode cX1_agreeingFrom 0 = .ok (.aload_n 0, 1) := by decide +kernel
theorem dX1_agreeingFrom_1 : decode cX1_agreeingFrom 1 = .ok (.getfield 11, 3) := by decide +kernel
theorem dX1_agreeingFrom_4 : decode cX1_agreeingFrom 4 = .ok (.iload_n 1, 1) := by decide +kernel
theorem dX1_agreeingFrom_5 : decode cX1_agreeingFrom 5 = .ok (.iaload, 1) := by decide +kernel
theorem dX1_agreeingFrom_6 : decode cX1_agreeingFrom 6 = .ok (.istore_n 3, 1) := by decide +kernel
theorem dX1_agreeingFrom_7 : decode cX1_agreeingFrom 7 = .ok (.aload_n 0, 1) := by decide +kernel
theorem dX1_agreeingFrom_8 : decode cX1_agreeingFrom 8 = .ok (.getfield 18, 3) := by decide +kernel
theorem dX1_agreeingFrom_11 : decode cX1_agreeingFrom 11 = .ok (.iload_n 1, 1) := by decide +kernel
theorem dX1_agreeingFrom_12 : decode cX1_agreeingFrom 12 = .ok (.iaload, 1) := by decide +kernel
theorem dX1_agreeingFrom_13 : decode cX1_agreeingFrom 13 = .ok (.iconst 5, 1) := by decide +kernel
theorem dX1_agreeingFrom_14 : decode cX1_agreeingFrom 14 = .ok (.isub, 1) := by decide +kernel
theorem dX1_agreeingFrom_15 : decode cX1_agreeingFrom 15 = .ok (.istore 4, 2) := by decide +kernel
theorem dX1_agreeingFrom_17 : decode cX1_agreeingFrom 17 = .ok (.aload_n 0, 1) := by decide +kernel
theorem dX1_agreeingFrom_18 : decode cX1_agreeingFrom 18 = .ok (.getfield 21, 3) := by decide +kernel
theorem dX1_agreeingFrom_21 : decode cX1_agreeingFrom 21 = .ok (.iload_n 3, 1) := by decide +kernel
theorem dX1_agreeingFrom_22 : decode cX1_agreeingFrom 22 = .ok (.iaload, 1) := by decide +kernel
theorem dX1_agreeingFrom_23 : decode cX1_agreeingFrom 23 = .ok (.iload_n 2, 1) := by decide +kernel
theorem dX1_agreeingFrom_24 : decode cX1_agreeingFrom 24 = .ok (.iadd, 1) := by decide +kernel
theorem dX1_agreeingFrom_25 : decode cX1_agreeingFrom 25 = .ok (.aload_n 0, 1) := by decide +kernel
theorem dX1_agreeingFrom_26 : decode cX1_agreeingFrom 26 = .ok (.getfield 24, 3) := by decide +kernel
theorem dX1_agreeingFrom_29 : decode cX1_agreeingFrom 29 = .ok (.iload_n 3, 1) := by decide +kernel
theorem dX1_agreeingFrom_30 : decode cX1_agreeingFrom 30 = .ok (.iaload, 1) := by decide +kernel
theorem dX1_agreeingFrom_31 : decode cX1_agreeingFrom 31 = .ok (.iload_n 2, 1) := by decide +kernel
theorem dX1_agreeingFrom_32 : decode cX1_agreeingFrom 32 = .ok (.iadd, 1) := by decide +kernel
theorem dX1_agreeingFrom_33 : decode cX1_agreeingFrom 33 = .ok (.iload 4, 2) := by decide +kernel
theorem dX1_agreeingFrom_35 : decode cX1_agreeingFrom 35 = .ok (.invokestatic 52, 3) := by decide +kernel
theorem dX1_agreeingFrom_38 : decode cX1_agreeingFrom 38 = .ok (.invokestatic 46, 3) := by decide +kernel
theorem dX1_agreeingFrom_41 : decode cX1_agreeingFrom 41 = .ok (.istore 5, 2) := by decide +kernel
theorem dX1_agreeingFrom_43 : decode cX1_agreeingFrom 43 = .ok (.iconst 0, 1) := by decide +kernel
theorem dX1_agreeingFrom_44 : decode cX1_agreeingFrom 44 = .ok (.istore 6, 2) := by decide +kernel
theorem dX1_agreeingFrom_46 : decode cX1_agreeingFrom 46 = .ok (.iconst 0, 1) := by decide +kernel
theorem dX1_agreeingFrom_47 : decode cX1_agreeingFrom 47 = .ok (.istore 7, 2) := by decide +kernel
theorem dX1_agreeingFrom_49 : decode cX1_agreeingFrom 49 = .ok (.iload 7, 2) := by decide +kernel
theorem dX1_agreeingFrom_51 : decode cX1_agreeingFrom 51 = .ok (.aload_n 0, 1) := by decide +kernel
theorem dX1_agreeingFrom_52 : decode cX1_agreeingFrom 52 = .ok (.getfield 36, 3) := by decide +kernel
theorem dX1_agreeingFrom_55 : decode cX1_agreeingFrom 55 = .ok (.if_icmp .ge 51, 3) := by decide +kernel
theorem dX1_agreeingFrom_58 : decode cX1_agreeingFrom 58 = .ok (.aload_n 0, 1) := by decide +kernel
theorem dX1_agreeingFrom_59 : decode cX1_agreeingFrom 59 = .ok (.getfield 15, 3) := by decide +kernel
theorem dX1_agreeingFrom_62 : decode cX1_agreeingFrom 62 = .ok (.iload 7, 2) := by decide +kernel
theorem dX1_agreeingFrom_64 : decode cX1_agreeingFrom 64 = .ok (.iaload, 1) := by decide +kernel
theorem dX1_agreeingFrom_65 : decode cX1_agreeingFrom 65 = .ok (.iconst 1, 1) := by decide +kernel
theorem dX1_agreeingFrom_66 : decode cX1_agreeingFrom 66 = .ok (.if_icmp .ne 34, 3) := by decide +kernel
theorem dX1_agreeingFrom_69 : decode cX1_agreeingFrom 69 = .ok (.aload_n 0, 1) := by decide +kernel
theorem dX1_agreeingFrom_70 : decode cX1_agreeingFrom 70 = .ok (.getfield 11, 3) := by decide +kernel
theorem dX1_agreeingFrom_73 : decode cX1_agreeingFrom 73 = .ok (.iload 7, 2) := by decide +kernel
theorem dX1_agreeingFrom_75 : decode cX1_agreeingFrom 75 = .ok (.iaload, 1) := by decide +kernel
theorem dX1_agreeingFrom_76 : decode cX1_agreeingFrom 76 = .ok (.iload_n 3, 1) := by decide +kernel
theorem dX1_agreeingFrom_77 : decode cX1_agreeingFrom 77 = .ok (.if_icmp .ne 23, 3) := by decide +kernel
theorem dX1_agreeingFrom_80 : decode cX1_agreeingFrom 80 = .ok (.aload_n 0, 1) := by decide +kernel
theorem dX1_agreeingFrom_81 : decode cX1_agreeingFrom 81 = .ok (.getfield 18, 3) := by decide +kernel
theorem dX1_agreeingFrom_84 : decode cX1_agreeingFrom 84 = .ok (.iload 7, 2) := by decide +kernel
theorem dX1_agreeingFrom_86 : decode cX1_agreeingFrom 86 = .ok (.iaload, 1) := by decide +kernel
theorem dX1_agreeingFrom_87 : decode cX1_agreeingFrom 87 = .ok (.iload 5, 2) := by decide +kernel
theorem dX1_agreeingFrom_89 : decode cX1_agreeingFrom 89 = .ok (.isub, 1) := by decide +kernel
theorem dX1_agreeingFrom_90 : decode cX1_agreeingFrom 90 = .ok (.invokestatic 73, 3) := by decide +kernel
theorem dX1_agreeingFrom_93 : decode cX1_agreeingFrom 93 = .ok (.iconst 5, 1) := by decide +kernel
theorem dX1_agreeingFrom_94 : decode cX1_agreeingFrom 94 = .ok (.if_icmp .gt 6, 3) := by decide +kernel
theorem dX1_agreeingFrom_97 : decode cX1_agreeingFrom 97 = .ok (.iinc 6 1, 3) := by decide +kernel
theorem dX1_agreeingFrom_100 : decode cX1_agreeingFrom 100 = .ok (.iinc 7 1, 3) := by decide +kernel
theorem dX1_agreeingFrom_103 : decode cX1_agreeingFrom 103 = .ok (.goto (-54), 3) := by decide +kernel
theorem dX1_agreeingFrom_106 : decode cX1_agreeingFrom 106 = .ok (.iload 6, 2) := by decide +kernel
theorem dX1_agreeingFrom_108 : decode cX1_agreeingFrom 108 = .ok (.ireturn, 1) := by decide +kernel
theorem dX2_init_0 : decode cX2_init 0 = .ok (.aload_n 0, 1) := by decide +kernel
theorem dX2_init_1 : decode cX2_init 1 = .ok (.invokespecial 1, 3) := by decide +kernel
theorem dX2_init_4 : decode cX2_init 4 = .ok (.aload_n 0, 1) := by decide +kernel
theorem dX2_init_5 : decode cX2_init 5 = .ok (.bipush 8, 2) := by decide +kernel
theorem dX2_init_7 : decode cX2_init 7 = .ok (.newarray .int, 2) := by decide +kernel
theorem dX2_init_9 : decode cX2_init 9 = .ok (.putfield 9, 3) := by decide +kernel
theorem dX2_init_12 : decode cX2_init 12 = .ok (.aload_n 0, 1) := by decide +kernel
theorem dX2_init_13 : decode cX2_init 13 = .ok (.bipush 8, 2) := by decide +kernel
theorem dX2_init_15 : decode cX2_init 15 = .ok (.newarray .int, 2) := by decide +kernel
theorem dX2_init_17 : decode cX2_init 17 = .ok (.putfield 13, 3) := by decide +kernel
theorem dX2_init_20 : decode cX2_init 20 = .ok (.aload_n 0, 1) := by decide +kernel
theorem dX2_init_21 : decode cX2_init 21 = .ok (.bipush 9, 2) := by decide +kernel
theorem dX2_init_23 : decode cX2_init 23 = .ok (.newarray .int, 2) := by decide +kernel
theorem dX2_init_25 : decode cX2_init 25 = .ok (.putfield 16, 3) := by decide +kernel
theorem dX2_init_28 : decode cX2_init 28 = .ok (.aload_n 0, 1) := by decide +kernel
theorem dX2_init_29 : decode cX2_init 29 = .ok (.bipush 9, 2) := by decide +kernel
theorem dX2_init_31 : decode cX2_init 31 = .ok (.newarray .int, 2) := by decide +kernel
theorem dX2_init_33 : decode cX2_init 33 = .ok (.putfield 19, 3) := by decide +kernel
theorem dX2_init_36 : decode cX2_init 36 = .ok (.return_, 1) := by decide +kernel
theorem dX2_store_0 : decode cX2_store 0 = .ok (.aload_n 0, 1) := by decide +kernel
theorem dX2_store_1 : decode cX2_store 1 = .ok (.getfield 9, 3) := by decide +kernel
theorem dX2_store_4 : decode cX2_store 4 = .ok (.aload_n 0, 1) := by decide +kernel
theorem dX2_store_5 : decode cX2_store 5 = .ok (.getfield 22, 3) := by decide +kernel
theorem dX2_store_8 : decode cX2_store 8 = .ok (.iload_n 1, 1) := by decide +kernel
theorem dX2_store_9 : decode cX2_store 9 = .ok (.iastore, 1) := by decide +kernel
theorem dX2_store_10 : decode cX2_store 10 = .ok (.aload_n 0, 1) := by decide +kernel
theorem dX2_store_11 : decode cX2_store 11 = .ok (.dup, 1) := by decide +kernel
theorem dX2_store_12 : decode cX2_store 12 = .ok (.getfield 22, 3) := by decide +kernel
theorem dX2_store_15 : decode cX2_store 15 = .ok (.iconst 1, 1) := by decide +kernel
theorem dX2_store_16 : decode cX2_store 16 = .ok (.iadd, 1) := by decide +kernel
theorem dX2_store_17 : decode cX2_store 17 = .ok (.putfield 22, 3) := by decide +kernel
theorem dX2_store_20 : decode cX2_store 20 = .ok (.aload_n 0, 1) := by decide +kernel
theorem dX2_store_21 : decode cX2_store 21 = .ok (.getfield 22, 3) := by decide +kernel
theorem dX2_store_24 : decode cX2_store 24 = .ok (.iconst 1, 1) := by decide +kernel
theorem dX2_store_25 : decode cX2_store 25 = .ok (.isub, 1) := by decide +kernel
theorem dX2_store_26 : decode cX2_store 26 = .ok (.ireturn, 1) := by decide +kernel
theorem dX2_bestPairs_0 : decode cX2_bestPairs 0 = .ok (.aload_n 0, 1) := by decide +kernel
theorem dX2_bestPairs_1 : decode cX2_bestPairs 1 = .ok (.getfield 16, 3) := by decide +kernel
theorem dX2_bestPairs_4 : decode cX2_bestPairs 4 = .ok (.aload_n 0, 1) := by decide +kernel
theorem dX2_bestPairs_5 : decode cX2_bestPairs 5 = .ok (.getfield 22, 3) := by decide +kernel
theorem dX2_bestPairs_8 : decode cX2_bestPairs 8 = .ok (.iaload, 1) := by decide +kernel
theorem dX2_bestPairs_9 : decode cX2_bestPairs 9 = .ok (.ireturn, 1) := by decide +kernel
theorem dX2_leastSum_0 : decode cX2_leastSum 0 = .ok (.aload_n 0, 1) := by decide +kernel
theorem dX2_leastSum_1 : decode cX2_leastSum 1 = .ok (.getfield 19, 3) := by decide +kernel
theorem dX2_leastSum_4 : decode cX2_leastSum 4 = .ok (.aload_n 0, 1) := by decide +kernel
theorem dX2_leastSum_5 : decode cX2_leastSum 5 = .ok (.getfield 22, 3) := by decide +kernel
theorem dX2_leastSum_8 : decode cX2_leastSum 8 = .ok (.iaload, 1) := by decide +kernel
theorem dX2_leastSum_9 : decode cX2_leastSum 9 = .ok (.ireturn, 1) := by decide +kernel
theorem dX2_pairUp_0 : decode cX2_pairUp 0 = .ok (.aload_n 0, 1) := by decide +kernel
theorem dX2_pairUp_1 : decode cX2_pairUp 1 = .ok (.invokevirtual 26, 3) := by decide +kernel
theorem dX2_pairUp_4 : decode cX2_pairUp 4 = .ok (.iconst 1, 1) := by decide +kernel
theorem dX2_pairUp_5 : decode cX2_pairUp 5 = .ok (.istore_n 2, 1) := by decide +kernel
theorem dX2_pairUp_6 : decode cX2_pairUp 6 = .ok (.iload_n 2, 1) := by decide +kernel
theorem dX2_pairUp_7 : decode cX2_pairUp 7 = .ok (.aload_n 0, 1) := by decide +kernel
theorem dX2_pairUp_8 : decode cX2_pairUp 8 = .ok (.getfield 22, 3) := by decide +kernel
theorem dX2_pairUp_11 : decode cX2_pairUp 11 = .ok (.if_icmp .gt 85, 3) := by decide +kernel
theorem dX2_pairUp_14 : decode cX2_pairUp 14 = .ok (.aload_n 0, 1) := by decide +kernel
theorem dX2_pairUp_15 : decode cX2_pairUp 15 = .ok (.getfield 16, 3) := by decide +kernel
theorem dX2_pairUp_18 : decode cX2_pairUp 18 = .ok (.iload_n 2, 1) := by decide +kernel
theorem dX2_pairUp_19 : decode cX2_pairUp 19 = .ok (.aload_n 0, 1) := by decide +kernel
theorem dX2_pairUp_20 : decode cX2_pairUp 20 = .ok (.getfield 16, 3) := by decide +kernel
theorem dX2_pairUp_23 : decode cX2_pairUp 23 = .ok (.iload_n 2, 1) := by decide +kernel
theorem dX2_pairUp_24 : decode cX2_pairUp 24 = .ok (.iconst 1, 1) := by decide +kernel
theorem dX2_pairUp_25 : decode cX2_pairUp 25 = .ok (.isub, 1) := by decide +kernel
theorem dX2_pairUp_26 : decode cX2_pairUp 26 = .ok (.iaload, 1) := by decide +kernel
theorem dX2_pairUp_27 : decode cX2_pairUp 27 = .ok (.iastore, 1) := by decide +kernel
theorem dX2_pairUp_28 : decode cX2_pairUp 28 = .ok (.aload_n 0, 1) := by decide +kernel
theorem dX2_pairUp_29 : decode cX2_pairUp 29 = .ok (.getfield 19, 3) := by decide +kernel
theorem dX2_pairUp_32 : decode cX2_pairUp 32 = .ok (.iload_n 2, 1) := by decide +kernel
theorem dX2_pairUp_33 : decode cX2_pairUp 33 = .ok (.aload_n 0, 1) := by decide +kernel
theorem dX2_pairUp_34 : decode cX2_pairUp 34 = .ok (.getfield 19, 3) := by decide +kernel
theorem dX2_pairUp_37 : decode cX2_pairUp 37 = .ok (.iload_n 2, 1) := by decide +kernel
theorem dX2_pairUp_38 : decode cX2_pairUp 38 = .ok (.iconst 1, 1) := by decide +kernel
theorem dX2_pairUp_39 : decode cX2_pairUp 39 = .ok (.isub, 1) := by decide +kernel
theorem dX2_pairUp_40 : decode cX2_pairUp 40 = .ok (.iaload, 1) := by decide +kernel
theorem dX2_pairUp_41 : decode cX2_pairUp 41 = .ok (.iastore, 1) := by decide +kernel
theorem dX2_pairUp_42 : decode cX2_pairUp 42 = .ok (.iload_n 2, 1) := by decide +kernel
theorem dX2_pairUp_43 : decode cX2_pairUp 43 = .ok (.iconst 2, 1) := by decide +kernel
theorem dX2_pairUp_44 : decode cX2_pairUp 44 = .ok (.if_icmp .lt 46, 3) := by decide +kernel
theorem dX2_pairUp_47 : decode cX2_pairUp 47 = .ok (.aload_n 0, 1) := by decide +kernel
theorem dX2_pairUp_48 : decode cX2_pairUp 48 = .ok (.getfield 13, 3) := by decide +kernel
theorem dX2_pairUp_51 : decode cX2_pairUp 51 = .ok (.iload_n 2, 1) := by decide +kernel
theorem dX2_pairUp_52 : decode cX2_pairUp 52 = .ok (.iconst 1, 1) := by decide +kernel
theorem dX2_pairUp_53 : decode cX2_pairUp 53 = .ok (.isub, 1) := by decide +kernel
theorem dX2_pairUp_54 : decode cX2_pairUp 54 = .ok (.iaload, 1) := by decide +kernel
theorem dX2_pairUp_55 : decode cX2_pairUp 55 = .ok (.aload_n 0, 1) := by decide +kernel
theorem dX2_pairUp_56 : decode cX2_pairUp 56 = .ok (.getfield 13, 3) := by decide +kernel
theorem dX2_pairUp_59 : decode cX2_pairUp 59 = .ok (.iload_n 2, 1) := by decide +kernel
theorem dX2_pairUp_60 : decode cX2_pairUp 60 = .ok (.iconst 2, 1) := by decide +kernel
theorem dX2_pairUp_61 : decode cX2_pairUp 61 = .ok (.isub, 1) := by decide +kernel
theorem dX2_pairUp_62 : decode cX2_pairUp 62 = .ok (.iaload, 1) := by decide +kernel
theorem dX2_pairUp_63 : decode cX2_pairUp 63 = .ok (.isub, 1) := by decide +kernel
theorem dX2_pairUp_64 : decode cX2_pairUp 64 = .ok (.iload_n 1, 1) := by decide +kernel
theorem dX2_pairUp_65 : decode cX2_pairUp 65 = .ok (.if_icmp .gt 25, 3) := by decide +kernel
theorem dX2_pairUp_68 : decode cX2_pairUp 68 = .ok (.aload_n 0, 1) := by decide +kernel
theorem dX2_pairUp_69 : decode cX2_pairUp 69 = .ok (.iload_n 2, 1) := by decide +kernel
theorem dX2_pairUp_70 : decode cX2_pairUp 70 = .ok (.aload_n 0, 1) := by decide +kernel
theorem dX2_pairUp_71 : decode cX2_pairUp 71 = .ok (.getfield 13, 3) := by decide +kernel
theorem dX2_pairUp_74 : decode cX2_pairUp 74 = .ok (.iload_n 2, 1) := by decide +kernel
theorem dX2_pairUp_75 : decode cX2_pairUp 75 = .ok (.iconst 1, 1) := by decide +kernel
theorem dX2_pairUp_76 : decode cX2_pairUp 76 = .ok (.isub, 1) := by decide +kernel
theorem dX2_pairUp_77 : decode cX2_pairUp 77 = .ok (.iaload, 1) := by decide +kernel
theorem dX2_pairUp_78 : decode cX2_pairUp 78 = .ok (.aload_n 0, 1) := by decide +kernel
theorem dX2_pairUp_79 : decode cX2_pairUp 79 = .ok (.getfield 13, 3) := by decide +kernel
theorem dX2_pairUp_82 : decode cX2_pairUp 82 = .ok (.iload_n 2, 1) := by decide +kernel
theorem dX2_pairUp_83 : decode cX2_pairUp 83 = .ok (.iconst 2, 1) := by decide +kernel
theorem dX2_pairUp_84 : decode cX2_pairUp 84 = .ok (.isub, 1) := by decide +kernel
theorem dX2_pairUp_85 : decode cX2_pairUp 85 = .ok (.iaload, 1) := by decide +kernel
theorem dX2_pairUp_86 : decode cX2_pairUp 86 = .ok (.isub, 1) := by decide +kernel
theorem dX2_pairUp_87 : decode cX2_pairUp 87 = .ok (.invokevirtual 29, 3) := by decide +kernel
theorem dX2_pairUp_90 : decode cX2_pairUp 90 = .ok (.iinc 2 1, 3) := by decide +kernel
theorem dX2_pairUp_93 : decode cX2_pairUp 93 = .ok (.goto (-87), 3) := by decide +kernel
theorem dX2_pairUp_96 : decode cX2_pairUp 96 = .ok (.return_, 1) := by decide +kernel
theorem dX2_pairLastTwo_0 : decode cX2_pairLastTwo 0 = .ok (.aload_n 0, 1) := by decide +kernel
theorem dX2_pairLastTwo_1 : decode cX2_pairLastTwo 1 = .ok (.getfield 16, 3) := by decide +kernel
theorem dX2_pairLastTwo_4 : decode cX2_pairLastTwo 4 = .ok (.iload_n 1, 1) := by decide +kernel
theorem dX2_pairLastTwo_5 : decode cX2_pairLastTwo 5 = .ok (.iconst 2, 1) := by decide +kernel
theorem dX2_pairLastTwo_6 : decode cX2_pairLastTwo 6 = .ok (.isub, 1) := by decide +kernel
theorem dX2_pairLastTwo_7 : decode cX2_pairLastTwo 7 = .ok (.iaload, 1) := by decide +kernel
theorem dX2_pairLastTwo_8 : decode cX2_pairLastTwo 8 = .ok (.iconst 1, 1) := by decide +kernel
theorem dX2_pairLastTwo_9 : decode cX2_pairLastTwo 9 = .ok (.iadd, 1) := by decide +kernel
theorem dX2_pairLastTwo_10 : decode cX2_pairLastTwo 10 = .ok (.istore_n 3, 1) := by decide +kernel
theorem dX2_pairLastTwo_11 : decode cX2_pairLastTwo 11 = .ok (.aload_n 0, 1) := by decide +kernel
theorem dX2_pairLastTwo_12 : decode cX2_pairLastTwo 12 = .ok (.getfield 19, 3) := by decide +kernel
theorem dX2_pairLastTwo_15 : decode cX2_pairLastTwo 15 = .ok (.iload_n 1, 1) := by decide +kernel
theorem dX2_pairLastTwo_16 : decode cX2_pairLastTwo 16 = .ok (.iconst 2, 1) := by decide +kernel
theorem dX2_pairLastTwo_17 : decode cX2_pairLastTwo 17 = .ok (.isub, 1) := by decide +kernel
theorem dX2_pairLastTwo_18 : decode cX2_pairLastTwo 18 = .ok (.iaload, 1) := by decide +kernel
theorem dX2_pairLastTwo_19 : decode cX2_pairLastTwo 19 = .ok (.iload_n 2, 1) := by decide +kernel
theorem dX2_pairLastTwo_20 : decode cX2_pairLastTwo 20 = .ok (.iadd, 1) := by decide +kernel
theorem dX2_pairLastTwo_21 : decode cX2_pairLastTwo 21 = .ok (.istore 4, 2) := by decide +kernel
theorem dX2_pairLastTwo_23 : decode cX2_pairLastTwo 23 = .ok (.iload_n 3, 1) := by decide +kernel
theorem dX2_pairLastTwo_24 : decode cX2_pairLastTwo 24 = .ok (.aload_n 0, 1) := by decide +kernel
theorem dX2_pairLastTwo_25 : decode cX2_pairLastTwo 25 = .ok (.getfield 16, 3) := by decide +kernel
theorem dX2_pairLastTwo_28 : decode cX2_pairLastTwo 28 = .ok (.iload_n 1, 1) := by decide +kernel
theorem dX2_pairLastTwo_29 : decode cX2_pairLastTwo 29 = .ok (.iaload, 1) := by decide +kernel
theorem dX2_pairLastTwo_30 : decode cX2_pairLastTwo 30 = .ok (.if_icmp .gt 24, 3) := by decide +kernel
theorem dX2_pairLastTwo_33 : decode cX2_pairLastTwo 33 = .ok (.iload_n 3, 1) := by decide +kernel
theorem dX2_pairLastTwo_34 : decode cX2_pairLastTwo 34 = .ok (.aload_n 0, 1) := by decide +kernel
theorem dX2_pairLastTwo_35 : decode cX2_pairLastTwo 35 = .ok (.getfield 16, 3) := by decide +kernel
theorem dX2_pairLastTwo_38 : decode cX2_pairLastTwo 38 = .ok (.iload_n 1, 1) := by decide +kernel
theorem dX2_pairLastTwo_39 : decode cX2_pairLastTwo 39 = .ok (.iaload, 1) := by decide +kernel
theorem dX2_pairLastTwo_40 : decode cX2_pairLastTwo 40 = .ok (.if_icmp .ne 29, 3) := by decide +kernel
theorem dX2_pairLastTwo_43 : decode cX2_pairLastTwo 43 = .ok (.iload 4, 2) := by decide +kernel
theorem dX2_pairLastTwo_45 : decode cX2_pairLastTwo 45 = .ok (.aload_n 0, 1) := by decide +kernel
theorem dX2_pairLastTwo_46 : decode cX2_pairLastTwo 46 = .ok (.getfield 19, 3) := by decide +kernel
theorem dX2_pairLastTwo_49 : decode cX2_pairLastTwo 49 = .ok (.iload_n 1, 1) := by decide +kernel
theorem dX2_pairLastTwo_50 : decode cX2_pairLastTwo 50 = .ok (.iaload, 1) := by decide +kernel
theorem dX2_pairLastTwo_51 : decode cX2_pairLastTwo 51 = .ok (.if_icmp .ge 18, 3) := by decide +kernel
theorem dX2_pairLastTwo_54 : decode cX2_pairLastTwo 54 = .ok (.aload_n 0, 1) := by decide +kernel
theorem dX2_pairLastTwo_55 : decode cX2_pairLastTwo 55 = .ok (.getfield 16, 3) := by decide +kernel
theorem dX2_pairLastTwo_58 : decode cX2_pairLastTwo 58 = .ok (.iload_n 1, 1) := by decide +kernel
theorem dX2_pairLastTwo_59 : decode cX2_pairLastTwo 59 = .ok (.iload_n 3, 1) := by decide +kernel
theorem dX2_pairLastTwo_60 : decode cX2_pairLastTwo 60 = .ok (.iastore, 1) := by decide +kernel
theorem dX2_pairLastTwo_61 : decode cX2_pairLastTwo 61 = .ok (.aload_n 0, 1) := by decide +kernel
theorem dX2_pairLastTwo_62 : decode cX2_pairLastTwo 62 = .ok (.getfield 19, 3) := by decide +kernel
theorem dX2_pairLastTwo_65 : decode cX2_pairLastTwo 65 = .ok (.iload_n 1, 1) := by decide +kernel
theorem dX2_pairLastTwo_66 : decode cX2_pairLastTwo 66 = .ok (.iload 4, 2) := by decide +kernel
theorem dX2_pairLastTwo_68 : decode cX2_pairLastTwo 68 = .ok (.iastore, 1) := by decide +kernel
theorem dX2_pairLastTwo_69 : decode cX2_pairLastTwo 69 = .ok (.return_, 1) := by decide +kernel
theorem dX2_sort_0 : decode cX2_sort 0 = .ok (.iconst 0, 1) := by decide +kernel
theorem dX2_sort_1 : decode cX2_sort 1 = .ok (.istore_n 1, 1) := by decide +kernel
theorem dX2_sort_2 : decode cX2_sort 2 = .ok (.iload_n 1, 1) := by decide +kernel
theorem dX2_sort_3 : decode cX2_sort 3 = .ok (.aload_n 0, 1) := by decide +kernel
theorem dX2_sort_4 : decode cX2_sort 4 = .ok (.getfield 22, 3) := by decide +kernel
theorem dX2_sort_7 : decode cX2_sort 7 = .ok (.if_icmp .ge 64, 3) := by decide +kernel
theorem dX2_sort_10 : decode cX2_sort 10 = .ok (.iload_n 1, 1) := by decide +kernel
theorem dX2_sort_11 : decode cX2_sort 11 = .ok (.istore_n 2, 1) := by decide +kernel
theorem dX2_sort_12 : decode cX2_sort 12 = .ok (.iload_n 2, 1) := by decide +kernel
theorem dX2_sort_13 : decode cX2_sort 13 = .ok (.ifCond .le 40, 3) := by decide +kernel
theorem dX2_sort_16 : decode cX2_sort 16 = .ok (.aload_n 0, 1) := by decide +kernel
theorem dX2_sort_17 : decode cX2_sort 17 = .ok (.getfield 13, 3) := by decide +kernel
theorem dX2_sort_20 : decode cX2_sort 20 = .ok (.iload_n 2, 1) := by decide +kernel
theorem dX2_sort_21 : decode cX2_sort 21 = .ok (.iconst 1, 1) := by decide +kernel
theorem dX2_sort_22 : decode cX2_sort 22 = .ok (.isub, 1) := by decide +kernel
theorem dX2_sort_23 : decode cX2_sort 23 = .ok (.iaload, 1) := by decide +kernel
theorem dX2_sort_24 : decode cX2_sort 24 = .ok (.aload_n 0, 1) := by decide +kernel
theorem dX2_sort_25 : decode cX2_sort 25 = .ok (.getfield 9, 3) := by decide +kernel
theorem dX2_sort_28 : decode cX2_sort 28 = .ok (.iload_n 1, 1) := by decide +kernel
theorem dX2_sort_29 : decode cX2_sort 29 = .ok (.iaload, 1) := by decide +kernel
theorem dX2_sort_30 : decode cX2_sort 30 = .ok (.if_icmp .le 23, 3) := by decide +kernel
theorem dX2_sort_33 : decode cX2_sort 33 = .ok (.aload_n 0, 1) := by decide +kernel
theorem dX2_sort_34 : decode cX2_sort 34 = .ok (.getfield 13, 3) := by decide +kernel
theorem dX2_sort_37 : decode cX2_sort 37 = .ok (.iload_n 2, 1) := by decide +kernel
theorem dX2_sort_38 : decode cX2_sort 38 = .ok (.aload_n 0, 1) := by decide +kernel
theorem dX2_sort_39 : decode cX2_sort 39 = .ok (.getfield 13, 3) := by decide +kernel
theorem dX2_sort_42 : decode cX2_sort 42 = .ok (.iload_n 2, 1) := by decide +kernel
theorem dX2_sort_43 : decode cX2_sort 43 = .ok (.iconst 1, 1) := by decide +kernel
theorem dX2_sort_44 : decode cX2_sort 44 = .ok (.isub, 1) := by decide +kernel
theorem dX2_sort_45 : decode cX2_sort 45 = .ok (.iaload, 1) := by decide +kernel
theorem dX2_sort_46 : decode cX2_sort 46 = .ok (.iastore, 1) := by decide +kernel
theorem dX2_sort_47 : decode cX2_sort 47 = .ok (.iinc 2 (-1), 3) := by decide +kernel
theorem dX2_sort_50 : decode cX2_sort 50 = .ok (.goto (-38), 3) := by decide +kernel
theorem dX2_sort_53 : decode cX2_sort 53 = .ok (.aload_n 0, 1) := by decide +kernel
theorem dX2_sort_54 : decode cX2_sort 54 = .ok (.getfield 13, 3) := by decide +kernel
theorem dX2_sort_57 : decode cX2_sort 57 = .ok (.iload_n 2, 1) := by decide +kernel
theorem dX2_sort_58 : decode cX2_sort 58 = .ok (.aload_n 0, 1) := by decide +kernel
theorem dX2_sort_59 : decode cX2_sort 59 = .ok (.getfield 9, 3) := by decide +kernel
theorem dX2_sort_62 : decode cX2_sort 62 = .ok (.iload_n 1, 1) := by decide +kernel
theorem dX2_sort_63 : decode cX2_sort 63 = .ok (.iaload, 1) := by decide +kernel
theorem dX2_sort_64 : decode cX2_sort 64 = .ok (.iastore, 1) := by decide +kernel
theorem dX2_sort_65 : decode cX2_sort 65 = .ok (.iinc 1 1, 3) := by decide +kernel
theorem dX2_sort_68 : decode cX2_sort 68 = .ok (.goto (-66), 3) := by decide +kernel
theorem dX2_sort_71 : decode cX2_sort 71 = .ok (.return_, 1) := by decide +kernel
theorem dX3_init_0 : decode cX3_init 0 = .ok (.aload_n 0, 1) := by decide +kernel
theorem dX3_init_1 : decode cX3_init 1 = .ok (.invokespecial 3, 3) := by decide +kernel
theorem dX3_init_4 : decode cX3_init 4 = .ok (.aload_n 0, 1) := by decide +kernel
theorem dX3_init_5 : decode cX3_init 5 = .ok (.iconst 5, 1) := by decide +kernel
theorem dX3_init_6 : decode cX3_init 6 = .ok (.newarray .int, 2) := by decide +kernel
theorem dX3_init_8 : decode cX3_init 8 = .ok (.putfield 11, 3) := by decide +kernel
theorem dX3_init_11 : decode cX3_init 11 = .ok (.aload_n 0, 1) := by decide +kernel
theorem dX3_init_12 : decode cX3_init 12 = .ok (.sipush 9000, 3) := by decide +kernel
theorem dX3_init_15 : decode cX3_init 15 = .ok (.putfield 15, 3) := by decide +kernel
theorem dX3_init_18 : decode cX3_init 18 = .ok (.aload_n 0, 1) := by decide +kernel
theorem dX3_init_19 : decode cX3_init 19 = .ok (.iconst 5, 1) := by decide +kernel
theorem dX3_init_20 : decode cX3_init 20 = .ok (.newarray .int, 2) := by decide +kernel
theorem dX3_init_22 : decode cX3_init 22 = .ok (.putfield 19, 3) := by decide +kernel
theorem dX3_init_25 : decode cX3_init 25 = .ok (.return_, 1) := by decide +kernel
theorem dX3_neededCut_0 : decode cX3_neededCut 0 = .ok (.iload_n 1, 1) := by decide +kernel
theorem dX3_neededCut_1 : decode cX3_neededCut 1 = .ok (.lookupswitch 38 #[(0, 27), (1, 32)], 27) := by decide +kernel
theorem dX3_neededCut_28 : decode cX3_neededCut 28 = .ok (.aload_n 0, 1) := by decide +kernel
theorem dX3_neededCut_29 : decode cX3_neededCut 29 = .ok (.invokevirtual 22, 3) := by decide +kernel
theorem dX3_neededCut_32 : decode cX3_neededCut 32 = .ok (.ireturn, 1) := by decide +kernel
theorem dX3_neededCut_33 : decode cX3_neededCut 33 = .ok (.aload_n 0, 1) := by decide +kernel
theorem dX3_neededCut_34 : decode cX3_neededCut 34 = .ok (.iload_n 2, 1) := by decide +kernel
theorem dX3_neededCut_35 : decode cX3_neededCut 35 = .ok (.invokevirtual 26, 3) := by decide +kernel
theorem dX3_neededCut_38 : decode cX3_neededCut 38 = .ok (.ireturn, 1) := by decide +kernel
theorem dX3_neededCut_39 : decode cX3_neededCut 39 = .ok (.aload_n 0, 1) := by decide +kernel
theorem dX3_neededCut_40 : decode cX3_neededCut 40 = .ok (.iload_n 2, 1) := by decide +kernel
theorem dX3_neededCut_41 : decode cX3_neededCut 41 = .ok (.invokevirtual 30, 3) := by decide +kernel
theorem dX3_neededCut_44 : decode cX3_neededCut 44 = .ok (.ireturn, 1) := by decide +kernel
theorem dX3_fullCut_0 : decode cX3_fullCut 0 = .ok (.aload_n 0, 1) := by decide +kernel
theorem dX3_fullCut_1 : decode cX3_fullCut 1 = .ok (.invokevirtual 33, 3) := by decide +kernel
theorem dX3_fullCut_4 : decode cX3_fullCut 4 = .ok (.aload_n 0, 1) := by decide +kernel
theorem dX3_fullCut_5 : decode cX3_fullCut 5 = .ok (.invokevirtual 36, 3) := by decide +kernel
theorem dX3_fullCut_8 : decode cX3_fullCut 8 = .ok (.isub, 1) := by decide +kernel
theorem dX3_fullCut_9 : decode cX3_fullCut 9 = .ok (.ireturn, 1) := by decide +kernel
theorem dX3_thinCut_0 : decode cX3_thinCut 0 = .ok (.aload_n 0, 1) := by decide +kernel
theorem dX3_thinCut_1 : decode cX3_thinCut 1 = .ok (.invokevirtual 22, 3) := by decide +kernel
theorem dX3_thinCut_4 : decode cX3_thinCut 4 = .ok (.istore_n 2, 1) := by decide +kernel
theorem dX3_thinCut_5 : decode cX3_thinCut 5 = .ok (.aload_n 0, 1) := by decide +kernel
theorem dX3_thinCut_6 : decode cX3_thinCut 6 = .ok (.getfield 11, 3) := by decide +kernel
theorem dX3_thinCut_9 : decode cX3_thinCut 9 = .ok (.iconst 0, 1) := by decide +kernel
theorem dX3_thinCut_10 : decode cX3_thinCut 10 = .ok (.iaload, 1) := by decide +kernel
theorem dX3_thinCut_11 : decode cX3_thinCut 11 = .ok (.aload_n 0, 1) := by decide +kernel
theorem dX3_thinCut_12 : decode cX3_thinCut 12 = .ok (.invokevirtual 33, 3) := by decide +kernel
theorem dX3_thinCut_15 : decode cX3_thinCut 15 = .ok (.if_icmp .ne 13, 3) := by decide +kernel
theorem dX3_thinCut_18 : decode cX3_thinCut 18 = .ok (.iconst 0, 1) := by decide +kernel
theorem dX3_thinCut_19 : decode cX3_thinCut 19 = .ok (.iload_n 2, 1) := by decide +kernel
theorem dX3_thinCut_20 : decode cX3_thinCut 20 = .ok (.iload_n 1, 1) := by decide +kernel
theorem dX3_thinCut_21 : decode cX3_thinCut 21 = .ok (.isub, 1) := by decide +kernel
theorem dX3_thinCut_22 : decode cX3_thinCut 22 = .ok (.invokestatic 39, 3) := by decide +kernel
theorem dX3_thinCut_25 : decode cX3_thinCut 25 = .ok (.goto 4, 3) := by decide +kernel
theorem dX3_thinCut_28 : decode cX3_thinCut 28 = .ok (.iload_n 2, 1) := by decide +kernel
theorem dX3_thinCut_29 : decode cX3_thinCut 29 = .ok (.ireturn, 1) := by decide +kernel
theorem dX3_evenCut_0 : decode cX3_evenCut 0 = .ok (.aload_n 0, 1) := by decide +kernel
theorem dX3_evenCut_1 : decode cX3_evenCut 1 = .ok (.iload_n 1, 1) := by decide +kernel
theorem dX3_evenCut_2 : decode cX3_evenCut 2 = .ok (.invokevirtual 26, 3) := by decide +kernel
theorem dX3_evenCut_5 : decode cX3_evenCut 5 = .ok (.istore_n 2, 1) := by decide +kernel
theorem dX3_evenCut_6 : decode cX3_evenCut 6 = .ok (.iload_n 2, 1) := by decide +kernel
theorem dX3_evenCut_7 : decode cX3_evenCut 7 = .ok (.iload_n 2, 1) := by decide +kernel
theorem dX3_evenCut_8 : decode cX3_evenCut 8 = .ok (.iconst 2, 1) := by decide +kernel
theorem dX3_evenCut_9 : decode cX3_evenCut 9 = .ok (.irem, 1) := by decide +kernel
theorem dX3_evenCut_10 : decode cX3_evenCut 10 = .ok (.iadd, 1) := by decide +kernel
theorem dX3_evenCut_11 : decode cX3_evenCut 11 = .ok (.ireturn, 1) := by decide +kernel
theorem dX3_greatestDepth_0 : decode cX3_greatestDepth 0 = .ok (.aload_n 0, 1) := by decide +kernel
theorem dX3_greatestDepth_1 : decode cX3_greatestDepth 1 = .ok (.getfield 11, 3) := by decide +kernel
theorem dX3_greatestDepth_4 : decode cX3_greatestDepth 4 = .ok (.iconst 0, 1) := by decide +kernel
theorem dX3_greatestDepth_5 : decode cX3_greatestDepth 5 = .ok (.iaload, 1) := by decide +kernel
theorem dX3_greatestDepth_6 : decode cX3_greatestDepth 6 = .ok (.istore_n 1, 1) := by decide +kernel
theorem dX3_greatestDepth_7 : decode cX3_greatestDepth 7 = .ok (.iconst 1, 1) := by decide +kernel
theorem dX3_greatestDepth_8 : decode cX3_greatestDepth 8 = .ok (.istore_n 2, 1) := by decide +kernel
theorem dX3_greatestDepth_9 : decode cX3_greatestDepth 9 = .ok (.iload_n 2, 1) := by decide +kernel
theorem dX3_greatestDepth_10 : decode cX3_greatestDepth 10 = .ok (.iconst 5, 1) := by decide +kernel
theorem dX3_greatestDepth_11 : decode cX3_greatestDepth 11 = .ok (.if_icmp .ge 20, 3) := by decide +kernel
theorem dX3_greatestDepth_14 : decode cX3_greatestDepth 14 = .ok (.iload_n 1, 1) := by decide +kernel
theorem dX3_greatestDepth_15 : decode cX3_greatestDepth 15 = .ok (.aload_n 0, 1) := by decide +kernel
theorem dX3_greatestDepth_16 : decode cX3_greatestDepth 16 = .ok (.getfield 11, 3) := by decide +kernel
theorem dX3_greatestDepth_19 : decode cX3_greatestDepth 19 = .ok (.iload_n 2, 1) := by decide +kernel
theorem dX3_greatestDepth_20 : decode cX3_greatestDepth 20 = .ok (.iaload, 1) := by decide +kernel
theorem dX3_greatestDepth_21 : decode cX3_greatestDepth 21 = .ok (.invokestatic 39, 3) := by decide +kernel
theorem dX3_greatestDepth_24 : decode cX3_greatestDepth 24 = .ok (.istore_n 1, 1) := by decide +kernel
theorem dX3_greatestDepth_25 : decode cX3_greatestDepth 25 = .ok (.iinc 2 1, 3) := by decide +kernel
theorem dX3_greatestDepth_28 : decode cX3_greatestDepth 28 = .ok (.goto (-19), 3) := by decide +kernel
theorem dX3_greatestDepth_31 : decode cX3_greatestDepth 31 = .ok (.iload_n 1, 1) := by decide +kernel
theorem dX3_greatestDepth_32 : decode cX3_greatestDepth 32 = .ok (.ireturn, 1) := by decide +kernel
theorem dX3_leastDepth_0 : decode cX3_leastDepth 0 = .ok (.aload_n 0, 1) := by decide +kernel
theorem dX3_leastDepth_1 : decode cX3_leastDepth 1 = .ok (.getfield 11, 3) := by decide +kernel
theorem dX3_leastDepth_4 : decode cX3_leastDepth 4 = .ok (.iconst 0, 1) := by decide +kernel
theorem dX3_leastDepth_5 : decode cX3_leastDepth 5 = .ok (.iaload, 1) := by decide +kernel
theorem dX3_leastDepth_6 : decode cX3_leastDepth 6 = .ok (.istore_n 1, 1) := by decide +kernel
theorem dX3_leastDepth_7 : decode cX3_leastDepth 7 = .ok (.iconst 1, 1) := by decide +kernel
theorem dX3_leastDepth_8 : decode cX3_leastDepth 8 = .ok (.istore_n 2, 1) := by decide +kernel
theorem dX3_leastDepth_9 : decode cX3_leastDepth 9 = .ok (.iload_n 2, 1) := by decide +kernel
theorem dX3_leastDepth_10 : decode cX3_leastDepth 10 = .ok (.iconst 5, 1) := by decide +kernel
theorem dX3_leastDepth_11 : decode cX3_leastDepth 11 = .ok (.if_icmp .ge 20, 3) := by decide +kernel
theorem dX3_leastDepth_14 : decode cX3_leastDepth 14 = .ok (.iload_n 1, 1) := by decide +kernel
theorem dX3_leastDepth_15 : decode cX3_leastDepth 15 = .ok (.aload_n 0, 1) := by decide +kernel
theorem dX3_leastDepth_16 : decode cX3_leastDepth 16 = .ok (.getfield 11, 3) := by decide +kernel
theorem dX3_leastDepth_19 : decode cX3_leastDepth 19 = .ok (.iload_n 2, 1) := by decide +kernel
theorem dX3_leastDepth_20 : decode cX3_leastDepth 20 = .ok (.iaload, 1) := by decide +kernel
theorem dX3_leastDepth_21 : decode cX3_leastDepth 21 = .ok (.invokestatic 45, 3) := by decide +kernel
theorem dX3_leastDepth_24 : decode cX3_leastDepth 24 = .ok (.istore_n 1, 1) := by decide +kernel
theorem dX3_leastDepth_25 : decode cX3_leastDepth 25 = .ok (.iinc 2 1, 3) := by decide +kernel
theorem dX3_leastDepth_28 : decode cX3_leastDepth 28 = .ok (.goto (-19), 3) := by decide +kernel
theorem dX3_leastDepth_31 : decode cX3_leastDepth 31 = .ok (.iload_n 1, 1) := by decide +kernel
theorem dX3_leastDepth_32 : decode cX3_leastDepth 32 = .ok (.ireturn, 1) := by decide +kernel
theorem dX3_takeOff_0 : decode cX3_takeOff 0 = .ok (.aload_n 0, 1) := by decide +kernel
theorem dX3_takeOff_1 : decode cX3_takeOff 1 = .ok (.invokevirtual 36, 3) := by decide +kernel
theorem dX3_takeOff_4 : decode cX3_takeOff 4 = .ok (.iload_n 1, 1) := by decide +kernel
theorem dX3_takeOff_5 : decode cX3_takeOff 5 = .ok (.iadd, 1) := by decide +kernel
theorem dX3_takeOff_6 : decode cX3_takeOff 6 = .ok (.istore_n 2, 1) := by decide +kernel
theorem dX3_takeOff_7 : decode cX3_takeOff 7 = .ok (.iconst 0, 1) := by decide +kernel
theorem dX3_takeOff_8 : decode cX3_takeOff 8 = .ok (.istore_n 3, 1) := by decide +kernel
theorem dX3_takeOff_9 : decode cX3_takeOff 9 = .ok (.iload_n 3, 1) := by decide +kernel
theorem dX3_takeOff_10 : decode cX3_takeOff 10 = .ok (.iconst 5, 1) := by decide +kernel
theorem dX3_takeOff_11 : decode cX3_takeOff 11 = .ok (.if_icmp .ge 27, 3) := by decide +kernel
theorem dX3_takeOff_14 : decode cX3_takeOff 14 = .ok (.aload_n 0, 1) := by decide +kernel
theorem dX3_takeOff_15 : decode cX3_takeOff 15 = .ok (.getfield 11, 3) := by decide +kernel
theorem dX3_takeOff_18 : decode cX3_takeOff 18 = .ok (.iload_n 3, 1) := by decide +kernel
theorem dX3_takeOff_19 : decode cX3_takeOff 19 = .ok (.iconst 0, 1) := by decide +kernel
theorem dX3_takeOff_20 : decode cX3_takeOff 20 = .ok (.aload_n 0, 1) := by decide +kernel
theorem dX3_takeOff_21 : decode cX3_takeOff 21 = .ok (.getfield 11, 3) := by decide +kernel
theorem dX3_takeOff_24 : decode cX3_takeOff 24 = .ok (.iload_n 3, 1) := by decide +kernel
theorem dX3_takeOff_25 : decode cX3_takeOff 25 = .ok (.iaload, 1) := by decide +kernel
theorem dX3_takeOff_26 : decode cX3_takeOff 26 = .ok (.iload_n 2, 1) := by decide +kernel
theorem dX3_takeOff_27 : decode cX3_takeOff 27 = .ok (.isub, 1) := by decide +kernel
theorem dX3_takeOff_28 : decode cX3_takeOff 28 = .ok (.invokestatic 39, 3) := by decide +kernel
theorem dX3_takeOff_31 : decode cX3_takeOff 31 = .ok (.iastore, 1) := by decide +kernel
theorem dX3_takeOff_32 : decode cX3_takeOff 32 = .ok (.iinc 3 1, 3) := by decide +kernel
theorem dX3_takeOff_35 : decode cX3_takeOff 35 = .ok (.goto (-26), 3) := by decide +kernel
theorem dX3_takeOff_38 : decode cX3_takeOff 38 = .ok (.aload_n 0, 1) := by decide +kernel
theorem dX3_takeOff_39 : decode cX3_takeOff 39 = .ok (.dup, 1) := by decide +kernel
theorem dX3_takeOff_40 : decode cX3_takeOff 40 = .ok (.getfield 15, 3) := by decide +kernel
theorem dX3_takeOff_43 : decode cX3_takeOff 43 = .ok (.iconst 2, 1) := by decide +kernel
theorem dX3_takeOff_44 : decode cX3_takeOff 44 = .ok (.iload_n 1, 1) := by decide +kernel
theorem dX3_takeOff_45 : decode cX3_takeOff 45 = .ok (.imul, 1) := by decide +kernel
theorem dX3_takeOff_46 : decode cX3_takeOff 46 = .ok (.isub, 1) := by decide +kernel
theorem dX3_takeOff_47 : decode cX3_takeOff 47 = .ok (.putfield 15, 3) := by decide +kernel
theorem dX3_takeOff_50 : decode cX3_takeOff 50 = .ok (.aload_n 0, 1) := by decide +kernel
theorem dX3_takeOff_51 : decode cX3_takeOff 51 = .ok (.iconst 0, 1) := by decide +kernel
theorem dX3_takeOff_52 : decode cX3_takeOff 52 = .ok (.putfield 48, 3) := by decide +kernel
theorem dX3_takeOff_55 : decode cX3_takeOff 55 = .ok (.return_, 1) := by decide +kernel
theorem dX3_run_0 : decode cX3_run 0 = .ok (.aload_n 0, 1) := by decide +kernel
theorem dX3_run_1 : decode cX3_run 1 = .ok (.getfield 51, 3) := by decide +kernel
theorem dX3_run_4 : decode cX3_run 4 = .ok (.iload_n 1, 1) := by decide +kernel
theorem dX3_run_5 : decode cX3_run 5 = .ok (.imul, 1) := by decide +kernel
theorem dX3_run_6 : decode cX3_run 6 = .ok (.bipush 100, 2) := by decide +kernel
theorem dX3_run_8 : decode cX3_run 8 = .ok (.idiv, 1) := by decide +kernel
theorem dX3_run_9 : decode cX3_run 9 = .ok (.istore_n 2, 1) := by decide +kernel
theorem dX3_run_10 : decode cX3_run 10 = .ok (.iconst 0, 1) := by decide +kernel
theorem dX3_run_11 : decode cX3_run 11 = .ok (.istore_n 3, 1) := by decide +kernel
theorem dX3_run_12 : decode cX3_run 12 = .ok (.iload_n 3, 1) := by decide +kernel
theorem dX3_run_13 : decode cX3_run 13 = .ok (.iconst 5, 1) := by decide +kernel
theorem dX3_run_14 : decode cX3_run 14 = .ok (.if_icmp .ge 55, 3) := by decide +kernel
theorem dX3_run_17 : decode cX3_run 17 = .ok (.iload_n 3, 1) := by decide +kernel
theorem dX3_run_18 : decode cX3_run 18 = .ok (.ifCond .eq 8, 3) := by decide +kernel
theorem dX3_run_21 : decode cX3_run 21 = .ok (.iload_n 3, 1) := by decide +kernel
theorem dX3_run_22 : decode cX3_run 22 = .ok (.iconst 4, 1) := by decide +kernel
theorem dX3_run_23 : decode cX3_run 23 = .ok (.if_icmp .ne 7, 3) := by decide +kernel
theorem dX3_run_26 : decode cX3_run 26 = .ok (.iconst 1, 1) := by decide +kernel
theorem dX3_run_27 : decode cX3_run 27 = .ok (.goto 4, 3) := by decide +kernel
theorem dX3_run_30 : decode cX3_run 30 = .ok (.iconst 0, 1) := by decide +kernel
theorem dX3_run_31 : decode cX3_run 31 = .ok (.istore 4, 2) := by decide +kernel
theorem dX3_run_33 : decode cX3_run 33 = .ok (.aload_n 0, 1) := by decide +kernel
theorem dX3_run_34 : decode cX3_run 34 = .ok (.getfield 11, 3) := by decide +kernel
theorem dX3_run_37 : decode cX3_run 37 = .ok (.iload_n 3, 1) := by decide +kernel
theorem dX3_run_38 : decode cX3_run 38 = .ok (.bipush 99, 2) := by decide +kernel
theorem dX3_run_40 : decode cX3_run 40 = .ok (.aload_n 0, 1) := by decide +kernel
theorem dX3_run_41 : decode cX3_run 41 = .ok (.getfield 11, 3) := by decide +kernel
theorem dX3_run_44 : decode cX3_run 44 = .ok (.iload_n 3, 1) := by decide +kernel
theorem dX3_run_45 : decode cX3_run 45 = .ok (.iaload, 1) := by decide +kernel
theorem dX3_run_46 : decode cX3_run 46 = .ok (.iload 4, 2) := by decide +kernel
theorem dX3_run_48 : decode cX3_run 48 = .ok (.ifCond .eq 9, 3) := by decide +kernel
theorem dX3_run_51 : decode cX3_run 51 = .ok (.iload_n 2, 1) := by decide +kernel
theorem dX3_run_52 : decode cX3_run 52 = .ok (.iconst 2, 1) := by decide +kernel
theorem dX3_run_53 : decode cX3_run 53 = .ok (.idiv, 1) := by decide +kernel
theorem dX3_run_54 : decode cX3_run 54 = .ok (.goto 4, 3) := by decide +kernel
theorem dX3_run_57 : decode cX3_run 57 = .ok (.iload_n 2, 1) := by decide +kernel
theorem dX3_run_58 : decode cX3_run 58 = .ok (.iadd, 1) := by decide +kernel
theorem dX3_run_59 : decode cX3_run 59 = .ok (.invokestatic 45, 3) := by decide +kernel
theorem dX3_run_62 : decode cX3_run 62 = .ok (.iastore, 1) := by decide +kernel
theorem dX3_run_63 : decode cX3_run 63 = .ok (.iinc 3 1, 3) := by decide +kernel
theorem dX3_run_66 : decode cX3_run 66 = .ok (.goto (-54), 3) := by decide +kernel
theorem dX3_run_69 : decode cX3_run 69 = .ok (.aload_n 0, 1) := by decide +kernel
theorem dX3_run_70 : decode cX3_run 70 = .ok (.sipush 6000, 3) := by decide +kernel
theorem dX3_run_73 : decode cX3_run 73 = .ok (.aload_n 0, 1) := by decide +kernel
theorem dX3_run_74 : decode cX3_run 74 = .ok (.getfield 15, 3) := by decide +kernel
theorem dX3_run_77 : decode cX3_run 77 = .ok (.iload_n 2, 1) := by decide +kernel
theorem dX3_run_78 : decode cX3_run 78 = .ok (.isub, 1) := by decide +kernel
theorem dX3_run_79 : decode cX3_run 79 = .ok (.invokestatic 39, 3) := by decide +kernel
theorem dX3_run_82 : decode cX3_run 82 = .ok (.putfield 15, 3) := by decide +kernel
theorem dX3_run_85 : decode cX3_run 85 = .ok (.aload_n 0, 1) := by decide +kernel
theorem dX3_run_86 : decode cX3_run 86 = .ok (.dup, 1) := by decide +kernel
theorem dX3_run_87 : decode cX3_run 87 = .ok (.getfield 48, 3) := by decide +kernel
theorem dX3_run_90 : decode cX3_run 90 = .ok (.iload_n 1, 1) := by decide +kernel
theorem dX3_run_91 : decode cX3_run 91 = .ok (.iadd, 1) := by decide +kernel
theorem dX3_run_92 : decode cX3_run 92 = .ok (.putfield 48, 3) := by decide +kernel
theorem dX3_run_95 : decode cX3_run 95 = .ok (.return_, 1) := by decide +kernel
theorem dX3_milesLeft_0 : decode cX3_milesLeft 0 = .ok (.sipush 1000, 3) := by decide +kernel
theorem dX3_milesLeft_3 : decode cX3_milesLeft 3 = .ok (.aload_n 0, 1) := by decide +kernel
theorem dX3_milesLeft_4 : decode cX3_milesLeft 4 = .ok (.getfield 48, 3) := by decide +kernel
theorem dX3_milesLeft_7 : decode cX3_milesLeft 7 = .ok (.isub, 1) := by decide +kernel
theorem dX3_milesLeft_8 : decode cX3_milesLeft 8 = .ok (.ireturn, 1) := by decide +kernel
theorem dX3_feel_0 : decode cX3_feel 0 = .ok (.aload_n 0, 1) := by decide +kernel
theorem dX3_feel_1 : decode cX3_feel 1 = .ok (.getfield 19, 3) := by decide +kernel
theorem dX3_feel_4 : decode cX3_feel 4 = .ok (.aload_n 0, 1) := by decide +kernel
theorem dX3_feel_5 : decode cX3_feel 5 = .ok (.getfield 54, 3) := by decide +kernel
theorem dX3_feel_8 : decode cX3_feel 8 = .ok (.iload_n 1, 1) := by decide +kernel
theorem dX3_feel_9 : decode cX3_feel 9 = .ok (.iastore, 1) := by decide +kernel
theorem dX3_feel_10 : decode cX3_feel 10 = .ok (.aload_n 0, 1) := by decide +kernel
theorem dX3_feel_11 : decode cX3_feel 11 = .ok (.aload_n 0, 1) := by decide +kernel
theorem dX3_feel_12 : decode cX3_feel 12 = .ok (.getfield 54, 3) := by decide +kernel
theorem dX3_feel_15 : decode cX3_feel 15 = .ok (.iconst 4, 1) := by decide +kernel
theorem dX3_feel_16 : decode cX3_feel 16 = .ok (.if_icmp .ne 7, 3) := by decide +kernel
theorem dX3_feel_19 : decode cX3_feel 19 = .ok (.iconst 0, 1) := by decide +kernel
theorem dX3_feel_20 : decode cX3_feel 20 = .ok (.goto 9, 3) := by decide +kernel
theorem dX3_feel_23 : decode cX3_feel 23 = .ok (.aload_n 0, 1) := by decide +kernel
theorem dX3_feel_24 : decode cX3_feel 24 = .ok (.getfield 54, 3) := by decide +kernel
theorem dX3_feel_27 : decode cX3_feel 27 = .ok (.iconst 1, 1) := by decide +kernel
theorem dX3_feel_28 : decode cX3_feel 28 = .ok (.iadd, 1) := by decide +kernel
theorem dX3_feel_29 : decode cX3_feel 29 = .ok (.putfield 54, 3) := by decide +kernel
theorem dX3_feel_32 : decode cX3_feel 32 = .ok (.aload_n 0, 1) := by decide +kernel
theorem dX3_feel_33 : decode cX3_feel 33 = .ok (.iconst 5, 1) := by decide +kernel
theorem dX3_feel_34 : decode cX3_feel 34 = .ok (.aload_n 0, 1) := by decide +kernel
theorem dX3_feel_35 : decode cX3_feel 35 = .ok (.getfield 57, 3) := by decide +kernel
theorem dX3_feel_38 : decode cX3_feel 38 = .ok (.iconst 1, 1) := by decide +kernel
theorem dX3_feel_39 : decode cX3_feel 39 = .ok (.iadd, 1) := by decide +kernel
theorem dX3_feel_40 : decode cX3_feel 40 = .ok (.invokestatic 45, 3) := by decide +kernel
theorem dX3_feel_43 : decode cX3_feel 43 = .ok (.putfield 57, 3) := by decide +kernel
theorem dX3_feel_46 : decode cX3_feel 46 = .ok (.return_, 1) := by decide +kernel
theorem dX3_isFlat_0 : decode cX3_isFlat 0 = .ok (.iconst 0, 1) := by decide +kernel
theorem dX3_isFlat_1 : decode cX3_isFlat 1 = .ok (.istore_n 2, 1) := by decide +kernel
theorem dX3_isFlat_2 : decode cX3_isFlat 2 = .ok (.iconst 0, 1) := by decide +kernel
theorem dX3_isFlat_3 : decode cX3_isFlat 3 = .ok (.istore_n 3, 1) := by decide +kernel
theorem dX3_isFlat_4 : decode cX3_isFlat 4 = .ok (.iload_n 3, 1) := by decide +kernel
theorem dX3_isFlat_5 : decode cX3_isFlat 5 = .ok (.aload_n 0, 1) := by decide +kernel
theorem dX3_isFlat_6 : decode cX3_isFlat 6 = .ok (.getfield 57, 3) := by decide +kernel
theorem dX3_isFlat_9 : decode cX3_isFlat 9 = .ok (.if_icmp .ge 22, 3) := by decide +kernel
theorem dX3_isFlat_12 : decode cX3_isFlat 12 = .ok (.aload_n 0, 1) := by decide +kernel
theorem dX3_isFlat_13 : decode cX3_isFlat 13 = .ok (.getfield 19, 3) := by decide +kernel
theorem dX3_isFlat_16 : decode cX3_isFlat 16 = .ok (.iload_n 3, 1) := by decide +kernel
theorem dX3_isFlat_17 : decode cX3_isFlat 17 = .ok (.iaload, 1) := by decide +kernel
theorem dX3_isFlat_18 : decode cX3_isFlat 18 = .ok (.iload_n 1, 1) := by decide +kernel
theorem dX3_isFlat_19 : decode cX3_isFlat 19 = .ok (.if_icmp .lt 6, 3) := by decide +kernel
theorem dX3_isFlat_22 : decode cX3_isFlat 22 = .ok (.iinc 2 1, 3) := by decide +kernel
theorem dX3_isFlat_25 : decode cX3_isFlat 25 = .ok (.iinc 3 1, 3) := by decide +kernel
theorem dX3_isFlat_28 : decode cX3_isFlat 28 = .ok (.goto (-24), 3) := by decide +kernel
theorem dX3_isFlat_31 : decode cX3_isFlat 31 = .ok (.iload_n 2, 1) := by decide +kernel
theorem dX3_isFlat_32 : decode cX3_isFlat 32 = .ok (.iconst 3, 1) := by decide +kernel
theorem dX3_isFlat_33 : decode cX3_isFlat 33 = .ok (.if_icmp .lt 7, 3) := by decide +kernel
theorem dX3_isFlat_36 : decode cX3_isFlat 36 = .ok (.iconst 1, 1) := by decide +kernel
theorem dX3_isFlat_37 : decode cX3_isFlat 37 = .ok (.goto 4, 3) := by decide +kernel
theorem dX3_isFlat_40 : decode cX3_isFlat 40 = .ok (.iconst 0, 1) := by decide +kernel
theorem dX3_isFlat_41 : decode cX3_isFlat 41 = .ok (.ireturn, 1) := by decide +kernel
theorem dX4_init_0 : decode cX4_init 0 = .ok (.aload_n 0, 1) := by decide +kernel
theorem dX4_init_1 : decode cX4_init 1 = .ok (.invokespecial 1, 3) := by decide +kernel
theorem dX4_init_4 : decode cX4_init 4 = .ok (.aload_n 0, 1) := by decide +kernel
theorem dX4_init_5 : decode cX4_init 5 = .ok (.bipush 16, 2) := by decide +kernel
theorem dX4_init_7 : decode cX4_init 7 = .ok (.anewarray 9, 3) := by decide +kernel
theorem dX4_init_10 : decode cX4_init 10 = .ok (.putfield 11, 3) := by decide +kernel
theorem dX4_init_13 : decode cX4_init 13 = .ok (.aload_n 0, 1) := by decide +kernel
theorem dX4_init_14 : decode cX4_init 14 = .ok (.new 15, 3) := by decide +kernel
theorem dX4_init_17 : decode cX4_init 17 = .ok (.dup, 1) := by decide +kernel
theorem dX4_init_18 : decode cX4_init 18 = .ok (.invokespecial 17, 3) := by decide +kernel
theorem dX4_init_21 : decode cX4_init 21 = .ok (.putfield 18, 3) := by decide +kernel
theorem dX4_init_24 : decode cX4_init 24 = .ok (.aload_n 0, 1) := by decide +kernel
theorem dX4_init_25 : decode cX4_init 25 = .ok (.new 22, 3) := by decide +kernel
theorem dX4_init_28 : decode cX4_init 28 = .ok (.dup, 1) := by decide +kernel
theorem dX4_init_29 : decode cX4_init 29 = .ok (.invokespecial 24, 3) := by decide +kernel
theorem dX4_init_32 : decode cX4_init 32 = .ok (.putfield 25, 3) := by decide +kernel
theorem dX4_init_35 : decode cX4_init 35 = .ok (.aload_n 0, 1) := by decide +kernel
theorem dX4_init_36 : decode cX4_init 36 = .ok (.new 29, 3) := by decide +kernel
theorem dX4_init_39 : decode cX4_init 39 = .ok (.dup, 1) := by decide +kernel
theorem dX4_init_40 : decode cX4_init 40 = .ok (.invokespecial 31, 3) := by decide +kernel
theorem dX4_init_43 : decode cX4_init 43 = .ok (.putfield 32, 3) := by decide +kernel
theorem dX4_init_46 : decode cX4_init 46 = .ok (.aload_n 0, 1) := by decide +kernel
theorem dX4_init_47 : decode cX4_init 47 = .ok (.bipush 16, 2) := by decide +kernel
theorem dX4_init_49 : decode cX4_init 49 = .ok (.newarray .int, 2) := by decide +kernel
theorem dX4_init_51 : decode cX4_init 51 = .ok (.putfield 36, 3) := by decide +kernel
theorem dX4_init_54 : decode cX4_init 54 = .ok (.aload_n 0, 1) := by decide +kernel
theorem dX4_init_55 : decode cX4_init 55 = .ok (.bipush 6, 2) := by decide +kernel
theorem dX4_init_57 : decode cX4_init 57 = .ok (.putfield 40, 3) := by decide +kernel
theorem dX4_init_60 : decode cX4_init 60 = .ok (.aload_n 0, 1) := by decide +kernel
theorem dX4_init_61 : decode cX4_init 61 = .ok (.sipush 500, 3) := by decide +kernel
theorem dX4_init_64 : decode cX4_init 64 = .ok (.putfield 44, 3) := by decide +kernel
theorem dX4_init_67 : decode cX4_init 67 = .ok (.iconst 0, 1) := by decide +kernel
theorem dX4_init_68 : decode cX4_init 68 = .ok (.istore_n 1, 1) := by decide +kernel
theorem dX4_init_69 : decode cX4_init 69 = .ok (.iload_n 1, 1) := by decide +kernel
theorem dX4_init_70 : decode cX4_init 70 = .ok (.bipush 16, 2) := by decide +kernel
theorem dX4_init_72 : decode cX4_init 72 = .ok (.if_icmp .ge 22, 3) := by decide +kernel
theorem dX4_init_75 : decode cX4_init 75 = .ok (.aload_n 0, 1) := by decide +kernel
theorem dX4_init_76 : decode cX4_init 76 = .ok (.getfield 11, 3) := by decide +kernel
theorem dX4_init_79 : decode cX4_init 79 = .ok (.iload_n 1, 1) := by decide +kernel
theorem dX4_init_80 : decode cX4_init 80 = .ok (.new 9, 3) := by decide +kernel
theorem dX4_init_83 : decode cX4_init 83 = .ok (.dup, 1) := by decide +kernel
theorem dX4_init_84 : decode cX4_init 84 = .ok (.invokespecial 47, 3) := by decide +kernel
theorem dX4_init_87 : decode cX4_init 87 = .ok (.aastore, 1) := by decide +kernel
theorem dX4_init_88 : decode cX4_init 88 = .ok (.iinc 1 1, 3) := by decide +kernel
theorem dX4_init_91 : decode cX4_init 91 = .ok (.goto (-22), 3) := by decide +kernel
theorem dX4_init_94 : decode cX4_init 94 = .ok (.return_, 1) := by decide +kernel
theorem dX4_size_0 : decode cX4_size 0 = .ok (.iload_n 1, 1) := by decide +kernel
theorem dX4_size_1 : decode cX4_size 1 = .ok (.invokestatic 48, 3) := by decide +kernel
theorem dX4_size_4 : decode cX4_size 4 = .ok (.ifCond .eq 16, 3) := by decide +kernel
theorem dX4_size_7 : decode cX4_size 7 = .ok (.iload_n 2, 1) := by decide +kernel
theorem dX4_size_8 : decode cX4_size 8 = .ok (.sipush 6000, 3) := by decide +kernel
theorem dX4_size_11 : decode cX4_size 11 = .ok (.sipush 9200, 3) := by decide +kernel
theorem dX4_size_14 : decode cX4_size 14 = .ok (.invokestatic 52, 3) := by decide +kernel
theorem dX4_size_17 : decode cX4_size 17 = .ok (.ifCond .ne 5, 3) := by decide +kernel
theorem dX4_size_20 : decode cX4_size 20 = .ok (.iconst (-1), 1) := by decide +kernel
theorem dX4_size_21 : decode cX4_size 21 = .ok (.ireturn, 1) := by decide +kernel
theorem dX4_size_22 : decode cX4_size 22 = .ok (.aload_n 0, 1) := by decide +kernel
theorem dX4_size_23 : decode cX4_size 23 = .ok (.getfield 11, 3) := by decide +kernel
theorem dX4_size_26 : decode cX4_size 26 = .ok (.iload_n 1, 1) := by decide +kernel
theorem dX4_size_27 : decode cX4_size 27 = .ok (.aaload, 1) := by decide +kernel
theorem dX4_size_28 : decode cX4_size 28 = .ok (.getfield 56, 3) := by decide +kernel
theorem dX4_size_31 : decode cX4_size 31 = .ok (.istore_n 3, 1) := by decide +kernel
theorem dX4_size_32 : decode cX4_size 32 = .ok (.aload_n 0, 1) := by decide +kernel
theorem dX4_size_33 : decode cX4_size 33 = .ok (.getfield 11, 3) := by decide +kernel
theorem dX4_size_36 : decode cX4_size 36 = .ok (.iload_n 1, 1) := by decide +kernel
theorem dX4_size_37 : decode cX4_size 37 = .ok (.aaload, 1) := by decide +kernel
theorem dX4_size_38 : decode cX4_size 38 = .ok (.iload_n 2, 1) := by decide +kernel
theorem dX4_size_39 : decode cX4_size 39 = .ok (.putfield 56, 3) := by decide +kernel
theorem dX4_size_42 : decode cX4_size 42 = .ok (.iload_n 3, 1) := by decide +kernel
theorem dX4_size_43 : decode cX4_size 43 = .ok (.ireturn, 1) := by decide +kernel
theorem dX4_depth_0 : decode cX4_depth 0 = .ok (.iload_n 1, 1) := by decide +kernel
theorem dX4_depth_1 : decode cX4_depth 1 = .ok (.invokestatic 48, 3) := by decide +kernel
theorem dX4_depth_4 : decode cX4_depth 4 = .ok (.ifCond .eq 22, 3) := by decide +kernel
theorem dX4_depth_7 : decode cX4_depth 7 = .ok (.iload_n 2, 1) := by decide +kernel
theorem dX4_depth_8 : decode cX4_depth 8 = .ok (.iconst 0, 1) := by decide +kernel
theorem dX4_depth_9 : decode cX4_depth 9 = .ok (.iconst 4, 1) := by decide +kernel
theorem dX4_depth_10 : decode cX4_depth 10 = .ok (.invokestatic 52, 3) := by decide +kernel
theorem dX4_depth_13 : decode cX4_depth 13 = .ok (.ifCond .eq 13, 3) := by decide +kernel
theorem dX4_depth_16 : decode cX4_depth 16 = .ok (.iload_n 3, 1) := by decide +kernel
theorem dX4_depth_17 : decode cX4_depth 17 = .ok (.iconst 0, 1) := by decide +kernel
theorem dX4_depth_18 : decode cX4_depth 18 = .ok (.bipush 99, 2) := by decide +kernel
theorem dX4_depth_20 : decode cX4_depth 20 = .ok (.invokestatic 52, 3) := by decide +kernel
theorem dX4_depth_23 : decode cX4_depth 23 = .ok (.ifCond .ne 5, 3) := by decide +kernel
theorem dX4_depth_26 : decode cX4_depth 26 = .ok (.iconst (-1), 1) := by decide +kernel
theorem dX4_depth_27 : decode cX4_depth 27 = .ok (.ireturn, 1) := by decide +kernel
theorem dX4_depth_28 : decode cX4_depth 28 = .ok (.aload_n 0, 1) := by decide +kernel
theorem dX4_depth_29 : decode cX4_depth 29 = .ok (.getfield 11, 3) := by decide +kernel
theorem dX4_depth_32 : decode cX4_depth 32 = .ok (.iload_n 1, 1) := by decide +kernel
theorem dX4_depth_33 : decode cX4_depth 33 = .ok (.aaload, 1) := by decide +kernel
theorem dX4_depth_34 : decode cX4_depth 34 = .ok (.getfield 59, 3) := by decide +kernel
theorem dX4_depth_37 : decode cX4_depth 37 = .ok (.iload_n 2, 1) := by decide +kernel
theorem dX4_depth_38 : decode cX4_depth 38 = .ok (.iaload, 1) := by decide +kernel
theorem dX4_depth_39 : decode cX4_depth 39 = .ok (.istore 4, 2) := by decide +kernel
theorem dX4_depth_41 : decode cX4_depth 41 = .ok (.aload_n 0, 1) := by decide +kernel
theorem dX4_depth_42 : decode cX4_depth 42 = .ok (.getfield 11, 3) := by decide +kernel
theorem dX4_depth_45 : decode cX4_depth 45 = .ok (.iload_n 1, 1) := by decide +kernel
theorem dX4_depth_46 : decode cX4_depth 46 = .ok (.aaload, 1) := by decide +kernel
theorem dX4_depth_47 : decode cX4_depth 47 = .ok (.getfield 59, 3) := by decide +kernel
theorem dX4_depth_50 : decode cX4_depth 50 = .ok (.iload_n 2, 1) := by decide +kernel
theorem dX4_depth_51 : decode cX4_depth 51 = .ok (.iload_n 3, 1) := by decide +kernel
theorem dX4_depth_52 : decode cX4_depth 52 = .ok (.iastore, 1) := by decide +kernel
theorem dX4_depth_53 : decode cX4_depth 53 = .ok (.iload 4, 2) := by decide +kernel
theorem dX4_depth_55 : decode cX4_depth 55 = .ok (.ireturn, 1) := by decide +kernel
theorem dX4_wear_0 : decode cX4_wear 0 = .ok (.iload_n 1, 1) := by decide +kernel
theorem dX4_wear_1 : decode cX4_wear 1 = .ok (.invokestatic 48, 3) := by decide +kernel
theorem dX4_wear_4 : decode cX4_wear 4 = .ok (.ifCond .eq 13, 3) := by decide +kernel
theorem dX4_wear_7 : decode cX4_wear 7 = .ok (.iload_n 2, 1) := by decide +kernel
theorem dX4_wear_8 : decode cX4_wear 8 = .ok (.iconst 0, 1) := by decide +kernel
theorem dX4_wear_9 : decode cX4_wear 9 = .ok (.bipush 20, 2) := by decide +kernel
theorem dX4_wear_11 : decode cX4_wear 11 = .ok (.invokestatic 52, 3) := by decide +kernel
theorem dX4_wear_14 : decode cX4_wear 14 = .ok (.ifCond .ne 5, 3) := by decide +kernel
theorem dX4_wear_17 : decode cX4_wear 17 = .ok (.iconst (-1), 1) := by decide +kernel
theorem dX4_wear_18 : decode cX4_wear 18 = .ok (.ireturn, 1) := by decide +kernel
theorem dX4_wear_19 : decode cX4_wear 19 = .ok (.aload_n 0, 1) := by decide +kernel
theorem dX4_wear_20 : decode cX4_wear 20 = .ok (.getfield 11, 3) := by decide +kernel
theorem dX4_wear_23 : decode cX4_wear 23 = .ok (.iload_n 1, 1) := by decide +kernel
theorem dX4_wear_24 : decode cX4_wear 24 = .ok (.aaload, 1) := by decide +kernel
theorem dX4_wear_25 : decode cX4_wear 25 = .ok (.getfield 62, 3) := by decide +kernel
theorem dX4_wear_28 : decode cX4_wear 28 = .ok (.istore_n 3, 1) := by decide +kernel
theorem dX4_wear_29 : decode cX4_wear 29 = .ok (.aload_n 0, 1) := by decide +kernel
theorem dX4_wear_30 : decode cX4_wear 30 = .ok (.getfield 11, 3) := by decide +kernel
theorem dX4_wear_33 : decode cX4_wear 33 = .ok (.iload_n 1, 1) := by decide +kernel
theorem dX4_wear_34 : decode cX4_wear 34 = .ok (.aaload, 1) := by decide +kernel
theorem dX4_wear_35 : decode cX4_wear 35 = .ok (.iload_n 2, 1) := by decide +kernel
theorem dX4_wear_36 : decode cX4_wear 36 = .ok (.putfield 62, 3) := by decide +kernel
theorem dX4_wear_39 : decode cX4_wear 39 = .ok (.iload_n 3, 1) := by decide +kernel
theorem dX4_wear_40 : decode cX4_wear 40 = .ok (.ireturn, 1) := by decide +kernel
theorem dX4_about_0 : decode cX4_about 0 = .ok (.iload_n 1, 1) := by decide +kernel
theorem dX4_about_1 : decode cX4_about 1 = .ok (.invokestatic 48, 3) := by decide +kernel
theorem dX4_about_4 : decode cX4_about 4 = .ok (.ifCond .ne 5, 3) := by decide +kernel
theorem dX4_about_7 : decode cX4_about 7 = .ok (.iconst (-1), 1) := by decide +kernel
theorem dX4_about_8 : decode cX4_about 8 = .ok (.ireturn, 1) := by decide +kernel
theorem dX4_about_9 : decode cX4_about 9 = .ok (.aload_n 0, 1) := by decide +kernel
theorem dX4_about_10 : decode cX4_about 10 = .ok (.getfield 11, 3) := by decide +kernel
theorem dX4_about_13 : decode cX4_about 13 = .ok (.iload_n 1, 1) := by decide +kernel
theorem dX4_about_14 : decode cX4_about 14 = .ok (.aaload, 1) := by decide +kernel
theorem dX4_about_15 : decode cX4_about 15 = .ok (.astore_n 3, 1) := by decide +kernel
theorem dX4_about_16 : decode cX4_about 16 = .ok (.iload_n 2, 1) := by decide +kernel
theorem dX4_about_17 : decode cX4_about 17 = .ok (.tableswitch 71 0 7 #[47, 52, 52, 52, 52, 52, 61, 66], 47) := by decide +kernel
theorem dX4_about_64 : decode cX4_about 64 = .ok (.aload_n 3, 1) := by decide +kernel
theorem dX4_about_65 : decode cX4_about 65 = .ok (.getfield 56, 3) := by decide +kernel
theorem dX4_about_68 : decode cX4_about 68 = .ok (.ireturn, 1) := by decide +kernel
theorem dX4_about_69 : decode cX4_about 69 = .ok (.aload_n 3, 1) := by decide +kernel
theorem dX4_about_70 : decode cX4_about 70 = .ok (.getfield 59, 3) := by decide +kernel
theorem dX4_about_73 : decode cX4_about 73 = .ok (.iload_n 2, 1) := by decide +kernel
theorem dX4_about_74 : decode cX4_about 74 = .ok (.iconst 1, 1) := by decide +kernel
theorem dX4_about_75 : decode cX4_about 75 = .ok (.isub, 1) := by decide +kernel
theorem dX4_about_76 : decode cX4_about 76 = .ok (.iaload, 1) := by decide +kernel
theorem dX4_about_77 : decode cX4_about 77 = .ok (.ireturn, 1) := by decide +kernel
theorem dX4_about_78 : decode cX4_about 78 = .ok (.aload_n 3, 1) := by decide +kernel
theorem dX4_about_79 : decode cX4_about 79 = .ok (.getfield 62, 3) := by decide +kernel
theorem dX4_about_82 : decode cX4_about 82 = .ok (.ireturn, 1) := by decide +kernel
theorem dX4_about_83 : decode cX4_about 83 = .ok (.aload_n 3, 1) := by decide +kernel
theorem dX4_about_84 : decode cX4_about 84 = .ok (.getfield 65, 3) := by decide +kernel
theorem dX4_about_87 : decode cX4_about 87 = .ok (.ireturn, 1) := by decide +kernel
theorem dX4_about_88 : decode cX4_about 88 = .ok (.iconst (-1), 1) := by decide +kernel
theorem dX4_about_89 : decode cX4_about 89 = .ok (.ireturn, 1) := by decide +kernel
theorem dX4_thinning_0 : decode cX4_thinning 0 = .ok (.iload_n 1, 1) := by decide +kernel
theorem dX4_thinning_1 : decode cX4_thinning 1 = .ok (.iconst 0, 1) := by decide +kernel
theorem dX4_thinning_2 : decode cX4_thinning 2 = .ok (.bipush 30, 2) := by decide +kernel
theorem dX4_thinning_4 : decode cX4_thinning 4 = .ok (.invokestatic 52, 3) := by decide +kernel
theorem dX4_thinning_7 : decode cX4_thinning 7 = .ok (.ifCond .ne 5, 3) := by decide +kernel
theorem dX4_thinning_10 : decode cX4_thinning 10 = .ok (.iconst (-1), 1) := by decide +kernel
theorem dX4_thinning_11 : decode cX4_thinning 11 = .ok (.ireturn, 1) := by decide +kernel
theorem dX4_thinning_12 : decode cX4_thinning 12 = .ok (.aload_n 0, 1) := by decide +kernel
theorem dX4_thinning_13 : decode cX4_thinning 13 = .ok (.getfield 40, 3) := by decide +kernel
theorem dX4_thinning_16 : decode cX4_thinning 16 = .ok (.istore_n 2, 1) := by decide +kernel
theorem dX4_thinning_17 : decode cX4_thinning 17 = .ok (.aload_n 0, 1) := by decide +kernel
theorem dX4_thinning_18 : decode cX4_thinning 18 = .ok (.iload_n 1, 1) := by decide +kernel
theorem dX4_thinning_19 : decode cX4_thinning 19 = .ok (.putfield 40, 3) := by decide +kernel
theorem dX4_thinning_22 : decode cX4_thinning 22 = .ok (.iload_n 2, 1) := by decide +kernel
theorem dX4_thinning_23 : decode cX4_thinning 23 = .ok (.ireturn, 1) := by decide +kernel
theorem dX4_cut_0 : decode cX4_cut 0 = .ok (.iload_n 1, 1) := by decide +kernel
theorem dX4_cut_1 : decode cX4_cut 1 = .ok (.invokestatic 68, 3) := by decide +kernel
theorem dX4_cut_4 : decode cX4_cut 4 = .ok (.ifCond .eq 10, 3) := by decide +kernel
theorem dX4_cut_7 : decode cX4_cut 7 = .ok (.iload_n 2, 1) := by decide +kernel
theorem dX4_cut_8 : decode cX4_cut 8 = .ok (.invokestatic 48, 3) := by decide +kernel
theorem dX4_cut_11 : decode cX4_cut 11 = .ok (.ifCond .ne 5, 3) := by decide +kernel
theorem dX4_cut_14 : decode cX4_cut 14 = .ok (.iconst (-1), 1) := by decide +kernel
theorem dX4_cut_15 : decode cX4_cut 15 = .ok (.ireturn, 1) := by decide +kernel
theorem dX4_cut_16 : decode cX4_cut 16 = .ok (.aload_n 0, 1) := by decide +kernel
theorem dX4_cut_17 : decode cX4_cut 17 = .ok (.dup, 1) := by decide +kernel
theorem dX4_cut_18 : decode cX4_cut 18 = .ok (.getfield 71, 3) := by decide +kernel
theorem dX4_cut_21 : decode cX4_cut 21 = .ok (.getstatic 75, 3) := by decide +kernel
theorem dX4_cut_24 : decode cX4_cut 24 = .ok (.iload_n 1, 1) := by decide +kernel
theorem dX4_cut_25 : decode cX4_cut 25 = .ok (.iaload, 1) := by decide +kernel
theorem dX4_cut_26 : decode cX4_cut 26 = .ok (.i2l, 1) := by decide +kernel
theorem dX4_cut_27 : decode cX4_cut 27 = .ok (.ladd, 1) := by decide +kernel
theorem dX4_cut_28 : decode cX4_cut 28 = .ok (.putfield 71, 3) := by decide +kernel
theorem dX4_cut_31 : decode cX4_cut 31 = .ok (.aload_n 0, 1) := by decide +kernel
theorem dX4_cut_32 : decode cX4_cut 32 = .ok (.getfield 11, 3) := by decide +kernel
theorem dX4_cut_35 : decode cX4_cut 35 = .ok (.iload_n 2, 1) := by decide +kernel
theorem dX4_cut_36 : decode cX4_cut 36 = .ok (.aaload, 1) := by decide +kernel
theorem dX4_cut_37 : decode cX4_cut 37 = .ok (.iload_n 1, 1) := by decide +kernel
theorem dX4_cut_38 : decode cX4_cut 38 = .ok (.aload_n 0, 1) := by decide +kernel
theorem dX4_cut_39 : decode cX4_cut 39 = .ok (.getfield 40, 3) := by decide +kernel
theorem dX4_cut_42 : decode cX4_cut 42 = .ok (.invokevirtual 78, 3) := by decide +kernel
theorem dX4_cut_45 : decode cX4_cut 45 = .ok (.ireturn, 1) := by decide +kernel
theorem dX4_turn_0 : decode cX4_turn 0 = .ok (.iload_n 1, 1) := by decide +kernel
theorem dX4_turn_1 : decode cX4_turn 1 = .ok (.invokestatic 48, 3) := by decide +kernel
theorem dX4_turn_4 : decode cX4_turn 4 = .ok (.ifCond .eq 10, 3) := by decide +kernel
theorem dX4_turn_7 : decode cX4_turn 7 = .ok (.iload_n 2, 1) := by decide +kernel
theorem dX4_turn_8 : decode cX4_turn 8 = .ok (.invokestatic 68, 3) := by decide +kernel
theorem dX4_turn_11 : decode cX4_turn 11 = .ok (.ifCond .ne 5, 3) := by decide +kernel
theorem dX4_turn_14 : decode cX4_turn 14 = .ok (.iconst (-1), 1) := by decide +kernel
theorem dX4_turn_15 : decode cX4_turn 15 = .ok (.ireturn, 1) := by decide +kernel
theorem dX4_turn_16 : decode cX4_turn 16 = .ok (.aload_n 0, 1) := by decide +kernel
theorem dX4_turn_17 : decode cX4_turn 17 = .ok (.getfield 11, 3) := by decide +kernel
theorem dX4_turn_20 : decode cX4_turn 20 = .ok (.iload_n 1, 1) := by decide +kernel
theorem dX4_turn_21 : decode cX4_turn 21 = .ok (.aaload, 1) := by decide +kernel
theorem dX4_turn_22 : decode cX4_turn 22 = .ok (.iload_n 2, 1) := by decide +kernel
theorem dX4_turn_23 : decode cX4_turn 23 = .ok (.aload_n 0, 1) := by decide +kernel
theorem dX4_turn_24 : decode cX4_turn 24 = .ok (.getfield 40, 3) := by decide +kernel
theorem dX4_turn_27 : decode cX4_turn 27 = .ok (.invokevirtual 78, 3) := by decide +kernel
theorem dX4_turn_30 : decode cX4_turn 30 = .ok (.istore_n 3, 1) := by decide +kernel
theorem dX4_turn_31 : decode cX4_turn 31 = .ok (.aload_n 0, 1) := by decide +kernel
theorem dX4_turn_32 : decode cX4_turn 32 = .ok (.getfield 11, 3) := by decide +kernel
theorem dX4_turn_35 : decode cX4_turn 35 = .ok (.iload_n 1, 1) := by decide +kernel
theorem dX4_turn_36 : decode cX4_turn 36 = .ok (.aaload, 1) := by decide +kernel
theorem dX4_turn_37 : decode cX4_turn 37 = .ok (.getfield 56, 3) := by decide +kernel
theorem dX4_turn_40 : decode cX4_turn 40 = .ok (.iconst 2, 1) := by decide +kernel
theorem dX4_turn_41 : decode cX4_turn 41 = .ok (.iload_n 3, 1) := by decide +kernel
theorem dX4_turn_42 : decode cX4_turn 42 = .ok (.imul, 1) := by decide +kernel
theorem dX4_turn_43 : decode cX4_turn 43 = .ok (.isub, 1) := by decide +kernel
theorem dX4_turn_44 : decode cX4_turn 44 = .ok (.sipush 6000, 3) := by decide +kernel
theorem dX4_turn_47 : decode cX4_turn 47 = .ok (.if_icmp .ge 6, 3) := by decide +kernel
theorem dX4_turn_50 : decode cX4_turn 50 = .ok (.bipush (-2), 2) := by decide +kernel
theorem dX4_turn_52 : decode cX4_turn 52 = .ok (.ireturn, 1) := by decide +kernel
theorem dX4_turn_53 : decode cX4_turn 53 = .ok (.aload_n 0, 1) := by decide +kernel
theorem dX4_turn_54 : decode cX4_turn 54 = .ok (.getfield 11, 3) := by decide +kernel
theorem dX4_turn_57 : decode cX4_turn 57 = .ok (.iload_n 1, 1) := by decide +kernel
theorem dX4_turn_58 : decode cX4_turn 58 = .ok (.aaload, 1) := by decide +kernel
theorem dX4_turn_59 : decode cX4_turn 59 = .ok (.iload_n 3, 1) := by decide +kernel
theorem dX4_turn_60 : decode cX4_turn 60 = .ok (.invokevirtual 82, 3) := by decide +kernel
theorem dX4_turn_63 : decode cX4_turn 63 = .ok (.aload_n 0, 1) := by decide +kernel
theorem dX4_turn_64 : decode cX4_turn 64 = .ok (.dup, 1) := by decide +kernel
theorem dX4_turn_65 : decode cX4_turn 65 = .ok (.getfield 86, 3) := by decide +kernel
theorem dX4_turn_68 : decode cX4_turn 68 = .ok (.iconst 1, 1) := by decide +kernel
theorem dX4_turn_69 : decode cX4_turn 69 = .ok (.iadd, 1) := by decide +kernel
theorem dX4_turn_70 : decode cX4_turn 70 = .ok (.putfield 86, 3) := by decide +kernel
theorem dX4_turn_73 : decode cX4_turn 73 = .ok (.aload_n 0, 1) := by decide +kernel
theorem dX4_turn_74 : decode cX4_turn 74 = .ok (.getfield 11, 3) := by decide +kernel
theorem dX4_turn_77 : decode cX4_turn 77 = .ok (.iload_n 1, 1) := by decide +kernel
theorem dX4_turn_78 : decode cX4_turn 78 = .ok (.aaload, 1) := by decide +kernel
theorem dX4_turn_79 : decode cX4_turn 79 = .ok (.getfield 56, 3) := by decide +kernel
theorem dX4_turn_82 : decode cX4_turn 82 = .ok (.ireturn, 1) := by decide +kernel
theorem dX4_miles_0 : decode cX4_miles 0 = .ok (.iload_n 1, 1) := by decide +kernel
theorem dX4_miles_1 : decode cX4_miles 1 = .ok (.iconst 1, 1) := by decide +kernel
theorem dX4_miles_2 : decode cX4_miles 2 = .ok (.sipush 500, 3) := by decide +kernel
theorem dX4_miles_5 : decode cX4_miles 5 = .ok (.invokestatic 52, 3) := by decide +kernel
theorem dX4_miles_8 : decode cX4_miles 8 = .ok (.ifCond .ne 5, 3) := by decide +kernel
theorem dX4_miles_11 : decode cX4_miles 11 = .ok (.iconst (-1), 1) := by decide +kernel
theorem dX4_miles_12 : decode cX4_miles 12 = .ok (.ireturn, 1) := by decide +kernel
theorem dX4_miles_13 : decode cX4_miles 13 = .ok (.iconst 0, 1) := by decide +kernel
theorem dX4_miles_14 : decode cX4_miles 14 = .ok (.istore_n 2, 1) := by decide +kernel
theorem dX4_miles_15 : decode cX4_miles 15 = .ok (.iconst 0, 1) := by decide +kernel
theorem dX4_miles_16 : decode cX4_miles 16 = .ok (.istore_n 3, 1) := by decide +kernel
theorem dX4_miles_17 : decode cX4_miles 17 = .ok (.iload_n 3, 1) := by decide +kernel
theorem dX4_miles_18 : decode cX4_miles 18 = .ok (.bipush 16, 2) := by decide +kernel
theorem dX4_miles_20 : decode cX4_miles 20 = .ok (.if_icmp .ge 34, 3) := by decide +kernel
theorem dX4_miles_23 : decode cX4_miles 23 = .ok (.aload_n 0, 1) := by decide +kernel
theorem dX4_miles_24 : decode cX4_miles 24 = .ok (.getfield 11, 3) := by decide +kernel
theorem dX4_miles_27 : decode cX4_miles 27 = .ok (.iload_n 3, 1) := by decide +kernel
theorem dX4_miles_28 : decode cX4_miles 28 = .ok (.aaload, 1) := by decide +kernel
theorem dX4_miles_29 : decode cX4_miles 29 = .ok (.iload_n 1, 1) := by decide +kernel
theorem dX4_miles_30 : decode cX4_miles 30 = .ok (.invokevirtual 89, 3) := by decide +kernel
theorem dX4_miles_33 : decode cX4_miles 33 = .ok (.aload_n 0, 1) := by decide +kernel
theorem dX4_miles_34 : decode cX4_miles 34 = .ok (.getfield 11, 3) := by decide +kernel
theorem dX4_miles_37 : decode cX4_miles 37 = .ok (.iload_n 3, 1) := by decide +kernel
theorem dX4_miles_38 : decode cX4_miles 38 = .ok (.aaload, 1) := by decide +kernel
theorem dX4_miles_39 : decode cX4_miles 39 = .ok (.invokevirtual 92, 3) := by decide +kernel
theorem dX4_miles_42 : decode cX4_miles 42 = .ok (.ifCond .gt 6, 3) := by decide +kernel
theorem dX4_miles_45 : decode cX4_miles 45 = .ok (.iinc 2 1, 3) := by decide +kernel
theorem dX4_miles_48 : decode cX4_miles 48 = .ok (.iinc 3 1, 3) := by decide +kernel
theorem dX4_miles_51 : decode cX4_miles 51 = .ok (.goto (-34), 3) := by decide +kernel
theorem dX4_miles_54 : decode cX4_miles 54 = .ok (.iload_n 2, 1) := by decide +kernel
theorem dX4_miles_55 : decode cX4_miles 55 = .ok (.ireturn, 1) := by decide +kernel
theorem dX4_law_0 : decode cX4_law 0 = .ok (.iload_n 1, 1) := by decide +kernel
theorem dX4_law_1 : decode cX4_law 1 = .ok (.iconst 0, 1) := by decide +kernel
theorem dX4_law_2 : decode cX4_law 2 = .ok (.iconst 3, 1) := by decide +kernel
theorem dX4_law_3 : decode cX4_law 3 = .ok (.invokestatic 52, 3) := by decide +kernel
theorem dX4_law_6 : decode cX4_law 6 = .ok (.ifCond .eq 14, 3) := by decide +kernel
theorem dX4_law_9 : decode cX4_law 9 = .ok (.iload_n 2, 1) := by decide +kernel
theorem dX4_law_10 : decode cX4_law 10 = .ok (.iconst 0, 1) := by decide +kernel
theorem dX4_law_11 : decode cX4_law 11 = .ok (.sipush 4000, 3) := by decide +kernel
theorem dX4_law_14 : decode cX4_law 14 = .ok (.invokestatic 52, 3) := by decide +kernel
theorem dX4_law_17 : decode cX4_law 17 = .ok (.ifCond .ne 5, 3) := by decide +kernel
theorem dX4_law_20 : decode cX4_law 20 = .ok (.iconst (-1), 1) := by decide +kernel
theorem dX4_law_21 : decode cX4_law 21 = .ok (.ireturn, 1) := by decide +kernel
theorem dX4_law_22 : decode cX4_law 22 = .ok (.aload_n 0, 1) := by decide +kernel
theorem dX4_law_23 : decode cX4_law 23 = .ok (.getfield 18, 3) := by decide +kernel
theorem dX4_law_26 : decode cX4_law 26 = .ok (.getfield 96, 3) := by decide +kernel
theorem dX4_law_29 : decode cX4_law 29 = .ok (.iload_n 1, 1) := by decide +kernel
theorem dX4_law_30 : decode cX4_law 30 = .ok (.iaload, 1) := by decide +kernel
theorem dX4_law_31 : decode cX4_law 31 = .ok (.istore_n 3, 1) := by decide +kernel
theorem dX4_law_32 : decode cX4_law 32 = .ok (.aload_n 0, 1) := by decide +kernel
theorem dX4_law_33 : decode cX4_law 33 = .ok (.getfield 18, 3) := by decide +kernel
theorem dX4_law_36 : decode cX4_law 36 = .ok (.getfield 96, 3) := by decide +kernel
theorem dX4_law_39 : decode cX4_law 39 = .ok (.iload_n 1, 1) := by decide +kernel
theorem dX4_law_40 : decode cX4_law 40 = .ok (.iload_n 2, 1) := by decide +kernel
theorem dX4_law_41 : decode cX4_law 41 = .ok (.iastore, 1) := by decide +kernel
theorem dX4_law_42 : decode cX4_law 42 = .ok (.iload_n 3, 1) := by decide +kernel
theorem dX4_law_43 : decode cX4_law 43 = .ok (.ireturn, 1) := by decide +kernel
theorem dX4_broken_0 : decode cX4_broken 0 = .ok (.aload_n 0, 1) := by decide +kernel
theorem dX4_broken_1 : decode cX4_broken 1 = .ok (.invokevirtual 99, 3) := by decide +kernel
theorem dX4_broken_4 : decode cX4_broken 4 = .ok (.aload_n 0, 1) := by decide +kernel
theorem dX4_broken_5 : decode cX4_broken 5 = .ok (.getfield 18, 3) := by decide +kernel
theorem dX4_broken_8 : decode cX4_broken 8 = .ok (.aload_n 0, 1) := by decide +kernel
theorem dX4_broken_9 : decode cX4_broken 9 = .ok (.getfield 36, 3) := by decide +kernel
theorem dX4_broken_12 : decode cX4_broken 12 = .ok (.invokevirtual 102, 3) := by decide +kernel
theorem dX4_broken_15 : decode cX4_broken 15 = .ok (.ireturn, 1) := by decide +kernel
theorem dX4_kept_0 : decode cX4_kept 0 = .ok (.iload_n 1, 1) := by decide +kernel
theorem dX4_kept_1 : decode cX4_kept 1 = .ok (.invokestatic 48, 3) := by decide +kernel
theorem dX4_kept_4 : decode cX4_kept 4 = .ok (.ifCond .ne 5, 3) := by decide +kernel
theorem dX4_kept_7 : decode cX4_kept 7 = .ok (.iconst (-1), 1) := by decide +kernel
theorem dX4_kept_8 : decode cX4_kept 8 = .ok (.ireturn, 1) := by decide +kernel
theorem dX4_kept_9 : decode cX4_kept 9 = .ok (.aload_n 0, 1) := by decide +kernel
theorem dX4_kept_10 : decode cX4_kept 10 = .ok (.invokevirtual 106, 3) := by decide +kernel
theorem dX4_kept_13 : decode cX4_kept 13 = .ok (.aload_n 0, 1) := by decide +kernel
theorem dX4_kept_14 : decode cX4_kept 14 = .ok (.getfield 36, 3) := by decide +kernel
theorem dX4_kept_17 : decode cX4_kept 17 = .ok (.iload_n 1, 1) := by decide +kernel
theorem dX4_kept_18 : decode cX4_kept 18 = .ok (.iaload, 1) := by decide +kernel
theorem dX4_kept_19 : decode cX4_kept 19 = .ok (.ireturn, 1) := by decide +kernel
theorem dX4_steel_0 : decode cX4_steel 0 = .ok (.aload_n 0, 1) := by decide +kernel
theorem dX4_steel_1 : decode cX4_steel 1 = .ok (.invokevirtual 106, 3) := by decide +kernel
theorem dX4_steel_4 : decode cX4_steel 4 = .ok (.iconst 0, 1) := by decide +kernel
theorem dX4_steel_5 : decode cX4_steel 5 = .ok (.istore_n 1, 1) := by decide +kernel
theorem dX4_steel_6 : decode cX4_steel 6 = .ok (.iconst 0, 1) := by decide +kernel
theorem dX4_steel_7 : decode cX4_steel 7 = .ok (.istore_n 2, 1) := by decide +kernel
theorem dX4_steel_8 : decode cX4_steel 8 = .ok (.iload_n 2, 1) := by decide +kernel
theorem dX4_steel_9 : decode cX4_steel 9 = .ok (.bipush 16, 2) := by decide +kernel
theorem dX4_steel_11 : decode cX4_steel 11 = .ok (.if_icmp .ge 28, 3) := by decide +kernel
theorem dX4_steel_14 : decode cX4_steel 14 = .ok (.iload_n 1, 1) := by decide +kernel
theorem dX4_steel_15 : decode cX4_steel 15 = .ok (.aload_n 0, 1) := by decide +kernel
theorem dX4_steel_16 : decode cX4_steel 16 = .ok (.getfield 11, 3) := by decide +kernel
theorem dX4_steel_19 : decode cX4_steel 19 = .ok (.iload_n 2, 1) := by decide +kernel
theorem dX4_steel_20 : decode cX4_steel 20 = .ok (.aaload, 1) := by decide +kernel
theorem dX4_steel_21 : decode cX4_steel 21 = .ok (.getfield 56, 3) := by decide +kernel
theorem dX4_steel_24 : decode cX4_steel 24 = .ok (.aload_n 0, 1) := by decide +kernel
theorem dX4_steel_25 : decode cX4_steel 25 = .ok (.getfield 36, 3) := by decide +kernel
theorem dX4_steel_28 : decode cX4_steel 28 = .ok (.iload_n 2, 1) := by decide +kernel
theorem dX4_steel_29 : decode cX4_steel 29 = .ok (.iaload, 1) := by decide +kernel
theorem dX4_steel_30 : decode cX4_steel 30 = .ok (.isub, 1) := by decide +kernel
theorem dX4_steel_31 : decode cX4_steel 31 = .ok (.iadd, 1) := by decide +kernel
theorem dX4_steel_32 : decode cX4_steel 32 = .ok (.istore_n 1, 1) := by decide +kernel
theorem dX4_steel_33 : decode cX4_steel 33 = .ok (.iinc 2 1, 3) := by decide +kernel
theorem dX4_steel_36 : decode cX4_steel 36 = .ok (.goto (-28), 3) := by decide +kernel
theorem dX4_steel_39 : decode cX4_steel 39 = .ok (.iload_n 1, 1) := by decide +kernel
theorem dX4_steel_40 : decode cX4_steel 40 = .ok (.ireturn, 1) := by decide +kernel
theorem dX4_even_0 : decode cX4_even 0 = .ok (.aload_n 0, 1) := by decide +kernel
theorem dX4_even_1 : decode cX4_even 1 = .ok (.invokevirtual 106, 3) := by decide +kernel
theorem dX4_even_4 : decode cX4_even 4 = .ok (.iconst 0, 1) := by decide +kernel
theorem dX4_even_5 : decode cX4_even 5 = .ok (.istore_n 1, 1) := by decide +kernel
theorem dX4_even_6 : decode cX4_even 6 = .ok (.iconst 0, 1) := by decide +kernel
theorem dX4_even_7 : decode cX4_even 7 = .ok (.istore_n 2, 1) := by decide +kernel
theorem dX4_even_8 : decode cX4_even 8 = .ok (.iload_n 2, 1) := by decide +kernel
theorem dX4_even_9 : decode cX4_even 9 = .ok (.bipush 16, 2) := by decide +kernel
theorem dX4_even_11 : decode cX4_even 11 = .ok (.if_icmp .ge 45, 3) := by decide +kernel
theorem dX4_even_14 : decode cX4_even 14 = .ok (.aload_n 0, 1) := by decide +kernel
theorem dX4_even_15 : decode cX4_even 15 = .ok (.getfield 36, 3) := by decide +kernel
theorem dX4_even_18 : decode cX4_even 18 = .ok (.iload_n 2, 1) := by decide +kernel
theorem dX4_even_19 : decode cX4_even 19 = .ok (.iaload, 1) := by decide +kernel
theorem dX4_even_20 : decode cX4_even 20 = .ok (.aload_n 0, 1) := by decide +kernel
theorem dX4_even_21 : decode cX4_even 21 = .ok (.getfield 11, 3) := by decide +kernel
theorem dX4_even_24 : decode cX4_even 24 = .ok (.iload_n 2, 1) := by decide +kernel
theorem dX4_even_25 : decode cX4_even 25 = .ok (.aaload, 1) := by decide +kernel
theorem dX4_even_26 : decode cX4_even 26 = .ok (.getfield 56, 3) := by decide +kernel
theorem dX4_even_29 : decode cX4_even 29 = .ok (.if_icmp .ge 6, 3) := by decide +kernel
theorem dX4_even_32 : decode cX4_even 32 = .ok (.iinc 1 1, 3) := by decide +kernel
theorem dX4_even_35 : decode cX4_even 35 = .ok (.aload_n 0, 1) := by decide +kernel
theorem dX4_even_36 : decode cX4_even 36 = .ok (.getfield 11, 3) := by decide +kernel
theorem dX4_even_39 : decode cX4_even 39 = .ok (.iload_n 2, 1) := by decide +kernel
theorem dX4_even_40 : decode cX4_even 40 = .ok (.aaload, 1) := by decide +kernel
theorem dX4_even_41 : decode cX4_even 41 = .ok (.aload_n 0, 1) := by decide +kernel
theorem dX4_even_42 : decode cX4_even 42 = .ok (.getfield 36, 3) := by decide +kernel
theorem dX4_even_45 : decode cX4_even 45 = .ok (.iload_n 2, 1) := by decide +kernel
theorem dX4_even_46 : decode cX4_even 46 = .ok (.iaload, 1) := by decide +kernel
theorem dX4_even_47 : decode cX4_even 47 = .ok (.putfield 56, 3) := by decide +kernel
theorem dX4_even_50 : decode cX4_even 50 = .ok (.iinc 2 1, 3) := by decide +kernel
theorem dX4_even_53 : decode cX4_even 53 = .ok (.goto (-45), 3) := by decide +kernel
theorem dX4_even_56 : decode cX4_even 56 = .ok (.iload_n 1, 1) := by decide +kernel
theorem dX4_even_57 : decode cX4_even 57 = .ok (.ireturn, 1) := by decide +kernel
theorem dX4_spare_0 : decode cX4_spare 0 = .ok (.iload_n 1, 1) := by decide +kernel
theorem dX4_spare_1 : decode cX4_spare 1 = .ok (.sipush 6000, 3) := by decide +kernel
theorem dX4_spare_4 : decode cX4_spare 4 = .ok (.sipush 9200, 3) := by decide +kernel
theorem dX4_spare_7 : decode cX4_spare 7 = .ok (.invokestatic 52, 3) := by decide +kernel
theorem dX4_spare_10 : decode cX4_spare 10 = .ok (.ifCond .ne 5, 3) := by decide +kernel
theorem dX4_spare_13 : decode cX4_spare 13 = .ok (.iconst (-1), 1) := by decide +kernel
theorem dX4_spare_14 : decode cX4_spare 14 = .ok (.ireturn, 1) := by decide +kernel
theorem dX4_spare_15 : decode cX4_spare 15 = .ok (.aload_n 0, 1) := by decide +kernel
theorem dX4_spare_16 : decode cX4_spare 16 = .ok (.getfield 25, 3) := by decide +kernel
theorem dX4_spare_19 : decode cX4_spare 19 = .ok (.getfield 109, 3) := by decide +kernel
theorem dX4_spare_22 : decode cX4_spare 22 = .ok (.bipush 8, 2) := by decide +kernel
theorem dX4_spare_24 : decode cX4_spare 24 = .ok (.if_icmp .ne 6, 3) := by decide +kernel
theorem dX4_spare_27 : decode cX4_spare 27 = .ok (.bipush (-3), 2) := by decide +kernel
theorem dX4_spare_29 : decode cX4_spare 29 = .ok (.ireturn, 1) := by decide +kernel
theorem dX4_spare_30 : decode cX4_spare 30 = .ok (.aload_n 0, 1) := by decide +kernel
theorem dX4_spare_31 : decode cX4_spare 31 = .ok (.getfield 25, 3) := by decide +kernel
theorem dX4_spare_34 : decode cX4_spare 34 = .ok (.iload_n 1, 1) := by decide +kernel
theorem dX4_spare_35 : decode cX4_spare 35 = .ok (.invokevirtual 112, 3) := by decide +kernel
theorem dX4_spare_38 : decode cX4_spare 38 = .ok (.ireturn, 1) := by decide +kernel
theorem dX4_sell_0 : decode cX4_sell 0 = .ok (.aload_n 0, 1) := by decide +kernel
theorem dX4_sell_1 : decode cX4_sell 1 = .ok (.getfield 25, 3) := by decide +kernel
theorem dX4_sell_4 : decode cX4_sell 4 = .ok (.getfield 109, 3) := by decide +kernel
theorem dX4_sell_7 : decode cX4_sell 7 = .ok (.ifCond .ne 6, 3) := by decide +kernel
theorem dX4_sell_10 : decode cX4_sell 10 = .ok (.bipush (-2), 2) := by decide +kernel
theorem dX4_sell_12 : decode cX4_sell 12 = .ok (.ireturn, 1) := by decide +kernel
theorem dX4_sell_13 : decode cX4_sell 13 = .ok (.aload_n 0, 1) := by decide +kernel
theorem dX4_sell_14 : decode cX4_sell 14 = .ok (.getfield 25, 3) := by decide +kernel
theorem dX4_sell_17 : decode cX4_sell 17 = .ok (.dup, 1) := by decide +kernel
theorem dX4_sell_18 : decode cX4_sell 18 = .ok (.getfield 109, 3) := by decide +kernel
theorem dX4_sell_21 : decode cX4_sell 21 = .ok (.iconst 1, 1) := by decide +kernel
theorem dX4_sell_22 : decode cX4_sell 22 = .ok (.isub, 1) := by decide +kernel
theorem dX4_sell_23 : decode cX4_sell 23 = .ok (.putfield 109, 3) := by decide +kernel
theorem dX4_sell_26 : decode cX4_sell 26 = .ok (.aload_n 0, 1) := by decide +kernel
theorem dX4_sell_27 : decode cX4_sell 27 = .ok (.getfield 25, 3) := by decide +kernel
theorem dX4_sell_30 : decode cX4_sell 30 = .ok (.getfield 109, 3) := by decide +kernel
theorem dX4_sell_33 : decode cX4_sell 33 = .ok (.ireturn, 1) := by decide +kernel
theorem dX4_pairs_0 : decode cX4_pairs 0 = .ok (.iload_n 1, 1) := by decide +kernel
theorem dX4_pairs_1 : decode cX4_pairs 1 = .ok (.iconst 0, 1) := by decide +kernel
theorem dX4_pairs_2 : decode cX4_pairs 2 = .ok (.iconst 1, 1) := by decide +kernel
theorem dX4_pairs_3 : decode cX4_pairs 3 = .ok (.invokestatic 52, 3) := by decide +kernel
theorem dX4_pairs_6 : decode cX4_pairs 6 = .ok (.ifCond .ne 5, 3) := by decide +kernel
theorem dX4_pairs_9 : decode cX4_pairs 9 = .ok (.iconst (-1), 1) := by decide +kernel
theorem dX4_pairs_10 : decode cX4_pairs 10 = .ok (.ireturn, 1) := by decide +kernel
theorem dX4_pairs_11 : decode cX4_pairs 11 = .ok (.aload_n 0, 1) := by decide +kernel
theorem dX4_pairs_12 : decode cX4_pairs 12 = .ok (.getfield 25, 3) := by decide +kernel
theorem dX4_pairs_15 : decode cX4_pairs 15 = .ok (.aload_n 0, 1) := by decide +kernel
theorem dX4_pairs_16 : decode cX4_pairs 16 = .ok (.getfield 18, 3) := by decide +kernel
theorem dX4_pairs_19 : decode cX4_pairs 19 = .ok (.getfield 96, 3) := by decide +kernel
theorem dX4_pairs_22 : decode cX4_pairs 22 = .ok (.iconst 0, 1) := by decide +kernel
theorem dX4_pairs_23 : decode cX4_pairs 23 = .ok (.iaload, 1) := by decide +kernel
theorem dX4_pairs_24 : decode cX4_pairs 24 = .ok (.invokevirtual 116, 3) := by decide +kernel
theorem dX4_pairs_27 : decode cX4_pairs 27 = .ok (.iload_n 1, 1) := by decide +kernel
theorem dX4_pairs_28 : decode cX4_pairs 28 = .ok (.ifCond .ne 13, 3) := by decide +kernel
theorem dX4_pairs_31 : decode cX4_pairs 31 = .ok (.aload_n 0, 1) := by decide +kernel
theorem dX4_pairs_32 : decode cX4_pairs 32 = .ok (.getfield 25, 3) := by decide +kernel
theorem dX4_pairs_35 : decode cX4_pairs 35 = .ok (.invokevirtual 119, 3) := by decide +kernel
theorem dX4_pairs_38 : decode cX4_pairs 38 = .ok (.goto 10, 3) := by decide +kernel
theorem dX4_pairs_41 : decode cX4_pairs 41 = .ok (.aload_n 0, 1) := by decide +kernel
theorem dX4_pairs_42 : decode cX4_pairs 42 = .ok (.getfield 25, 3) := by decide +kernel
theorem dX4_pairs_45 : decode cX4_pairs 45 = .ok (.invokevirtual 122, 3) := by decide +kernel
theorem dX4_pairs_48 : decode cX4_pairs 48 = .ok (.ireturn, 1) := by decide +kernel
theorem dX4_read_0 : decode cX4_read 0 = .ok (.iload_n 1, 1) := by decide +kernel
theorem dX4_read_1 : decode cX4_read 1 = .ok (.invokestatic 48, 3) := by decide +kernel
theorem dX4_read_4 : decode cX4_read 4 = .ok (.ifCond .eq 25, 3) := by decide +kernel
theorem dX4_read_7 : decode cX4_read 7 = .ok (.iload_n 2, 1) := by decide +kernel
theorem dX4_read_8 : decode cX4_read 8 = .ok (.iconst 0, 1) := by decide +kernel
theorem dX4_read_9 : decode cX4_read 9 = .ok (.iconst 1, 1) := by decide +kernel
theorem dX4_read_10 : decode cX4_read 10 = .ok (.invokestatic 52, 3) := by decide +kernel
theorem dX4_read_13 : decode cX4_read 13 = .ok (.ifCond .eq 16, 3) := by decide +kernel
theorem dX4_read_16 : decode cX4_read 16 = .ok (.iload_n 3, 1) := by decide +kernel
theorem dX4_read_17 : decode cX4_read 17 = .ok (.sipush 5000, 3) := by decide +kernel
theorem dX4_read_20 : decode cX4_read 20 = .ok (.sipush 10000, 3) := by decide +kernel
theorem dX4_read_23 : decode cX4_read 23 = .ok (.invokestatic 52, 3) := by decide +kernel
theorem dX4_read_26 : decode cX4_read 26 = .ok (.ifCond .ne 5, 3) := by decide +kernel
theorem dX4_read_29 : decode cX4_read 29 = .ok (.iconst (-1), 1) := by decide +kernel
theorem dX4_read_30 : decode cX4_read 30 = .ok (.ireturn, 1) := by decide +kernel
theorem dX4_read_31 : decode cX4_read 31 = .ok (.aload_n 0, 1) := by decide +kernel
theorem dX4_read_32 : decode cX4_read 32 = .ok (.getfield 32, 3) := by decide +kernel
theorem dX4_read_35 : decode cX4_read 35 = .ok (.getfield 125, 3) := by decide +kernel
theorem dX4_read_38 : decode cX4_read 38 = .ok (.bipush 20, 2) := by decide +kernel
theorem dX4_read_40 : decode cX4_read 40 = .ok (.if_icmp .ne 6, 3) := by decide +kernel
theorem dX4_read_43 : decode cX4_read 43 = .ok (.bipush (-3), 2) := by decide +kernel
theorem dX4_read_45 : decode cX4_read 45 = .ok (.ireturn, 1) := by decide +kernel
theorem dX4_read_46 : decode cX4_read 46 = .ok (.aload_n 0, 1) := by decide +kernel
theorem dX4_read_47 : decode cX4_read 47 = .ok (.getfield 32, 3) := by decide +kernel
theorem dX4_read_50 : decode cX4_read 50 = .ok (.iload_n 1, 1) := by decide +kernel
theorem dX4_read_51 : decode cX4_read 51 = .ok (.iload_n 2, 1) := by decide +kernel
theorem dX4_read_52 : decode cX4_read 52 = .ok (.iload_n 3, 1) := by decide +kernel
theorem dX4_read_53 : decode cX4_read 53 = .ok (.invokevirtual 128, 3) := by decide +kernel
theorem dX4_read_56 : decode cX4_read 56 = .ok (.aload_n 0, 1) := by decide +kernel
theorem dX4_read_57 : decode cX4_read 57 = .ok (.getfield 32, 3) := by decide +kernel
theorem dX4_read_60 : decode cX4_read 60 = .ok (.getfield 125, 3) := by decide +kernel
theorem dX4_read_63 : decode cX4_read 63 = .ok (.ireturn, 1) := by decide +kernel
theorem dX4_forget_0 : decode cX4_forget 0 = .ok (.aload_n 0, 1) := by decide +kernel
theorem dX4_forget_1 : decode cX4_forget 1 = .ok (.getfield 32, 3) := by decide +kernel
theorem dX4_forget_4 : decode cX4_forget 4 = .ok (.getfield 125, 3) := by decide +kernel
theorem dX4_forget_7 : decode cX4_forget 7 = .ok (.ifCond .ne 6, 3) := by decide +kernel
theorem dX4_forget_10 : decode cX4_forget 10 = .ok (.bipush (-2), 2) := by decide +kernel
theorem dX4_forget_12 : decode cX4_forget 12 = .ok (.ireturn, 1) := by decide +kernel
theorem dX4_forget_13 : decode cX4_forget 13 = .ok (.aload_n 0, 1) := by decide +kernel
theorem dX4_forget_14 : decode cX4_forget 14 = .ok (.getfield 32, 3) := by decide +kernel
theorem dX4_forget_17 : decode cX4_forget 17 = .ok (.dup, 1) := by decide +kernel
theorem dX4_forget_18 : decode cX4_forget 18 = .ok (.getfield 125, 3) := by decide +kernel
theorem dX4_forget_21 : decode cX4_forget 21 = .ok (.iconst 1, 1) := by decide +kernel
theorem dX4_forget_22 : decode cX4_forget 22 = .ok (.isub, 1) := by decide +kernel
theorem dX4_forget_23 : decode cX4_forget 23 = .ok (.putfield 125, 3) := by decide +kernel
theorem dX4_forget_26 : decode cX4_forget 26 = .ok (.aload_n 0, 1) := by decide +kernel
theorem dX4_forget_27 : decode cX4_forget 27 = .ok (.getfield 32, 3) := by decide +kernel
theorem dX4_forget_30 : decode cX4_forget 30 = .ok (.getfield 125, 3) := by decide +kernel
theorem dX4_forget_33 : decode cX4_forget 33 = .ok (.ireturn, 1) := by decide +kernel
theorem dX4_offset_0 : decode cX4_offset 0 = .ok (.iload_n 1, 1) := by decide +kernel
theorem dX4_offset_1 : decode cX4_offset 1 = .ok (.iconst 0, 1) := by decide +kernel
theorem dX4_offset_2 : decode cX4_offset 2 = .ok (.iconst 3, 1) := by decide +kernel
theorem dX4_offset_3 : decode cX4_offset 3 = .ok (.invokestatic 52, 3) := by decide +kernel
theorem dX4_offset_6 : decode cX4_offset 6 = .ok (.ifCond .ne 6, 3) := by decide +kernel
theorem dX4_offset_9 : decode cX4_offset 9 = .ok (.ldc 132, 2) := by decide +kernel
theorem dX4_offset_11 : decode cX4_offset 11 = .ok (.ireturn, 1) := by decide +kernel
theorem dX4_offset_12 : decode cX4_offset 12 = .ok (.aload_n 0, 1) := by decide +kernel
theorem dX4_offset_13 : decode cX4_offset 13 = .ok (.getfield 32, 3) := by decide +kernel
theorem dX4_offset_16 : decode cX4_offset 16 = .ok (.invokevirtual 133, 3) := by decide +kernel
theorem dX4_offset_19 : decode cX4_offset 19 = .ok (.iload_n 1, 1) := by decide +kernel
theorem dX4_offset_20 : decode cX4_offset 20 = .ok (.iconst 3, 1) := by decide +kernel
theorem dX4_offset_21 : decode cX4_offset 21 = .ok (.if_icmp .ne 11, 3) := by decide +kernel
theorem dX4_offset_24 : decode cX4_offset 24 = .ok (.aload_n 0, 1) := by decide +kernel
theorem dX4_offset_25 : decode cX4_offset 25 = .ok (.getfield 32, 3) := by decide +kernel
theorem dX4_offset_28 : decode cX4_offset 28 = .ok (.invokevirtual 136, 3) := by decide +kernel
theorem dX4_offset_31 : decode cX4_offset 31 = .ok (.ireturn, 1) := by decide +kernel
theorem dX4_offset_32 : decode cX4_offset 32 = .ok (.aload_n 0, 1) := by decide +kernel
theorem dX4_offset_33 : decode cX4_offset 33 = .ok (.getfield 32, 3) := by decide +kernel
theorem dX4_offset_36 : decode cX4_offset 36 = .ok (.invokevirtual 139, 3) := by decide +kernel
theorem dX4_offset_39 : decode cX4_offset 39 = .ok (.istore_n 2, 1) := by decide +kernel
theorem dX4_offset_40 : decode cX4_offset 40 = .ok (.iload_n 1, 1) := by decide +kernel
theorem dX4_offset_41 : decode cX4_offset 41 = .ok (.iconst 2, 1) := by decide +kernel
theorem dX4_offset_42 : decode cX4_offset 42 = .ok (.if_icmp .ne 5, 3) := by decide +kernel
theorem dX4_offset_45 : decode cX4_offset 45 = .ok (.iload_n 2, 1) := by decide +kernel
theorem dX4_offset_46 : decode cX4_offset 46 = .ok (.ireturn, 1) := by decide +kernel
theorem dX4_offset_47 : decode cX4_offset 47 = .ok (.iload_n 2, 1) := by decide +kernel
theorem dX4_offset_48 : decode cX4_offset 48 = .ok (.ifCond .ne 6, 3) := by decide +kernel
theorem dX4_offset_51 : decode cX4_offset 51 = .ok (.ldc 142, 2) := by decide +kernel
theorem dX4_offset_53 : decode cX4_offset 53 = .ok (.ireturn, 1) := by decide +kernel
theorem dX4_offset_54 : decode cX4_offset 54 = .ok (.iload_n 1, 1) := by decide +kernel
theorem dX4_offset_55 : decode cX4_offset 55 = .ok (.ifCond .ne 13, 3) := by decide +kernel
theorem dX4_offset_58 : decode cX4_offset 58 = .ok (.aload_n 0, 1) := by decide +kernel
theorem dX4_offset_59 : decode cX4_offset 59 = .ok (.getfield 32, 3) := by decide +kernel
theorem dX4_offset_62 : decode cX4_offset 62 = .ok (.invokevirtual 143, 3) := by decide +kernel
theorem dX4_offset_65 : decode cX4_offset 65 = .ok (.goto 10, 3) := by decide +kernel
theorem dX4_offset_68 : decode cX4_offset 68 = .ok (.aload_n 0, 1) := by decide +kernel
theorem dX4_offset_69 : decode cX4_offset 69 = .ok (.getfield 32, 3) := by decide +kernel
theorem dX4_offset_72 : decode cX4_offset 72 = .ok (.invokevirtual 146, 3) := by decide +kernel
theorem dX4_offset_75 : decode cX4_offset 75 = .ok (.ireturn, 1) := by decide +kernel
theorem dX4_pass_0 : decode cX4_pass 0 = .ok (.iload_n 1, 1) := by decide +kernel
theorem dX4_pass_1 : decode cX4_pass 1 = .ok (.invokestatic 48, 3) := by decide +kernel
theorem dX4_pass_4 : decode cX4_pass 4 = .ok (.ifCond .eq 14, 3) := by decide +kernel
theorem dX4_pass_7 : decode cX4_pass 7 = .ok (.iload_n 2, 1) := by decide +kernel
theorem dX4_pass_8 : decode cX4_pass 8 = .ok (.iconst 0, 1) := by decide +kernel
theorem dX4_pass_9 : decode cX4_pass 9 = .ok (.sipush 999, 3) := by decide +kernel
theorem dX4_pass_12 : decode cX4_pass 12 = .ok (.invokestatic 52, 3) := by decide +kernel
theorem dX4_pass_15 : decode cX4_pass 15 = .ok (.ifCond .ne 5, 3) := by decide +kernel
theorem dX4_pass_18 : decode cX4_pass 18 = .ok (.iconst (-1), 1) := by decide +kernel
theorem dX4_pass_19 : decode cX4_pass 19 = .ok (.ireturn, 1) := by decide +kernel
theorem dX4_pass_20 : decode cX4_pass 20 = .ok (.aload_n 0, 1) := by decide +kernel
theorem dX4_pass_21 : decode cX4_pass 21 = .ok (.getfield 11, 3) := by decide +kernel
theorem dX4_pass_24 : decode cX4_pass 24 = .ok (.iload_n 1, 1) := by decide +kernel
theorem dX4_pass_25 : decode cX4_pass 25 = .ok (.aaload, 1) := by decide +kernel
theorem dX4_pass_26 : decode cX4_pass 26 = .ok (.iload_n 2, 1) := by decide +kernel
theorem dX4_pass_27 : decode cX4_pass 27 = .ok (.invokevirtual 149, 3) := by decide +kernel
theorem dX4_pass_30 : decode cX4_pass 30 = .ok (.aload_n 0, 1) := by decide +kernel
theorem dX4_pass_31 : decode cX4_pass 31 = .ok (.aload_n 0, 1) := by decide +kernel
theorem dX4_pass_32 : decode cX4_pass 32 = .ok (.getfield 11, 3) := by decide +kernel
theorem dX4_pass_35 : decode cX4_pass 35 = .ok (.iload_n 1, 1) := by decide +kernel
theorem dX4_pass_36 : decode cX4_pass 36 = .ok (.aaload, 1) := by decide +kernel
theorem dX4_pass_37 : decode cX4_pass 37 = .ok (.invokevirtual 152, 3) := by decide +kernel
theorem dX4_pass_40 : decode cX4_pass 40 = .ok (.ireturn, 1) := by decide +kernel
theorem dX4_bar_0 : decode cX4_bar 0 = .ok (.iload_n 1, 1) := by decide +kernel
theorem dX4_bar_1 : decode cX4_bar 1 = .ok (.iconst 0, 1) := by decide +kernel
theorem dX4_bar_2 : decode cX4_bar 2 = .ok (.sipush 999, 3) := by decide +kernel
theorem dX4_bar_5 : decode cX4_bar 5 = .ok (.invokestatic 52, 3) := by decide +kernel
theorem dX4_bar_8 : decode cX4_bar 8 = .ok (.ifCond .ne 5, 3) := by decide +kernel
theorem dX4_bar_11 : decode cX4_bar 11 = .ok (.iconst (-1), 1) := by decide +kernel
theorem dX4_bar_12 : decode cX4_bar 12 = .ok (.ireturn, 1) := by decide +kernel
theorem dX4_bar_13 : decode cX4_bar 13 = .ok (.aload_n 0, 1) := by decide +kernel
theorem dX4_bar_14 : decode cX4_bar 14 = .ok (.getfield 44, 3) := by decide +kernel
theorem dX4_bar_17 : decode cX4_bar 17 = .ok (.istore_n 2, 1) := by decide +kernel
theorem dX4_bar_18 : decode cX4_bar 18 = .ok (.aload_n 0, 1) := by decide +kernel
theorem dX4_bar_19 : decode cX4_bar 19 = .ok (.iload_n 1, 1) := by decide +kernel
theorem dX4_bar_20 : decode cX4_bar 20 = .ok (.putfield 44, 3) := by decide +kernel
theorem dX4_bar_23 : decode cX4_bar 23 = .ok (.iload_n 2, 1) := by decide +kernel
theorem dX4_bar_24 : decode cX4_bar 24 = .ok (.ireturn, 1) := by decide +kernel
theorem dX4_flat_0 : decode cX4_flat 0 = .ok (.iload_n 1, 1) := by decide +kernel
theorem dX4_flat_1 : decode cX4_flat 1 = .ok (.invokestatic 48, 3) := by decide +kernel
theorem dX4_flat_4 : decode cX4_flat 4 = .ok (.ifCond .ne 5, 3) := by decide +kernel
theorem dX4_flat_7 : decode cX4_flat 7 = .ok (.iconst (-1), 1) := by decide +kernel
theorem dX4_flat_8 : decode cX4_flat 8 = .ok (.ireturn, 1) := by decide +kernel
theorem dX4_flat_9 : decode cX4_flat 9 = .ok (.aload_n 0, 1) := by decide +kernel
theorem dX4_flat_10 : decode cX4_flat 10 = .ok (.aload_n 0, 1) := by decide +kernel
theorem dX4_flat_11 : decode cX4_flat 11 = .ok (.getfield 11, 3) := by decide +kernel
theorem dX4_flat_14 : decode cX4_flat 14 = .ok (.iload_n 1, 1) := by decide +kernel
theorem dX4_flat_15 : decode cX4_flat 15 = .ok (.aaload, 1) := by decide +kernel
theorem dX4_flat_16 : decode cX4_flat 16 = .ok (.invokevirtual 152, 3) := by decide +kernel
theorem dX4_flat_19 : decode cX4_flat 19 = .ok (.ireturn, 1) := by decide +kernel
theorem dX4_look_0 : decode cX4_look 0 = .ok (.iload_n 1, 1) := by decide +kernel
theorem dX4_look_1 : decode cX4_look 1 = .ok (.invokestatic 48, 3) := by decide +kernel
theorem dX4_look_4 : decode cX4_look 4 = .ok (.ifCond .ne 6, 3) := by decide +kernel
theorem dX4_look_7 : decode cX4_look 7 = .ok (.ldc 142, 2) := by decide +kernel
theorem dX4_look_9 : decode cX4_look 9 = .ok (.ireturn, 1) := by decide +kernel
theorem dX4_look_10 : decode cX4_look 10 = .ok (.aload_n 0, 1) := by decide +kernel
theorem dX4_look_11 : decode cX4_look 11 = .ok (.getfield 11, 3) := by decide +kernel
theorem dX4_look_14 : decode cX4_look 14 = .ok (.iload_n 1, 1) := by decide +kernel
theorem dX4_look_15 : decode cX4_look 15 = .ok (.aaload, 1) := by decide +kernel
theorem dX4_look_16 : decode cX4_look 16 = .ok (.invokevirtual 92, 3) := by decide +kernel
theorem dX4_look_19 : decode cX4_look 19 = .ok (.istore_n 2, 1) := by decide +kernel
theorem dX4_look_20 : decode cX4_look 20 = .ok (.aload_n 0, 1) := by decide +kernel
theorem dX4_look_21 : decode cX4_look 21 = .ok (.getfield 11, 3) := by decide +kernel
theorem dX4_look_24 : decode cX4_look 24 = .ok (.iload_n 1, 1) := by decide +kernel
theorem dX4_look_25 : decode cX4_look 25 = .ok (.aaload, 1) := by decide +kernel
theorem dX4_look_26 : decode cX4_look 26 = .ok (.iconst 0, 1) := by decide +kernel
theorem dX4_look_27 : decode cX4_look 27 = .ok (.putfield 65, 3) := by decide +kernel
theorem dX4_look_30 : decode cX4_look 30 = .ok (.iload_n 2, 1) := by decide +kernel
theorem dX4_look_31 : decode cX4_look 31 = .ok (.ireturn, 1) := by decide +kernel
theorem dX4_due_0 : decode cX4_due 0 = .ok (.iload_n 1, 1) := by decide +kernel
theorem dX4_due_1 : decode cX4_due 1 = .ok (.invokestatic 48, 3) := by decide +kernel
theorem dX4_due_4 : decode cX4_due 4 = .ok (.ifCond .ne 6, 3) := by decide +kernel
theorem dX4_due_7 : decode cX4_due 7 = .ok (.ldc 142, 2) := by decide +kernel
theorem dX4_due_9 : decode cX4_due 9 = .ok (.ireturn, 1) := by decide +kernel
theorem dX4_due_10 : decode cX4_due 10 = .ok (.aload_n 0, 1) := by decide +kernel
theorem dX4_due_11 : decode cX4_due 11 = .ok (.getfield 11, 3) := by decide +kernel
theorem dX4_due_14 : decode cX4_due 14 = .ok (.iload_n 1, 1) := by decide +kernel
theorem dX4_due_15 : decode cX4_due 15 = .ok (.aaload, 1) := by decide +kernel
theorem dX4_due_16 : decode cX4_due 16 = .ok (.invokevirtual 92, 3) := by decide +kernel
theorem dX4_due_19 : decode cX4_due 19 = .ok (.ireturn, 1) := by decide +kernel
theorem dX4_count_0 : decode cX4_count 0 = .ok (.iload_n 1, 1) := by decide +kernel
theorem dX4_count_1 : decode cX4_count 1 = .ok (.tableswitch 75 0 5 #[39, 47, 55, 60, 65, 70], 39) := by decide +kernel
theorem dX4_count_40 : decode cX4_count 40 = .ok (.aload_n 0, 1) := by decide +kernel
theorem dX4_count_41 : decode cX4_count 41 = .ok (.getfield 25, 3) := by decide +kernel
theorem dX4_count_44 : decode cX4_count 44 = .ok (.getfield 109, 3) := by decide +kernel
theorem dX4_count_47 : decode cX4_count 47 = .ok (.ireturn, 1) := by decide +kernel
theorem dX4_count_48 : decode cX4_count 48 = .ok (.aload_n 0, 1) := by decide +kernel
theorem dX4_count_49 : decode cX4_count 49 = .ok (.getfield 32, 3) := by decide +kernel
theorem dX4_count_52 : decode cX4_count 52 = .ok (.getfield 125, 3) := by decide +kernel
theorem dX4_count_55 : decode cX4_count 55 = .ok (.ireturn, 1) := by decide +kernel
theorem dX4_count_56 : decode cX4_count 56 = .ok (.aload_n 0, 1) := by decide +kernel
theorem dX4_count_57 : decode cX4_count 57 = .ok (.invokevirtual 156, 3) := by decide +kernel
theorem dX4_count_60 : decode cX4_count 60 = .ok (.ireturn, 1) := by decide +kernel
theorem dX4_count_61 : decode cX4_count 61 = .ok (.aload_n 0, 1) := by decide +kernel
theorem dX4_count_62 : decode cX4_count 62 = .ok (.getfield 40, 3) := by decide +kernel
theorem dX4_count_65 : decode cX4_count 65 = .ok (.ireturn, 1) := by decide +kernel
theorem dX4_count_66 : decode cX4_count 66 = .ok (.aload_n 0, 1) := by decide +kernel
theorem dX4_count_67 : decode cX4_count 67 = .ok (.getfield 44, 3) := by decide +kernel
theorem dX4_count_70 : decode cX4_count 70 = .ok (.ireturn, 1) := by decide +kernel
theorem dX4_count_71 : decode cX4_count 71 = .ok (.aload_n 0, 1) := by decide +kernel
theorem dX4_count_72 : decode cX4_count 72 = .ok (.getfield 86, 3) := by decide +kernel
theorem dX4_count_75 : decode cX4_count 75 = .ok (.ireturn, 1) := by decide +kernel
theorem dX4_count_76 : decode cX4_count 76 = .ok (.iconst (-1), 1) := by decide +kernel
theorem dX4_count_77 : decode cX4_count 77 = .ok (.ireturn, 1) := by decide +kernel
theorem dX4_trace_0 : decode cX4_trace 0 = .ok (.aload_n 0, 1) := by decide +kernel
theorem dX4_trace_1 : decode cX4_trace 1 = .ok (.getfield 71, 3) := by decide +kernel
theorem dX4_trace_4 : decode cX4_trace 4 = .ok (.lreturn, 1) := by decide +kernel
theorem dX4_within_0 : decode cX4_within 0 = .ok (.iload_n 0, 1) := by decide +kernel
theorem dX4_within_1 : decode cX4_within 1 = .ok (.iload_n 1, 1) := by decide +kernel
theorem dX4_within_2 : decode cX4_within 2 = .ok (.if_icmp .lt 12, 3) := by decide +kernel
theorem dX4_within_5 : decode cX4_within 5 = .ok (.iload_n 0, 1) := by decide +kernel
theorem dX4_within_6 : decode cX4_within 6 = .ok (.iload_n 2, 1) := by decide +kernel
theorem dX4_within_7 : decode cX4_within 7 = .ok (.if_icmp .gt 7, 3) := by decide +kernel
theorem dX4_within_10 : decode cX4_within 10 = .ok (.iconst 1, 1) := by decide +kernel
theorem dX4_within_11 : decode cX4_within 11 = .ok (.goto 4, 3) := by decide +kernel
theorem dX4_within_14 : decode cX4_within 14 = .ok (.iconst 0, 1) := by decide +kernel
theorem dX4_within_15 : decode cX4_within 15 = .ok (.ireturn, 1) := by decide +kernel
theorem dX4_isWheel_0 : decode cX4_isWheel 0 = .ok (.iload_n 0, 1) := by decide +kernel
theorem dX4_isWheel_1 : decode cX4_isWheel 1 = .ok (.iconst 0, 1) := by decide +kernel
theorem dX4_isWheel_2 : decode cX4_isWheel 2 = .ok (.bipush 15, 2) := by decide +kernel
theorem dX4_isWheel_4 : decode cX4_isWheel 4 = .ok (.invokestatic 52, 3) := by decide +kernel
theorem dX4_isWheel_7 : decode cX4_isWheel 7 = .ok (.ireturn, 1) := by decide +kernel
theorem dX4_isKind_0 : decode cX4_isKind 0 = .ok (.iload_n 0, 1) := by decide +kernel
theorem dX4_isKind_1 : decode cX4_isKind 1 = .ok (.iconst 0, 1) := by decide +kernel
theorem dX4_isKind_2 : decode cX4_isKind 2 = .ok (.iconst 2, 1) := by decide +kernel
theorem dX4_isKind_3 : decode cX4_isKind 3 = .ok (.invokestatic 52, 3) := by decide +kernel
theorem dX4_isKind_6 : decode cX4_isKind 6 = .ok (.ireturn, 1) := by decide +kernel
theorem dX4_fillSizes_0 : decode cX4_fillSizes 0 = .ok (.iconst 0, 1) := by decide +kernel
theorem dX4_fillSizes_1 : decode cX4_fillSizes 1 = .ok (.istore_n 1, 1) := by decide +kernel
theorem dX4_fillSizes_2 : decode cX4_fillSizes 2 = .ok (.iload_n 1, 1) := by decide +kernel
theorem dX4_fillSizes_3 : decode cX4_fillSizes 3 = .ok (.bipush 16, 2) := by decide +kernel
theorem dX4_fillSizes_5 : decode cX4_fillSizes 5 = .ok (.if_icmp .ge 24, 3) := by decide +kernel
theorem dX4_fillSizes_8 : decode cX4_fillSizes 8 = .ok (.aload_n 0, 1) := by decide +kernel
theorem dX4_fillSizes_9 : decode cX4_fillSizes 9 = .ok (.getfield 36, 3) := by decide +kernel
theorem dX4_fillSizes_12 : decode cX4_fillSizes 12 = .ok (.iload_n 1, 1) := by decide +kernel
theorem dX4_fillSizes_13 : decode cX4_fillSizes 13 = .ok (.aload_n 0, 1) := by decide +kernel
theorem dX4_fillSizes_14 : decode cX4_fillSizes 14 = .ok (.getfield 11, 3) := by decide +kernel
theorem dX4_fillSizes_17 : decode cX4_fillSizes 17 = .ok (.iload_n 1, 1) := by decide +kernel
theorem dX4_fillSizes_18 : decode cX4_fillSizes 18 = .ok (.aaload, 1) := by decide +kernel
theorem dX4_fillSizes_19 : decode cX4_fillSizes 19 = .ok (.getfield 56, 3) := by decide +kernel
theorem dX4_fillSizes_22 : decode cX4_fillSizes 22 = .ok (.iastore, 1) := by decide +kernel
theorem dX4_fillSizes_23 : decode cX4_fillSizes 23 = .ok (.iinc 1 1, 3) := by decide +kernel
theorem dX4_fillSizes_26 : decode cX4_fillSizes 26 = .ok (.goto (-24), 3) := by decide +kernel
theorem dX4_fillSizes_29 : decode cX4_fillSizes 29 = .ok (.return_, 1) := by decide +kernel
theorem dX4_fillKeptSizes_0 : decode cX4_fillKeptSizes 0 = .ok (.aload_n 0, 1) := by decide +kernel
theorem dX4_fillKeptSizes_1 : decode cX4_fillKeptSizes 1 = .ok (.invokevirtual 99, 3) := by decide +kernel
theorem dX4_fillKeptSizes_4 : decode cX4_fillKeptSizes 4 = .ok (.aload_n 0, 1) := by decide +kernel
theorem dX4_fillKeptSizes_5 : decode cX4_fillKeptSizes 5 = .ok (.getfield 18, 3) := by decide +kernel
theorem dX4_fillKeptSizes_8 : decode cX4_fillKeptSizes 8 = .ok (.aload_n 0, 1) := by decide +kernel
theorem dX4_fillKeptSizes_9 : decode cX4_fillKeptSizes 9 = .ok (.getfield 36, 3) := by decide +kernel
theorem dX4_fillKeptSizes_12 : decode cX4_fillKeptSizes 12 = .ok (.invokevirtual 159, 3) := by decide +kernel
theorem dX4_fillKeptSizes_15 : decode cX4_fillKeptSizes 15 = .ok (.return_, 1) := by decide +kernel
theorem dX4_flatness_0 : decode cX4_flatness 0 = .ok (.aload_n 1, 1) := by decide +kernel
theorem dX4_flatness_1 : decode cX4_flatness 1 = .ok (.aload_n 0, 1) := by decide +kernel
theorem dX4_flatness_2 : decode cX4_flatness 2 = .ok (.getfield 44, 3) := by decide +kernel
theorem dX4_flatness_5 : decode cX4_flatness 5 = .ok (.invokevirtual 163, 3) := by decide +kernel
theorem dX4_flatness_8 : decode cX4_flatness 8 = .ok (.ifCond .eq 7, 3) := by decide +kernel
theorem dX4_flatness_11 : decode cX4_flatness 11 = .ok (.iconst 1, 1) := by decide +kernel
theorem dX4_flatness_12 : decode cX4_flatness 12 = .ok (.goto 4, 3) := by decide +kernel
theorem dX4_flatness_15 : decode cX4_flatness 15 = .ok (.iconst 0, 1) := by decide +kernel
theorem dX4_flatness_16 : decode cX4_flatness 16 = .ok (.ireturn, 1) := by decide +kernel
theorem dX4_flatWheels_0 : decode cX4_flatWheels 0 = .ok (.iconst 0, 1) := by decide +kernel
theorem dX4_flatWheels_1 : decode cX4_flatWheels 1 = .ok (.istore_n 1, 1) := by decide +kernel
theorem dX4_flatWheels_2 : decode cX4_flatWheels 2 = .ok (.iconst 0, 1) := by decide +kernel
theorem dX4_flatWheels_3 : decode cX4_flatWheels 3 = .ok (.istore_n 2, 1) := by decide +kernel
theorem dX4_flatWheels_4 : decode cX4_flatWheels 4 = .ok (.iload_n 2, 1) := by decide +kernel
theorem dX4_flatWheels_5 : decode cX4_flatWheels 5 = .ok (.bipush 16, 2) := by decide +kernel
theorem dX4_flatWheels_7 : decode cX4_flatWheels 7 = .ok (.if_icmp .ge 22, 3) := by decide +kernel
theorem dX4_flatWheels_10 : decode cX4_flatWheels 10 = .ok (.iload_n 1, 1) := by decide +kernel
theorem dX4_flatWheels_11 : decode cX4_flatWheels 11 = .ok (.aload_n 0, 1) := by decide +kernel
theorem dX4_flatWheels_12 : decode cX4_flatWheels 12 = .ok (.aload_n 0, 1) := by decide +kernel
theorem dX4_flatWheels_13 : decode cX4_flatWheels 13 = .ok (.getfield 11, 3) := by decide +kernel
theorem dX4_flatWheels_16 : decode cX4_flatWheels 16 = .ok (.iload_n 2, 1) := by decide +kernel
theorem dX4_flatWheels_17 : decode cX4_flatWheels 17 = .ok (.aaload, 1) := by decide +kernel
theorem dX4_flatWheels_18 : decode cX4_flatWheels 18 = .ok (.invokevirtual 152, 3) := by decide +kernel
theorem dX4_flatWheels_21 : decode cX4_flatWheels 21 = .ok (.iadd, 1) := by decide +kernel
theorem dX4_flatWheels_22 : decode cX4_flatWheels 22 = .ok (.istore_n 1, 1) := by decide +kernel
theorem dX4_flatWheels_23 : decode cX4_flatWheels 23 = .ok (.iinc 2 1, 3) := by decide +kernel
theorem dX4_flatWheels_26 : decode cX4_flatWheels 26 = .ok (.goto (-22), 3) := by decide +kernel
theorem dX4_flatWheels_29 : decode cX4_flatWheels 29 = .ok (.iload_n 1, 1) := by decide +kernel
theorem dX4_flatWheels_30 : decode cX4_flatWheels 30 = .ok (.ireturn, 1) := by decide +kernel
theorem dX5_init_0 : decode cX5_init 0 = .ok (.aload_n 0, 1) := by decide +kernel
theorem dX5_init_1 : decode cX5_init 1 = .ok (.invokespecial 1, 3) := by decide +kernel
theorem dX5_init_4 : decode cX5_init 4 = .ok (.aload_n 0, 1) := by decide +kernel
theorem dX5_init_5 : decode cX5_init 5 = .ok (.bipush 16, 2) := by decide +kernel
theorem dX5_init_7 : decode cX5_init 7 = .ok (.newarray .int, 2) := by decide +kernel
theorem dX5_init_9 : decode cX5_init 9 = .ok (.putfield 7, 3) := by decide +kernel
theorem dX5_init_12 : decode cX5_init 12 = .ok (.aload_n 0, 1) := by decide +kernel
theorem dX5_init_13 : decode cX5_init 13 = .ok (.bipush 80, 2) := by decide +kernel
theorem dX5_init_15 : decode cX5_init 15 = .ok (.newarray .int, 2) := by decide +kernel
theorem dX5_init_17 : decode cX5_init 17 = .ok (.putfield 13, 3) := by decide +kernel
theorem dX5_init_20 : decode cX5_init 20 = .ok (.aload_n 0, 1) := by decide +kernel
theorem dX5_init_21 : decode cX5_init 21 = .ok (.bipush 16, 2) := by decide +kernel
theorem dX5_init_23 : decode cX5_init 23 = .ok (.newarray .int, 2) := by decide +kernel
theorem dX5_init_25 : decode cX5_init 25 = .ok (.putfield 16, 3) := by decide +kernel
theorem dX5_init_28 : decode cX5_init 28 = .ok (.aload_n 0, 1) := by decide +kernel
theorem dX5_init_29 : decode cX5_init 29 = .ok (.bipush 16, 2) := by decide +kernel
theorem dX5_init_31 : decode cX5_init 31 = .ok (.newarray .int, 2) := by decide +kernel
theorem dX5_init_33 : decode cX5_init 33 = .ok (.putfield 19, 3) := by decide +kernel
theorem dX5_init_36 : decode cX5_init 36 = .ok (.aload_n 0, 1) := by decide +kernel
theorem dX5_init_37 : decode cX5_init 37 = .ok (.bipush 6, 2) := by decide +kernel
theorem dX5_init_39 : decode cX5_init 39 = .ok (.putfield 22, 3) := by decide +kernel
theorem dX5_init_42 : decode cX5_init 42 = .ok (.aload_n 0, 1) := by decide +kernel
theorem dX5_init_43 : decode cX5_init 43 = .ok (.iconst 4, 1) := by decide +kernel
theorem dX5_init_44 : decode cX5_init 44 = .ok (.newarray .int, 2) := by decide +kernel
theorem dX5_init_46 : decode cX5_init 46 = .ok (.putfield 26, 3) := by decide +kernel
theorem dX5_init_49 : decode cX5_init 49 = .ok (.aload_n 0, 1) := by decide +kernel
theorem dX5_init_50 : decode cX5_init 50 = .ok (.bipush 16, 2) := by decide +kernel
theorem dX5_init_52 : decode cX5_init 52 = .ok (.newarray .int, 2) := by decide +kernel
theorem dX5_init_54 : decode cX5_init 54 = .ok (.putfield 29, 3) := by decide +kernel
theorem dX5_init_57 : decode cX5_init 57 = .ok (.aload_n 0, 1) := by decide +kernel
theorem dX5_init_58 : decode cX5_init 58 = .ok (.bipush 8, 2) := by decide +kernel
theorem dX5_init_60 : decode cX5_init 60 = .ok (.newarray .int, 2) := by decide +kernel
theorem dX5_init_62 : decode cX5_init 62 = .ok (.putfield 32, 3) := by decide +kernel
theorem dX5_init_65 : decode cX5_init 65 = .ok (.aload_n 0, 1) := by decide +kernel
theorem dX5_init_66 : decode cX5_init 66 = .ok (.sipush 256, 3) := by decide +kernel
theorem dX5_init_69 : decode cX5_init 69 = .ok (.newarray .int, 2) := by decide +kernel
theorem dX5_init_71 : decode cX5_init 71 = .ok (.putfield 35, 3) := by decide +kernel
theorem dX5_init_74 : decode cX5_init 74 = .ok (.aload_n 0, 1) := by decide +kernel
theorem dX5_init_75 : decode cX5_init 75 = .ok (.sipush 256, 3) := by decide +kernel
theorem dX5_init_78 : decode cX5_init 78 = .ok (.newarray .int, 2) := by decide +kernel
theorem dX5_init_80 : decode cX5_init 80 = .ok (.putfield 38, 3) := by decide +kernel
theorem dX5_init_83 : decode cX5_init 83 = .ok (.aload_n 0, 1) := by decide +kernel
theorem dX5_init_84 : decode cX5_init 84 = .ok (.bipush 20, 2) := by decide +kernel
theorem dX5_init_86 : decode cX5_init 86 = .ok (.newarray .int, 2) := by decide +kernel
theorem dX5_init_88 : decode cX5_init 88 = .ok (.putfield 41, 3) := by decide +kernel
theorem dX5_init_91 : decode cX5_init 91 = .ok (.aload_n 0, 1) := by decide +kernel
theorem dX5_init_92 : decode cX5_init 92 = .ok (.bipush 20, 2) := by decide +kernel
theorem dX5_init_94 : decode cX5_init 94 = .ok (.newarray .int, 2) := by decide +kernel
theorem dX5_init_96 : decode cX5_init 96 = .ok (.putfield 44, 3) := by decide +kernel
theorem dX5_init_99 : decode cX5_init 99 = .ok (.aload_n 0, 1) := by decide +kernel
theorem dX5_init_100 : decode cX5_init 100 = .ok (.bipush 20, 2) := by decide +kernel
theorem dX5_init_102 : decode cX5_init 102 = .ok (.newarray .int, 2) := by decide +kernel
theorem dX5_init_104 : decode cX5_init 104 = .ok (.putfield 47, 3) := by decide +kernel
theorem dX5_init_107 : decode cX5_init 107 = .ok (.aload_n 0, 1) := by decide +kernel
theorem dX5_init_108 : decode cX5_init 108 = .ok (.bipush 16, 2) := by decide +kernel
theorem dX5_init_110 : decode cX5_init 110 = .ok (.newarray .int, 2) := by decide +kernel
theorem dX5_init_112 : decode cX5_init 112 = .ok (.putfield 50, 3) := by decide +kernel
theorem dX5_init_115 : decode cX5_init 115 = .ok (.aload_n 0, 1) := by decide +kernel
theorem dX5_init_116 : decode cX5_init 116 = .ok (.bipush 16, 2) := by decide +kernel
theorem dX5_init_118 : decode cX5_init 118 = .ok (.newarray .int, 2) := by decide +kernel
theorem dX5_init_120 : decode cX5_init 120 = .ok (.putfield 53, 3) := by decide +kernel
theorem dX5_init_123 : decode cX5_init 123 = .ok (.aload_n 0, 1) := by decide +kernel
theorem dX5_init_124 : decode cX5_init 124 = .ok (.bipush 16, 2) := by decide +kernel
theorem dX5_init_126 : decode cX5_init 126 = .ok (.newarray .int, 2) := by decide +kernel
theorem dX5_init_128 : decode cX5_init 128 = .ok (.putfield 56, 3) := by decide +kernel
theorem dX5_init_131 : decode cX5_init 131 = .ok (.aload_n 0, 1) := by decide +kernel
theorem dX5_init_132 : decode cX5_init 132 = .ok (.bipush 80, 2) := by decide +kernel
theorem dX5_init_134 : decode cX5_init 134 = .ok (.newarray .int, 2) := by decide +kernel
theorem dX5_init_136 : decode cX5_init 136 = .ok (.putfield 59, 3) := by decide +kernel
theorem dX5_init_139 : decode cX5_init 139 = .ok (.aload_n 0, 1) := by decide +kernel
theorem dX5_init_140 : decode cX5_init 140 = .ok (.sipush 500, 3) := by decide +kernel
theorem dX5_init_143 : decode cX5_init 143 = .ok (.putfield 62, 3) := by decide +kernel
theorem dX5_init_146 : decode cX5_init 146 = .ok (.iconst 0, 1) := by decide +kernel
theorem dX5_init_147 : decode cX5_init 147 = .ok (.istore_n 1, 1) := by decide +kernel
theorem dX5_init_148 : decode cX5_init 148 = .ok (.iload_n 1, 1) := by decide +kernel
theorem dX5_init_149 : decode cX5_init 149 = .ok (.bipush 16, 2) := by decide +kernel
theorem dX5_init_151 : decode cX5_init 151 = .ok (.if_icmp .ge 18, 3) := by decide +kernel
theorem dX5_init_154 : decode cX5_init 154 = .ok (.aload_n 0, 1) := by decide +kernel
theorem dX5_init_155 : decode cX5_init 155 = .ok (.getfield 7, 3) := by decide +kernel
theorem dX5_init_158 : decode cX5_init 158 = .ok (.iload_n 1, 1) := by decide +kernel
theorem dX5_init_159 : decode cX5_init 159 = .ok (.sipush 9000, 3) := by decide +kernel
theorem dX5_init_162 : decode cX5_init 162 = .ok (.iastore, 1) := by decide +kernel
theorem dX5_init_163 : decode cX5_init 163 = .ok (.iinc 1 1, 3) := by decide +kernel
theorem dX5_init_166 : decode cX5_init 166 = .ok (.goto (-18), 3) := by decide +kernel
theorem dX5_init_169 : decode cX5_init 169 = .ok (.aload_n 0, 1) := by decide +kernel
theorem dX5_init_170 : decode cX5_init 170 = .ok (.getfield 26, 3) := by decide +kernel
theorem dX5_init_173 : decode cX5_init 173 = .ok (.iconst 0, 1) := by decide +kernel
theorem dX5_init_174 : decode cX5_init 174 = .ok (.bipush 10, 2) := by decide +kernel
theorem dX5_init_176 : decode cX5_init 176 = .ok (.iastore, 1) := by decide +kernel
theorem dX5_init_177 : decode cX5_init 177 = .ok (.aload_n 0, 1) := by decide +kernel
theorem dX5_init_178 : decode cX5_init 178 = .ok (.getfield 26, 3) := by decide +kernel
theorem dX5_init_181 : decode cX5_init 181 = .ok (.iconst 1, 1) := by decide +kernel
theorem dX5_init_182 : decode cX5_init 182 = .ok (.bipush 40, 2) := by decide +kernel
theorem dX5_init_184 : decode cX5_init 184 = .ok (.iastore, 1) := by decide +kernel
theorem dX5_init_185 : decode cX5_init 185 = .ok (.aload_n 0, 1) := by decide +kernel
theorem dX5_init_186 : decode cX5_init 186 = .ok (.getfield 26, 3) := by decide +kernel
theorem dX5_init_189 : decode cX5_init 189 = .ok (.iconst 2, 1) := by decide +kernel
theorem dX5_init_190 : decode cX5_init 190 = .ok (.bipush 80, 2) := by decide +kernel
theorem dX5_init_192 : decode cX5_init 192 = .ok (.iastore, 1) := by decide +kernel
theorem dX5_init_193 : decode cX5_init 193 = .ok (.aload_n 0, 1) := by decide +kernel
theorem dX5_init_194 : decode cX5_init 194 = .ok (.getfield 26, 3) := by decide +kernel
theorem dX5_init_197 : decode cX5_init 197 = .ok (.iconst 3, 1) := by decide +kernel
theorem dX5_init_198 : decode cX5_init 198 = .ok (.sipush 4000, 3) := by decide +kernel
theorem dX5_init_201 : decode cX5_init 201 = .ok (.iastore, 1) := by decide +kernel
theorem dX5_init_202 : decode cX5_init 202 = .ok (.return_, 1) := by decide +kernel
theorem dX5_in_0 : decode cX5_in 0 = .ok (.iload_n 0, 1) := by decide +kernel
theorem dX5_in_1 : decode cX5_in 1 = .ok (.iload_n 1, 1) := by decide +kernel
theorem dX5_in_2 : decode cX5_in 2 = .ok (.if_icmp .lt 12, 3) := by decide +kernel
theorem dX5_in_5 : decode cX5_in 5 = .ok (.iload_n 0, 1) := by decide +kernel
theorem dX5_in_6 : decode cX5_in 6 = .ok (.iload_n 2, 1) := by decide +kernel
theorem dX5_in_7 : decode cX5_in 7 = .ok (.if_icmp .gt 7, 3) := by decide +kernel
theorem dX5_in_10 : decode cX5_in 10 = .ok (.iconst 1, 1) := by decide +kernel
theorem dX5_in_11 : decode cX5_in 11 = .ok (.goto 4, 3) := by decide +kernel
theorem dX5_in_14 : decode cX5_in 14 = .ok (.iconst 0, 1) := by decide +kernel
theorem dX5_in_15 : decode cX5_in 15 = .ok (.ireturn, 1) := by decide +kernel
theorem dX5_isWheel_0 : decode cX5_isWheel 0 = .ok (.iload_n 0, 1) := by decide +kernel
theorem dX5_isWheel_1 : decode cX5_isWheel 1 = .ok (.iconst 0, 1) := by decide +kernel
theorem dX5_isWheel_2 : decode cX5_isWheel 2 = .ok (.bipush 15, 2) := by decide +kernel
theorem dX5_isWheel_4 : decode cX5_isWheel 4 = .ok (.invokestatic 68, 3) := by decide +kernel
theorem dX5_isWheel_7 : decode cX5_isWheel 7 = .ok (.ireturn, 1) := by decide +kernel
theorem dX5_size_0 : decode cX5_size 0 = .ok (.aload_n 0, 1) := by decide +kernel
theorem dX5_size_1 : decode cX5_size 1 = .ok (.iconst 0, 1) := by decide +kernel
theorem dX5_size_2 : decode cX5_size 2 = .ok (.putfield 65, 3) := by decide +kernel
theorem dX5_size_5 : decode cX5_size 5 = .ok (.iload_n 1, 1) := by decide +kernel
theorem dX5_size_6 : decode cX5_size 6 = .ok (.invokestatic 72, 3) := by decide +kernel
theorem dX5_size_9 : decode cX5_size 9 = .ok (.ifCond .eq 16, 3) := by decide +kernel
theorem dX5_size_12 : decode cX5_size 12 = .ok (.iload_n 2, 1) := by decide +kernel
theorem dX5_size_13 : decode cX5_size 13 = .ok (.sipush 6000, 3) := by decide +kernel
theorem dX5_size_16 : decode cX5_size 16 = .ok (.sipush 9200, 3) := by decide +kernel
theorem dX5_size_19 : decode cX5_size 19 = .ok (.invokestatic 68, 3) := by decide +kernel
theorem dX5_size_22 : decode cX5_size 22 = .ok (.ifCond .ne 5, 3) := by decide +kernel
theorem dX5_size_25 : decode cX5_size 25 = .ok (.iconst (-1), 1) := by decide +kernel
theorem dX5_size_26 : decode cX5_size 26 = .ok (.ireturn, 1) := by decide +kernel
theorem dX5_size_27 : decode cX5_size 27 = .ok (.aload_n 0, 1) := by decide +kernel
theorem dX5_size_28 : decode cX5_size 28 = .ok (.getfield 7, 3) := by decide +kernel
theorem dX5_size_31 : decode cX5_size 31 = .ok (.iload_n 1, 1) := by decide +kernel
theorem dX5_size_32 : decode cX5_size 32 = .ok (.iaload, 1) := by decide +kernel
theorem dX5_size_33 : decode cX5_size 33 = .ok (.istore_n 3, 1) := by decide +kernel
theorem dX5_size_34 : decode cX5_size 34 = .ok (.aload_n 0, 1) := by decide +kernel
theorem dX5_size_35 : decode cX5_size 35 = .ok (.getfield 7, 3) := by decide +kernel
theorem dX5_size_38 : decode cX5_size 38 = .ok (.iload_n 1, 1) := by decide +kernel
theorem dX5_size_39 : decode cX5_size 39 = .ok (.iload_n 2, 1) := by decide +kernel
theorem dX5_size_40 : decode cX5_size 40 = .ok (.iastore, 1) := by decide +kernel
theorem dX5_size_41 : decode cX5_size 41 = .ok (.iload_n 3, 1) := by decide +kernel
theorem dX5_size_42 : decode cX5_size 42 = .ok (.ireturn, 1) := by decide +kernel
theorem dX5_depth_0 : decode cX5_depth 0 = .ok (.aload_n 0, 1) := by decide +kernel
theorem dX5_depth_1 : decode cX5_depth 1 = .ok (.iconst 0, 1) := by decide +kernel
theorem dX5_depth_2 : decode cX5_depth 2 = .ok (.putfield 65, 3) := by decide +kernel
theorem dX5_depth_5 : decode cX5_depth 5 = .ok (.iload_n 1, 1) := by decide +kernel
theorem dX5_depth_6 : decode cX5_depth 6 = .ok (.invokestatic 72, 3) := by decide +kernel
theorem dX5_depth_9 : decode cX5_depth 9 = .ok (.ifCond .eq 22, 3) := by decide +kernel
theorem dX5_depth_12 : decode cX5_depth 12 = .ok (.iload_n 2, 1) := by decide +kernel
theorem dX5_depth_13 : decode cX5_depth 13 = .ok (.iconst 0, 1) := by decide +kernel
theorem dX5_depth_14 : decode cX5_depth 14 = .ok (.iconst 4, 1) := by decide +kernel
theorem dX5_depth_15 : decode cX5_depth 15 = .ok (.invokestatic 68, 3) := by decide +kernel
theorem dX5_depth_18 : decode cX5_depth 18 = .ok (.ifCond .eq 13, 3) := by decide +kernel
theorem dX5_depth_21 : decode cX5_depth 21 = .ok (.iload_n 3, 1) := by decide +kernel
theorem dX5_depth_22 : decode cX5_depth 22 = .ok (.iconst 0, 1) := by decide +kernel
theorem dX5_depth_23 : decode cX5_depth 23 = .ok (.bipush 99, 2) := by decide +kernel
theorem dX5_depth_25 : decode cX5_depth 25 = .ok (.invokestatic 68, 3) := by decide +kernel
theorem dX5_depth_28 : decode cX5_depth 28 = .ok (.ifCond .ne 5, 3) := by decide +kernel
theorem dX5_depth_31 : decode cX5_depth 31 = .ok (.iconst (-1), 1) := by decide +kernel
theorem dX5_depth_32 : decode cX5_depth 32 = .ok (.ireturn, 1) := by decide +kernel
theorem dX5_depth_33 : decode cX5_depth 33 = .ok (.aload_n 0, 1) := by decide +kernel
theorem dX5_depth_34 : decode cX5_depth 34 = .ok (.getfield 13, 3) := by decide +kernel
theorem dX5_depth_37 : decode cX5_depth 37 = .ok (.iconst 5, 1) := by decide +kernel
theorem dX5_depth_38 : decode cX5_depth 38 = .ok (.iload_n 1, 1) := by decide +kernel
theorem dX5_depth_39 : decode cX5_depth 39 = .ok (.imul, 1) := by decide +kernel
theorem dX5_depth_40 : decode cX5_depth 40 = .ok (.iload_n 2, 1) := by decide +kernel
theorem dX5_depth_41 : decode cX5_depth 41 = .ok (.iadd, 1) := by decide +kernel
theorem dX5_depth_42 : decode cX5_depth 42 = .ok (.iaload, 1) := by decide +kernel
theorem dX5_depth_43 : decode cX5_depth 43 = .ok (.istore 4, 2) := by decide +kernel
theorem dX5_depth_45 : decode cX5_depth 45 = .ok (.aload_n 0, 1) := by decide +kernel
theorem dX5_depth_46 : decode cX5_depth 46 = .ok (.getfield 13, 3) := by decide +kernel
theorem dX5_depth_49 : decode cX5_depth 49 = .ok (.iconst 5, 1) := by decide +kernel
theorem dX5_depth_50 : decode cX5_depth 50 = .ok (.iload_n 1, 1) := by decide +kernel
theorem dX5_depth_51 : decode cX5_depth 51 = .ok (.imul, 1) := by decide +kernel
theorem dX5_depth_52 : decode cX5_depth 52 = .ok (.iload_n 2, 1) := by decide +kernel
theorem dX5_depth_53 : decode cX5_depth 53 = .ok (.iadd, 1) := by decide +kernel
theorem dX5_depth_54 : decode cX5_depth 54 = .ok (.iload_n 3, 1) := by decide +kernel
theorem dX5_depth_55 : decode cX5_depth 55 = .ok (.iastore, 1) := by decide +kernel
theorem dX5_depth_56 : decode cX5_depth 56 = .ok (.iload 4, 2) := by decide +kernel
theorem dX5_depth_58 : decode cX5_depth 58 = .ok (.ireturn, 1) := by decide +kernel
theorem dX5_wear_0 : decode cX5_wear 0 = .ok (.aload_n 0, 1) := by decide +kernel
theorem dX5_wear_1 : decode cX5_wear 1 = .ok (.iconst 0, 1) := by decide +kernel
theorem dX5_wear_2 : decode cX5_wear 2 = .ok (.putfield 65, 3) := by decide +kernel
theorem dX5_wear_5 : decode cX5_wear 5 = .ok (.iload_n 1, 1) := by decide +kernel
theorem dX5_wear_6 : decode cX5_wear 6 = .ok (.invokestatic 72, 3) := by decide +kernel
theorem dX5_wear_9 : decode cX5_wear 9 = .ok (.ifCond .eq 13, 3) := by decide +kernel
theorem dX5_wear_12 : decode cX5_wear 12 = .ok (.iload_n 2, 1) := by decide +kernel
theorem dX5_wear_13 : decode cX5_wear 13 = .ok (.iconst 0, 1) := by decide +kernel
theorem dX5_wear_14 : decode cX5_wear 14 = .ok (.bipush 20, 2) := by decide +kernel
theorem dX5_wear_16 : decode cX5_wear 16 = .ok (.invokestatic 68, 3) := by decide +kernel
theorem dX5_wear_19 : decode cX5_wear 19 = .ok (.ifCond .ne 5, 3) := by decide +kernel
theorem dX5_wear_22 : decode cX5_wear 22 = .ok (.iconst (-1), 1) := by decide +kernel
theorem dX5_wear_23 : decode cX5_wear 23 = .ok (.ireturn, 1) := by decide +kernel
theorem dX5_wear_24 : decode cX5_wear 24 = .ok (.aload_n 0, 1) := by decide +kernel
theorem dX5_wear_25 : decode cX5_wear 25 = .ok (.getfield 16, 3) := by decide +kernel
theorem dX5_wear_28 : decode cX5_wear 28 = .ok (.iload_n 1, 1) := by decide +kernel
theorem dX5_wear_29 : decode cX5_wear 29 = .ok (.iaload, 1) := by decide +kernel
theorem dX5_wear_30 : decode cX5_wear 30 = .ok (.istore_n 3, 1) := by decide +kernel
theorem dX5_wear_31 : decode cX5_wear 31 = .ok (.aload_n 0, 1) := by decide +kernel
theorem dX5_wear_32 : decode cX5_wear 32 = .ok (.getfield 16, 3) := by decide +kernel
theorem dX5_wear_35 : decode cX5_wear 35 = .ok (.iload_n 1, 1) := by decide +kernel
theorem dX5_wear_36 : decode cX5_wear 36 = .ok (.iload_n 2, 1) := by decide +kernel
theorem dX5_wear_37 : decode cX5_wear 37 = .ok (.iastore, 1) := by decide +kernel
theorem dX5_wear_38 : decode cX5_wear 38 = .ok (.iload_n 3, 1) := by decide +kernel
theorem dX5_wear_39 : decode cX5_wear 39 = .ok (.ireturn, 1) := by decide +kernel
theorem dX5_about_0 : decode cX5_about 0 = .ok (.aload_n 0, 1) := by decide +kernel
theorem dX5_about_1 : decode cX5_about 1 = .ok (.iconst 0, 1) := by decide +kernel
theorem dX5_about_2 : decode cX5_about 2 = .ok (.putfield 65, 3) := by decide +kernel
theorem dX5_about_5 : decode cX5_about 5 = .ok (.iload_n 1, 1) := by decide +kernel
theorem dX5_about_6 : decode cX5_about 6 = .ok (.invokestatic 72, 3) := by decide +kernel
theorem dX5_about_9 : decode cX5_about 9 = .ok (.ifCond .eq 13, 3) := by decide +kernel
theorem dX5_about_12 : decode cX5_about 12 = .ok (.iload_n 2, 1) := by decide +kernel
theorem dX5_about_13 : decode cX5_about 13 = .ok (.iconst 0, 1) := by decide +kernel
theorem dX5_about_14 : decode cX5_about 14 = .ok (.bipush 7, 2) := by decide +kernel
theorem dX5_about_16 : decode cX5_about 16 = .ok (.invokestatic 68, 3) := by decide +kernel
theorem dX5_about_19 : decode cX5_about 19 = .ok (.ifCond .ne 5, 3) := by decide +kernel
theorem dX5_about_22 : decode cX5_about 22 = .ok (.iconst (-1), 1) := by decide +kernel
theorem dX5_about_23 : decode cX5_about 23 = .ok (.ireturn, 1) := by decide +kernel
theorem dX5_about_24 : decode cX5_about 24 = .ok (.iload_n 2, 1) := by decide +kernel
theorem dX5_about_25 : decode cX5_about 25 = .ok (.ifCond .ne 12, 3) := by decide +kernel
theorem dX5_about_28 : decode cX5_about 28 = .ok (.aload_n 0, 1) := by decide +kernel
theorem dX5_about_29 : decode cX5_about 29 = .ok (.getfield 7, 3) := by decide +kernel
theorem dX5_about_32 : decode cX5_about 32 = .ok (.iload_n 1, 1) := by decide +kernel
theorem dX5_about_33 : decode cX5_about 33 = .ok (.iaload, 1) := by decide +kernel
theorem dX5_about_34 : decode cX5_about 34 = .ok (.goto 45, 3) := by decide +kernel
theorem dX5_about_37 : decode cX5_about 37 = .ok (.iload_n 2, 1) := by decide +kernel
theorem dX5_about_38 : decode cX5_about 38 = .ok (.bipush 6, 2) := by decide +kernel
theorem dX5_about_40 : decode cX5_about 40 = .ok (.if_icmp .ge 18, 3) := by decide +kernel
theorem dX5_about_43 : decode cX5_about 43 = .ok (.aload_n 0, 1) := by decide +kernel
theorem dX5_about_44 : decode cX5_about 44 = .ok (.getfield 13, 3) := by decide +kernel
theorem dX5_about_47 : decode cX5_about 47 = .ok (.iconst 5, 1) := by decide +kernel
theorem dX5_about_48 : decode cX5_about 48 = .ok (.iload_n 1, 1) := by decide +kernel
theorem dX5_about_49 : decode cX5_about 49 = .ok (.imul, 1) := by decide +kernel
theorem dX5_about_50 : decode cX5_about 50 = .ok (.iload_n 2, 1) := by decide +kernel
theorem dX5_about_51 : decode cX5_about 51 = .ok (.iadd, 1) := by decide +kernel
theorem dX5_about_52 : decode cX5_about 52 = .ok (.iconst 1, 1) := by decide +kernel
theorem dX5_about_53 : decode cX5_about 53 = .ok (.isub, 1) := by decide +kernel
theorem dX5_about_54 : decode cX5_about 54 = .ok (.iaload, 1) := by decide +kernel
theorem dX5_about_55 : decode cX5_about 55 = .ok (.goto 24, 3) := by decide +kernel
theorem dX5_about_58 : decode cX5_about 58 = .ok (.iload_n 2, 1) := by decide +kernel
theorem dX5_about_59 : decode cX5_about 59 = .ok (.bipush 6, 2) := by decide +kernel
theorem dX5_about_61 : decode cX5_about 61 = .ok (.if_icmp .ne 12, 3) := by decide +kernel
theorem dX5_about_64 : decode cX5_about 64 = .ok (.aload_n 0, 1) := by decide +kernel
theorem dX5_about_65 : decode cX5_about 65 = .ok (.getfield 16, 3) := by decide +kernel
theorem dX5_about_68 : decode cX5_about 68 = .ok (.iload_n 1, 1) := by decide +kernel
theorem dX5_about_69 : decode cX5_about 69 = .ok (.iaload, 1) := by decide +kernel
theorem dX5_about_70 : decode cX5_about 70 = .ok (.goto 9, 3) := by decide +kernel
theorem dX5_about_73 : decode cX5_about 73 = .ok (.aload_n 0, 1) := by decide +kernel
theorem dX5_about_74 : decode cX5_about 74 = .ok (.getfield 19, 3) := by decide +kernel
theorem dX5_about_77 : decode cX5_about 77 = .ok (.iload_n 1, 1) := by decide +kernel
theorem dX5_about_78 : decode cX5_about 78 = .ok (.iaload, 1) := by decide +kernel
theorem dX5_about_79 : decode cX5_about 79 = .ok (.ireturn, 1) := by decide +kernel
theorem dX5_thinning_0 : decode cX5_thinning 0 = .ok (.aload_n 0, 1) := by decide +kernel
theorem dX5_thinning_1 : decode cX5_thinning 1 = .ok (.iconst 0, 1) := by decide +kernel
theorem dX5_thinning_2 : decode cX5_thinning 2 = .ok (.putfield 65, 3) := by decide +kernel
theorem dX5_thinning_5 : decode cX5_thinning 5 = .ok (.iload_n 1, 1) := by decide +kernel
theorem dX5_thinning_6 : decode cX5_thinning 6 = .ok (.iconst 0, 1) := by decide +kernel
theorem dX5_thinning_7 : decode cX5_thinning 7 = .ok (.bipush 30, 2) := by decide +kernel
theorem dX5_thinning_9 : decode cX5_thinning 9 = .ok (.invokestatic 68, 3) := by decide +kernel
theorem dX5_thinning_12 : decode cX5_thinning 12 = .ok (.ifCond .ne 5, 3) := by decide +kernel
theorem dX5_thinning_15 : decode cX5_thinning 15 = .ok (.iconst (-1), 1) := by decide +kernel
theorem dX5_thinning_16 : decode cX5_thinning 16 = .ok (.ireturn, 1) := by decide +kernel
theorem dX5_thinning_17 : decode cX5_thinning 17 = .ok (.aload_n 0, 1) := by decide +kernel
theorem dX5_thinning_18 : decode cX5_thinning 18 = .ok (.getfield 22, 3) := by decide +kernel
theorem dX5_thinning_21 : decode cX5_thinning 21 = .ok (.istore_n 2, 1) := by decide +kernel
theorem dX5_thinning_22 : decode cX5_thinning 22 = .ok (.aload_n 0, 1) := by decide +kernel
theorem dX5_thinning_23 : decode cX5_thinning 23 = .ok (.iload_n 1, 1) := by decide +kernel
theorem dX5_thinning_24 : decode cX5_thinning 24 = .ok (.putfield 22, 3) := by decide +kernel
theorem dX5_thinning_27 : decode cX5_thinning 27 = .ok (.iload_n 2, 1) := by decide +kernel
theorem dX5_thinning_28 : decode cX5_thinning 28 = .ok (.ireturn, 1) := by decide +kernel
theorem dX5_least_0 : decode cX5_least 0 = .ok (.bipush 99, 2) := by decide +kernel
theorem dX5_least_2 : decode cX5_least 2 = .ok (.istore_n 2, 1) := by decide +kernel
theorem dX5_least_3 : decode cX5_least 3 = .ok (.iconst 0, 1) := by decide +kernel
theorem dX5_least_4 : decode cX5_least 4 = .ok (.istore_n 3, 1) := by decide +kernel
theorem dX5_least_5 : decode cX5_least 5 = .ok (.iload_n 3, 1) := by decide +kernel
theorem dX5_least_6 : decode cX5_least 6 = .ok (.iconst 5, 1) := by decide +kernel
theorem dX5_least_7 : decode cX5_least 7 = .ok (.if_icmp .ge 38, 3) := by decide +kernel
theorem dX5_least_10 : decode cX5_least 10 = .ok (.aload_n 0, 1) := by decide +kernel
theorem dX5_least_11 : decode cX5_least 11 = .ok (.getfield 13, 3) := by decide +kernel
theorem dX5_least_14 : decode cX5_least 14 = .ok (.iconst 5, 1) := by decide +kernel
theorem dX5_least_15 : decode cX5_least 15 = .ok (.iload_n 1, 1) := by decide +kernel
theorem dX5_least_16 : decode cX5_least 16 = .ok (.imul, 1) := by decide +kernel
theorem dX5_least_17 : decode cX5_least 17 = .ok (.iload_n 3, 1) := by decide +kernel
theorem dX5_least_18 : decode cX5_least 18 = .ok (.iadd, 1) := by decide +kernel
theorem dX5_least_19 : decode cX5_least 19 = .ok (.iaload, 1) := by decide +kernel
theorem dX5_least_20 : decode cX5_least 20 = .ok (.iload_n 2, 1) := by decide +kernel
theorem dX5_least_21 : decode cX5_least 21 = .ok (.if_icmp .ge 16, 3) := by decide +kernel
theorem dX5_least_24 : decode cX5_least 24 = .ok (.aload_n 0, 1) := by decide +kernel
theorem dX5_least_25 : decode cX5_least 25 = .ok (.getfield 13, 3) := by decide +kernel
theorem dX5_least_28 : decode cX5_least 28 = .ok (.iconst 5, 1) := by decide +kernel
theorem dX5_least_29 : decode cX5_least 29 = .ok (.iload_n 1, 1) := by decide +kernel
theorem dX5_least_30 : decode cX5_least 30 = .ok (.imul, 1) := by decide +kernel
theorem dX5_least_31 : decode cX5_least 31 = .ok (.iload_n 3, 1) := by decide +kernel
theorem dX5_least_32 : decode cX5_least 32 = .ok (.iadd, 1) := by decide +kernel
theorem dX5_least_33 : decode cX5_least 33 = .ok (.iaload, 1) := by decide +kernel
theorem dX5_least_34 : decode cX5_least 34 = .ok (.goto 4, 3) := by decide +kernel
theorem dX5_least_37 : decode cX5_least 37 = .ok (.iload_n 2, 1) := by decide +kernel
theorem dX5_least_38 : decode cX5_least 38 = .ok (.istore_n 2, 1) := by decide +kernel
theorem dX5_least_39 : decode cX5_least 39 = .ok (.iinc 3 1, 3) := by decide +kernel
theorem dX5_least_42 : decode cX5_least 42 = .ok (.goto (-37), 3) := by decide +kernel
theorem dX5_least_45 : decode cX5_least 45 = .ok (.iload_n 2, 1) := by decide +kernel
theorem dX5_least_46 : decode cX5_least 46 = .ok (.ireturn, 1) := by decide +kernel
theorem dX5_most_0 : decode cX5_most 0 = .ok (.iconst 0, 1) := by decide +kernel
theorem dX5_most_1 : decode cX5_most 1 = .ok (.istore_n 2, 1) := by decide +kernel
theorem dX5_most_2 : decode cX5_most 2 = .ok (.iconst 0, 1) := by decide +kernel
theorem dX5_most_3 : decode cX5_most 3 = .ok (.istore_n 3, 1) := by decide +kernel
theorem dX5_most_4 : decode cX5_most 4 = .ok (.iload_n 3, 1) := by decide +kernel
theorem dX5_most_5 : decode cX5_most 5 = .ok (.iconst 5, 1) := by decide +kernel
theorem dX5_most_6 : decode cX5_most 6 = .ok (.if_icmp .ge 38, 3) := by decide +kernel
theorem dX5_most_9 : decode cX5_most 9 = .ok (.aload_n 0, 1) := by decide +kernel
theorem dX5_most_10 : decode cX5_most 10 = .ok (.getfield 13, 3) := by decide +kernel
theorem dX5_most_13 : decode cX5_most 13 = .ok (.iconst 5, 1) := by decide +kernel
theorem dX5_most_14 : decode cX5_most 14 = .ok (.iload_n 1, 1) := by decide +kernel
theorem dX5_most_15 : decode cX5_most 15 = .ok (.imul, 1) := by decide +kernel
theorem dX5_most_16 : decode cX5_most 16 = .ok (.iload_n 3, 1) := by decide +kernel
theorem dX5_most_17 : decode cX5_most 17 = .ok (.iadd, 1) := by decide +kernel
theorem dX5_most_18 : decode cX5_most 18 = .ok (.iaload, 1) := by decide +kernel
theorem dX5_most_19 : decode cX5_most 19 = .ok (.iload_n 2, 1) := by decide +kernel
theorem dX5_most_20 : decode cX5_most 20 = .ok (.if_icmp .le 16, 3) := by decide +kernel
theorem dX5_most_23 : decode cX5_most 23 = .ok (.aload_n 0, 1) := by decide +kernel
theorem dX5_most_24 : decode cX5_most 24 = .ok (.getfield 13, 3) := by decide +kernel
theorem dX5_most_27 : decode cX5_most 27 = .ok (.iconst 5, 1) := by decide +kernel
theorem dX5_most_28 : decode cX5_most 28 = .ok (.iload_n 1, 1) := by decide +kernel
theorem dX5_most_29 : decode cX5_most 29 = .ok (.imul, 1) := by decide +kernel
theorem dX5_most_30 : decode cX5_most 30 = .ok (.iload_n 3, 1) := by decide +kernel
theorem dX5_most_31 : decode cX5_most 31 = .ok (.iadd, 1) := by decide +kernel
theorem dX5_most_32 : decode cX5_most 32 = .ok (.iaload, 1) := by decide +kernel
theorem dX5_most_33 : decode cX5_most 33 = .ok (.goto 4, 3) := by decide +kernel
theorem dX5_most_36 : decode cX5_most 36 = .ok (.iload_n 2, 1) := by decide +kernel
theorem dX5_most_37 : decode cX5_most 37 = .ok (.istore_n 2, 1) := by decide +kernel
theorem dX5_most_38 : decode cX5_most 38 = .ok (.iinc 3 1, 3) := by decide +kernel
theorem dX5_most_41 : decode cX5_most 41 = .ok (.goto (-37), 3) := by decide +kernel
theorem dX5_most_44 : decode cX5_most 44 = .ok (.iload_n 2, 1) := by decide +kernel
theorem dX5_most_45 : decode cX5_most 45 = .ok (.ireturn, 1) := by decide +kernel
theorem dX5_cutOf_0 : decode cX5_cutOf 0 = .ok (.aload_n 0, 1) := by decide +kernel
theorem dX5_cutOf_1 : decode cX5_cutOf 1 = .ok (.iload_n 2, 1) := by decide +kernel
theorem dX5_cutOf_2 : decode cX5_cutOf 2 = .ok (.invokevirtual 76, 3) := by decide +kernel
theorem dX5_cutOf_5 : decode cX5_cutOf 5 = .ok (.aload_n 0, 1) := by decide +kernel
theorem dX5_cutOf_6 : decode cX5_cutOf 6 = .ok (.iload_n 2, 1) := by decide +kernel
theorem dX5_cutOf_7 : decode cX5_cutOf 7 = .ok (.invokevirtual 80, 3) := by decide +kernel
theorem dX5_cutOf_10 : decode cX5_cutOf 10 = .ok (.isub, 1) := by decide +kernel
theorem dX5_cutOf_11 : decode cX5_cutOf 11 = .ok (.istore_n 3, 1) := by decide +kernel
theorem dX5_cutOf_12 : decode cX5_cutOf 12 = .ok (.iload_n 1, 1) := by decide +kernel
theorem dX5_cutOf_13 : decode cX5_cutOf 13 = .ok (.ifCond .le 38, 3) := by decide +kernel
theorem dX5_cutOf_16 : decode cX5_cutOf 16 = .ok (.aload_n 0, 1) := by decide +kernel
theorem dX5_cutOf_17 : decode cX5_cutOf 17 = .ok (.getfield 13, 3) := by decide +kernel
theorem dX5_cutOf_20 : decode cX5_cutOf 20 = .ok (.iconst 5, 1) := by decide +kernel
theorem dX5_cutOf_21 : decode cX5_cutOf 21 = .ok (.iload_n 2, 1) := by decide +kernel
theorem dX5_cutOf_22 : decode cX5_cutOf 22 = .ok (.imul, 1) := by decide +kernel
theorem dX5_cutOf_23 : decode cX5_cutOf 23 = .ok (.iaload, 1) := by decide +kernel
theorem dX5_cutOf_24 : decode cX5_cutOf 24 = .ok (.aload_n 0, 1) := by decide +kernel
theorem dX5_cutOf_25 : decode cX5_cutOf 25 = .ok (.iload_n 2, 1) := by decide +kernel
theorem dX5_cutOf_26 : decode cX5_cutOf 26 = .ok (.invokevirtual 76, 3) := by decide +kernel
theorem dX5_cutOf_29 : decode cX5_cutOf 29 = .ok (.if_icmp .ne 22, 3) := by decide +kernel
theorem dX5_cutOf_32 : decode cX5_cutOf 32 = .ok (.iload_n 3, 1) := by decide +kernel
theorem dX5_cutOf_33 : decode cX5_cutOf 33 = .ok (.aload_n 0, 1) := by decide +kernel
theorem dX5_cutOf_34 : decode cX5_cutOf 34 = .ok (.getfield 22, 3) := by decide +kernel
theorem dX5_cutOf_37 : decode cX5_cutOf 37 = .ok (.if_icmp .ge 7, 3) := by decide +kernel
theorem dX5_cutOf_40 : decode cX5_cutOf 40 = .ok (.iconst 0, 1) := by decide +kernel
theorem dX5_cutOf_41 : decode cX5_cutOf 41 = .ok (.goto 9, 3) := by decide +kernel
theorem dX5_cutOf_44 : decode cX5_cutOf 44 = .ok (.iload_n 3, 1) := by decide +kernel
theorem dX5_cutOf_45 : decode cX5_cutOf 45 = .ok (.aload_n 0, 1) := by decide +kernel
theorem dX5_cutOf_46 : decode cX5_cutOf 46 = .ok (.getfield 22, 3) := by decide +kernel
theorem dX5_cutOf_49 : decode cX5_cutOf 49 = .ok (.isub, 1) := by decide +kernel
theorem dX5_cutOf_50 : decode cX5_cutOf 50 = .ok (.istore_n 3, 1) := by decide +kernel
theorem dX5_cutOf_51 : decode cX5_cutOf 51 = .ok (.iload_n 1, 1) := by decide +kernel
theorem dX5_cutOf_52 : decode cX5_cutOf 52 = .ok (.iconst 2, 1) := by decide +kernel
theorem dX5_cutOf_53 : decode cX5_cutOf 53 = .ok (.if_icmp .ne 11, 3) := by decide +kernel
theorem dX5_cutOf_56 : decode cX5_cutOf 56 = .ok (.iload_n 3, 1) := by decide +kernel
theorem dX5_cutOf_57 : decode cX5_cutOf 57 = .ok (.iload_n 3, 1) := by decide +kernel
theorem dX5_cutOf_58 : decode cX5_cutOf 58 = .ok (.iconst 2, 1) := by decide +kernel
theorem dX5_cutOf_59 : decode cX5_cutOf 59 = .ok (.irem, 1) := by decide +kernel
theorem dX5_cutOf_60 : decode cX5_cutOf 60 = .ok (.iadd, 1) := by decide +kernel
theorem dX5_cutOf_61 : decode cX5_cutOf 61 = .ok (.goto 4, 3) := by decide +kernel
theorem dX5_cutOf_64 : decode cX5_cutOf 64 = .ok (.iload_n 3, 1) := by decide +kernel
theorem dX5_cutOf_65 : decode cX5_cutOf 65 = .ok (.ireturn, 1) := by decide +kernel
theorem dX5_cut_0 : decode cX5_cut 0 = .ok (.aload_n 0, 1) := by decide +kernel
theorem dX5_cut_1 : decode cX5_cut 1 = .ok (.iconst 0, 1) := by decide +kernel
theorem dX5_cut_2 : decode cX5_cut 2 = .ok (.putfield 65, 3) := by decide +kernel
theorem dX5_cut_5 : decode cX5_cut 5 = .ok (.iload_n 1, 1) := by decide +kernel
theorem dX5_cut_6 : decode cX5_cut 6 = .ok (.iconst 0, 1) := by decide +kernel
theorem dX5_cut_7 : decode cX5_cut 7 = .ok (.iconst 2, 1) := by decide +kernel
theorem dX5_cut_8 : decode cX5_cut 8 = .ok (.invokestatic 68, 3) := by decide +kernel
theorem dX5_cut_11 : decode cX5_cut 11 = .ok (.ifCond .eq 10, 3) := by decide +kernel
theorem dX5_cut_14 : decode cX5_cut 14 = .ok (.iload_n 2, 1) := by decide +kernel
theorem dX5_cut_15 : decode cX5_cut 15 = .ok (.invokestatic 72, 3) := by decide +kernel
theorem dX5_cut_18 : decode cX5_cut 18 = .ok (.ifCond .ne 5, 3) := by decide +kernel
theorem dX5_cut_21 : decode cX5_cut 21 = .ok (.iconst (-1), 1) := by decide +kernel
theorem dX5_cut_22 : decode cX5_cut 22 = .ok (.ireturn, 1) := by decide +kernel
theorem dX5_cut_23 : decode cX5_cut 23 = .ok (.aload_n 0, 1) := by decide +kernel
theorem dX5_cut_24 : decode cX5_cut 24 = .ok (.dup, 1) := by decide +kernel
theorem dX5_cut_25 : decode cX5_cut 25 = .ok (.getfield 83, 3) := by decide +kernel
theorem dX5_cut_28 : decode cX5_cut 28 = .ok (.iload_n 1, 1) := by decide +kernel
theorem dX5_cut_29 : decode cX5_cut 29 = .ok (.ifCond .ne 7, 3) := by decide +kernel
theorem dX5_cut_32 : decode cX5_cut 32 = .ok (.lconst 1, 1) := by decide +kernel
theorem dX5_cut_33 : decode cX5_cut 33 = .ok (.goto 17, 3) := by decide +kernel
theorem dX5_cut_36 : decode cX5_cut 36 = .ok (.iload_n 1, 1) := by decide +kernel
theorem dX5_cut_37 : decode cX5_cut 37 = .ok (.iconst 1, 1) := by decide +kernel
theorem dX5_cut_38 : decode cX5_cut 38 = .ok (.if_icmp .ne 9, 3) := by decide +kernel
theorem dX5_cut_41 : decode cX5_cut 41 = .ok (.ldc2_w 87, 3) := by decide +kernel
theorem dX5_cut_44 : decode cX5_cut 44 = .ok (.goto 6, 3) := by decide +kernel
theorem dX5_cut_47 : decode cX5_cut 47 = .ok (.ldc2_w 89, 3) := by decide +kernel
theorem dX5_cut_50 : decode cX5_cut 50 = .ok (.ladd, 1) := by decide +kernel
theorem dX5_cut_51 : decode cX5_cut 51 = .ok (.putfield 83, 3) := by decide +kernel
theorem dX5_cut_54 : decode cX5_cut 54 = .ok (.aload_n 0, 1) := by decide +kernel
theorem dX5_cut_55 : decode cX5_cut 55 = .ok (.iload_n 1, 1) := by decide +kernel
theorem dX5_cut_56 : decode cX5_cut 56 = .ok (.iload_n 2, 1) := by decide +kernel
theorem dX5_cut_57 : decode cX5_cut 57 = .ok (.invokevirtual 91, 3) := by decide +kernel
theorem dX5_cut_60 : decode cX5_cut 60 = .ok (.ireturn, 1) := by decide +kernel
theorem dX5_turn_0 : decode cX5_turn 0 = .ok (.aload_n 0, 1) := by decide +kernel
theorem dX5_turn_1 : decode cX5_turn 1 = .ok (.iconst 0, 1) := by decide +kernel
theorem dX5_turn_2 : decode cX5_turn 2 = .ok (.putfield 65, 3) := by decide +kernel
theorem dX5_turn_5 : decode cX5_turn 5 = .ok (.iload_n 1, 1) := by decide +kernel
theorem dX5_turn_6 : decode cX5_turn 6 = .ok (.invokestatic 72, 3) := by decide +kernel
theorem dX5_turn_9 : decode cX5_turn 9 = .ok (.ifCond .eq 12, 3) := by decide +kernel
theorem dX5_turn_12 : decode cX5_turn 12 = .ok (.iload_n 2, 1) := by decide +kernel
theorem dX5_turn_13 : decode cX5_turn 13 = .ok (.iconst 0, 1) := by decide +kernel
theorem dX5_turn_14 : decode cX5_turn 14 = .ok (.iconst 2, 1) := by decide +kernel
theorem dX5_turn_15 : decode cX5_turn 15 = .ok (.invokestatic 68, 3) := by decide +kernel
theorem dX5_turn_18 : decode cX5_turn 18 = .ok (.ifCond .ne 5, 3) := by decide +kernel
theorem dX5_turn_21 : decode cX5_turn 21 = .ok (.iconst (-1), 1) := by decide +kernel
theorem dX5_turn_22 : decode cX5_turn 22 = .ok (.ireturn, 1) := by decide +kernel
theorem dX5_turn_23 : decode cX5_turn 23 = .ok (.aload_n 0, 1) := by decide +kernel
theorem dX5_turn_24 : decode cX5_turn 24 = .ok (.iload_n 2, 1) := by decide +kernel
theorem dX5_turn_25 : decode cX5_turn 25 = .ok (.iload_n 1, 1) := by decide +kernel
theorem dX5_turn_26 : decode cX5_turn 26 = .ok (.invokevirtual 91, 3) := by decide +kernel
theorem dX5_turn_29 : decode cX5_turn 29 = .ok (.istore_n 3, 1) := by decide +kernel
theorem dX5_turn_30 : decode cX5_turn 30 = .ok (.aload_n 0, 1) := by decide +kernel
theorem dX5_turn_31 : decode cX5_turn 31 = .ok (.getfield 7, 3) := by decide +kernel
theorem dX5_turn_34 : decode cX5_turn 34 = .ok (.iload_n 1, 1) := by decide +kernel
theorem dX5_turn_35 : decode cX5_turn 35 = .ok (.iaload, 1) := by decide +kernel
theorem dX5_turn_36 : decode cX5_turn 36 = .ok (.iconst 2, 1) := by decide +kernel
theorem dX5_turn_37 : decode cX5_turn 37 = .ok (.iload_n 3, 1) := by decide +kernel
theorem dX5_turn_38 : decode cX5_turn 38 = .ok (.imul, 1) := by decide +kernel
theorem dX5_turn_39 : decode cX5_turn 39 = .ok (.isub, 1) := by decide +kernel
theorem dX5_turn_40 : decode cX5_turn 40 = .ok (.sipush 6000, 3) := by decide +kernel
theorem dX5_turn_43 : decode cX5_turn 43 = .ok (.if_icmp .ge 6, 3) := by decide +kernel
theorem dX5_turn_46 : decode cX5_turn 46 = .ok (.bipush (-2), 2) := by decide +kernel
theorem dX5_turn_48 : decode cX5_turn 48 = .ok (.ireturn, 1) := by decide +kernel
theorem dX5_turn_49 : decode cX5_turn 49 = .ok (.aload_n 0, 1) := by decide +kernel
theorem dX5_turn_50 : decode cX5_turn 50 = .ok (.iload_n 1, 1) := by decide +kernel
theorem dX5_turn_51 : decode cX5_turn 51 = .ok (.invokevirtual 80, 3) := by decide +kernel
theorem dX5_turn_54 : decode cX5_turn 54 = .ok (.iload_n 3, 1) := by decide +kernel
theorem dX5_turn_55 : decode cX5_turn 55 = .ok (.iadd, 1) := by decide +kernel
theorem dX5_turn_56 : decode cX5_turn 56 = .ok (.istore 4, 2) := by decide +kernel
theorem dX5_turn_58 : decode cX5_turn 58 = .ok (.iconst 0, 1) := by decide +kernel
theorem dX5_turn_59 : decode cX5_turn 59 = .ok (.istore 5, 2) := by decide +kernel
theorem dX5_turn_61 : decode cX5_turn 61 = .ok (.iload 5, 2) := by decide +kernel
theorem dX5_turn_63 : decode cX5_turn 63 = .ok (.iconst 5, 1) := by decide +kernel
theorem dX5_turn_64 : decode cX5_turn 64 = .ok (.if_icmp .ge 47, 3) := by decide +kernel
theorem dX5_turn_67 : decode cX5_turn 67 = .ok (.aload_n 0, 1) := by decide +kernel
theorem dX5_turn_68 : decode cX5_turn 68 = .ok (.getfield 13, 3) := by decide +kernel
theorem dX5_turn_71 : decode cX5_turn 71 = .ok (.iconst 5, 1) := by decide +kernel
theorem dX5_turn_72 : decode cX5_turn 72 = .ok (.iload_n 1, 1) := by decide +kernel
theorem dX5_turn_73 : decode cX5_turn 73 = .ok (.imul, 1) := by decide +kernel
theorem dX5_turn_74 : decode cX5_turn 74 = .ok (.iload 5, 2) := by decide +kernel
theorem dX5_turn_76 : decode cX5_turn 76 = .ok (.iadd, 1) := by decide +kernel
theorem dX5_turn_77 : decode cX5_turn 77 = .ok (.iaload, 1) := by decide +kernel
theorem dX5_turn_78 : decode cX5_turn 78 = .ok (.iload 4, 2) := by decide +kernel
theorem dX5_turn_80 : decode cX5_turn 80 = .ok (.isub, 1) := by decide +kernel
theorem dX5_turn_81 : decode cX5_turn 81 = .ok (.istore 6, 2) := by decide +kernel
theorem dX5_turn_83 : decode cX5_turn 83 = .ok (.aload_n 0, 1) := by decide +kernel
theorem dX5_turn_84 : decode cX5_turn 84 = .ok (.getfield 13, 3) := by decide +kernel
theorem dX5_turn_87 : decode cX5_turn 87 = .ok (.iconst 5, 1) := by decide +kernel
theorem dX5_turn_88 : decode cX5_turn 88 = .ok (.iload_n 1, 1) := by decide +kernel
theorem dX5_turn_89 : decode cX5_turn 89 = .ok (.imul, 1) := by decide +kernel
theorem dX5_turn_90 : decode cX5_turn 90 = .ok (.iload 5, 2) := by decide +kernel
theorem dX5_turn_92 : decode cX5_turn 92 = .ok (.iadd, 1) := by decide +kernel
theorem dX5_turn_93 : decode cX5_turn 93 = .ok (.iload 6, 2) := by decide +kernel
theorem dX5_turn_95 : decode cX5_turn 95 = .ok (.ifCond .ge 7, 3) := by decide +kernel
theorem dX5_turn_98 : decode cX5_turn 98 = .ok (.iconst 0, 1) := by decide +kernel
theorem dX5_turn_99 : decode cX5_turn 99 = .ok (.goto 5, 3) := by decide +kernel
theorem dX5_turn_102 : decode cX5_turn 102 = .ok (.iload 6, 2) := by decide +kernel
theorem dX5_turn_104 : decode cX5_turn 104 = .ok (.iastore, 1) := by decide +kernel
theorem dX5_turn_105 : decode cX5_turn 105 = .ok (.iinc 5 1, 3) := by decide +kernel
theorem dX5_turn_108 : decode cX5_turn 108 = .ok (.goto (-47), 3) := by decide +kernel
theorem dX5_turn_111 : decode cX5_turn 111 = .ok (.aload_n 0, 1) := by decide +kernel
theorem dX5_turn_112 : decode cX5_turn 112 = .ok (.getfield 7, 3) := by decide +kernel
theorem dX5_turn_115 : decode cX5_turn 115 = .ok (.iload_n 1, 1) := by decide +kernel
theorem dX5_turn_116 : decode cX5_turn 116 = .ok (.dup2, 1) := by decide +kernel
theorem dX5_turn_117 : decode cX5_turn 117 = .ok (.iaload, 1) := by decide +kernel
theorem dX5_turn_118 : decode cX5_turn 118 = .ok (.iconst 2, 1) := by decide +kernel
theorem dX5_turn_119 : decode cX5_turn 119 = .ok (.iload_n 3, 1) := by decide +kernel
theorem dX5_turn_120 : decode cX5_turn 120 = .ok (.imul, 1) := by decide +kernel
theorem dX5_turn_121 : decode cX5_turn 121 = .ok (.isub, 1) := by decide +kernel
theorem dX5_turn_122 : decode cX5_turn 122 = .ok (.iastore, 1) := by decide +kernel
theorem dX5_turn_123 : decode cX5_turn 123 = .ok (.aload_n 0, 1) := by decide +kernel
theorem dX5_turn_124 : decode cX5_turn 124 = .ok (.getfield 19, 3) := by decide +kernel
theorem dX5_turn_127 : decode cX5_turn 127 = .ok (.iload_n 1, 1) := by decide +kernel
theorem dX5_turn_128 : decode cX5_turn 128 = .ok (.iconst 0, 1) := by decide +kernel
theorem dX5_turn_129 : decode cX5_turn 129 = .ok (.iastore, 1) := by decide +kernel
theorem dX5_turn_130 : decode cX5_turn 130 = .ok (.aload_n 0, 1) := by decide +kernel
theorem dX5_turn_131 : decode cX5_turn 131 = .ok (.dup, 1) := by decide +kernel
theorem dX5_turn_132 : decode cX5_turn 132 = .ok (.getfield 95, 3) := by decide +kernel
theorem dX5_turn_135 : decode cX5_turn 135 = .ok (.iconst 1, 1) := by decide +kernel
theorem dX5_turn_136 : decode cX5_turn 136 = .ok (.iadd, 1) := by decide +kernel
theorem dX5_turn_137 : decode cX5_turn 137 = .ok (.putfield 95, 3) := by decide +kernel
theorem dX5_turn_140 : decode cX5_turn 140 = .ok (.aload_n 0, 1) := by decide +kernel
theorem dX5_turn_141 : decode cX5_turn 141 = .ok (.getfield 7, 3) := by decide +kernel
theorem dX5_turn_144 : decode cX5_turn 144 = .ok (.iload_n 1, 1) := by decide +kernel
theorem dX5_turn_145 : decode cX5_turn 145 = .ok (.iaload, 1) := by decide +kernel
theorem dX5_turn_146 : decode cX5_turn 146 = .ok (.ireturn, 1) := by decide +kernel
theorem dX5_miles_0 : decode cX5_miles 0 = .ok (.aload_n 0, 1) := by decide +kernel
theorem dX5_miles_1 : decode cX5_miles 1 = .ok (.iconst 0, 1) := by decide +kernel
theorem dX5_miles_2 : decode cX5_miles 2 = .ok (.putfield 65, 3) := by decide +kernel
theorem dX5_miles_5 : decode cX5_miles 5 = .ok (.iload_n 1, 1) := by decide +kernel
theorem dX5_miles_6 : decode cX5_miles 6 = .ok (.iconst 1, 1) := by decide +kernel
theorem dX5_miles_7 : decode cX5_miles 7 = .ok (.sipush 500, 3) := by decide +kernel
theorem dX5_miles_10 : decode cX5_miles 10 = .ok (.invokestatic 68, 3) := by decide +kernel
theorem dX5_miles_13 : decode cX5_miles 13 = .ok (.ifCond .ne 5, 3) := by decide +kernel
theorem dX5_miles_16 : decode cX5_miles 16 = .ok (.iconst (-1), 1) := by decide +kernel
theorem dX5_miles_17 : decode cX5_miles 17 = .ok (.ireturn, 1) := by decide +kernel
theorem dX5_miles_18 : decode cX5_miles 18 = .ok (.iconst 0, 1) := by decide +kernel
theorem dX5_miles_19 : decode cX5_miles 19 = .ok (.istore_n 2, 1) := by decide +kernel
theorem dX5_miles_20 : decode cX5_miles 20 = .ok (.iconst 0, 1) := by decide +kernel
theorem dX5_miles_21 : decode cX5_miles 21 = .ok (.istore_n 3, 1) := by decide +kernel
theorem dX5_miles_22 : decode cX5_miles 22 = .ok (.iload_n 3, 1) := by decide +kernel
theorem dX5_miles_23 : decode cX5_miles 23 = .ok (.bipush 16, 2) := by decide +kernel
theorem dX5_miles_25 : decode cX5_miles 25 = .ok (.if_icmp .ge 162, 3) := by decide +kernel
theorem dX5_miles_28 : decode cX5_miles 28 = .ok (.aload_n 0, 1) := by decide +kernel
theorem dX5_miles_29 : decode cX5_miles 29 = .ok (.getfield 16, 3) := by decide +kernel
theorem dX5_miles_32 : decode cX5_miles 32 = .ok (.iload_n 3, 1) := by decide +kernel
theorem dX5_miles_33 : decode cX5_miles 33 = .ok (.iaload, 1) := by decide +kernel
theorem dX5_miles_34 : decode cX5_miles 34 = .ok (.iload_n 1, 1) := by decide +kernel
theorem dX5_miles_35 : decode cX5_miles 35 = .ok (.imul, 1) := by decide +kernel
theorem dX5_miles_36 : decode cX5_miles 36 = .ok (.bipush 100, 2) := by decide +kernel
theorem dX5_miles_38 : decode cX5_miles 38 = .ok (.idiv, 1) := by decide +kernel
theorem dX5_miles_39 : decode cX5_miles 39 = .ok (.istore 4, 2) := by decide +kernel
theorem dX5_miles_41 : decode cX5_miles 41 = .ok (.iconst 0, 1) := by decide +kernel
theorem dX5_miles_42 : decode cX5_miles 42 = .ok (.istore 5, 2) := by decide +kernel
theorem dX5_miles_44 : decode cX5_miles 44 = .ok (.iload 5, 2) := by decide +kernel
theorem dX5_miles_46 : decode cX5_miles 46 = .ok (.iconst 5, 1) := by decide +kernel
theorem dX5_miles_47 : decode cX5_miles 47 = .ok (.if_icmp .ge 68, 3) := by decide +kernel
theorem dX5_miles_50 : decode cX5_miles 50 = .ok (.aload_n 0, 1) := by decide +kernel
theorem dX5_miles_51 : decode cX5_miles 51 = .ok (.getfield 13, 3) := by decide +kernel
theorem dX5_miles_54 : decode cX5_miles 54 = .ok (.iconst 5, 1) := by decide +kernel
theorem dX5_miles_55 : decode cX5_miles 55 = .ok (.iload_n 3, 1) := by decide +kernel
theorem dX5_miles_56 : decode cX5_miles 56 = .ok (.imul, 1) := by decide +kernel
theorem dX5_miles_57 : decode cX5_miles 57 = .ok (.iload 5, 2) := by decide +kernel
theorem dX5_miles_59 : decode cX5_miles 59 = .ok (.iadd, 1) := by decide +kernel
theorem dX5_miles_60 : decode cX5_miles 60 = .ok (.iaload, 1) := by decide +kernel
theorem dX5_miles_61 : decode cX5_miles 61 = .ok (.iload 5, 2) := by decide +kernel
theorem dX5_miles_63 : decode cX5_miles 63 = .ok (.ifCond .eq 9, 3) := by decide +kernel
theorem dX5_miles_66 : decode cX5_miles 66 = .ok (.iload 5, 2) := by decide +kernel
theorem dX5_miles_68 : decode cX5_miles 68 = .ok (.iconst 4, 1) := by decide +kernel
theorem dX5_miles_69 : decode cX5_miles 69 = .ok (.if_icmp .ne 10, 3) := by decide +kernel
theorem dX5_miles_72 : decode cX5_miles 72 = .ok (.iload 4, 2) := by decide +kernel
theorem dX5_miles_74 : decode cX5_miles 74 = .ok (.iconst 2, 1) := by decide +kernel
theorem dX5_miles_75 : decode cX5_miles 75 = .ok (.idiv, 1) := by decide +kernel
theorem dX5_miles_76 : decode cX5_miles 76 = .ok (.goto 5, 3) := by decide +kernel
theorem dX5_miles_79 : decode cX5_miles 79 = .ok (.iload 4, 2) := by decide +kernel
theorem dX5_miles_81 : decode cX5_miles 81 = .ok (.iadd, 1) := by decide +kernel
theorem dX5_miles_82 : decode cX5_miles 82 = .ok (.istore 6, 2) := by decide +kernel
theorem dX5_miles_84 : decode cX5_miles 84 = .ok (.aload_n 0, 1) := by decide +kernel
theorem dX5_miles_85 : decode cX5_miles 85 = .ok (.getfield 13, 3) := by decide +kernel
theorem dX5_miles_88 : decode cX5_miles 88 = .ok (.iconst 5, 1) := by decide +kernel
theorem dX5_miles_89 : decode cX5_miles 89 = .ok (.iload_n 3, 1) := by decide +kernel
theorem dX5_miles_90 : decode cX5_miles 90 = .ok (.imul, 1) := by decide +kernel
theorem dX5_miles_91 : decode cX5_miles 91 = .ok (.iload 5, 2) := by decide +kernel
theorem dX5_miles_93 : decode cX5_miles 93 = .ok (.iadd, 1) := by decide +kernel
theorem dX5_miles_94 : decode cX5_miles 94 = .ok (.iload 6, 2) := by decide +kernel
theorem dX5_miles_96 : decode cX5_miles 96 = .ok (.bipush 99, 2) := by decide +kernel
theorem dX5_miles_98 : decode cX5_miles 98 = .ok (.if_icmp .le 8, 3) := by decide +kernel
theorem dX5_miles_101 : decode cX5_miles 101 = .ok (.bipush 99, 2) := by decide +kernel
theorem dX5_miles_103 : decode cX5_miles 103 = .ok (.goto 5, 3) := by decide +kernel
theorem dX5_miles_106 : decode cX5_miles 106 = .ok (.iload 6, 2) := by decide +kernel
theorem dX5_miles_108 : decode cX5_miles 108 = .ok (.iastore, 1) := by decide +kernel
theorem dX5_miles_109 : decode cX5_miles 109 = .ok (.iinc 5 1, 3) := by decide +kernel
theorem dX5_miles_112 : decode cX5_miles 112 = .ok (.goto (-68), 3) := by decide +kernel
theorem dX5_miles_115 : decode cX5_miles 115 = .ok (.aload_n 0, 1) := by decide +kernel
theorem dX5_miles_116 : decode cX5_miles 116 = .ok (.getfield 7, 3) := by decide +kernel
theorem dX5_miles_119 : decode cX5_miles 119 = .ok (.iload_n 3, 1) := by decide +kernel
theorem dX5_miles_120 : decode cX5_miles 120 = .ok (.aload_n 0, 1) := by decide +kernel
theorem dX5_miles_121 : decode cX5_miles 121 = .ok (.getfield 7, 3) := by decide +kernel
theorem dX5_miles_124 : decode cX5_miles 124 = .ok (.iload_n 3, 1) := by decide +kernel
theorem dX5_miles_125 : decode cX5_miles 125 = .ok (.iaload, 1) := by decide +kernel
theorem dX5_miles_126 : decode cX5_miles 126 = .ok (.iload 4, 2) := by decide +kernel
theorem dX5_miles_128 : decode cX5_miles 128 = .ok (.isub, 1) := by decide +kernel
theorem dX5_miles_129 : decode cX5_miles 129 = .ok (.sipush 6000, 3) := by decide +kernel
theorem dX5_miles_132 : decode cX5_miles 132 = .ok (.if_icmp .ge 9, 3) := by decide +kernel
theorem dX5_miles_135 : decode cX5_miles 135 = .ok (.sipush 6000, 3) := by decide +kernel
theorem dX5_miles_138 : decode cX5_miles 138 = .ok (.goto 12, 3) := by decide +kernel
theorem dX5_miles_141 : decode cX5_miles 141 = .ok (.aload_n 0, 1) := by decide +kernel
theorem dX5_miles_142 : decode cX5_miles 142 = .ok (.getfield 7, 3) := by decide +kernel
theorem dX5_miles_145 : decode cX5_miles 145 = .ok (.iload_n 3, 1) := by decide +kernel
theorem dX5_miles_146 : decode cX5_miles 146 = .ok (.iaload, 1) := by decide +kernel
theorem dX5_miles_147 : decode cX5_miles 147 = .ok (.iload 4, 2) := by decide +kernel
theorem dX5_miles_149 : decode cX5_miles 149 = .ok (.isub, 1) := by decide +kernel
theorem dX5_miles_150 : decode cX5_miles 150 = .ok (.iastore, 1) := by decide +kernel
theorem dX5_miles_151 : decode cX5_miles 151 = .ok (.aload_n 0, 1) := by decide +kernel
theorem dX5_miles_152 : decode cX5_miles 152 = .ok (.getfield 19, 3) := by decide +kernel
theorem dX5_miles_155 : decode cX5_miles 155 = .ok (.iload_n 3, 1) := by decide +kernel
theorem dX5_miles_156 : decode cX5_miles 156 = .ok (.dup2, 1) := by decide +kernel
theorem dX5_miles_157 : decode cX5_miles 157 = .ok (.iaload, 1) := by decide +kernel
theorem dX5_miles_158 : decode cX5_miles 158 = .ok (.iload_n 1, 1) := by decide +kernel
theorem dX5_miles_159 : decode cX5_miles 159 = .ok (.iadd, 1) := by decide +kernel
theorem dX5_miles_160 : decode cX5_miles 160 = .ok (.iastore, 1) := by decide +kernel
theorem dX5_miles_161 : decode cX5_miles 161 = .ok (.iload_n 2, 1) := by decide +kernel
theorem dX5_miles_162 : decode cX5_miles 162 = .ok (.aload_n 0, 1) := by decide +kernel
theorem dX5_miles_163 : decode cX5_miles 163 = .ok (.getfield 19, 3) := by decide +kernel
theorem dX5_miles_166 : decode cX5_miles 166 = .ok (.iload_n 3, 1) := by decide +kernel
theorem dX5_miles_167 : decode cX5_miles 167 = .ok (.iaload, 1) := by decide +kernel
theorem dX5_miles_168 : decode cX5_miles 168 = .ok (.sipush 1000, 3) := by decide +kernel
theorem dX5_miles_171 : decode cX5_miles 171 = .ok (.if_icmp .lt 7, 3) := by decide +kernel
theorem dX5_miles_174 : decode cX5_miles 174 = .ok (.iconst 1, 1) := by decide +kernel
theorem dX5_miles_175 : decode cX5_miles 175 = .ok (.goto 4, 3) := by decide +kernel
theorem dX5_miles_178 : decode cX5_miles 178 = .ok (.iconst 0, 1) := by decide +kernel
theorem dX5_miles_179 : decode cX5_miles 179 = .ok (.iadd, 1) := by decide +kernel
theorem dX5_miles_180 : decode cX5_miles 180 = .ok (.istore_n 2, 1) := by decide +kernel
theorem dX5_miles_181 : decode cX5_miles 181 = .ok (.iinc 3 1, 3) := by decide +kernel
theorem dX5_miles_184 : decode cX5_miles 184 = .ok (.goto (-162), 3) := by decide +kernel
theorem dX5_miles_187 : decode cX5_miles 187 = .ok (.iload_n 2, 1) := by decide +kernel
theorem dX5_miles_188 : decode cX5_miles 188 = .ok (.ireturn, 1) := by decide +kernel
theorem dX5_law_0 : decode cX5_law 0 = .ok (.aload_n 0, 1) := by decide +kernel
theorem dX5_law_1 : decode cX5_law 1 = .ok (.iconst 0, 1) := by decide +kernel
theorem dX5_law_2 : decode cX5_law 2 = .ok (.putfield 65, 3) := by decide +kernel
theorem dX5_law_5 : decode cX5_law 5 = .ok (.iload_n 1, 1) := by decide +kernel
theorem dX5_law_6 : decode cX5_law 6 = .ok (.iconst 0, 1) := by decide +kernel
theorem dX5_law_7 : decode cX5_law 7 = .ok (.iconst 3, 1) := by decide +kernel
theorem dX5_law_8 : decode cX5_law 8 = .ok (.invokestatic 68, 3) := by decide +kernel
theorem dX5_law_11 : decode cX5_law 11 = .ok (.ifCond .eq 14, 3) := by decide +kernel
theorem dX5_law_14 : decode cX5_law 14 = .ok (.iload_n 2, 1) := by decide +kernel
theorem dX5_law_15 : decode cX5_law 15 = .ok (.iconst 0, 1) := by decide +kernel
theorem dX5_law_16 : decode cX5_law 16 = .ok (.sipush 4000, 3) := by decide +kernel
theorem dX5_law_19 : decode cX5_law 19 = .ok (.invokestatic 68, 3) := by decide +kernel
theorem dX5_law_22 : decode cX5_law 22 = .ok (.ifCond .ne 5, 3) := by decide +kernel
theorem dX5_law_25 : decode cX5_law 25 = .ok (.iconst (-1), 1) := by decide +kernel
theorem dX5_law_26 : decode cX5_law 26 = .ok (.ireturn, 1) := by decide +kernel
theorem dX5_law_27 : decode cX5_law 27 = .ok (.aload_n 0, 1) := by decide +kernel
theorem dX5_law_28 : decode cX5_law 28 = .ok (.getfield 26, 3) := by decide +kernel
theorem dX5_law_31 : decode cX5_law 31 = .ok (.iload_n 1, 1) := by decide +kernel
theorem dX5_law_32 : decode cX5_law 32 = .ok (.iaload, 1) := by decide +kernel
theorem dX5_law_33 : decode cX5_law 33 = .ok (.istore_n 3, 1) := by decide +kernel
theorem dX5_law_34 : decode cX5_law 34 = .ok (.aload_n 0, 1) := by decide +kernel
theorem dX5_law_35 : decode cX5_law 35 = .ok (.getfield 26, 3) := by decide +kernel
theorem dX5_law_38 : decode cX5_law 38 = .ok (.iload_n 1, 1) := by decide +kernel
theorem dX5_law_39 : decode cX5_law 39 = .ok (.iload_n 2, 1) := by decide +kernel
theorem dX5_law_40 : decode cX5_law 40 = .ok (.iastore, 1) := by decide +kernel
theorem dX5_law_41 : decode cX5_law 41 = .ok (.iload_n 3, 1) := by decide +kernel
theorem dX5_law_42 : decode cX5_law 42 = .ok (.ireturn, 1) := by decide +kernel
theorem dX5_lawOf_0 : decode cX5_lawOf 0 = .ok (.iload_n 1, 1) := by decide +kernel
theorem dX5_lawOf_1 : decode cX5_lawOf 1 = .ok (.iconst 2, 1) := by decide +kernel
theorem dX5_lawOf_2 : decode cX5_lawOf 2 = .ok (.idiv, 1) := by decide +kernel
theorem dX5_lawOf_3 : decode cX5_lawOf 3 = .ok (.iload_n 2, 1) := by decide +kernel
theorem dX5_lawOf_4 : decode cX5_lawOf 4 = .ok (.iconst 2, 1) := by decide +kernel
theorem dX5_lawOf_5 : decode cX5_lawOf 5 = .ok (.idiv, 1) := by decide +kernel
theorem dX5_lawOf_6 : decode cX5_lawOf 6 = .ok (.if_icmp .ne 12, 3) := by decide +kernel
theorem dX5_lawOf_9 : decode cX5_lawOf 9 = .ok (.aload_n 0, 1) := by decide +kernel
theorem dX5_lawOf_10 : decode cX5_lawOf 10 = .ok (.getfield 26, 3) := by decide +kernel
theorem dX5_lawOf_13 : decode cX5_lawOf 13 = .ok (.iconst 0, 1) := by decide +kernel
theorem dX5_lawOf_14 : decode cX5_lawOf 14 = .ok (.iaload, 1) := by decide +kernel
theorem dX5_lawOf_15 : decode cX5_lawOf 15 = .ok (.goto 47, 3) := by decide +kernel
theorem dX5_lawOf_18 : decode cX5_lawOf 18 = .ok (.iload_n 1, 1) := by decide +kernel
theorem dX5_lawOf_19 : decode cX5_lawOf 19 = .ok (.iconst 4, 1) := by decide +kernel
theorem dX5_lawOf_20 : decode cX5_lawOf 20 = .ok (.idiv, 1) := by decide +kernel
theorem dX5_lawOf_21 : decode cX5_lawOf 21 = .ok (.iload_n 2, 1) := by decide +kernel
theorem dX5_lawOf_22 : decode cX5_lawOf 22 = .ok (.iconst 4, 1) := by decide +kernel
theorem dX5_lawOf_23 : decode cX5_lawOf 23 = .ok (.idiv, 1) := by decide +kernel
theorem dX5_lawOf_24 : decode cX5_lawOf 24 = .ok (.if_icmp .ne 12, 3) := by decide +kernel
theorem dX5_lawOf_27 : decode cX5_lawOf 27 = .ok (.aload_n 0, 1) := by decide +kernel
theorem dX5_lawOf_28 : decode cX5_lawOf 28 = .ok (.getfield 26, 3) := by decide +kernel
theorem dX5_lawOf_31 : decode cX5_lawOf 31 = .ok (.iconst 1, 1) := by decide +kernel
theorem dX5_lawOf_32 : decode cX5_lawOf 32 = .ok (.iaload, 1) := by decide +kernel
theorem dX5_lawOf_33 : decode cX5_lawOf 33 = .ok (.goto 29, 3) := by decide +kernel
theorem dX5_lawOf_36 : decode cX5_lawOf 36 = .ok (.iload_n 1, 1) := by decide +kernel
theorem dX5_lawOf_37 : decode cX5_lawOf 37 = .ok (.bipush 8, 2) := by decide +kernel
theorem dX5_lawOf_39 : decode cX5_lawOf 39 = .ok (.idiv, 1) := by decide +kernel
theorem dX5_lawOf_40 : decode cX5_lawOf 40 = .ok (.iload_n 2, 1) := by decide +kernel
theorem dX5_lawOf_41 : decode cX5_lawOf 41 = .ok (.bipush 8, 2) := by decide +kernel
theorem dX5_lawOf_43 : decode cX5_lawOf 43 = .ok (.idiv, 1) := by decide +kernel
theorem dX5_lawOf_44 : decode cX5_lawOf 44 = .ok (.if_icmp .ne 12, 3) := by decide +kernel
theorem dX5_lawOf_47 : decode cX5_lawOf 47 = .ok (.aload_n 0, 1) := by decide +kernel
theorem dX5_lawOf_48 : decode cX5_lawOf 48 = .ok (.getfield 26, 3) := by decide +kernel
theorem dX5_lawOf_51 : decode cX5_lawOf 51 = .ok (.iconst 2, 1) := by decide +kernel
theorem dX5_lawOf_52 : decode cX5_lawOf 52 = .ok (.iaload, 1) := by decide +kernel
theorem dX5_lawOf_53 : decode cX5_lawOf 53 = .ok (.goto 9, 3) := by decide +kernel
theorem dX5_lawOf_56 : decode cX5_lawOf 56 = .ok (.aload_n 0, 1) := by decide +kernel
theorem dX5_lawOf_57 : decode cX5_lawOf 57 = .ok (.getfield 26, 3) := by decide +kernel
theorem dX5_lawOf_60 : decode cX5_lawOf 60 = .ok (.iconst 3, 1) := by decide +kernel
theorem dX5_lawOf_61 : decode cX5_lawOf 61 = .ok (.iaload, 1) := by decide +kernel
theorem dX5_lawOf_62 : decode cX5_lawOf 62 = .ok (.ireturn, 1) := by decide +kernel
theorem dX5_broken_0 : decode cX5_broken 0 = .ok (.aload_n 0, 1) := by decide +kernel
theorem dX5_broken_1 : decode cX5_broken 1 = .ok (.iconst 0, 1) := by decide +kernel
theorem dX5_broken_2 : decode cX5_broken 2 = .ok (.putfield 65, 3) := by decide +kernel
theorem dX5_broken_5 : decode cX5_broken 5 = .ok (.iconst 0, 1) := by decide +kernel
theorem dX5_broken_6 : decode cX5_broken 6 = .ok (.istore_n 1, 1) := by decide +kernel
theorem dX5_broken_7 : decode cX5_broken 7 = .ok (.iconst 0, 1) := by decide +kernel
theorem dX5_broken_8 : decode cX5_broken 8 = .ok (.istore_n 2, 1) := by decide +kernel
theorem dX5_broken_9 : decode cX5_broken 9 = .ok (.iload_n 2, 1) := by decide +kernel
theorem dX5_broken_10 : decode cX5_broken 10 = .ok (.bipush 16, 2) := by decide +kernel
theorem dX5_broken_12 : decode cX5_broken 12 = .ok (.if_icmp .ge 58, 3) := by decide +kernel
theorem dX5_broken_15 : decode cX5_broken 15 = .ok (.iconst 0, 1) := by decide +kernel
theorem dX5_broken_16 : decode cX5_broken 16 = .ok (.istore_n 3, 1) := by decide +kernel
theorem dX5_broken_17 : decode cX5_broken 17 = .ok (.iload_n 3, 1) := by decide +kernel
theorem dX5_broken_18 : decode cX5_broken 18 = .ok (.bipush 16, 2) := by decide +kernel
theorem dX5_broken_20 : decode cX5_broken 20 = .ok (.if_icmp .ge 44, 3) := by decide +kernel
theorem dX5_broken_23 : decode cX5_broken 23 = .ok (.iload_n 1, 1) := by decide +kernel
theorem dX5_broken_24 : decode cX5_broken 24 = .ok (.aload_n 0, 1) := by decide +kernel
theorem dX5_broken_25 : decode cX5_broken 25 = .ok (.getfield 7, 3) := by decide +kernel
theorem dX5_broken_28 : decode cX5_broken 28 = .ok (.iload_n 2, 1) := by decide +kernel
theorem dX5_broken_29 : decode cX5_broken 29 = .ok (.iaload, 1) := by decide +kernel
theorem dX5_broken_30 : decode cX5_broken 30 = .ok (.aload_n 0, 1) := by decide +kernel
theorem dX5_broken_31 : decode cX5_broken 31 = .ok (.getfield 7, 3) := by decide +kernel
theorem dX5_broken_34 : decode cX5_broken 34 = .ok (.iload_n 3, 1) := by decide +kernel
theorem dX5_broken_35 : decode cX5_broken 35 = .ok (.iaload, 1) := by decide +kernel
theorem dX5_broken_36 : decode cX5_broken 36 = .ok (.isub, 1) := by decide +kernel
theorem dX5_broken_37 : decode cX5_broken 37 = .ok (.aload_n 0, 1) := by decide +kernel
theorem dX5_broken_38 : decode cX5_broken 38 = .ok (.iload_n 2, 1) := by decide +kernel
theorem dX5_broken_39 : decode cX5_broken 39 = .ok (.iload_n 3, 1) := by decide +kernel
theorem dX5_broken_40 : decode cX5_broken 40 = .ok (.invokevirtual 98, 3) := by decide +kernel
theorem dX5_broken_43 : decode cX5_broken 43 = .ok (.if_icmp .le 12, 3) := by decide +kernel
theorem dX5_broken_46 : decode cX5_broken 46 = .ok (.iload_n 2, 1) := by decide +kernel
theorem dX5_broken_47 : decode cX5_broken 47 = .ok (.iload_n 3, 1) := by decide +kernel
theorem dX5_broken_48 : decode cX5_broken 48 = .ok (.if_icmp .eq 7, 3) := by decide +kernel
theorem dX5_broken_51 : decode cX5_broken 51 = .ok (.iconst 1, 1) := by decide +kernel
theorem dX5_broken_52 : decode cX5_broken 52 = .ok (.goto 4, 3) := by decide +kernel
theorem dX5_broken_55 : decode cX5_broken 55 = .ok (.iconst 0, 1) := by decide +kernel
theorem dX5_broken_56 : decode cX5_broken 56 = .ok (.iadd, 1) := by decide +kernel
theorem dX5_broken_57 : decode cX5_broken 57 = .ok (.istore_n 1, 1) := by decide +kernel
theorem dX5_broken_58 : decode cX5_broken 58 = .ok (.iinc 3 1, 3) := by decide +kernel
theorem dX5_broken_61 : decode cX5_broken 61 = .ok (.goto (-44), 3) := by decide +kernel
theorem dX5_broken_64 : decode cX5_broken 64 = .ok (.iinc 2 1, 3) := by decide +kernel
theorem dX5_broken_67 : decode cX5_broken 67 = .ok (.goto (-58), 3) := by decide +kernel
theorem dX5_broken_70 : decode cX5_broken 70 = .ok (.iload_n 1, 1) := by decide +kernel
theorem dX5_broken_71 : decode cX5_broken 71 = .ok (.ireturn, 1) := by decide +kernel
theorem dX5_keeps_0 : decode cX5_keeps 0 = .ok (.iconst 0, 1) := by decide +kernel
theorem dX5_keeps_1 : decode cX5_keeps 1 = .ok (.istore_n 1, 1) := by decide +kernel
theorem dX5_keeps_2 : decode cX5_keeps 2 = .ok (.iload_n 1, 1) := by decide +kernel
theorem dX5_keeps_3 : decode cX5_keeps 3 = .ok (.bipush 16, 2) := by decide +kernel
theorem dX5_keeps_5 : decode cX5_keeps 5 = .ok (.if_icmp .ge 21, 3) := by decide +kernel
theorem dX5_keeps_8 : decode cX5_keeps 8 = .ok (.aload_n 0, 1) := by decide +kernel
theorem dX5_keeps_9 : decode cX5_keeps 9 = .ok (.getfield 29, 3) := by decide +kernel
theorem dX5_keeps_12 : decode cX5_keeps 12 = .ok (.iload_n 1, 1) := by decide +kernel
theorem dX5_keeps_13 : decode cX5_keeps 13 = .ok (.aload_n 0, 1) := by decide +kernel
theorem dX5_keeps_14 : decode cX5_keeps 14 = .ok (.getfield 7, 3) := by decide +kernel
theorem dX5_keeps_17 : decode cX5_keeps 17 = .ok (.iload_n 1, 1) := by decide +kernel
theorem dX5_keeps_18 : decode cX5_keeps 18 = .ok (.iaload, 1) := by decide +kernel
theorem dX5_keeps_19 : decode cX5_keeps 19 = .ok (.iastore, 1) := by decide +kernel
theorem dX5_keeps_20 : decode cX5_keeps 20 = .ok (.iinc 1 1, 3) := by decide +kernel
theorem dX5_keeps_23 : decode cX5_keeps 23 = .ok (.goto (-21), 3) := by decide +kernel
theorem dX5_keeps_26 : decode cX5_keeps 26 = .ok (.iconst 1, 1) := by decide +kernel
theorem dX5_keeps_27 : decode cX5_keeps 27 = .ok (.istore_n 1, 1) := by decide +kernel
theorem dX5_keeps_28 : decode cX5_keeps 28 = .ok (.iload_n 1, 1) := by decide +kernel
theorem dX5_keeps_29 : decode cX5_keeps 29 = .ok (.ifCond .eq 84, 3) := by decide +kernel
theorem dX5_keeps_32 : decode cX5_keeps 32 = .ok (.iconst 0, 1) := by decide +kernel
theorem dX5_keeps_33 : decode cX5_keeps 33 = .ok (.istore_n 1, 1) := by decide +kernel
theorem dX5_keeps_34 : decode cX5_keeps 34 = .ok (.iconst 0, 1) := by decide +kernel
theorem dX5_keeps_35 : decode cX5_keeps 35 = .ok (.istore_n 2, 1) := by decide +kernel
theorem dX5_keeps_36 : decode cX5_keeps 36 = .ok (.iload_n 2, 1) := by decide +kernel
theorem dX5_keeps_37 : decode cX5_keeps 37 = .ok (.bipush 16, 2) := by decide +kernel
theorem dX5_keeps_39 : decode cX5_keeps 39 = .ok (.if_icmp .ge 71, 3) := by decide +kernel
theorem dX5_keeps_42 : decode cX5_keeps 42 = .ok (.iconst 0, 1) := by decide +kernel
theorem dX5_keeps_43 : decode cX5_keeps 43 = .ok (.istore_n 3, 1) := by decide +kernel
theorem dX5_keeps_44 : decode cX5_keeps 44 = .ok (.iload_n 3, 1) := by decide +kernel
theorem dX5_keeps_45 : decode cX5_keeps 45 = .ok (.bipush 16, 2) := by decide +kernel
theorem dX5_keeps_47 : decode cX5_keeps 47 = .ok (.if_icmp .ge 57, 3) := by decide +kernel
theorem dX5_keeps_50 : decode cX5_keeps 50 = .ok (.iload_n 2, 1) := by decide +kernel
theorem dX5_keeps_51 : decode cX5_keeps 51 = .ok (.iload_n 3, 1) := by decide +kernel
theorem dX5_keeps_52 : decode cX5_keeps 52 = .ok (.if_icmp .eq 46, 3) := by decide +kernel
theorem dX5_keeps_55 : decode cX5_keeps 55 = .ok (.aload_n 0, 1) := by decide +kernel
theorem dX5_keeps_56 : decode cX5_keeps 56 = .ok (.getfield 29, 3) := by decide +kernel
theorem dX5_keeps_59 : decode cX5_keeps 59 = .ok (.iload_n 2, 1) := by decide +kernel
theorem dX5_keeps_60 : decode cX5_keeps 60 = .ok (.iaload, 1) := by decide +kernel
theorem dX5_keeps_61 : decode cX5_keeps 61 = .ok (.aload_n 0, 1) := by decide +kernel
theorem dX5_keeps_62 : decode cX5_keeps 62 = .ok (.getfield 29, 3) := by decide +kernel
theorem dX5_keeps_65 : decode cX5_keeps 65 = .ok (.iload_n 3, 1) := by decide +kernel
theorem dX5_keeps_66 : decode cX5_keeps 66 = .ok (.iaload, 1) := by decide +kernel
theorem dX5_keeps_67 : decode cX5_keeps 67 = .ok (.aload_n 0, 1) := by decide +kernel
theorem dX5_keeps_68 : decode cX5_keeps 68 = .ok (.iload_n 2, 1) := by decide +kernel
theorem dX5_keeps_69 : decode cX5_keeps 69 = .ok (.iload_n 3, 1) := by decide +kernel
theorem dX5_keeps_70 : decode cX5_keeps 70 = .ok (.invokevirtual 98, 3) := by decide +kernel
theorem dX5_keeps_73 : decode cX5_keeps 73 = .ok (.iadd, 1) := by decide +kernel
theorem dX5_keeps_74 : decode cX5_keeps 74 = .ok (.if_icmp .le 24, 3) := by decide +kernel
theorem dX5_keeps_77 : decode cX5_keeps 77 = .ok (.aload_n 0, 1) := by decide +kernel
theorem dX5_keeps_78 : decode cX5_keeps 78 = .ok (.getfield 29, 3) := by decide +kernel
theorem dX5_keeps_81 : decode cX5_keeps 81 = .ok (.iload_n 2, 1) := by decide +kernel
theorem dX5_keeps_82 : decode cX5_keeps 82 = .ok (.aload_n 0, 1) := by decide +kernel
theorem dX5_keeps_83 : decode cX5_keeps 83 = .ok (.getfield 29, 3) := by decide +kernel
theorem dX5_keeps_86 : decode cX5_keeps 86 = .ok (.iload_n 3, 1) := by decide +kernel
theorem dX5_keeps_87 : decode cX5_keeps 87 = .ok (.iaload, 1) := by decide +kernel
theorem dX5_keeps_88 : decode cX5_keeps 88 = .ok (.aload_n 0, 1) := by decide +kernel
theorem dX5_keeps_89 : decode cX5_keeps 89 = .ok (.iload_n 2, 1) := by decide +kernel
theorem dX5_keeps_90 : decode cX5_keeps 90 = .ok (.iload_n 3, 1) := by decide +kernel
theorem dX5_keeps_91 : decode cX5_keeps 91 = .ok (.invokevirtual 98, 3) := by decide +kernel
theorem dX5_keeps_94 : decode cX5_keeps 94 = .ok (.iadd, 1) := by decide +kernel
theorem dX5_keeps_95 : decode cX5_keeps 95 = .ok (.iastore, 1) := by decide +kernel
theorem dX5_keeps_96 : decode cX5_keeps 96 = .ok (.iconst 1, 1) := by decide +kernel
theorem dX5_keeps_97 : decode cX5_keeps 97 = .ok (.istore_n 1, 1) := by decide +kernel
theorem dX5_keeps_98 : decode cX5_keeps 98 = .ok (.iinc 3 1, 3) := by decide +kernel
theorem dX5_keeps_101 : decode cX5_keeps 101 = .ok (.goto (-57), 3) := by decide +kernel
theorem dX5_keeps_104 : decode cX5_keeps 104 = .ok (.iinc 2 1, 3) := by decide +kernel
theorem dX5_keeps_107 : decode cX5_keeps 107 = .ok (.goto (-71), 3) := by decide +kernel
theorem dX5_keeps_110 : decode cX5_keeps 110 = .ok (.goto (-82), 3) := by decide +kernel
theorem dX5_keeps_113 : decode cX5_keeps 113 = .ok (.return_, 1) := by decide +kernel
theorem dX5_kept_0 : decode cX5_kept 0 = .ok (.aload_n 0, 1) := by decide +kernel
theorem dX5_kept_1 : decode cX5_kept 1 = .ok (.iconst 0, 1) := by decide +kernel
theorem dX5_kept_2 : decode cX5_kept 2 = .ok (.putfield 65, 3) := by decide +kernel
theorem dX5_kept_5 : decode cX5_kept 5 = .ok (.iload_n 1, 1) := by decide +kernel
theorem dX5_kept_6 : decode cX5_kept 6 = .ok (.invokestatic 72, 3) := by decide +kernel
theorem dX5_kept_9 : decode cX5_kept 9 = .ok (.ifCond .ne 5, 3) := by decide +kernel
theorem dX5_kept_12 : decode cX5_kept 12 = .ok (.iconst (-1), 1) := by decide +kernel
theorem dX5_kept_13 : decode cX5_kept 13 = .ok (.ireturn, 1) := by decide +kernel
theorem dX5_kept_14 : decode cX5_kept 14 = .ok (.aload_n 0, 1) := by decide +kernel
theorem dX5_kept_15 : decode cX5_kept 15 = .ok (.invokevirtual 101, 3) := by decide +kernel
theorem dX5_kept_18 : decode cX5_kept 18 = .ok (.aload_n 0, 1) := by decide +kernel
theorem dX5_kept_19 : decode cX5_kept 19 = .ok (.getfield 29, 3) := by decide +kernel
theorem dX5_kept_22 : decode cX5_kept 22 = .ok (.iload_n 1, 1) := by decide +kernel
theorem dX5_kept_23 : decode cX5_kept 23 = .ok (.iaload, 1) := by decide +kernel
theorem dX5_kept_24 : decode cX5_kept 24 = .ok (.ireturn, 1) := by decide +kernel
theorem dX5_steel_0 : decode cX5_steel 0 = .ok (.aload_n 0, 1) := by decide +kernel
theorem dX5_steel_1 : decode cX5_steel 1 = .ok (.iconst 0, 1) := by decide +kernel
theorem dX5_steel_2 : decode cX5_steel 2 = .ok (.putfield 65, 3) := by decide +kernel
theorem dX5_steel_5 : decode cX5_steel 5 = .ok (.aload_n 0, 1) := by decide +kernel
theorem dX5_steel_6 : decode cX5_steel 6 = .ok (.invokevirtual 101, 3) := by decide +kernel
theorem dX5_steel_9 : decode cX5_steel 9 = .ok (.iconst 0, 1) := by decide +kernel
theorem dX5_steel_10 : decode cX5_steel 10 = .ok (.istore_n 1, 1) := by decide +kernel
theorem dX5_steel_11 : decode cX5_steel 11 = .ok (.iconst 0, 1) := by decide +kernel
theorem dX5_steel_12 : decode cX5_steel 12 = .ok (.istore_n 2, 1) := by decide +kernel
theorem dX5_steel_13 : decode cX5_steel 13 = .ok (.iload_n 2, 1) := by decide +kernel
theorem dX5_steel_14 : decode cX5_steel 14 = .ok (.bipush 16, 2) := by decide +kernel
theorem dX5_steel_16 : decode cX5_steel 16 = .ok (.if_icmp .ge 25, 3) := by decide +kernel
theorem dX5_steel_19 : decode cX5_steel 19 = .ok (.iload_n 1, 1) := by decide +kernel
theorem dX5_steel_20 : decode cX5_steel 20 = .ok (.aload_n 0, 1) := by decide +kernel
theorem dX5_steel_21 : decode cX5_steel 21 = .ok (.getfield 7, 3) := by decide +kernel
theorem dX5_steel_24 : decode cX5_steel 24 = .ok (.iload_n 2, 1) := by decide +kernel
theorem dX5_steel_25 : decode cX5_steel 25 = .ok (.iaload, 1) := by decide +kernel
theorem dX5_steel_26 : decode cX5_steel 26 = .ok (.aload_n 0, 1) := by decide +kernel
theorem dX5_steel_27 : decode cX5_steel 27 = .ok (.getfield 29, 3) := by decide +kernel
theorem dX5_steel_30 : decode cX5_steel 30 = .ok (.iload_n 2, 1) := by decide +kernel
theorem dX5_steel_31 : decode cX5_steel 31 = .ok (.iaload, 1) := by decide +kernel
theorem dX5_steel_32 : decode cX5_steel 32 = .ok (.isub, 1) := by decide +kernel
theorem dX5_steel_33 : decode cX5_steel 33 = .ok (.iadd, 1) := by decide +kernel
theorem dX5_steel_34 : decode cX5_steel 34 = .ok (.istore_n 1, 1) := by decide +kernel
theorem dX5_steel_35 : decode cX5_steel 35 = .ok (.iinc 2 1, 3) := by decide +kernel
theorem dX5_steel_38 : decode cX5_steel 38 = .ok (.goto (-25), 3) := by decide +kernel
theorem dX5_steel_41 : decode cX5_steel 41 = .ok (.iload_n 1, 1) := by decide +kernel
theorem dX5_steel_42 : decode cX5_steel 42 = .ok (.ireturn, 1) := by decide +kernel
theorem dX5_even_0 : decode cX5_even 0 = .ok (.aload_n 0, 1) := by decide +kernel
theorem dX5_even_1 : decode cX5_even 1 = .ok (.iconst 0, 1) := by decide +kernel
theorem dX5_even_2 : decode cX5_even 2 = .ok (.putfield 65, 3) := by decide +kernel
theorem dX5_even_5 : decode cX5_even 5 = .ok (.aload_n 0, 1) := by decide +kernel
theorem dX5_even_6 : decode cX5_even 6 = .ok (.invokevirtual 101, 3) := by decide +kernel
theorem dX5_even_9 : decode cX5_even 9 = .ok (.iconst 0, 1) := by decide +kernel
theorem dX5_even_10 : decode cX5_even 10 = .ok (.istore_n 1, 1) := by decide +kernel
theorem dX5_even_11 : decode cX5_even 11 = .ok (.iconst 0, 1) := by decide +kernel
theorem dX5_even_12 : decode cX5_even 12 = .ok (.istore_n 2, 1) := by decide +kernel
theorem dX5_even_13 : decode cX5_even 13 = .ok (.iload_n 2, 1) := by decide +kernel
theorem dX5_even_14 : decode cX5_even 14 = .ok (.bipush 16, 2) := by decide +kernel
theorem dX5_even_16 : decode cX5_even 16 = .ok (.if_icmp .ge 44, 3) := by decide +kernel
theorem dX5_even_19 : decode cX5_even 19 = .ok (.iload_n 1, 1) := by decide +kernel
theorem dX5_even_20 : decode cX5_even 20 = .ok (.aload_n 0, 1) := by decide +kernel
theorem dX5_even_21 : decode cX5_even 21 = .ok (.getfield 29, 3) := by decide +kernel
theorem dX5_even_24 : decode cX5_even 24 = .ok (.iload_n 2, 1) := by decide +kernel
theorem dX5_even_25 : decode cX5_even 25 = .ok (.iaload, 1) := by decide +kernel
theorem dX5_even_26 : decode cX5_even 26 = .ok (.aload_n 0, 1) := by decide +kernel
theorem dX5_even_27 : decode cX5_even 27 = .ok (.getfield 7, 3) := by decide +kernel
theorem dX5_even_30 : decode cX5_even 30 = .ok (.iload_n 2, 1) := by decide +kernel
theorem dX5_even_31 : decode cX5_even 31 = .ok (.iaload, 1) := by decide +kernel
theorem dX5_even_32 : decode cX5_even 32 = .ok (.if_icmp .ge 7, 3) := by decide +kernel
theorem dX5_even_35 : decode cX5_even 35 = .ok (.iconst 1, 1) := by decide +kernel
theorem dX5_even_36 : decode cX5_even 36 = .ok (.goto 4, 3) := by decide +kernel
theorem dX5_even_39 : decode cX5_even 39 = .ok (.iconst 0, 1) := by decide +kernel
theorem dX5_even_40 : decode cX5_even 40 = .ok (.iadd, 1) := by decide +kernel
theorem dX5_even_41 : decode cX5_even 41 = .ok (.istore_n 1, 1) := by decide +kernel
theorem dX5_even_42 : decode cX5_even 42 = .ok (.aload_n 0, 1) := by decide +kernel
theorem dX5_even_43 : decode cX5_even 43 = .ok (.getfield 7, 3) := by decide +kernel
theorem dX5_even_46 : decode cX5_even 46 = .ok (.iload_n 2, 1) := by decide +kernel
theorem dX5_even_47 : decode cX5_even 47 = .ok (.aload_n 0, 1) := by decide +kernel
theorem dX5_even_48 : decode cX5_even 48 = .ok (.getfield 29, 3) := by decide +kernel
theorem dX5_even_51 : decode cX5_even 51 = .ok (.iload_n 2, 1) := by decide +kernel
theorem dX5_even_52 : decode cX5_even 52 = .ok (.iaload, 1) := by decide +kernel
theorem dX5_even_53 : decode cX5_even 53 = .ok (.iastore, 1) := by decide +kernel
theorem dX5_even_54 : decode cX5_even 54 = .ok (.iinc 2 1, 3) := by decide +kernel
theorem dX5_even_57 : decode cX5_even 57 = .ok (.goto (-44), 3) := by decide +kernel
theorem dX5_even_60 : decode cX5_even 60 = .ok (.iload_n 1, 1) := by decide +kernel
theorem dX5_even_61 : decode cX5_even 61 = .ok (.ireturn, 1) := by decide +kernel
theorem dX5_spare_0 : decode cX5_spare 0 = .ok (.aload_n 0, 1) := by decide +kernel
theorem dX5_spare_1 : decode cX5_spare 1 = .ok (.iconst 0, 1) := by decide +kernel
theorem dX5_spare_2 : decode cX5_spare 2 = .ok (.putfield 65, 3) := by decide +kernel
theorem dX5_spare_5 : decode cX5_spare 5 = .ok (.iload_n 1, 1) := by decide +kernel
theorem dX5_spare_6 : decode cX5_spare 6 = .ok (.sipush 6000, 3) := by decide +kernel
theorem dX5_spare_9 : decode cX5_spare 9 = .ok (.sipush 9200, 3) := by decide +kernel
theorem dX5_spare_12 : decode cX5_spare 12 = .ok (.invokestatic 68, 3) := by decide +kernel
theorem dX5_spare_15 : decode cX5_spare 15 = .ok (.ifCond .ne 5, 3) := by decide +kernel
theorem dX5_spare_18 : decode cX5_spare 18 = .ok (.iconst (-1), 1) := by decide +kernel
theorem dX5_spare_19 : decode cX5_spare 19 = .ok (.ireturn, 1) := by decide +kernel
theorem dX5_spare_20 : decode cX5_spare 20 = .ok (.aload_n 0, 1) := by decide +kernel
theorem dX5_spare_21 : decode cX5_spare 21 = .ok (.getfield 104, 3) := by decide +kernel
theorem dX5_spare_24 : decode cX5_spare 24 = .ok (.bipush 8, 2) := by decide +kernel
theorem dX5_spare_26 : decode cX5_spare 26 = .ok (.if_icmp .ne 6, 3) := by decide +kernel
theorem dX5_spare_29 : decode cX5_spare 29 = .ok (.bipush (-3), 2) := by decide +kernel
theorem dX5_spare_31 : decode cX5_spare 31 = .ok (.ireturn, 1) := by decide +kernel
theorem dX5_spare_32 : decode cX5_spare 32 = .ok (.aload_n 0, 1) := by decide +kernel
theorem dX5_spare_33 : decode cX5_spare 33 = .ok (.getfield 32, 3) := by decide +kernel
theorem dX5_spare_36 : decode cX5_spare 36 = .ok (.aload_n 0, 1) := by decide +kernel
theorem dX5_spare_37 : decode cX5_spare 37 = .ok (.getfield 104, 3) := by decide +kernel
theorem dX5_spare_40 : decode cX5_spare 40 = .ok (.iload_n 1, 1) := by decide +kernel
theorem dX5_spare_41 : decode cX5_spare 41 = .ok (.iastore, 1) := by decide +kernel
theorem dX5_spare_42 : decode cX5_spare 42 = .ok (.aload_n 0, 1) := by decide +kernel
theorem dX5_spare_43 : decode cX5_spare 43 = .ok (.dup, 1) := by decide +kernel
theorem dX5_spare_44 : decode cX5_spare 44 = .ok (.getfield 104, 3) := by decide +kernel
theorem dX5_spare_47 : decode cX5_spare 47 = .ok (.iconst 1, 1) := by decide +kernel
theorem dX5_spare_48 : decode cX5_spare 48 = .ok (.iadd, 1) := by decide +kernel
theorem dX5_spare_49 : decode cX5_spare 49 = .ok (.putfield 104, 3) := by decide +kernel
theorem dX5_spare_52 : decode cX5_spare 52 = .ok (.aload_n 0, 1) := by decide +kernel
theorem dX5_spare_53 : decode cX5_spare 53 = .ok (.getfield 104, 3) := by decide +kernel
theorem dX5_spare_56 : decode cX5_spare 56 = .ok (.iconst 1, 1) := by decide +kernel
theorem dX5_spare_57 : decode cX5_spare 57 = .ok (.isub, 1) := by decide +kernel
theorem dX5_spare_58 : decode cX5_spare 58 = .ok (.ireturn, 1) := by decide +kernel
theorem dX5_sell_0 : decode cX5_sell 0 = .ok (.aload_n 0, 1) := by decide +kernel
theorem dX5_sell_1 : decode cX5_sell 1 = .ok (.iconst 0, 1) := by decide +kernel
theorem dX5_sell_2 : decode cX5_sell 2 = .ok (.putfield 65, 3) := by decide +kernel
theorem dX5_sell_5 : decode cX5_sell 5 = .ok (.aload_n 0, 1) := by decide +kernel
theorem dX5_sell_6 : decode cX5_sell 6 = .ok (.getfield 104, 3) := by decide +kernel
theorem dX5_sell_9 : decode cX5_sell 9 = .ok (.ifCond .ne 6, 3) := by decide +kernel
theorem dX5_sell_12 : decode cX5_sell 12 = .ok (.bipush (-2), 2) := by decide +kernel
theorem dX5_sell_14 : decode cX5_sell 14 = .ok (.ireturn, 1) := by decide +kernel
theorem dX5_sell_15 : decode cX5_sell 15 = .ok (.aload_n 0, 1) := by decide +kernel
theorem dX5_sell_16 : decode cX5_sell 16 = .ok (.dup, 1) := by decide +kernel
theorem dX5_sell_17 : decode cX5_sell 17 = .ok (.getfield 104, 3) := by decide +kernel
theorem dX5_sell_20 : decode cX5_sell 20 = .ok (.iconst 1, 1) := by decide +kernel
theorem dX5_sell_21 : decode cX5_sell 21 = .ok (.isub, 1) := by decide +kernel
theorem dX5_sell_22 : decode cX5_sell 22 = .ok (.putfield 104, 3) := by decide +kernel
theorem dX5_sell_25 : decode cX5_sell 25 = .ok (.aload_n 0, 1) := by decide +kernel
theorem dX5_sell_26 : decode cX5_sell 26 = .ok (.getfield 104, 3) := by decide +kernel
theorem dX5_sell_29 : decode cX5_sell 29 = .ok (.ireturn, 1) := by decide +kernel
theorem dX5_pairs_0 : decode cX5_pairs 0 = .ok (.aload_n 0, 1) := by decide +kernel
theorem dX5_pairs_1 : decode cX5_pairs 1 = .ok (.iconst 0, 1) := by decide +kernel
theorem dX5_pairs_2 : decode cX5_pairs 2 = .ok (.putfield 65, 3) := by decide +kernel
theorem dX5_pairs_5 : decode cX5_pairs 5 = .ok (.iload_n 1, 1) := by decide +kernel
theorem dX5_pairs_6 : decode cX5_pairs 6 = .ok (.iconst 0, 1) := by decide +kernel
theorem dX5_pairs_7 : decode cX5_pairs 7 = .ok (.iconst 1, 1) := by decide +kernel
theorem dX5_pairs_8 : decode cX5_pairs 8 = .ok (.invokestatic 68, 3) := by decide +kernel
theorem dX5_pairs_11 : decode cX5_pairs 11 = .ok (.ifCond .ne 5, 3) := by decide +kernel
theorem dX5_pairs_14 : decode cX5_pairs 14 = .ok (.iconst (-1), 1) := by decide +kernel
theorem dX5_pairs_15 : decode cX5_pairs 15 = .ok (.ireturn, 1) := by decide +kernel
theorem dX5_pairs_16 : decode cX5_pairs 16 = .ok (.aload_n 0, 1) := by decide +kernel
theorem dX5_pairs_17 : decode cX5_pairs 17 = .ok (.getfield 35, 3) := by decide +kernel
theorem dX5_pairs_20 : decode cX5_pairs 20 = .ok (.iconst 0, 1) := by decide +kernel
theorem dX5_pairs_21 : decode cX5_pairs 21 = .ok (.iconst 0, 1) := by decide +kernel
theorem dX5_pairs_22 : decode cX5_pairs 22 = .ok (.iastore, 1) := by decide +kernel
theorem dX5_pairs_23 : decode cX5_pairs 23 = .ok (.aload_n 0, 1) := by decide +kernel
theorem dX5_pairs_24 : decode cX5_pairs 24 = .ok (.getfield 38, 3) := by decide +kernel
theorem dX5_pairs_27 : decode cX5_pairs 27 = .ok (.iconst 0, 1) := by decide +kernel
theorem dX5_pairs_28 : decode cX5_pairs 28 = .ok (.iconst 0, 1) := by decide +kernel
theorem dX5_pairs_29 : decode cX5_pairs 29 = .ok (.iastore, 1) := by decide +kernel
theorem dX5_pairs_30 : decode cX5_pairs 30 = .ok (.iconst 1, 1) := by decide +kernel
theorem dX5_pairs_31 : decode cX5_pairs 31 = .ok (.istore_n 2, 1) := by decide +kernel
theorem dX5_pairs_32 : decode cX5_pairs 32 = .ok (.iload_n 2, 1) := by decide +kernel
theorem dX5_pairs_33 : decode cX5_pairs 33 = .ok (.iconst 1, 1) := by decide +kernel
theorem dX5_pairs_34 : decode cX5_pairs 34 = .ok (.aload_n 0, 1) := by decide +kernel
theorem dX5_pairs_35 : decode cX5_pairs 35 = .ok (.getfield 104, 3) := by decide +kernel
theorem dX5_pairs_38 : decode cX5_pairs 38 = .ok (.ishl, 1) := by decide +kernel
theorem dX5_pairs_39 : decode cX5_pairs 39 = .ok (.if_icmp .ge 260, 3) := by decide +kernel
theorem dX5_pairs_42 : decode cX5_pairs 42 = .ok (.iconst 0, 1) := by decide +kernel
theorem dX5_pairs_43 : decode cX5_pairs 43 = .ok (.istore_n 3, 1) := by decide +kernel
theorem dX5_pairs_44 : decode cX5_pairs 44 = .ok (.iconst 0, 1) := by decide +kernel
theorem dX5_pairs_45 : decode cX5_pairs 45 = .ok (.istore 4, 2) := by decide +kernel
theorem dX5_pairs_47 : decode cX5_pairs 47 = .ok (.iload 4, 2) := by decide +kernel
theorem dX5_pairs_49 : decode cX5_pairs 49 = .ok (.aload_n 0, 1) := by decide +kernel
theorem dX5_pairs_50 : decode cX5_pairs 50 = .ok (.getfield 104, 3) := by decide +kernel
theorem dX5_pairs_53 : decode cX5_pairs 53 = .ok (.if_icmp .ge 26, 3) := by decide +kernel
theorem dX5_pairs_56 : decode cX5_pairs 56 = .ok (.iload_n 2, 1) := by decide +kernel
theorem dX5_pairs_57 : decode cX5_pairs 57 = .ok (.iload 4, 2) := by decide +kernel
theorem dX5_pairs_59 : decode cX5_pairs 59 = .ok (.ishr, 1) := by decide +kernel
theorem dX5_pairs_60 : decode cX5_pairs 60 = .ok (.iconst 1, 1) := by decide +kernel
theorem dX5_pairs_61 : decode cX5_pairs 61 = .ok (.iand, 1) := by decide +kernel
theorem dX5_pairs_62 : decode cX5_pairs 62 = .ok (.iconst 1, 1) := by decide +kernel
theorem dX5_pairs_63 : decode cX5_pairs 63 = .ok (.if_icmp .ne 8, 3) := by decide +kernel
theorem dX5_pairs_66 : decode cX5_pairs 66 = .ok (.iload 4, 2) := by decide +kernel
theorem dX5_pairs_68 : decode cX5_pairs 68 = .ok (.goto 4, 3) := by decide +kernel
theorem dX5_pairs_71 : decode cX5_pairs 71 = .ok (.iload_n 3, 1) := by decide +kernel
theorem dX5_pairs_72 : decode cX5_pairs 72 = .ok (.istore_n 3, 1) := by decide +kernel
theorem dX5_pairs_73 : decode cX5_pairs 73 = .ok (.iinc 4 1, 3) := by decide +kernel
theorem dX5_pairs_76 : decode cX5_pairs 76 = .ok (.goto (-29), 3) := by decide +kernel
theorem dX5_pairs_79 : decode cX5_pairs 79 = .ok (.iload_n 2, 1) := by decide +kernel
theorem dX5_pairs_80 : decode cX5_pairs 80 = .ok (.iconst 1, 1) := by decide +kernel
theorem dX5_pairs_81 : decode cX5_pairs 81 = .ok (.iload_n 3, 1) := by decide +kernel
theorem dX5_pairs_82 : decode cX5_pairs 82 = .ok (.ishl, 1) := by decide +kernel
theorem dX5_pairs_83 : decode cX5_pairs 83 = .ok (.isub, 1) := by decide +kernel
theorem dX5_pairs_84 : decode cX5_pairs 84 = .ok (.istore 4, 2) := by decide +kernel
theorem dX5_pairs_86 : decode cX5_pairs 86 = .ok (.aload_n 0, 1) := by decide +kernel
theorem dX5_pairs_87 : decode cX5_pairs 87 = .ok (.getfield 35, 3) := by decide +kernel
theorem dX5_pairs_90 : decode cX5_pairs 90 = .ok (.iload_n 2, 1) := by decide +kernel
theorem dX5_pairs_91 : decode cX5_pairs 91 = .ok (.aload_n 0, 1) := by decide +kernel
theorem dX5_pairs_92 : decode cX5_pairs 92 = .ok (.getfield 35, 3) := by decide +kernel
theorem dX5_pairs_95 : decode cX5_pairs 95 = .ok (.iload 4, 2) := by decide +kernel
theorem dX5_pairs_97 : decode cX5_pairs 97 = .ok (.iaload, 1) := by decide +kernel
theorem dX5_pairs_98 : decode cX5_pairs 98 = .ok (.iastore, 1) := by decide +kernel
theorem dX5_pairs_99 : decode cX5_pairs 99 = .ok (.aload_n 0, 1) := by decide +kernel
theorem dX5_pairs_100 : decode cX5_pairs 100 = .ok (.getfield 38, 3) := by decide +kernel
theorem dX5_pairs_103 : decode cX5_pairs 103 = .ok (.iload_n 2, 1) := by decide +kernel
theorem dX5_pairs_104 : decode cX5_pairs 104 = .ok (.aload_n 0, 1) := by decide +kernel
theorem dX5_pairs_105 : decode cX5_pairs 105 = .ok (.getfield 38, 3) := by decide +kernel
theorem dX5_pairs_108 : decode cX5_pairs 108 = .ok (.iload 4, 2) := by decide +kernel
theorem dX5_pairs_110 : decode cX5_pairs 110 = .ok (.iaload, 1) := by decide +kernel
theorem dX5_pairs_111 : decode cX5_pairs 111 = .ok (.iastore, 1) := by decide +kernel
theorem dX5_pairs_112 : decode cX5_pairs 112 = .ok (.iconst 0, 1) := by decide +kernel
theorem dX5_pairs_113 : decode cX5_pairs 113 = .ok (.istore 5, 2) := by decide +kernel
theorem dX5_pairs_115 : decode cX5_pairs 115 = .ok (.iload 5, 2) := by decide +kernel
theorem dX5_pairs_117 : decode cX5_pairs 117 = .ok (.iload_n 3, 1) := by decide +kernel
theorem dX5_pairs_118 : decode cX5_pairs 118 = .ok (.if_icmp .ge 175, 3) := by decide +kernel
theorem dX5_pairs_121 : decode cX5_pairs 121 = .ok (.aload_n 0, 1) := by decide +kernel
theorem dX5_pairs_122 : decode cX5_pairs 122 = .ok (.getfield 32, 3) := by decide +kernel
theorem dX5_pairs_125 : decode cX5_pairs 125 = .ok (.iload 5, 2) := by decide +kernel
theorem dX5_pairs_127 : decode cX5_pairs 127 = .ok (.iaload, 1) := by decide +kernel
theorem dX5_pairs_128 : decode cX5_pairs 128 = .ok (.aload_n 0, 1) := by decide +kernel
theorem dX5_pairs_129 : decode cX5_pairs 129 = .ok (.getfield 32, 3) := by decide +kernel
theorem dX5_pairs_132 : decode cX5_pairs 132 = .ok (.iload_n 3, 1) := by decide +kernel
theorem dX5_pairs_133 : decode cX5_pairs 133 = .ok (.iaload, 1) := by decide +kernel
theorem dX5_pairs_134 : decode cX5_pairs 134 = .ok (.if_icmp .ge 20, 3) := by decide +kernel
theorem dX5_pairs_137 : decode cX5_pairs 137 = .ok (.aload_n 0, 1) := by decide +kernel
theorem dX5_pairs_138 : decode cX5_pairs 138 = .ok (.getfield 32, 3) := by decide +kernel
theorem dX5_pairs_141 : decode cX5_pairs 141 = .ok (.iload_n 3, 1) := by decide +kernel
theorem dX5_pairs_142 : decode cX5_pairs 142 = .ok (.iaload, 1) := by decide +kernel
theorem dX5_pairs_143 : decode cX5_pairs 143 = .ok (.aload_n 0, 1) := by decide +kernel
theorem dX5_pairs_144 : decode cX5_pairs 144 = .ok (.getfield 32, 3) := by decide +kernel
theorem dX5_pairs_147 : decode cX5_pairs 147 = .ok (.iload 5, 2) := by decide +kernel
theorem dX5_pairs_149 : decode cX5_pairs 149 = .ok (.iaload, 1) := by decide +kernel
theorem dX5_pairs_150 : decode cX5_pairs 150 = .ok (.isub, 1) := by decide +kernel
theorem dX5_pairs_151 : decode cX5_pairs 151 = .ok (.goto 17, 3) := by decide +kernel
theorem dX5_pairs_154 : decode cX5_pairs 154 = .ok (.aload_n 0, 1) := by decide +kernel
theorem dX5_pairs_155 : decode cX5_pairs 155 = .ok (.getfield 32, 3) := by decide +kernel
theorem dX5_pairs_158 : decode cX5_pairs 158 = .ok (.iload 5, 2) := by decide +kernel
theorem dX5_pairs_160 : decode cX5_pairs 160 = .ok (.iaload, 1) := by decide +kernel
theorem dX5_pairs_161 : decode cX5_pairs 161 = .ok (.aload_n 0, 1) := by decide +kernel
theorem dX5_pairs_162 : decode cX5_pairs 162 = .ok (.getfield 32, 3) := by decide +kernel
theorem dX5_pairs_165 : decode cX5_pairs 165 = .ok (.iload_n 3, 1) := by decide +kernel
theorem dX5_pairs_166 : decode cX5_pairs 166 = .ok (.iaload, 1) := by decide +kernel
theorem dX5_pairs_167 : decode cX5_pairs 167 = .ok (.isub, 1) := by decide +kernel
theorem dX5_pairs_168 : decode cX5_pairs 168 = .ok (.istore 6, 2) := by decide +kernel
theorem dX5_pairs_170 : decode cX5_pairs 170 = .ok (.iload 4, 2) := by decide +kernel
theorem dX5_pairs_172 : decode cX5_pairs 172 = .ok (.iconst 1, 1) := by decide +kernel
theorem dX5_pairs_173 : decode cX5_pairs 173 = .ok (.iload 5, 2) := by decide +kernel
theorem dX5_pairs_175 : decode cX5_pairs 175 = .ok (.ishl, 1) := by decide +kernel
theorem dX5_pairs_176 : decode cX5_pairs 176 = .ok (.isub, 1) := by decide +kernel
theorem dX5_pairs_177 : decode cX5_pairs 177 = .ok (.istore 7, 2) := by decide +kernel
theorem dX5_pairs_179 : decode cX5_pairs 179 = .ok (.iload 4, 2) := by decide +kernel
theorem dX5_pairs_181 : decode cX5_pairs 181 = .ok (.iload 5, 2) := by decide +kernel
theorem dX5_pairs_183 : decode cX5_pairs 183 = .ok (.ishr, 1) := by decide +kernel
theorem dX5_pairs_184 : decode cX5_pairs 184 = .ok (.iconst 1, 1) := by decide +kernel
theorem dX5_pairs_185 : decode cX5_pairs 185 = .ok (.iand, 1) := by decide +kernel
theorem dX5_pairs_186 : decode cX5_pairs 186 = .ok (.iconst 1, 1) := by decide +kernel
theorem dX5_pairs_187 : decode cX5_pairs 187 = .ok (.if_icmp .ne 100, 3) := by decide +kernel
theorem dX5_pairs_190 : decode cX5_pairs 190 = .ok (.iload 6, 2) := by decide +kernel
theorem dX5_pairs_192 : decode cX5_pairs 192 = .ok (.aload_n 0, 1) := by decide +kernel
theorem dX5_pairs_193 : decode cX5_pairs 193 = .ok (.getfield 26, 3) := by decide +kernel
theorem dX5_pairs_196 : decode cX5_pairs 196 = .ok (.iconst 0, 1) := by decide +kernel
theorem dX5_pairs_197 : decode cX5_pairs 197 = .ok (.iaload, 1) := by decide +kernel
theorem dX5_pairs_198 : decode cX5_pairs 198 = .ok (.if_icmp .gt 89, 3) := by decide +kernel
theorem dX5_pairs_201 : decode cX5_pairs 201 = .ok (.aload_n 0, 1) := by decide +kernel
theorem dX5_pairs_202 : decode cX5_pairs 202 = .ok (.getfield 35, 3) := by decide +kernel
theorem dX5_pairs_205 : decode cX5_pairs 205 = .ok (.iload 7, 2) := by decide +kernel
theorem dX5_pairs_207 : decode cX5_pairs 207 = .ok (.iaload, 1) := by decide +kernel
theorem dX5_pairs_208 : decode cX5_pairs 208 = .ok (.iconst 1, 1) := by decide +kernel
theorem dX5_pairs_209 : decode cX5_pairs 209 = .ok (.iadd, 1) := by decide +kernel
theorem dX5_pairs_210 : decode cX5_pairs 210 = .ok (.aload_n 0, 1) := by decide +kernel
theorem dX5_pairs_211 : decode cX5_pairs 211 = .ok (.getfield 35, 3) := by decide +kernel
theorem dX5_pairs_214 : decode cX5_pairs 214 = .ok (.iload_n 2, 1) := by decide +kernel
theorem dX5_pairs_215 : decode cX5_pairs 215 = .ok (.iaload, 1) := by decide +kernel
theorem dX5_pairs_216 : decode cX5_pairs 216 = .ok (.if_icmp .gt 40, 3) := by decide +kernel
theorem dX5_pairs_219 : decode cX5_pairs 219 = .ok (.aload_n 0, 1) := by decide +kernel
theorem dX5_pairs_220 : decode cX5_pairs 220 = .ok (.getfield 35, 3) := by decide +kernel
theorem dX5_pairs_223 : decode cX5_pairs 223 = .ok (.iload 7, 2) := by decide +kernel
theorem dX5_pairs_225 : decode cX5_pairs 225 = .ok (.iaload, 1) := by decide +kernel
theorem dX5_pairs_226 : decode cX5_pairs 226 = .ok (.iconst 1, 1) := by decide +kernel
theorem dX5_pairs_227 : decode cX5_pairs 227 = .ok (.iadd, 1) := by decide +kernel
theorem dX5_pairs_228 : decode cX5_pairs 228 = .ok (.aload_n 0, 1) := by decide +kernel
theorem dX5_pairs_229 : decode cX5_pairs 229 = .ok (.getfield 35, 3) := by decide +kernel
theorem dX5_pairs_232 : decode cX5_pairs 232 = .ok (.iload_n 2, 1) := by decide +kernel
theorem dX5_pairs_233 : decode cX5_pairs 233 = .ok (.iaload, 1) := by decide +kernel
theorem dX5_pairs_234 : decode cX5_pairs 234 = .ok (.if_icmp .ne 53, 3) := by decide +kernel
theorem dX5_pairs_237 : decode cX5_pairs 237 = .ok (.aload_n 0, 1) := by decide +kernel
theorem dX5_pairs_238 : decode cX5_pairs 238 = .ok (.getfield 38, 3) := by decide +kernel
theorem dX5_pairs_241 : decode cX5_pairs 241 = .ok (.iload 7, 2) := by decide +kernel
theorem dX5_pairs_243 : decode cX5_pairs 243 = .ok (.iaload, 1) := by decide +kernel
theorem dX5_pairs_244 : decode cX5_pairs 244 = .ok (.iload 6, 2) := by decide +kernel
theorem dX5_pairs_246 : decode cX5_pairs 246 = .ok (.iadd, 1) := by decide +kernel
theorem dX5_pairs_247 : decode cX5_pairs 247 = .ok (.aload_n 0, 1) := by decide +kernel
theorem dX5_pairs_248 : decode cX5_pairs 248 = .ok (.getfield 38, 3) := by decide +kernel
theorem dX5_pairs_251 : decode cX5_pairs 251 = .ok (.iload_n 2, 1) := by decide +kernel
theorem dX5_pairs_252 : decode cX5_pairs 252 = .ok (.iaload, 1) := by decide +kernel
theorem dX5_pairs_253 : decode cX5_pairs 253 = .ok (.if_icmp .ge 34, 3) := by decide +kernel
theorem dX5_pairs_256 : decode cX5_pairs 256 = .ok (.aload_n 0, 1) := by decide +kernel
theorem dX5_pairs_257 : decode cX5_pairs 257 = .ok (.getfield 35, 3) := by decide +kernel
theorem dX5_pairs_260 : decode cX5_pairs 260 = .ok (.iload_n 2, 1) := by decide +kernel
theorem dX5_pairs_261 : decode cX5_pairs 261 = .ok (.aload_n 0, 1) := by decide +kernel
theorem dX5_pairs_262 : decode cX5_pairs 262 = .ok (.getfield 35, 3) := by decide +kernel
theorem dX5_pairs_265 : decode cX5_pairs 265 = .ok (.iload 7, 2) := by decide +kernel
theorem dX5_pairs_267 : decode cX5_pairs 267 = .ok (.iaload, 1) := by decide +kernel
theorem dX5_pairs_268 : decode cX5_pairs 268 = .ok (.iconst 1, 1) := by decide +kernel
theorem dX5_pairs_269 : decode cX5_pairs 269 = .ok (.iadd, 1) := by decide +kernel
theorem dX5_pairs_270 : decode cX5_pairs 270 = .ok (.iastore, 1) := by decide +kernel
theorem dX5_pairs_271 : decode cX5_pairs 271 = .ok (.aload_n 0, 1) := by decide +kernel
theorem dX5_pairs_272 : decode cX5_pairs 272 = .ok (.getfield 38, 3) := by decide +kernel
theorem dX5_pairs_275 : decode cX5_pairs 275 = .ok (.iload_n 2, 1) := by decide +kernel
theorem dX5_pairs_276 : decode cX5_pairs 276 = .ok (.aload_n 0, 1) := by decide +kernel
theorem dX5_pairs_277 : decode cX5_pairs 277 = .ok (.getfield 38, 3) := by decide +kernel
theorem dX5_pairs_280 : decode cX5_pairs 280 = .ok (.iload 7, 2) := by decide +kernel
theorem dX5_pairs_282 : decode cX5_pairs 282 = .ok (.iaload, 1) := by decide +kernel
theorem dX5_pairs_283 : decode cX5_pairs 283 = .ok (.iload 6, 2) := by decide +kernel
theorem dX5_pairs_285 : decode cX5_pairs 285 = .ok (.iadd, 1) := by decide +kernel
theorem dX5_pairs_286 : decode cX5_pairs 286 = .ok (.iastore, 1) := by decide +kernel
theorem dX5_pairs_287 : decode cX5_pairs 287 = .ok (.iinc 5 1, 3) := by decide +kernel
theorem dX5_pairs_290 : decode cX5_pairs 290 = .ok (.goto (-175), 3) := by decide +kernel
theorem dX5_pairs_293 : decode cX5_pairs 293 = .ok (.iinc 2 1, 3) := by decide +kernel
theorem dX5_pairs_296 : decode cX5_pairs 296 = .ok (.goto (-264), 3) := by decide +kernel
theorem dX5_pairs_299 : decode cX5_pairs 299 = .ok (.iconst 1, 1) := by decide +kernel
theorem dX5_pairs_300 : decode cX5_pairs 300 = .ok (.aload_n 0, 1) := by decide +kernel
theorem dX5_pairs_301 : decode cX5_pairs 301 = .ok (.getfield 104, 3) := by decide +kernel
theorem dX5_pairs_304 : decode cX5_pairs 304 = .ok (.ishl, 1) := by decide +kernel
theorem dX5_pairs_305 : decode cX5_pairs 305 = .ok (.iconst 1, 1) := by decide +kernel
theorem dX5_pairs_306 : decode cX5_pairs 306 = .ok (.isub, 1) := by decide +kernel
theorem dX5_pairs_307 : decode cX5_pairs 307 = .ok (.istore_n 2, 1) := by decide +kernel
theorem dX5_pairs_308 : decode cX5_pairs 308 = .ok (.iload_n 1, 1) := by decide +kernel
theorem dX5_pairs_309 : decode cX5_pairs 309 = .ok (.ifCond .ne 12, 3) := by decide +kernel
theorem dX5_pairs_312 : decode cX5_pairs 312 = .ok (.aload_n 0, 1) := by decide +kernel
theorem dX5_pairs_313 : decode cX5_pairs 313 = .ok (.getfield 35, 3) := by decide +kernel
theorem dX5_pairs_316 : decode cX5_pairs 316 = .ok (.iload_n 2, 1) := by decide +kernel
theorem dX5_pairs_317 : decode cX5_pairs 317 = .ok (.iaload, 1) := by decide +kernel
theorem dX5_pairs_318 : decode cX5_pairs 318 = .ok (.goto 9, 3) := by decide +kernel
theorem dX5_pairs_321 : decode cX5_pairs 321 = .ok (.aload_n 0, 1) := by decide +kernel
theorem dX5_pairs_322 : decode cX5_pairs 322 = .ok (.getfield 38, 3) := by decide +kernel
theorem dX5_pairs_325 : decode cX5_pairs 325 = .ok (.iload_n 2, 1) := by decide +kernel
theorem dX5_pairs_326 : decode cX5_pairs 326 = .ok (.iaload, 1) := by decide +kernel
theorem dX5_pairs_327 : decode cX5_pairs 327 = .ok (.ireturn, 1) := by decide +kernel
theorem dX5_read_0 : decode cX5_read 0 = .ok (.aload_n 0, 1) := by decide +kernel
theorem dX5_read_1 : decode cX5_read 1 = .ok (.iconst 0, 1) := by decide +kernel
theorem dX5_read_2 : decode cX5_read 2 = .ok (.putfield 65, 3) := by decide +kernel
theorem dX5_read_5 : decode cX5_read 5 = .ok (.iload_n 1, 1) := by decide +kernel
theorem dX5_read_6 : decode cX5_read 6 = .ok (.invokestatic 72, 3) := by decide +kernel
theorem dX5_read_9 : decode cX5_read 9 = .ok (.ifCond .eq 25, 3) := by decide +kernel
theorem dX5_read_12 : decode cX5_read 12 = .ok (.iload_n 2, 1) := by decide +kernel
theorem dX5_read_13 : decode cX5_read 13 = .ok (.iconst 0, 1) := by decide +kernel
theorem dX5_read_14 : decode cX5_read 14 = .ok (.iconst 1, 1) := by decide +kernel
theorem dX5_read_15 : decode cX5_read 15 = .ok (.invokestatic 68, 3) := by decide +kernel
theorem dX5_read_18 : decode cX5_read 18 = .ok (.ifCond .eq 16, 3) := by decide +kernel
theorem dX5_read_21 : decode cX5_read 21 = .ok (.iload_n 3, 1) := by decide +kernel
theorem dX5_read_22 : decode cX5_read 22 = .ok (.sipush 5000, 3) := by decide +kernel
theorem dX5_read_25 : decode cX5_read 25 = .ok (.sipush 10000, 3) := by decide +kernel
theorem dX5_read_28 : decode cX5_read 28 = .ok (.invokestatic 68, 3) := by decide +kernel
theorem dX5_read_31 : decode cX5_read 31 = .ok (.ifCond .ne 5, 3) := by decide +kernel
theorem dX5_read_34 : decode cX5_read 34 = .ok (.iconst (-1), 1) := by decide +kernel
theorem dX5_read_35 : decode cX5_read 35 = .ok (.ireturn, 1) := by decide +kernel
theorem dX5_read_36 : decode cX5_read 36 = .ok (.aload_n 0, 1) := by decide +kernel
theorem dX5_read_37 : decode cX5_read 37 = .ok (.getfield 107, 3) := by decide +kernel
theorem dX5_read_40 : decode cX5_read 40 = .ok (.bipush 20, 2) := by decide +kernel
theorem dX5_read_42 : decode cX5_read 42 = .ok (.if_icmp .ne 6, 3) := by decide +kernel
theorem dX5_read_45 : decode cX5_read 45 = .ok (.bipush (-3), 2) := by decide +kernel
theorem dX5_read_47 : decode cX5_read 47 = .ok (.ireturn, 1) := by decide +kernel
theorem dX5_read_48 : decode cX5_read 48 = .ok (.aload_n 0, 1) := by decide +kernel
theorem dX5_read_49 : decode cX5_read 49 = .ok (.getfield 41, 3) := by decide +kernel
theorem dX5_read_52 : decode cX5_read 52 = .ok (.aload_n 0, 1) := by decide +kernel
theorem dX5_read_53 : decode cX5_read 53 = .ok (.getfield 107, 3) := by decide +kernel
theorem dX5_read_56 : decode cX5_read 56 = .ok (.iload_n 1, 1) := by decide +kernel
theorem dX5_read_57 : decode cX5_read 57 = .ok (.iastore, 1) := by decide +kernel
theorem dX5_read_58 : decode cX5_read 58 = .ok (.aload_n 0, 1) := by decide +kernel
theorem dX5_read_59 : decode cX5_read 59 = .ok (.getfield 44, 3) := by decide +kernel
theorem dX5_read_62 : decode cX5_read 62 = .ok (.aload_n 0, 1) := by decide +kernel
theorem dX5_read_63 : decode cX5_read 63 = .ok (.getfield 107, 3) := by decide +kernel
theorem dX5_read_66 : decode cX5_read 66 = .ok (.iload_n 2, 1) := by decide +kernel
theorem dX5_read_67 : decode cX5_read 67 = .ok (.iastore, 1) := by decide +kernel
theorem dX5_read_68 : decode cX5_read 68 = .ok (.aload_n 0, 1) := by decide +kernel
theorem dX5_read_69 : decode cX5_read 69 = .ok (.getfield 47, 3) := by decide +kernel
theorem dX5_read_72 : decode cX5_read 72 = .ok (.aload_n 0, 1) := by decide +kernel
theorem dX5_read_73 : decode cX5_read 73 = .ok (.getfield 107, 3) := by decide +kernel
theorem dX5_read_76 : decode cX5_read 76 = .ok (.iload_n 3, 1) := by decide +kernel
theorem dX5_read_77 : decode cX5_read 77 = .ok (.iastore, 1) := by decide +kernel
theorem dX5_read_78 : decode cX5_read 78 = .ok (.aload_n 0, 1) := by decide +kernel
theorem dX5_read_79 : decode cX5_read 79 = .ok (.dup, 1) := by decide +kernel
theorem dX5_read_80 : decode cX5_read 80 = .ok (.getfield 107, 3) := by decide +kernel
theorem dX5_read_83 : decode cX5_read 83 = .ok (.iconst 1, 1) := by decide +kernel
theorem dX5_read_84 : decode cX5_read 84 = .ok (.iadd, 1) := by decide +kernel
theorem dX5_read_85 : decode cX5_read 85 = .ok (.putfield 107, 3) := by decide +kernel
theorem dX5_read_88 : decode cX5_read 88 = .ok (.aload_n 0, 1) := by decide +kernel
theorem dX5_read_89 : decode cX5_read 89 = .ok (.getfield 107, 3) := by decide +kernel
theorem dX5_read_92 : decode cX5_read 92 = .ok (.ireturn, 1) := by decide +kernel
theorem dX5_forget_0 : decode cX5_forget 0 = .ok (.aload_n 0, 1) := by decide +kernel
theorem dX5_forget_1 : decode cX5_forget 1 = .ok (.iconst 0, 1) := by decide +kernel
theorem dX5_forget_2 : decode cX5_forget 2 = .ok (.putfield 65, 3) := by decide +kernel
theorem dX5_forget_5 : decode cX5_forget 5 = .ok (.aload_n 0, 1) := by decide +kernel
theorem dX5_forget_6 : decode cX5_forget 6 = .ok (.getfield 107, 3) := by decide +kernel
theorem dX5_forget_9 : decode cX5_forget 9 = .ok (.ifCond .ne 6, 3) := by decide +kernel
theorem dX5_forget_12 : decode cX5_forget 12 = .ok (.bipush (-2), 2) := by decide +kernel
theorem dX5_forget_14 : decode cX5_forget 14 = .ok (.ireturn, 1) := by decide +kernel
theorem dX5_forget_15 : decode cX5_forget 15 = .ok (.aload_n 0, 1) := by decide +kernel
theorem dX5_forget_16 : decode cX5_forget 16 = .ok (.dup, 1) := by decide +kernel
theorem dX5_forget_17 : decode cX5_forget 17 = .ok (.getfield 107, 3) := by decide +kernel
theorem dX5_forget_20 : decode cX5_forget 20 = .ok (.iconst 1, 1) := by decide +kernel
theorem dX5_forget_21 : decode cX5_forget 21 = .ok (.isub, 1) := by decide +kernel
theorem dX5_forget_22 : decode cX5_forget 22 = .ok (.putfield 107, 3) := by decide +kernel
theorem dX5_forget_25 : decode cX5_forget 25 = .ok (.aload_n 0, 1) := by decide +kernel
theorem dX5_forget_26 : decode cX5_forget 26 = .ok (.getfield 107, 3) := by decide +kernel
theorem dX5_forget_29 : decode cX5_forget 29 = .ok (.ireturn, 1) := by decide +kernel
theorem dX5_hands_0 : decode cX5_hands 0 = .ok (.iconst 0, 1) := by decide +kernel
theorem dX5_hands_1 : decode cX5_hands 1 = .ok (.istore_n 1, 1) := by decide +kernel
theorem dX5_hands_2 : decode cX5_hands 2 = .ok (.iload_n 1, 1) := by decide +kernel
theorem dX5_hands_3 : decode cX5_hands 3 = .ok (.bipush 16, 2) := by decide +kernel
theorem dX5_hands_5 : decode cX5_hands 5 = .ok (.if_icmp .ge 25, 3) := by decide +kernel
theorem dX5_hands_8 : decode cX5_hands 8 = .ok (.aload_n 0, 1) := by decide +kernel
theorem dX5_hands_9 : decode cX5_hands 9 = .ok (.getfield 50, 3) := by decide +kernel
theorem dX5_hands_12 : decode cX5_hands 12 = .ok (.iload_n 1, 1) := by decide +kernel
theorem dX5_hands_13 : decode cX5_hands 13 = .ok (.ldc 110, 2) := by decide +kernel
theorem dX5_hands_15 : decode cX5_hands 15 = .ok (.iastore, 1) := by decide +kernel
theorem dX5_hands_16 : decode cX5_hands 16 = .ok (.aload_n 0, 1) := by decide +kernel
theorem dX5_hands_17 : decode cX5_hands 17 = .ok (.getfield 53, 3) := by decide +kernel
theorem dX5_hands_20 : decode cX5_hands 20 = .ok (.iload_n 1, 1) := by decide +kernel
theorem dX5_hands_21 : decode cX5_hands 21 = .ok (.ldc 111, 2) := by decide +kernel
theorem dX5_hands_23 : decode cX5_hands 23 = .ok (.iastore, 1) := by decide +kernel
theorem dX5_hands_24 : decode cX5_hands 24 = .ok (.iinc 1 1, 3) := by decide +kernel
theorem dX5_hands_27 : decode cX5_hands 27 = .ok (.goto (-25), 3) := by decide +kernel
theorem dX5_hands_30 : decode cX5_hands 30 = .ok (.iconst 0, 1) := by decide +kernel
theorem dX5_hands_31 : decode cX5_hands 31 = .ok (.istore_n 1, 1) := by decide +kernel
theorem dX5_hands_32 : decode cX5_hands 32 = .ok (.iload_n 1, 1) := by decide +kernel
theorem dX5_hands_33 : decode cX5_hands 33 = .ok (.aload_n 0, 1) := by decide +kernel
theorem dX5_hands_34 : decode cX5_hands 34 = .ok (.getfield 107, 3) := by decide +kernel
theorem dX5_hands_37 : decode cX5_hands 37 = .ok (.if_icmp .ge 105, 3) := by decide +kernel
theorem dX5_hands_40 : decode cX5_hands 40 = .ok (.aload_n 0, 1) := by decide +kernel
theorem dX5_hands_41 : decode cX5_hands 41 = .ok (.getfield 44, 3) := by decide +kernel
theorem dX5_hands_44 : decode cX5_hands 44 = .ok (.iload_n 1, 1) := by decide +kernel
theorem dX5_hands_45 : decode cX5_hands 45 = .ok (.iaload, 1) := by decide +kernel
theorem dX5_hands_46 : decode cX5_hands 46 = .ok (.ifCond .ne 90, 3) := by decide +kernel
theorem dX5_hands_49 : decode cX5_hands 49 = .ok (.aload_n 0, 1) := by decide +kernel
theorem dX5_hands_50 : decode cX5_hands 50 = .ok (.getfield 41, 3) := by decide +kernel
theorem dX5_hands_53 : decode cX5_hands 53 = .ok (.iload_n 1, 1) := by decide +kernel
theorem dX5_hands_54 : decode cX5_hands 54 = .ok (.iaload, 1) := by decide +kernel
theorem dX5_hands_55 : decode cX5_hands 55 = .ok (.istore_n 2, 1) := by decide +kernel
theorem dX5_hands_56 : decode cX5_hands 56 = .ok (.aload_n 0, 1) := by decide +kernel
theorem dX5_hands_57 : decode cX5_hands 57 = .ok (.getfield 50, 3) := by decide +kernel
theorem dX5_hands_60 : decode cX5_hands 60 = .ok (.iload_n 2, 1) := by decide +kernel
theorem dX5_hands_61 : decode cX5_hands 61 = .ok (.aload_n 0, 1) := by decide +kernel
theorem dX5_hands_62 : decode cX5_hands 62 = .ok (.getfield 47, 3) := by decide +kernel
theorem dX5_hands_65 : decode cX5_hands 65 = .ok (.iload_n 1, 1) := by decide +kernel
theorem dX5_hands_66 : decode cX5_hands 66 = .ok (.iaload, 1) := by decide +kernel
theorem dX5_hands_67 : decode cX5_hands 67 = .ok (.iconst 2, 1) := by decide +kernel
theorem dX5_hands_68 : decode cX5_hands 68 = .ok (.isub, 1) := by decide +kernel
theorem dX5_hands_69 : decode cX5_hands 69 = .ok (.aload_n 0, 1) := by decide +kernel
theorem dX5_hands_70 : decode cX5_hands 70 = .ok (.getfield 50, 3) := by decide +kernel
theorem dX5_hands_73 : decode cX5_hands 73 = .ok (.iload_n 2, 1) := by decide +kernel
theorem dX5_hands_74 : decode cX5_hands 74 = .ok (.iaload, 1) := by decide +kernel
theorem dX5_hands_75 : decode cX5_hands 75 = .ok (.if_icmp .le 14, 3) := by decide +kernel
theorem dX5_hands_78 : decode cX5_hands 78 = .ok (.aload_n 0, 1) := by decide +kernel
theorem dX5_hands_79 : decode cX5_hands 79 = .ok (.getfield 47, 3) := by decide +kernel
theorem dX5_hands_82 : decode cX5_hands 82 = .ok (.iload_n 1, 1) := by decide +kernel
theorem dX5_hands_83 : decode cX5_hands 83 = .ok (.iaload, 1) := by decide +kernel
theorem dX5_hands_84 : decode cX5_hands 84 = .ok (.iconst 2, 1) := by decide +kernel
theorem dX5_hands_85 : decode cX5_hands 85 = .ok (.isub, 1) := by decide +kernel
theorem dX5_hands_86 : decode cX5_hands 86 = .ok (.goto 9, 3) := by decide +kernel
theorem dX5_hands_89 : decode cX5_hands 89 = .ok (.aload_n 0, 1) := by decide +kernel
theorem dX5_hands_90 : decode cX5_hands 90 = .ok (.getfield 50, 3) := by decide +kernel
theorem dX5_hands_93 : decode cX5_hands 93 = .ok (.iload_n 2, 1) := by decide +kernel
theorem dX5_hands_94 : decode cX5_hands 94 = .ok (.iaload, 1) := by decide +kernel
theorem dX5_hands_95 : decode cX5_hands 95 = .ok (.iastore, 1) := by decide +kernel
theorem dX5_hands_96 : decode cX5_hands 96 = .ok (.aload_n 0, 1) := by decide +kernel
theorem dX5_hands_97 : decode cX5_hands 97 = .ok (.getfield 53, 3) := by decide +kernel
theorem dX5_hands_100 : decode cX5_hands 100 = .ok (.iload_n 2, 1) := by decide +kernel
theorem dX5_hands_101 : decode cX5_hands 101 = .ok (.aload_n 0, 1) := by decide +kernel
theorem dX5_hands_102 : decode cX5_hands 102 = .ok (.getfield 47, 3) := by decide +kernel
theorem dX5_hands_105 : decode cX5_hands 105 = .ok (.iload_n 1, 1) := by decide +kernel
theorem dX5_hands_106 : decode cX5_hands 106 = .ok (.iaload, 1) := by decide +kernel
theorem dX5_hands_107 : decode cX5_hands 107 = .ok (.iconst 2, 1) := by decide +kernel
theorem dX5_hands_108 : decode cX5_hands 108 = .ok (.iadd, 1) := by decide +kernel
theorem dX5_hands_109 : decode cX5_hands 109 = .ok (.aload_n 0, 1) := by decide +kernel
theorem dX5_hands_110 : decode cX5_hands 110 = .ok (.getfield 53, 3) := by decide +kernel
theorem dX5_hands_113 : decode cX5_hands 113 = .ok (.iload_n 2, 1) := by decide +kernel
theorem dX5_hands_114 : decode cX5_hands 114 = .ok (.iaload, 1) := by decide +kernel
theorem dX5_hands_115 : decode cX5_hands 115 = .ok (.if_icmp .ge 14, 3) := by decide +kernel
theorem dX5_hands_118 : decode cX5_hands 118 = .ok (.aload_n 0, 1) := by decide +kernel
theorem dX5_hands_119 : decode cX5_hands 119 = .ok (.getfield 47, 3) := by decide +kernel
theorem dX5_hands_122 : decode cX5_hands 122 = .ok (.iload_n 1, 1) := by decide +kernel
theorem dX5_hands_123 : decode cX5_hands 123 = .ok (.iaload, 1) := by decide +kernel
theorem dX5_hands_124 : decode cX5_hands 124 = .ok (.iconst 2, 1) := by decide +kernel
theorem dX5_hands_125 : decode cX5_hands 125 = .ok (.iadd, 1) := by decide +kernel
theorem dX5_hands_126 : decode cX5_hands 126 = .ok (.goto 9, 3) := by decide +kernel
theorem dX5_hands_129 : decode cX5_hands 129 = .ok (.aload_n 0, 1) := by decide +kernel
theorem dX5_hands_130 : decode cX5_hands 130 = .ok (.getfield 53, 3) := by decide +kernel
theorem dX5_hands_133 : decode cX5_hands 133 = .ok (.iload_n 2, 1) := by decide +kernel
theorem dX5_hands_134 : decode cX5_hands 134 = .ok (.iaload, 1) := by decide +kernel
theorem dX5_hands_135 : decode cX5_hands 135 = .ok (.iastore, 1) := by decide +kernel
theorem dX5_hands_136 : decode cX5_hands 136 = .ok (.iinc 1 1, 3) := by decide +kernel
theorem dX5_hands_139 : decode cX5_hands 139 = .ok (.goto (-107), 3) := by decide +kernel
theorem dX5_hands_142 : decode cX5_hands 142 = .ok (.iconst 1, 1) := by decide +kernel
theorem dX5_hands_143 : decode cX5_hands 143 = .ok (.istore_n 1, 1) := by decide +kernel
theorem dX5_hands_144 : decode cX5_hands 144 = .ok (.iconst 0, 1) := by decide +kernel
theorem dX5_hands_145 : decode cX5_hands 145 = .ok (.istore_n 2, 1) := by decide +kernel
theorem dX5_hands_146 : decode cX5_hands 146 = .ok (.iload_n 2, 1) := by decide +kernel
theorem dX5_hands_147 : decode cX5_hands 147 = .ok (.bipush 16, 2) := by decide +kernel
theorem dX5_hands_149 : decode cX5_hands 149 = .ok (.if_icmp .ge 32, 3) := by decide +kernel
theorem dX5_hands_152 : decode cX5_hands 152 = .ok (.iload_n 1, 1) := by decide +kernel
theorem dX5_hands_153 : decode cX5_hands 153 = .ok (.aload_n 0, 1) := by decide +kernel
theorem dX5_hands_154 : decode cX5_hands 154 = .ok (.getfield 50, 3) := by decide +kernel
theorem dX5_hands_157 : decode cX5_hands 157 = .ok (.iload_n 2, 1) := by decide +kernel
theorem dX5_hands_158 : decode cX5_hands 158 = .ok (.iaload, 1) := by decide +kernel
theorem dX5_hands_159 : decode cX5_hands 159 = .ok (.aload_n 0, 1) := by decide +kernel
theorem dX5_hands_160 : decode cX5_hands 160 = .ok (.getfield 53, 3) := by decide +kernel
theorem dX5_hands_163 : decode cX5_hands 163 = .ok (.iload_n 2, 1) := by decide +kernel
theorem dX5_hands_164 : decode cX5_hands 164 = .ok (.iaload, 1) := by decide +kernel
theorem dX5_hands_165 : decode cX5_hands 165 = .ok (.if_icmp .gt 7, 3) := by decide +kernel
theorem dX5_hands_168 : decode cX5_hands 168 = .ok (.iconst 1, 1) := by decide +kernel
theorem dX5_hands_169 : decode cX5_hands 169 = .ok (.goto 4, 3) := by decide +kernel
theorem dX5_hands_172 : decode cX5_hands 172 = .ok (.iconst 0, 1) := by decide +kernel
theorem dX5_hands_173 : decode cX5_hands 173 = .ok (.iand, 1) := by decide +kernel
theorem dX5_hands_174 : decode cX5_hands 174 = .ok (.istore_n 1, 1) := by decide +kernel
theorem dX5_hands_175 : decode cX5_hands 175 = .ok (.iinc 2 1, 3) := by decide +kernel
theorem dX5_hands_178 : decode cX5_hands 178 = .ok (.goto (-32), 3) := by decide +kernel
theorem dX5_hands_181 : decode cX5_hands 181 = .ok (.iload_n 1, 1) := by decide +kernel
theorem dX5_hands_182 : decode cX5_hands 182 = .ok (.ireturn, 1) := by decide +kernel
theorem dX5_agree_0 : decode cX5_agree 0 = .ok (.iconst 0, 1) := by decide +kernel
theorem dX5_agree_1 : decode cX5_agree 1 = .ok (.istore 4, 2) := by decide +kernel
theorem dX5_agree_3 : decode cX5_agree 3 = .ok (.iconst 0, 1) := by decide +kernel
theorem dX5_agree_4 : decode cX5_agree 4 = .ok (.istore 5, 2) := by decide +kernel
theorem dX5_agree_6 : decode cX5_agree 6 = .ok (.iload 5, 2) := by decide +kernel
theorem dX5_agree_8 : decode cX5_agree 8 = .ok (.aload_n 0, 1) := by decide +kernel
theorem dX5_agree_9 : decode cX5_agree 9 = .ok (.getfield 107, 3) := by decide +kernel
theorem dX5_agree_12 : decode cX5_agree 12 = .ok (.if_icmp .ge 61, 3) := by decide +kernel
theorem dX5_agree_15 : decode cX5_agree 15 = .ok (.iload 4, 2) := by decide +kernel
theorem dX5_agree_17 : decode cX5_agree 17 = .ok (.aload_n 0, 1) := by decide +kernel
theorem dX5_agree_18 : decode cX5_agree 18 = .ok (.getfield 41, 3) := by decide +kernel
theorem dX5_agree_21 : decode cX5_agree 21 = .ok (.iload 5, 2) := by decide +kernel
theorem dX5_agree_23 : decode cX5_agree 23 = .ok (.iaload, 1) := by decide +kernel
theorem dX5_agree_24 : decode cX5_agree 24 = .ok (.iload_n 1, 1) := by decide +kernel
theorem dX5_agree_25 : decode cX5_agree 25 = .ok (.if_icmp .ne 38, 3) := by decide +kernel
theorem dX5_agree_28 : decode cX5_agree 28 = .ok (.aload_n 0, 1) := by decide +kernel
theorem dX5_agree_29 : decode cX5_agree 29 = .ok (.getfield 44, 3) := by decide +kernel
theorem dX5_agree_32 : decode cX5_agree 32 = .ok (.iload 5, 2) := by decide +kernel
theorem dX5_agree_34 : decode cX5_agree 34 = .ok (.iaload, 1) := by decide +kernel
theorem dX5_agree_35 : decode cX5_agree 35 = .ok (.iconst 1, 1) := by decide +kernel
theorem dX5_agree_36 : decode cX5_agree 36 = .ok (.if_icmp .ne 27, 3) := by decide +kernel
theorem dX5_agree_39 : decode cX5_agree 39 = .ok (.aload_n 0, 1) := by decide +kernel
theorem dX5_agree_40 : decode cX5_agree 40 = .ok (.getfield 47, 3) := by decide +kernel
theorem dX5_agree_43 : decode cX5_agree 43 = .ok (.iload 5, 2) := by decide +kernel
theorem dX5_agree_45 : decode cX5_agree 45 = .ok (.iaload, 1) := by decide +kernel
theorem dX5_agree_46 : decode cX5_agree 46 = .ok (.iload_n 2, 1) := by decide +kernel
theorem dX5_agree_47 : decode cX5_agree 47 = .ok (.isub, 1) := by decide +kernel
theorem dX5_agree_48 : decode cX5_agree 48 = .ok (.iload_n 3, 1) := by decide +kernel
theorem dX5_agree_49 : decode cX5_agree 49 = .ok (.isub, 1) := by decide +kernel
theorem dX5_agree_50 : decode cX5_agree 50 = .ok (.bipush (-5), 2) := by decide +kernel
theorem dX5_agree_52 : decode cX5_agree 52 = .ok (.iconst 5, 1) := by decide +kernel
theorem dX5_agree_53 : decode cX5_agree 53 = .ok (.invokestatic 68, 3) := by decide +kernel
theorem dX5_agree_56 : decode cX5_agree 56 = .ok (.ifCond .eq 7, 3) := by decide +kernel
theorem dX5_agree_59 : decode cX5_agree 59 = .ok (.iconst 1, 1) := by decide +kernel
theorem dX5_agree_60 : decode cX5_agree 60 = .ok (.goto 4, 3) := by decide +kernel
theorem dX5_agree_63 : decode cX5_agree 63 = .ok (.iconst 0, 1) := by decide +kernel
theorem dX5_agree_64 : decode cX5_agree 64 = .ok (.iadd, 1) := by decide +kernel
theorem dX5_agree_65 : decode cX5_agree 65 = .ok (.istore 4, 2) := by decide +kernel
theorem dX5_agree_67 : decode cX5_agree 67 = .ok (.iinc 5 1, 3) := by decide +kernel
theorem dX5_agree_70 : decode cX5_agree 70 = .ok (.goto (-64), 3) := by decide +kernel
theorem dX5_agree_73 : decode cX5_agree 73 = .ok (.iload 4, 2) := by decide +kernel
theorem dX5_agree_75 : decode cX5_agree 75 = .ok (.ireturn, 1) := by decide +kernel
theorem dX5_leftOut_0 : decode cX5_leftOut 0 = .ok (.iconst 0, 1) := by decide +kernel
theorem dX5_leftOut_1 : decode cX5_leftOut 1 = .ok (.istore_n 2, 1) := by decide +kernel
theorem dX5_leftOut_2 : decode cX5_leftOut 2 = .ok (.iconst 0, 1) := by decide +kernel
theorem dX5_leftOut_3 : decode cX5_leftOut 3 = .ok (.istore_n 3, 1) := by decide +kernel
theorem dX5_leftOut_4 : decode cX5_leftOut 4 = .ok (.iload_n 3, 1) := by decide +kernel
theorem dX5_leftOut_5 : decode cX5_leftOut 5 = .ok (.bipush 16, 2) := by decide +kernel
theorem dX5_leftOut_7 : decode cX5_leftOut 7 = .ok (.if_icmp .ge 144, 3) := by decide +kernel
theorem dX5_leftOut_10 : decode cX5_leftOut 10 = .ok (.iconst 0, 1) := by decide +kernel
theorem dX5_leftOut_11 : decode cX5_leftOut 11 = .ok (.istore 4, 2) := by decide +kernel
theorem dX5_leftOut_13 : decode cX5_leftOut 13 = .ok (.iconst 0, 1) := by decide +kernel
theorem dX5_leftOut_14 : decode cX5_leftOut 14 = .ok (.istore 5, 2) := by decide +kernel
theorem dX5_leftOut_16 : decode cX5_leftOut 16 = .ok (.iconst 0, 1) := by decide +kernel
theorem dX5_leftOut_17 : decode cX5_leftOut 17 = .ok (.istore 6, 2) := by decide +kernel
theorem dX5_leftOut_19 : decode cX5_leftOut 19 = .ok (.iload 6, 2) := by decide +kernel
theorem dX5_leftOut_21 : decode cX5_leftOut 21 = .ok (.aload_n 0, 1) := by decide +kernel
theorem dX5_leftOut_22 : decode cX5_leftOut 22 = .ok (.getfield 107, 3) := by decide +kernel
theorem dX5_leftOut_25 : decode cX5_leftOut 25 = .ok (.if_icmp .ge 112, 3) := by decide +kernel
theorem dX5_leftOut_28 : decode cX5_leftOut 28 = .ok (.aload_n 0, 1) := by decide +kernel
theorem dX5_leftOut_29 : decode cX5_leftOut 29 = .ok (.getfield 41, 3) := by decide +kernel
theorem dX5_leftOut_32 : decode cX5_leftOut 32 = .ok (.iload 6, 2) := by decide +kernel
theorem dX5_leftOut_34 : decode cX5_leftOut 34 = .ok (.iaload, 1) := by decide +kernel
theorem dX5_leftOut_35 : decode cX5_leftOut 35 = .ok (.iload_n 3, 1) := by decide +kernel
theorem dX5_leftOut_36 : decode cX5_leftOut 36 = .ok (.if_icmp .ne 95, 3) := by decide +kernel
theorem dX5_leftOut_39 : decode cX5_leftOut 39 = .ok (.aload_n 0, 1) := by decide +kernel
theorem dX5_leftOut_40 : decode cX5_leftOut 40 = .ok (.getfield 44, 3) := by decide +kernel
theorem dX5_leftOut_43 : decode cX5_leftOut 43 = .ok (.iload 6, 2) := by decide +kernel
theorem dX5_leftOut_45 : decode cX5_leftOut 45 = .ok (.iaload, 1) := by decide +kernel
theorem dX5_leftOut_46 : decode cX5_leftOut 46 = .ok (.iconst 1, 1) := by decide +kernel
theorem dX5_leftOut_47 : decode cX5_leftOut 47 = .ok (.if_icmp .ne 84, 3) := by decide +kernel
theorem dX5_leftOut_50 : decode cX5_leftOut 50 = .ok (.iinc 5 1, 3) := by decide +kernel
theorem dX5_leftOut_53 : decode cX5_leftOut 53 = .ok (.aload_n 0, 1) := by decide +kernel
theorem dX5_leftOut_54 : decode cX5_leftOut 54 = .ok (.getfield 47, 3) := by decide +kernel
theorem dX5_leftOut_57 : decode cX5_leftOut 57 = .ok (.iload 6, 2) := by decide +kernel
theorem dX5_leftOut_59 : decode cX5_leftOut 59 = .ok (.iaload, 1) := by decide +kernel
theorem dX5_leftOut_60 : decode cX5_leftOut 60 = .ok (.iload_n 1, 1) := by decide +kernel
theorem dX5_leftOut_61 : decode cX5_leftOut 61 = .ok (.isub, 1) := by decide +kernel
theorem dX5_leftOut_62 : decode cX5_leftOut 62 = .ok (.iconst 5, 1) := by decide +kernel
theorem dX5_leftOut_63 : decode cX5_leftOut 63 = .ok (.iadd, 1) := by decide +kernel
theorem dX5_leftOut_64 : decode cX5_leftOut 64 = .ok (.istore 7, 2) := by decide +kernel
theorem dX5_leftOut_66 : decode cX5_leftOut 66 = .ok (.iload 7, 2) := by decide +kernel
theorem dX5_leftOut_68 : decode cX5_leftOut 68 = .ok (.aload_n 0, 1) := by decide +kernel
theorem dX5_leftOut_69 : decode cX5_leftOut 69 = .ok (.getfield 53, 3) := by decide +kernel
theorem dX5_leftOut_72 : decode cX5_leftOut 72 = .ok (.iload_n 3, 1) := by decide +kernel
theorem dX5_leftOut_73 : decode cX5_leftOut 73 = .ok (.iaload, 1) := by decide +kernel
theorem dX5_leftOut_74 : decode cX5_leftOut 74 = .ok (.if_icmp .le 12, 3) := by decide +kernel
theorem dX5_leftOut_77 : decode cX5_leftOut 77 = .ok (.aload_n 0, 1) := by decide +kernel
theorem dX5_leftOut_78 : decode cX5_leftOut 78 = .ok (.getfield 53, 3) := by decide +kernel
theorem dX5_leftOut_81 : decode cX5_leftOut 81 = .ok (.iload_n 3, 1) := by decide +kernel
theorem dX5_leftOut_82 : decode cX5_leftOut 82 = .ok (.iaload, 1) := by decide +kernel
theorem dX5_leftOut_83 : decode cX5_leftOut 83 = .ok (.goto 5, 3) := by decide +kernel
theorem dX5_leftOut_86 : decode cX5_leftOut 86 = .ok (.iload 7, 2) := by decide +kernel
theorem dX5_leftOut_88 : decode cX5_leftOut 88 = .ok (.istore 7, 2) := by decide +kernel
theorem dX5_leftOut_90 : decode cX5_leftOut 90 = .ok (.iload 7, 2) := by decide +kernel
theorem dX5_leftOut_92 : decode cX5_leftOut 92 = .ok (.aload_n 0, 1) := by decide +kernel
theorem dX5_leftOut_93 : decode cX5_leftOut 93 = .ok (.getfield 50, 3) := by decide +kernel
theorem dX5_leftOut_96 : decode cX5_leftOut 96 = .ok (.iload_n 3, 1) := by decide +kernel
theorem dX5_leftOut_97 : decode cX5_leftOut 97 = .ok (.iaload, 1) := by decide +kernel
theorem dX5_leftOut_98 : decode cX5_leftOut 98 = .ok (.if_icmp .ge 7, 3) := by decide +kernel
theorem dX5_leftOut_101 : decode cX5_leftOut 101 = .ok (.iconst 0, 1) := by decide +kernel
theorem dX5_leftOut_102 : decode cX5_leftOut 102 = .ok (.goto 11, 3) := by decide +kernel
theorem dX5_leftOut_105 : decode cX5_leftOut 105 = .ok (.aload_n 0, 1) := by decide +kernel
theorem dX5_leftOut_106 : decode cX5_leftOut 106 = .ok (.iload_n 3, 1) := by decide +kernel
theorem dX5_leftOut_107 : decode cX5_leftOut 107 = .ok (.iload_n 1, 1) := by decide +kernel
theorem dX5_leftOut_108 : decode cX5_leftOut 108 = .ok (.iload 7, 2) := by decide +kernel
theorem dX5_leftOut_110 : decode cX5_leftOut 110 = .ok (.invokevirtual 112, 3) := by decide +kernel
theorem dX5_leftOut_113 : decode cX5_leftOut 113 = .ok (.istore 8, 2) := by decide +kernel
theorem dX5_leftOut_115 : decode cX5_leftOut 115 = .ok (.iload 8, 2) := by decide +kernel
theorem dX5_leftOut_117 : decode cX5_leftOut 117 = .ok (.iload 4, 2) := by decide +kernel
theorem dX5_leftOut_119 : decode cX5_leftOut 119 = .ok (.if_icmp .le 8, 3) := by decide +kernel
theorem dX5_leftOut_122 : decode cX5_leftOut 122 = .ok (.iload 8, 2) := by decide +kernel
theorem dX5_leftOut_124 : decode cX5_leftOut 124 = .ok (.goto 5, 3) := by decide +kernel
theorem dX5_leftOut_127 : decode cX5_leftOut 127 = .ok (.iload 4, 2) := by decide +kernel
theorem dX5_leftOut_129 : decode cX5_leftOut 129 = .ok (.istore 4, 2) := by decide +kernel
theorem dX5_leftOut_131 : decode cX5_leftOut 131 = .ok (.iinc 6 1, 3) := by decide +kernel
theorem dX5_leftOut_134 : decode cX5_leftOut 134 = .ok (.goto (-115), 3) := by decide +kernel
theorem dX5_leftOut_137 : decode cX5_leftOut 137 = .ok (.iload_n 2, 1) := by decide +kernel
theorem dX5_leftOut_138 : decode cX5_leftOut 138 = .ok (.iload 5, 2) := by decide +kernel
theorem dX5_leftOut_140 : decode cX5_leftOut 140 = .ok (.iload 4, 2) := by decide +kernel
theorem dX5_leftOut_142 : decode cX5_leftOut 142 = .ok (.isub, 1) := by decide +kernel
theorem dX5_leftOut_143 : decode cX5_leftOut 143 = .ok (.iadd, 1) := by decide +kernel
theorem dX5_leftOut_144 : decode cX5_leftOut 144 = .ok (.istore_n 2, 1) := by decide +kernel
theorem dX5_leftOut_145 : decode cX5_leftOut 145 = .ok (.iinc 3 1, 3) := by decide +kernel
theorem dX5_leftOut_148 : decode cX5_leftOut 148 = .ok (.goto (-144), 3) := by decide +kernel
theorem dX5_leftOut_151 : decode cX5_leftOut 151 = .ok (.iload_n 2, 1) := by decide +kernel
theorem dX5_leftOut_152 : decode cX5_leftOut 152 = .ok (.ireturn, 1) := by decide +kernel
theorem dX5_offset_0 : decode cX5_offset 0 = .ok (.aload_n 0, 1) := by decide +kernel
theorem dX5_offset_1 : decode cX5_offset 1 = .ok (.iconst 0, 1) := by decide +kernel
theorem dX5_offset_2 : decode cX5_offset 2 = .ok (.putfield 65, 3) := by decide +kernel
theorem dX5_offset_5 : decode cX5_offset 5 = .ok (.iload_n 1, 1) := by decide +kernel
theorem dX5_offset_6 : decode cX5_offset 6 = .ok (.iconst 0, 1) := by decide +kernel
theorem dX5_offset_7 : decode cX5_offset 7 = .ok (.iconst 3, 1) := by decide +kernel
theorem dX5_offset_8 : decode cX5_offset 8 = .ok (.invokestatic 68, 3) := by decide +kernel
theorem dX5_offset_11 : decode cX5_offset 11 = .ok (.ifCond .ne 6, 3) := by decide +kernel
theorem dX5_offset_14 : decode cX5_offset 14 = .ok (.ldc 116, 2) := by decide +kernel
theorem dX5_offset_16 : decode cX5_offset 16 = .ok (.ireturn, 1) := by decide +kernel
theorem dX5_offset_17 : decode cX5_offset 17 = .ok (.aload_n 0, 1) := by decide +kernel
theorem dX5_offset_18 : decode cX5_offset 18 = .ok (.invokevirtual 117, 3) := by decide +kernel
theorem dX5_offset_21 : decode cX5_offset 21 = .ok (.istore_n 2, 1) := by decide +kernel
theorem dX5_offset_22 : decode cX5_offset 22 = .ok (.ldc 121, 2) := by decide +kernel
theorem dX5_offset_24 : decode cX5_offset 24 = .ok (.istore_n 3, 1) := by decide +kernel
theorem dX5_offset_25 : decode cX5_offset 25 = .ok (.ldc 121, 2) := by decide +kernel
theorem dX5_offset_27 : decode cX5_offset 27 = .ok (.istore 4, 2) := by decide +kernel
theorem dX5_offset_29 : decode cX5_offset 29 = .ok (.iconst 0, 1) := by decide +kernel
theorem dX5_offset_30 : decode cX5_offset 30 = .ok (.istore 5, 2) := by decide +kernel
theorem dX5_offset_32 : decode cX5_offset 32 = .ok (.bipush (-9), 2) := by decide +kernel
theorem dX5_offset_34 : decode cX5_offset 34 = .ok (.istore 6, 2) := by decide +kernel
theorem dX5_offset_36 : decode cX5_offset 36 = .ok (.sipush (-200), 3) := by decide +kernel
theorem dX5_offset_39 : decode cX5_offset 39 = .ok (.istore 7, 2) := by decide +kernel
theorem dX5_offset_41 : decode cX5_offset 41 = .ok (.iload 7, 2) := by decide +kernel
theorem dX5_offset_43 : decode cX5_offset 43 = .ok (.sipush 200, 3) := by decide +kernel
theorem dX5_offset_46 : decode cX5_offset 46 = .ok (.if_icmp .gt 69, 3) := by decide +kernel
theorem dX5_offset_49 : decode cX5_offset 49 = .ok (.iload_n 2, 1) := by decide +kernel
theorem dX5_offset_50 : decode cX5_offset 50 = .ok (.ifCond .eq 65, 3) := by decide +kernel
theorem dX5_offset_53 : decode cX5_offset 53 = .ok (.aload_n 0, 1) := by decide +kernel
theorem dX5_offset_54 : decode cX5_offset 54 = .ok (.iload 7, 2) := by decide +kernel
theorem dX5_offset_56 : decode cX5_offset 56 = .ok (.invokevirtual 122, 3) := by decide +kernel
theorem dX5_offset_59 : decode cX5_offset 59 = .ok (.istore 8, 2) := by decide +kernel
theorem dX5_offset_61 : decode cX5_offset 61 = .ok (.iload 8, 2) := by decide +kernel
theorem dX5_offset_63 : decode cX5_offset 63 = .ok (.ifCond .ne 23, 3) := by decide +kernel
theorem dX5_offset_66 : decode cX5_offset 66 = .ok (.iload_n 3, 1) := by decide +kernel
theorem dX5_offset_67 : decode cX5_offset 67 = .ok (.ldc 121, 2) := by decide +kernel
theorem dX5_offset_69 : decode cX5_offset 69 = .ok (.if_icmp .ne 8, 3) := by decide +kernel
theorem dX5_offset_72 : decode cX5_offset 72 = .ok (.iload 7, 2) := by decide +kernel
theorem dX5_offset_74 : decode cX5_offset 74 = .ok (.goto 4, 3) := by decide +kernel
theorem dX5_offset_77 : decode cX5_offset 77 = .ok (.iload_n 3, 1) := by decide +kernel
theorem dX5_offset_78 : decode cX5_offset 78 = .ok (.istore_n 3, 1) := by decide +kernel
theorem dX5_offset_79 : decode cX5_offset 79 = .ok (.iload 7, 2) := by decide +kernel
theorem dX5_offset_81 : decode cX5_offset 81 = .ok (.istore 4, 2) := by decide +kernel
theorem dX5_offset_83 : decode cX5_offset 83 = .ok (.iinc 5 1, 3) := by decide +kernel
theorem dX5_offset_86 : decode cX5_offset 86 = .ok (.iload 6, 2) := by decide +kernel
theorem dX5_offset_88 : decode cX5_offset 88 = .ok (.bipush (-9), 2) := by decide +kernel
theorem dX5_offset_90 : decode cX5_offset 90 = .ok (.if_icmp .eq 10, 3) := by decide +kernel
theorem dX5_offset_93 : decode cX5_offset 93 = .ok (.iload 8, 2) := by decide +kernel
theorem dX5_offset_95 : decode cX5_offset 95 = .ok (.iload 6, 2) := by decide +kernel
theorem dX5_offset_97 : decode cX5_offset 97 = .ok (.if_icmp .ge 8, 3) := by decide +kernel
theorem dX5_offset_100 : decode cX5_offset 100 = .ok (.iload 8, 2) := by decide +kernel
theorem dX5_offset_102 : decode cX5_offset 102 = .ok (.goto 5, 3) := by decide +kernel
theorem dX5_offset_105 : decode cX5_offset 105 = .ok (.iload 6, 2) := by decide +kernel
theorem dX5_offset_107 : decode cX5_offset 107 = .ok (.istore 6, 2) := by decide +kernel
theorem dX5_offset_109 : decode cX5_offset 109 = .ok (.iinc 7 1, 3) := by decide +kernel
theorem dX5_offset_112 : decode cX5_offset 112 = .ok (.goto (-71), 3) := by decide +kernel
theorem dX5_offset_115 : decode cX5_offset 115 = .ok (.iload_n 1, 1) := by decide +kernel
theorem dX5_offset_116 : decode cX5_offset 116 = .ok (.ifCond .ne 7, 3) := by decide +kernel
theorem dX5_offset_119 : decode cX5_offset 119 = .ok (.iload_n 3, 1) := by decide +kernel
theorem dX5_offset_120 : decode cX5_offset 120 = .ok (.goto 25, 3) := by decide +kernel
theorem dX5_offset_123 : decode cX5_offset 123 = .ok (.iload_n 1, 1) := by decide +kernel
theorem dX5_offset_124 : decode cX5_offset 124 = .ok (.iconst 1, 1) := by decide +kernel
theorem dX5_offset_125 : decode cX5_offset 125 = .ok (.if_icmp .ne 8, 3) := by decide +kernel
theorem dX5_offset_128 : decode cX5_offset 128 = .ok (.iload 4, 2) := by decide +kernel
theorem dX5_offset_130 : decode cX5_offset 130 = .ok (.goto 15, 3) := by decide +kernel
theorem dX5_offset_133 : decode cX5_offset 133 = .ok (.iload_n 1, 1) := by decide +kernel
theorem dX5_offset_134 : decode cX5_offset 134 = .ok (.iconst 2, 1) := by decide +kernel
theorem dX5_offset_135 : decode cX5_offset 135 = .ok (.if_icmp .ne 8, 3) := by decide +kernel
theorem dX5_offset_138 : decode cX5_offset 138 = .ok (.iload 5, 2) := by decide +kernel
theorem dX5_offset_140 : decode cX5_offset 140 = .ok (.goto 5, 3) := by decide +kernel
theorem dX5_offset_143 : decode cX5_offset 143 = .ok (.iload 6, 2) := by decide +kernel
theorem dX5_offset_145 : decode cX5_offset 145 = .ok (.ireturn, 1) := by decide +kernel
theorem dX5_isFlat_0 : decode cX5_isFlat 0 = .ok (.iconst 0, 1) := by decide +kernel
theorem dX5_isFlat_1 : decode cX5_isFlat 1 = .ok (.istore_n 2, 1) := by decide +kernel
theorem dX5_isFlat_2 : decode cX5_isFlat 2 = .ok (.iconst 0, 1) := by decide +kernel
theorem dX5_isFlat_3 : decode cX5_isFlat 3 = .ok (.istore_n 3, 1) := by decide +kernel
theorem dX5_isFlat_4 : decode cX5_isFlat 4 = .ok (.iload_n 3, 1) := by decide +kernel
theorem dX5_isFlat_5 : decode cX5_isFlat 5 = .ok (.iconst 5, 1) := by decide +kernel
theorem dX5_isFlat_6 : decode cX5_isFlat 6 = .ok (.if_icmp .ge 44, 3) := by decide +kernel
theorem dX5_isFlat_9 : decode cX5_isFlat 9 = .ok (.iload_n 3, 1) := by decide +kernel
theorem dX5_isFlat_10 : decode cX5_isFlat 10 = .ok (.aload_n 0, 1) := by decide +kernel
theorem dX5_isFlat_11 : decode cX5_isFlat 11 = .ok (.getfield 56, 3) := by decide +kernel
theorem dX5_isFlat_14 : decode cX5_isFlat 14 = .ok (.iload_n 1, 1) := by decide +kernel
theorem dX5_isFlat_15 : decode cX5_isFlat 15 = .ok (.iaload, 1) := by decide +kernel
theorem dX5_isFlat_16 : decode cX5_isFlat 16 = .ok (.if_icmp .ge 34, 3) := by decide +kernel
theorem dX5_isFlat_19 : decode cX5_isFlat 19 = .ok (.iload_n 2, 1) := by decide +kernel
theorem dX5_isFlat_20 : decode cX5_isFlat 20 = .ok (.aload_n 0, 1) := by decide +kernel
theorem dX5_isFlat_21 : decode cX5_isFlat 21 = .ok (.getfield 59, 3) := by decide +kernel
theorem dX5_isFlat_24 : decode cX5_isFlat 24 = .ok (.iconst 5, 1) := by decide +kernel
theorem dX5_isFlat_25 : decode cX5_isFlat 25 = .ok (.iload_n 1, 1) := by decide +kernel
theorem dX5_isFlat_26 : decode cX5_isFlat 26 = .ok (.imul, 1) := by decide +kernel
theorem dX5_isFlat_27 : decode cX5_isFlat 27 = .ok (.iload_n 3, 1) := by decide +kernel
theorem dX5_isFlat_28 : decode cX5_isFlat 28 = .ok (.iadd, 1) := by decide +kernel
theorem dX5_isFlat_29 : decode cX5_isFlat 29 = .ok (.iaload, 1) := by decide +kernel
theorem dX5_isFlat_30 : decode cX5_isFlat 30 = .ok (.aload_n 0, 1) := by decide +kernel
theorem dX5_isFlat_31 : decode cX5_isFlat 31 = .ok (.getfield 62, 3) := by decide +kernel
theorem dX5_isFlat_34 : decode cX5_isFlat 34 = .ok (.if_icmp .lt 7, 3) := by decide +kernel
theorem dX5_isFlat_37 : decode cX5_isFlat 37 = .ok (.iconst 1, 1) := by decide +kernel
theorem dX5_isFlat_38 : decode cX5_isFlat 38 = .ok (.goto 4, 3) := by decide +kernel
theorem dX5_isFlat_41 : decode cX5_isFlat 41 = .ok (.iconst 0, 1) := by decide +kernel
theorem dX5_isFlat_42 : decode cX5_isFlat 42 = .ok (.iadd, 1) := by decide +kernel
theorem dX5_isFlat_43 : decode cX5_isFlat 43 = .ok (.istore_n 2, 1) := by decide +kernel
theorem dX5_isFlat_44 : decode cX5_isFlat 44 = .ok (.iinc 3 1, 3) := by decide +kernel
theorem dX5_isFlat_47 : decode cX5_isFlat 47 = .ok (.goto (-43), 3) := by decide +kernel
theorem dX5_isFlat_50 : decode cX5_isFlat 50 = .ok (.iload_n 2, 1) := by decide +kernel
theorem dX5_isFlat_51 : decode cX5_isFlat 51 = .ok (.iconst 3, 1) := by decide +kernel
theorem dX5_isFlat_52 : decode cX5_isFlat 52 = .ok (.if_icmp .lt 7, 3) := by decide +kernel
theorem dX5_isFlat_55 : decode cX5_isFlat 55 = .ok (.iconst 1, 1) := by decide +kernel
theorem dX5_isFlat_56 : decode cX5_isFlat 56 = .ok (.goto 4, 3) := by decide +kernel
theorem dX5_isFlat_59 : decode cX5_isFlat 59 = .ok (.iconst 0, 1) := by decide +kernel
theorem dX5_isFlat_60 : decode cX5_isFlat 60 = .ok (.ireturn, 1) := by decide +kernel
theorem dX5_pass_0 : decode cX5_pass 0 = .ok (.aload_n 0, 1) := by decide +kernel
theorem dX5_pass_1 : decode cX5_pass 1 = .ok (.iconst 0, 1) := by decide +kernel
theorem dX5_pass_2 : decode cX5_pass 2 = .ok (.putfield 65, 3) := by decide +kernel
theorem dX5_pass_5 : decode cX5_pass 5 = .ok (.iload_n 1, 1) := by decide +kernel
theorem dX5_pass_6 : decode cX5_pass 6 = .ok (.invokestatic 72, 3) := by decide +kernel
theorem dX5_pass_9 : decode cX5_pass 9 = .ok (.ifCond .eq 14, 3) := by decide +kernel
theorem dX5_pass_12 : decode cX5_pass 12 = .ok (.iload_n 2, 1) := by decide +kernel
theorem dX5_pass_13 : decode cX5_pass 13 = .ok (.iconst 0, 1) := by decide +kernel
theorem dX5_pass_14 : decode cX5_pass 14 = .ok (.sipush 999, 3) := by decide +kernel
theorem dX5_pass_17 : decode cX5_pass 17 = .ok (.invokestatic 68, 3) := by decide +kernel
theorem dX5_pass_20 : decode cX5_pass 20 = .ok (.ifCond .ne 5, 3) := by decide +kernel
theorem dX5_pass_23 : decode cX5_pass 23 = .ok (.iconst (-1), 1) := by decide +kernel
theorem dX5_pass_24 : decode cX5_pass 24 = .ok (.ireturn, 1) := by decide +kernel
theorem dX5_pass_25 : decode cX5_pass 25 = .ok (.aload_n 0, 1) := by decide +kernel
theorem dX5_pass_26 : decode cX5_pass 26 = .ok (.getfield 59, 3) := by decide +kernel
theorem dX5_pass_29 : decode cX5_pass 29 = .ok (.iconst 5, 1) := by decide +kernel
theorem dX5_pass_30 : decode cX5_pass 30 = .ok (.iload_n 1, 1) := by decide +kernel
theorem dX5_pass_31 : decode cX5_pass 31 = .ok (.imul, 1) := by decide +kernel
theorem dX5_pass_32 : decode cX5_pass 32 = .ok (.aload_n 0, 1) := by decide +kernel
theorem dX5_pass_33 : decode cX5_pass 33 = .ok (.getfield 56, 3) := by decide +kernel
theorem dX5_pass_36 : decode cX5_pass 36 = .ok (.iload_n 1, 1) := by decide +kernel
theorem dX5_pass_37 : decode cX5_pass 37 = .ok (.iaload, 1) := by decide +kernel
theorem dX5_pass_38 : decode cX5_pass 38 = .ok (.iconst 5, 1) := by decide +kernel
theorem dX5_pass_39 : decode cX5_pass 39 = .ok (.irem, 1) := by decide +kernel
theorem dX5_pass_40 : decode cX5_pass 40 = .ok (.iadd, 1) := by decide +kernel
theorem dX5_pass_41 : decode cX5_pass 41 = .ok (.iload_n 2, 1) := by decide +kernel
theorem dX5_pass_42 : decode cX5_pass 42 = .ok (.iastore, 1) := by decide +kernel
theorem dX5_pass_43 : decode cX5_pass 43 = .ok (.aload_n 0, 1) := by decide +kernel
theorem dX5_pass_44 : decode cX5_pass 44 = .ok (.getfield 56, 3) := by decide +kernel
theorem dX5_pass_47 : decode cX5_pass 47 = .ok (.iload_n 1, 1) := by decide +kernel
theorem dX5_pass_48 : decode cX5_pass 48 = .ok (.dup2, 1) := by decide +kernel
theorem dX5_pass_49 : decode cX5_pass 49 = .ok (.iaload, 1) := by decide +kernel
theorem dX5_pass_50 : decode cX5_pass 50 = .ok (.iconst 1, 1) := by decide +kernel
theorem dX5_pass_51 : decode cX5_pass 51 = .ok (.iadd, 1) := by decide +kernel
theorem dX5_pass_52 : decode cX5_pass 52 = .ok (.iastore, 1) := by decide +kernel
theorem dX5_pass_53 : decode cX5_pass 53 = .ok (.aload_n 0, 1) := by decide +kernel
theorem dX5_pass_54 : decode cX5_pass 54 = .ok (.iload_n 1, 1) := by decide +kernel
theorem dX5_pass_55 : decode cX5_pass 55 = .ok (.invokevirtual 125, 3) := by decide +kernel
theorem dX5_pass_58 : decode cX5_pass 58 = .ok (.ifCond .eq 7, 3) := by decide +kernel
theorem dX5_pass_61 : decode cX5_pass 61 = .ok (.iconst 1, 1) := by decide +kernel
theorem dX5_pass_62 : decode cX5_pass 62 = .ok (.goto 4, 3) := by decide +kernel
theorem dX5_pass_65 : decode cX5_pass 65 = .ok (.iconst 0, 1) := by decide +kernel
theorem dX5_pass_66 : decode cX5_pass 66 = .ok (.ireturn, 1) := by decide +kernel
theorem dX5_bar_0 : decode cX5_bar 0 = .ok (.aload_n 0, 1) := by decide +kernel
theorem dX5_bar_1 : decode cX5_bar 1 = .ok (.iconst 0, 1) := by decide +kernel
theorem dX5_bar_2 : decode cX5_bar 2 = .ok (.putfield 65, 3) := by decide +kernel
theorem dX5_bar_5 : decode cX5_bar 5 = .ok (.iload_n 1, 1) := by decide +kernel
theorem dX5_bar_6 : decode cX5_bar 6 = .ok (.iconst 0, 1) := by decide +kernel
theorem dX5_bar_7 : decode cX5_bar 7 = .ok (.sipush 999, 3) := by decide +kernel
theorem dX5_bar_10 : decode cX5_bar 10 = .ok (.invokestatic 68, 3) := by decide +kernel
theorem dX5_bar_13 : decode cX5_bar 13 = .ok (.ifCond .ne 5, 3) := by decide +kernel
theorem dX5_bar_16 : decode cX5_bar 16 = .ok (.iconst (-1), 1) := by decide +kernel
theorem dX5_bar_17 : decode cX5_bar 17 = .ok (.ireturn, 1) := by decide +kernel
theorem dX5_bar_18 : decode cX5_bar 18 = .ok (.aload_n 0, 1) := by decide +kernel
theorem dX5_bar_19 : decode cX5_bar 19 = .ok (.getfield 62, 3) := by decide +kernel
theorem dX5_bar_22 : decode cX5_bar 22 = .ok (.istore_n 2, 1) := by decide +kernel
theorem dX5_bar_23 : decode cX5_bar 23 = .ok (.aload_n 0, 1) := by decide +kernel
theorem dX5_bar_24 : decode cX5_bar 24 = .ok (.iload_n 1, 1) := by decide +kernel
theorem dX5_bar_25 : decode cX5_bar 25 = .ok (.putfield 62, 3) := by decide +kernel
theorem dX5_bar_28 : decode cX5_bar 28 = .ok (.iload_n 2, 1) := by decide +kernel
theorem dX5_bar_29 : decode cX5_bar 29 = .ok (.ireturn, 1) := by decide +kernel
theorem dX5_flat_0 : decode cX5_flat 0 = .ok (.aload_n 0, 1) := by decide +kernel
theorem dX5_flat_1 : decode cX5_flat 1 = .ok (.iconst 0, 1) := by decide +kernel
theorem dX5_flat_2 : decode cX5_flat 2 = .ok (.putfield 65, 3) := by decide +kernel
theorem dX5_flat_5 : decode cX5_flat 5 = .ok (.iload_n 1, 1) := by decide +kernel
theorem dX5_flat_6 : decode cX5_flat 6 = .ok (.invokestatic 72, 3) := by decide +kernel
theorem dX5_flat_9 : decode cX5_flat 9 = .ok (.ifCond .ne 7, 3) := by decide +kernel
theorem dX5_flat_12 : decode cX5_flat 12 = .ok (.iconst (-1), 1) := by decide +kernel
theorem dX5_flat_13 : decode cX5_flat 13 = .ok (.goto 16, 3) := by decide +kernel
theorem dX5_flat_16 : decode cX5_flat 16 = .ok (.aload_n 0, 1) := by decide +kernel
theorem dX5_flat_17 : decode cX5_flat 17 = .ok (.iload_n 1, 1) := by decide +kernel
theorem dX5_flat_18 : decode cX5_flat 18 = .ok (.invokevirtual 125, 3) := by decide +kernel
theorem dX5_flat_21 : decode cX5_flat 21 = .ok (.ifCond .eq 7, 3) := by decide +kernel
theorem dX5_flat_24 : decode cX5_flat 24 = .ok (.iconst 1, 1) := by decide +kernel
theorem dX5_flat_25 : decode cX5_flat 25 = .ok (.goto 4, 3) := by decide +kernel
theorem dX5_flat_28 : decode cX5_flat 28 = .ok (.iconst 0, 1) := by decide +kernel
theorem dX5_flat_29 : decode cX5_flat 29 = .ok (.ireturn, 1) := by decide +kernel
theorem dX5_look_0 : decode cX5_look 0 = .ok (.aload_n 0, 1) := by decide +kernel
theorem dX5_look_1 : decode cX5_look 1 = .ok (.iconst 0, 1) := by decide +kernel
theorem dX5_look_2 : decode cX5_look 2 = .ok (.putfield 65, 3) := by decide +kernel
theorem dX5_look_5 : decode cX5_look 5 = .ok (.iload_n 1, 1) := by decide +kernel
theorem dX5_look_6 : decode cX5_look 6 = .ok (.invokestatic 72, 3) := by decide +kernel
theorem dX5_look_9 : decode cX5_look 9 = .ok (.ifCond .ne 6, 3) := by decide +kernel
theorem dX5_look_12 : decode cX5_look 12 = .ok (.ldc 121, 2) := by decide +kernel
theorem dX5_look_14 : decode cX5_look 14 = .ok (.ireturn, 1) := by decide +kernel
theorem dX5_look_15 : decode cX5_look 15 = .ok (.sipush 1000, 3) := by decide +kernel
theorem dX5_look_18 : decode cX5_look 18 = .ok (.aload_n 0, 1) := by decide +kernel
theorem dX5_look_19 : decode cX5_look 19 = .ok (.getfield 19, 3) := by decide +kernel
theorem dX5_look_22 : decode cX5_look 22 = .ok (.iload_n 1, 1) := by decide +kernel
theorem dX5_look_23 : decode cX5_look 23 = .ok (.iaload, 1) := by decide +kernel
theorem dX5_look_24 : decode cX5_look 24 = .ok (.isub, 1) := by decide +kernel
theorem dX5_look_25 : decode cX5_look 25 = .ok (.istore_n 2, 1) := by decide +kernel
theorem dX5_look_26 : decode cX5_look 26 = .ok (.aload_n 0, 1) := by decide +kernel
theorem dX5_look_27 : decode cX5_look 27 = .ok (.getfield 19, 3) := by decide +kernel
theorem dX5_look_30 : decode cX5_look 30 = .ok (.iload_n 1, 1) := by decide +kernel
theorem dX5_look_31 : decode cX5_look 31 = .ok (.iconst 0, 1) := by decide +kernel
theorem dX5_look_32 : decode cX5_look 32 = .ok (.iastore, 1) := by decide +kernel
theorem dX5_look_33 : decode cX5_look 33 = .ok (.iload_n 2, 1) := by decide +kernel
theorem dX5_look_34 : decode cX5_look 34 = .ok (.ireturn, 1) := by decide +kernel
theorem dX5_due_0 : decode cX5_due 0 = .ok (.aload_n 0, 1) := by decide +kernel
theorem dX5_due_1 : decode cX5_due 1 = .ok (.iconst 0, 1) := by decide +kernel
theorem dX5_due_2 : decode cX5_due 2 = .ok (.putfield 65, 3) := by decide +kernel
theorem dX5_due_5 : decode cX5_due 5 = .ok (.iload_n 1, 1) := by decide +kernel
theorem dX5_due_6 : decode cX5_due 6 = .ok (.invokestatic 72, 3) := by decide +kernel
theorem dX5_due_9 : decode cX5_due 9 = .ok (.ifCond .eq 16, 3) := by decide +kernel
theorem dX5_due_12 : decode cX5_due 12 = .ok (.sipush 1000, 3) := by decide +kernel
theorem dX5_due_15 : decode cX5_due 15 = .ok (.aload_n 0, 1) := by decide +kernel
theorem dX5_due_16 : decode cX5_due 16 = .ok (.getfield 19, 3) := by decide +kernel
theorem dX5_due_19 : decode cX5_due 19 = .ok (.iload_n 1, 1) := by decide +kernel
theorem dX5_due_20 : decode cX5_due 20 = .ok (.iaload, 1) := by decide +kernel
theorem dX5_due_21 : decode cX5_due 21 = .ok (.isub, 1) := by decide +kernel
theorem dX5_due_22 : decode cX5_due 22 = .ok (.goto 5, 3) := by decide +kernel
theorem dX5_due_25 : decode cX5_due 25 = .ok (.ldc 121, 2) := by decide +kernel
theorem dX5_due_27 : decode cX5_due 27 = .ok (.ireturn, 1) := by decide +kernel
theorem dX5_count_0 : decode cX5_count 0 = .ok (.aload_n 0, 1) := by decide +kernel
theorem dX5_count_1 : decode cX5_count 1 = .ok (.iconst 0, 1) := by decide +kernel
theorem dX5_count_2 : decode cX5_count 2 = .ok (.putfield 65, 3) := by decide +kernel
theorem dX5_count_5 : decode cX5_count 5 = .ok (.iconst 0, 1) := by decide +kernel
theorem dX5_count_6 : decode cX5_count 6 = .ok (.istore_n 2, 1) := by decide +kernel
theorem dX5_count_7 : decode cX5_count 7 = .ok (.iconst 0, 1) := by decide +kernel
theorem dX5_count_8 : decode cX5_count 8 = .ok (.istore_n 3, 1) := by decide +kernel
theorem dX5_count_9 : decode cX5_count 9 = .ok (.iload_n 3, 1) := by decide +kernel
theorem dX5_count_10 : decode cX5_count 10 = .ok (.bipush 16, 2) := by decide +kernel
theorem dX5_count_12 : decode cX5_count 12 = .ok (.if_icmp .ge 25, 3) := by decide +kernel
theorem dX5_count_15 : decode cX5_count 15 = .ok (.iload_n 2, 1) := by decide +kernel
theorem dX5_count_16 : decode cX5_count 16 = .ok (.aload_n 0, 1) := by decide +kernel
theorem dX5_count_17 : decode cX5_count 17 = .ok (.iload_n 3, 1) := by decide +kernel
theorem dX5_count_18 : decode cX5_count 18 = .ok (.invokevirtual 125, 3) := by decide +kernel
theorem dX5_count_21 : decode cX5_count 21 = .ok (.ifCond .eq 7, 3) := by decide +kernel
theorem dX5_count_24 : decode cX5_count 24 = .ok (.iconst 1, 1) := by decide +kernel
theorem dX5_count_25 : decode cX5_count 25 = .ok (.goto 4, 3) := by decide +kernel
theorem dX5_count_28 : decode cX5_count 28 = .ok (.iconst 0, 1) := by decide +kernel
theorem dX5_count_29 : decode cX5_count 29 = .ok (.iadd, 1) := by decide +kernel
theorem dX5_count_30 : decode cX5_count 30 = .ok (.istore_n 2, 1) := by decide +kernel
theorem dX5_count_31 : decode cX5_count 31 = .ok (.iinc 3 1, 3) := by decide +kernel
theorem dX5_count_34 : decode cX5_count 34 = .ok (.goto (-25), 3) := by decide +kernel
theorem dX5_count_37 : decode cX5_count 37 = .ok (.iload_n 1, 1) := by decide +kernel
theorem dX5_count_38 : decode cX5_count 38 = .ok (.tableswitch 65 0 5 #[38, 43, 48, 50, 55, 60], 38) := by decide +kernel
theorem dX5_count_76 : decode cX5_count 76 = .ok (.aload_n 0, 1) := by decide +kernel
theorem dX5_count_77 : decode cX5_count 77 = .ok (.getfield 104, 3) := by decide +kernel
theorem dX5_count_80 : decode cX5_count 80 = .ok (.ireturn, 1) := by decide +kernel
theorem dX5_count_81 : decode cX5_count 81 = .ok (.aload_n 0, 1) := by decide +kernel
theorem dX5_count_82 : decode cX5_count 82 = .ok (.getfield 107, 3) := by decide +kernel
theorem dX5_count_85 : decode cX5_count 85 = .ok (.ireturn, 1) := by decide +kernel
theorem dX5_count_86 : decode cX5_count 86 = .ok (.iload_n 2, 1) := by decide +kernel
theorem dX5_count_87 : decode cX5_count 87 = .ok (.ireturn, 1) := by decide +kernel
theorem dX5_count_88 : decode cX5_count 88 = .ok (.aload_n 0, 1) := by decide +kernel
theorem dX5_count_89 : decode cX5_count 89 = .ok (.getfield 22, 3) := by decide +kernel
theorem dX5_count_92 : decode cX5_count 92 = .ok (.ireturn, 1) := by decide +kernel
theorem dX5_count_93 : decode cX5_count 93 = .ok (.aload_n 0, 1) := by decide +kernel
theorem dX5_count_94 : decode cX5_count 94 = .ok (.getfield 62, 3) := by decide +kernel
theorem dX5_count_97 : decode cX5_count 97 = .ok (.ireturn, 1) := by decide +kernel
theorem dX5_count_98 : decode cX5_count 98 = .ok (.aload_n 0, 1) := by decide +kernel
theorem dX5_count_99 : decode cX5_count 99 = .ok (.getfield 95, 3) := by decide +kernel
theorem dX5_count_102 : decode cX5_count 102 = .ok (.ireturn, 1) := by decide +kernel
theorem dX5_count_103 : decode cX5_count 103 = .ok (.iconst (-1), 1) := by decide +kernel
theorem dX5_count_104 : decode cX5_count 104 = .ok (.ireturn, 1) := by decide +kernel
theorem dX5_trace_0 : decode cX5_trace 0 = .ok (.aload_n 0, 1) := by decide +kernel
theorem dX5_trace_1 : decode cX5_trace 1 = .ok (.iconst 0, 1) := by decide +kernel
theorem dX5_trace_2 : decode cX5_trace 2 = .ok (.putfield 65, 3) := by decide +kernel
theorem dX5_trace_5 : decode cX5_trace 5 = .ok (.aload_n 0, 1) := by decide +kernel
theorem dX5_trace_6 : decode cX5_trace 6 = .ok (.getfield 83, 3) := by decide +kernel
theorem dX5_trace_9 : decode cX5_trace 9 = .ok (.lreturn, 1) := by decide +kernel
theorem dJ9_abs_0f7a4_0 : decode cJ9_abs_0f7a4 0 = .ok (.iload_n 0, 1) := by decide +kernel
theorem dJ9_abs_0f7a4_1 : decode cJ9_abs_0f7a4 1 = .ok (.ifCond .ge 8, 3) := by decide +kernel
theorem dJ9_abs_0f7a4_4 : decode cJ9_abs_0f7a4 4 = .ok (.iload_n 0, 1) := by decide +kernel
theorem dJ9_abs_0f7a4_5 : decode cJ9_abs_0f7a4 5 = .ok (.ineg, 1) := by decide +kernel
theorem dJ9_abs_0f7a4_6 : decode cJ9_abs_0f7a4 6 = .ok (.goto 4, 3) := by decide +kernel
theorem dJ9_abs_0f7a4_9 : decode cJ9_abs_0f7a4 9 = .ok (.iload_n 0, 1) := by decide +kernel
theorem dJ9_abs_0f7a4_10 : decode cJ9_abs_0f7a4 10 = .ok (.ireturn, 1) := by decide +kernel
theorem dJ9_max_7cf53_0 : decode cJ9_max_7cf53 0 = .ok (.iload_n 0, 1) := by decide +kernel
theorem dJ9_max_7cf53_1 : decode cJ9_max_7cf53 1 = .ok (.iload_n 1, 1) := by decide +kernel
theorem dJ9_max_7cf53_2 : decode cJ9_max_7cf53 2 = .ok (.if_icmp .lt 7, 3) := by decide +kernel
theorem dJ9_max_7cf53_5 : decode cJ9_max_7cf53 5 = .ok (.iload_n 0, 1) := by decide +kernel
theorem dJ9_max_7cf53_6 : decode cJ9_max_7cf53 6 = .ok (.goto 4, 3) := by decide +kernel
theorem dJ9_max_7cf53_9 : decode cJ9_max_7cf53 9 = .ok (.iload_n 1, 1) := by decide +kernel
theorem dJ9_max_7cf53_10 : decode cJ9_max_7cf53 10 = .ok (.ireturn, 1) := by decide +kernel
theorem dJ9_min_7cf53_0 : decode cJ9_min_7cf53 0 = .ok (.iload_n 0, 1) := by decide +kernel
theorem dJ9_min_7cf53_1 : decode cJ9_min_7cf53 1 = .ok (.iload_n 1, 1) := by decide +kernel
theorem dJ9_min_7cf53_2 : decode cJ9_min_7cf53 2 = .ok (.if_icmp .gt 7, 3) := by decide +kernel
theorem dJ9_min_7cf53_5 : decode cJ9_min_7cf53 5 = .ok (.iload_n 0, 1) := by decide +kernel
theorem dJ9_min_7cf53_6 : decode cJ9_min_7cf53 6 = .ok (.goto 4, 3) := by decide +kernel
theorem dJ9_min_7cf53_9 : decode cJ9_min_7cf53 9 = .ok (.iload_n 1, 1) := by decide +kernel
theorem dJ9_min_7cf53_10 : decode cJ9_min_7cf53 10 = .ok (.ireturn, 1) := by decide +kernel
theorem dL_law_0 : decode cL_law 0 = .ok (.new 7, 3) := by decide +kernel
theorem dL_law_3 : decode cL_law 3 = .ok (.dup, 1) := by decide +kernel
theorem dL_law_4 : decode cL_law 4 = .ok (.invokespecial 9, 3) := by decide +kernel
theorem dL_law_7 : decode cL_law 7 = .ok (.astore_n 1, 1) := by decide +kernel
theorem dL_law_8 : decode cL_law 8 = .ok (.new 10, 3) := by decide +kernel
theorem dL_law_11 : decode cL_law 11 = .ok (.dup, 1) := by decide +kernel
theorem dL_law_12 : decode cL_law 12 = .ok (.invokespecial 12, 3) := by decide +kernel
theorem dL_law_15 : decode cL_law 15 = .ok (.astore_n 2, 1) := by decide +kernel
theorem dL_law_16 : decode cL_law 16 = .ok (.iconst 0, 1) := by decide +kernel
theorem dL_law_17 : decode cL_law 17 = .ok (.istore_n 3, 1) := by decide +kernel
theorem dL_law_18 : decode cL_law 18 = .ok (.iload_n 3, 1) := by decide +kernel
theorem dL_law_19 : decode cL_law 19 = .ok (.aload_n 0, 1) := by decide +kernel
theorem dL_law_20 : decode cL_law 20 = .ok (.arraylength, 1) := by decide +kernel
theorem dL_law_21 : decode cL_law 21 = .ok (.iconst 4, 1) := by decide +kernel
theorem dL_law_22 : decode cL_law 22 = .ok (.isub, 1) := by decide +kernel
theorem dL_law_23 : decode cL_law 23 = .ok (.if_icmp .gt 784, 3) := by decide +kernel
theorem dL_law_26 : decode cL_law 26 = .ok (.aload_n 0, 1) := by decide +kernel
theorem dL_law_27 : decode cL_law 27 = .ok (.iload_n 3, 1) := by decide +kernel
theorem dL_law_28 : decode cL_law 28 = .ok (.iaload, 1) := by decide +kernel
theorem dL_law_29 : decode cL_law 29 = .ok (.bipush 31, 2) := by decide +kernel
theorem dL_law_31 : decode cL_law 31 = .ok (.iand, 1) := by decide +kernel
theorem dL_law_32 : decode cL_law 32 = .ok (.tableswitch 769 0 25 #[120, 153, 196, 229, 262, 285, 318, 351, 374, 407, 420, 443, 456, 469, 492, 505, 528, 571, 584, 607, 640, 663, 686, 709, 732, 755], 120) := by decide +kernel
theorem dL_law_152 : decode cL_law 152 = .ok (.aload_n 1, 1) := by decide +kernel
theorem dL_law_153 : decode cL_law 153 = .ok (.aload_n 0, 1) := by decide +kernel
theorem dL_law_154 : decode cL_law 154 = .ok (.iload_n 3, 1) := by decide +kernel
theorem dL_law_155 : decode cL_law 155 = .ok (.iconst 1, 1) := by decide +kernel
theorem dL_law_156 : decode cL_law 156 = .ok (.iadd, 1) := by decide +kernel
theorem dL_law_157 : decode cL_law 157 = .ok (.iaload, 1) := by decide +kernel
theorem dL_law_158 : decode cL_law 158 = .ok (.aload_n 0, 1) := by decide +kernel
theorem dL_law_159 : decode cL_law 159 = .ok (.iload_n 3, 1) := by decide +kernel
theorem dL_law_160 : decode cL_law 160 = .ok (.iconst 2, 1) := by decide +kernel
theorem dL_law_161 : decode cL_law 161 = .ok (.iadd, 1) := by decide +kernel
theorem dL_law_162 : decode cL_law 162 = .ok (.iaload, 1) := by decide +kernel
theorem dL_law_163 : decode cL_law 163 = .ok (.invokevirtual 13, 3) := by decide +kernel
theorem dL_law_166 : decode cL_law 166 = .ok (.aload_n 2, 1) := by decide +kernel
theorem dL_law_167 : decode cL_law 167 = .ok (.aload_n 0, 1) := by decide +kernel
theorem dL_law_168 : decode cL_law 168 = .ok (.iload_n 3, 1) := by decide +kernel
theorem dL_law_169 : decode cL_law 169 = .ok (.iconst 1, 1) := by decide +kernel
theorem dL_law_170 : decode cL_law 170 = .ok (.iadd, 1) := by decide +kernel
theorem dL_law_171 : decode cL_law 171 = .ok (.iaload, 1) := by decide +kernel
theorem dL_law_172 : decode cL_law 172 = .ok (.aload_n 0, 1) := by decide +kernel
theorem dL_law_173 : decode cL_law 173 = .ok (.iload_n 3, 1) := by decide +kernel
theorem dL_law_174 : decode cL_law 174 = .ok (.iconst 2, 1) := by decide +kernel
theorem dL_law_175 : decode cL_law 175 = .ok (.iadd, 1) := by decide +kernel
theorem dL_law_176 : decode cL_law 176 = .ok (.iaload, 1) := by decide +kernel
theorem dL_law_177 : decode cL_law 177 = .ok (.invokevirtual 17, 3) := by decide +kernel
theorem dL_law_180 : decode cL_law 180 = .ok (.if_icmp .eq 621, 3) := by decide +kernel
theorem dL_law_183 : decode cL_law 183 = .ok (.iconst 0, 1) := by decide +kernel
theorem dL_law_184 : decode cL_law 184 = .ok (.ireturn, 1) := by decide +kernel
theorem dL_law_185 : decode cL_law 185 = .ok (.aload_n 1, 1) := by decide +kernel
theorem dL_law_186 : decode cL_law 186 = .ok (.aload_n 0, 1) := by decide +kernel
theorem dL_law_187 : decode cL_law 187 = .ok (.iload_n 3, 1) := by decide +kernel
theorem dL_law_188 : decode cL_law 188 = .ok (.iconst 1, 1) := by decide +kernel
theorem dL_law_189 : decode cL_law 189 = .ok (.iadd, 1) := by decide +kernel
theorem dL_law_190 : decode cL_law 190 = .ok (.iaload, 1) := by decide +kernel
theorem dL_law_191 : decode cL_law 191 = .ok (.aload_n 0, 1) := by decide +kernel
theorem dL_law_192 : decode cL_law 192 = .ok (.iload_n 3, 1) := by decide +kernel
theorem dL_law_193 : decode cL_law 193 = .ok (.iconst 2, 1) := by decide +kernel
theorem dL_law_194 : decode cL_law 194 = .ok (.iadd, 1) := by decide +kernel
theorem dL_law_195 : decode cL_law 195 = .ok (.iaload, 1) := by decide +kernel
theorem dL_law_196 : decode cL_law 196 = .ok (.aload_n 0, 1) := by decide +kernel
theorem dL_law_197 : decode cL_law 197 = .ok (.iload_n 3, 1) := by decide +kernel
theorem dL_law_198 : decode cL_law 198 = .ok (.iconst 3, 1) := by decide +kernel
theorem dL_law_199 : decode cL_law 199 = .ok (.iadd, 1) := by decide +kernel
theorem dL_law_200 : decode cL_law 200 = .ok (.iaload, 1) := by decide +kernel
theorem dL_law_201 : decode cL_law 201 = .ok (.invokevirtual 18, 3) := by decide +kernel
theorem dL_law_204 : decode cL_law 204 = .ok (.aload_n 2, 1) := by decide +kernel
theorem dL_law_205 : decode cL_law 205 = .ok (.aload_n 0, 1) := by decide +kernel
theorem dL_law_206 : decode cL_law 206 = .ok (.iload_n 3, 1) := by decide +kernel
theorem dL_law_207 : decode cL_law 207 = .ok (.iconst 1, 1) := by decide +kernel
theorem dL_law_208 : decode cL_law 208 = .ok (.iadd, 1) := by decide +kernel
theorem dL_law_209 : decode cL_law 209 = .ok (.iaload, 1) := by decide +kernel
theorem dL_law_210 : decode cL_law 210 = .ok (.aload_n 0, 1) := by decide +kernel
theorem dL_law_211 : decode cL_law 211 = .ok (.iload_n 3, 1) := by decide +kernel
theorem dL_law_212 : decode cL_law 212 = .ok (.iconst 2, 1) := by decide +kernel
theorem dL_law_213 : decode cL_law 213 = .ok (.iadd, 1) := by decide +kernel
theorem dL_law_214 : decode cL_law 214 = .ok (.iaload, 1) := by decide +kernel
theorem dL_law_215 : decode cL_law 215 = .ok (.aload_n 0, 1) := by decide +kernel
theorem dL_law_216 : decode cL_law 216 = .ok (.iload_n 3, 1) := by decide +kernel
theorem dL_law_217 : decode cL_law 217 = .ok (.iconst 3, 1) := by decide +kernel
theorem dL_law_218 : decode cL_law 218 = .ok (.iadd, 1) := by decide +kernel
theorem dL_law_219 : decode cL_law 219 = .ok (.iaload, 1) := by decide +kernel
theorem dL_law_220 : decode cL_law 220 = .ok (.invokevirtual 22, 3) := by decide +kernel
theorem dL_law_223 : decode cL_law 223 = .ok (.if_icmp .eq 578, 3) := by decide +kernel
theorem dL_law_226 : decode cL_law 226 = .ok (.iconst 0, 1) := by decide +kernel
theorem dL_law_227 : decode cL_law 227 = .ok (.ireturn, 1) := by decide +kernel
theorem dL_law_228 : decode cL_law 228 = .ok (.aload_n 1, 1) := by decide +kernel
theorem dL_law_229 : decode cL_law 229 = .ok (.aload_n 0, 1) := by decide +kernel
theorem dL_law_230 : decode cL_law 230 = .ok (.iload_n 3, 1) := by decide +kernel
theorem dL_law_231 : decode cL_law 231 = .ok (.iconst 1, 1) := by decide +kernel
theorem dL_law_232 : decode cL_law 232 = .ok (.iadd, 1) := by decide +kernel
theorem dL_law_233 : decode cL_law 233 = .ok (.iaload, 1) := by decide +kernel
theorem dL_law_234 : decode cL_law 234 = .ok (.aload_n 0, 1) := by decide +kernel
theorem dL_law_235 : decode cL_law 235 = .ok (.iload_n 3, 1) := by decide +kernel
theorem dL_law_236 : decode cL_law 236 = .ok (.iconst 2, 1) := by decide +kernel
theorem dL_law_237 : decode cL_law 237 = .ok (.iadd, 1) := by decide +kernel
theorem dL_law_238 : decode cL_law 238 = .ok (.iaload, 1) := by decide +kernel
theorem dL_law_239 : decode cL_law 239 = .ok (.invokevirtual 23, 3) := by decide +kernel
theorem dL_law_242 : decode cL_law 242 = .ok (.aload_n 2, 1) := by decide +kernel
theorem dL_law_243 : decode cL_law 243 = .ok (.aload_n 0, 1) := by decide +kernel
theorem dL_law_244 : decode cL_law 244 = .ok (.iload_n 3, 1) := by decide +kernel
theorem dL_law_245 : decode cL_law 245 = .ok (.iconst 1, 1) := by decide +kernel
theorem dL_law_246 : decode cL_law 246 = .ok (.iadd, 1) := by decide +kernel
theorem dL_law_247 : decode cL_law 247 = .ok (.iaload, 1) := by decide +kernel
theorem dL_law_248 : decode cL_law 248 = .ok (.aload_n 0, 1) := by decide +kernel
theorem dL_law_249 : decode cL_law 249 = .ok (.iload_n 3, 1) := by decide +kernel
theorem dL_law_250 : decode cL_law 250 = .ok (.iconst 2, 1) := by decide +kernel
theorem dL_law_251 : decode cL_law 251 = .ok (.iadd, 1) := by decide +kernel
theorem dL_law_252 : decode cL_law 252 = .ok (.iaload, 1) := by decide +kernel
theorem dL_law_253 : decode cL_law 253 = .ok (.invokevirtual 26, 3) := by decide +kernel
theorem dL_law_256 : decode cL_law 256 = .ok (.if_icmp .eq 545, 3) := by decide +kernel
theorem dL_law_259 : decode cL_law 259 = .ok (.iconst 0, 1) := by decide +kernel
theorem dL_law_260 : decode cL_law 260 = .ok (.ireturn, 1) := by decide +kernel
theorem dL_law_261 : decode cL_law 261 = .ok (.aload_n 1, 1) := by decide +kernel
theorem dL_law_262 : decode cL_law 262 = .ok (.aload_n 0, 1) := by decide +kernel
theorem dL_law_263 : decode cL_law 263 = .ok (.iload_n 3, 1) := by decide +kernel
theorem dL_law_264 : decode cL_law 264 = .ok (.iconst 1, 1) := by decide +kernel
theorem dL_law_265 : decode cL_law 265 = .ok (.iadd, 1) := by decide +kernel
theorem dL_law_266 : decode cL_law 266 = .ok (.iaload, 1) := by decide +kernel
theorem dL_law_267 : decode cL_law 267 = .ok (.aload_n 0, 1) := by decide +kernel
theorem dL_law_268 : decode cL_law 268 = .ok (.iload_n 3, 1) := by decide +kernel
theorem dL_law_269 : decode cL_law 269 = .ok (.iconst 2, 1) := by decide +kernel
theorem dL_law_270 : decode cL_law 270 = .ok (.iadd, 1) := by decide +kernel
theorem dL_law_271 : decode cL_law 271 = .ok (.iaload, 1) := by decide +kernel
theorem dL_law_272 : decode cL_law 272 = .ok (.invokevirtual 27, 3) := by decide +kernel
theorem dL_law_275 : decode cL_law 275 = .ok (.aload_n 2, 1) := by decide +kernel
theorem dL_law_276 : decode cL_law 276 = .ok (.aload_n 0, 1) := by decide +kernel
theorem dL_law_277 : decode cL_law 277 = .ok (.iload_n 3, 1) := by decide +kernel
theorem dL_law_278 : decode cL_law 278 = .ok (.iconst 1, 1) := by decide +kernel
theorem dL_law_279 : decode cL_law 279 = .ok (.iadd, 1) := by decide +kernel
theorem dL_law_280 : decode cL_law 280 = .ok (.iaload, 1) := by decide +kernel
theorem dL_law_281 : decode cL_law 281 = .ok (.aload_n 0, 1) := by decide +kernel
theorem dL_law_282 : decode cL_law 282 = .ok (.iload_n 3, 1) := by decide +kernel
theorem dL_law_283 : decode cL_law 283 = .ok (.iconst 2, 1) := by decide +kernel
theorem dL_law_284 : decode cL_law 284 = .ok (.iadd, 1) := by decide +kernel
theorem dL_law_285 : decode cL_law 285 = .ok (.iaload, 1) := by decide +kernel
theorem dL_law_286 : decode cL_law 286 = .ok (.invokevirtual 30, 3) := by decide +kernel
theorem dL_law_289 : decode cL_law 289 = .ok (.if_icmp .eq 512, 3) := by decide +kernel
theorem dL_law_292 : decode cL_law 292 = .ok (.iconst 0, 1) := by decide +kernel
theorem dL_law_293 : decode cL_law 293 = .ok (.ireturn, 1) := by decide +kernel
theorem dL_law_294 : decode cL_law 294 = .ok (.aload_n 1, 1) := by decide +kernel
theorem dL_law_295 : decode cL_law 295 = .ok (.aload_n 0, 1) := by decide +kernel
theorem dL_law_296 : decode cL_law 296 = .ok (.iload_n 3, 1) := by decide +kernel
theorem dL_law_297 : decode cL_law 297 = .ok (.iconst 1, 1) := by decide +kernel
theorem dL_law_298 : decode cL_law 298 = .ok (.iadd, 1) := by decide +kernel
theorem dL_law_299 : decode cL_law 299 = .ok (.iaload, 1) := by decide +kernel
theorem dL_law_300 : decode cL_law 300 = .ok (.invokevirtual 31, 3) := by decide +kernel
theorem dL_law_303 : decode cL_law 303 = .ok (.aload_n 2, 1) := by decide +kernel
theorem dL_law_304 : decode cL_law 304 = .ok (.aload_n 0, 1) := by decide +kernel
theorem dL_law_305 : decode cL_law 305 = .ok (.iload_n 3, 1) := by decide +kernel
theorem dL_law_306 : decode cL_law 306 = .ok (.iconst 1, 1) := by decide +kernel
theorem dL_law_307 : decode cL_law 307 = .ok (.iadd, 1) := by decide +kernel
theorem dL_law_308 : decode cL_law 308 = .ok (.iaload, 1) := by decide +kernel
theorem dL_law_309 : decode cL_law 309 = .ok (.invokevirtual 35, 3) := by decide +kernel
theorem dL_law_312 : decode cL_law 312 = .ok (.if_icmp .eq 489, 3) := by decide +kernel
theorem dL_law_315 : decode cL_law 315 = .ok (.iconst 0, 1) := by decide +kernel
theorem dL_law_316 : decode cL_law 316 = .ok (.ireturn, 1) := by decide +kernel
theorem dL_law_317 : decode cL_law 317 = .ok (.aload_n 1, 1) := by decide +kernel
theorem dL_law_318 : decode cL_law 318 = .ok (.aload_n 0, 1) := by decide +kernel
theorem dL_law_319 : decode cL_law 319 = .ok (.iload_n 3, 1) := by decide +kernel
theorem dL_law_320 : decode cL_law 320 = .ok (.iconst 1, 1) := by decide +kernel
theorem dL_law_321 : decode cL_law 321 = .ok (.iadd, 1) := by decide +kernel
theorem dL_law_322 : decode cL_law 322 = .ok (.iaload, 1) := by decide +kernel
theorem dL_law_323 : decode cL_law 323 = .ok (.aload_n 0, 1) := by decide +kernel
theorem dL_law_324 : decode cL_law 324 = .ok (.iload_n 3, 1) := by decide +kernel
theorem dL_law_325 : decode cL_law 325 = .ok (.iconst 2, 1) := by decide +kernel
theorem dL_law_326 : decode cL_law 326 = .ok (.iadd, 1) := by decide +kernel
theorem dL_law_327 : decode cL_law 327 = .ok (.iaload, 1) := by decide +kernel
theorem dL_law_328 : decode cL_law 328 = .ok (.invokevirtual 36, 3) := by decide +kernel
theorem dL_law_331 : decode cL_law 331 = .ok (.aload_n 2, 1) := by decide +kernel
theorem dL_law_332 : decode cL_law 332 = .ok (.aload_n 0, 1) := by decide +kernel
theorem dL_law_333 : decode cL_law 333 = .ok (.iload_n 3, 1) := by decide +kernel
theorem dL_law_334 : decode cL_law 334 = .ok (.iconst 1, 1) := by decide +kernel
theorem dL_law_335 : decode cL_law 335 = .ok (.iadd, 1) := by decide +kernel
theorem dL_law_336 : decode cL_law 336 = .ok (.iaload, 1) := by decide +kernel
theorem dL_law_337 : decode cL_law 337 = .ok (.aload_n 0, 1) := by decide +kernel
theorem dL_law_338 : decode cL_law 338 = .ok (.iload_n 3, 1) := by decide +kernel
theorem dL_law_339 : decode cL_law 339 = .ok (.iconst 2, 1) := by decide +kernel
theorem dL_law_340 : decode cL_law 340 = .ok (.iadd, 1) := by decide +kernel
theorem dL_law_341 : decode cL_law 341 = .ok (.iaload, 1) := by decide +kernel
theorem dL_law_342 : decode cL_law 342 = .ok (.invokevirtual 39, 3) := by decide +kernel
theorem dL_law_345 : decode cL_law 345 = .ok (.if_icmp .eq 456, 3) := by decide +kernel
theorem dL_law_348 : decode cL_law 348 = .ok (.iconst 0, 1) := by decide +kernel
theorem dL_law_349 : decode cL_law 349 = .ok (.ireturn, 1) := by decide +kernel
theorem dL_law_350 : decode cL_law 350 = .ok (.aload_n 1, 1) := by decide +kernel
theorem dL_law_351 : decode cL_law 351 = .ok (.aload_n 0, 1) := by decide +kernel
theorem dL_law_352 : decode cL_law 352 = .ok (.iload_n 3, 1) := by decide +kernel
theorem dL_law_353 : decode cL_law 353 = .ok (.iconst 1, 1) := by decide +kernel
theorem dL_law_354 : decode cL_law 354 = .ok (.iadd, 1) := by decide +kernel
theorem dL_law_355 : decode cL_law 355 = .ok (.iaload, 1) := by decide +kernel
theorem dL_law_356 : decode cL_law 356 = .ok (.aload_n 0, 1) := by decide +kernel
theorem dL_law_357 : decode cL_law 357 = .ok (.iload_n 3, 1) := by decide +kernel
theorem dL_law_358 : decode cL_law 358 = .ok (.iconst 2, 1) := by decide +kernel
theorem dL_law_359 : decode cL_law 359 = .ok (.iadd, 1) := by decide +kernel
theorem dL_law_360 : decode cL_law 360 = .ok (.iaload, 1) := by decide +kernel
theorem dL_law_361 : decode cL_law 361 = .ok (.invokevirtual 40, 3) := by decide +kernel
theorem dL_law_364 : decode cL_law 364 = .ok (.aload_n 2, 1) := by decide +kernel
theorem dL_law_365 : decode cL_law 365 = .ok (.aload_n 0, 1) := by decide +kernel
theorem dL_law_366 : decode cL_law 366 = .ok (.iload_n 3, 1) := by decide +kernel
theorem dL_law_367 : decode cL_law 367 = .ok (.iconst 1, 1) := by decide +kernel
theorem dL_law_368 : decode cL_law 368 = .ok (.iadd, 1) := by decide +kernel
theorem dL_law_369 : decode cL_law 369 = .ok (.iaload, 1) := by decide +kernel
theorem dL_law_370 : decode cL_law 370 = .ok (.aload_n 0, 1) := by decide +kernel
theorem dL_law_371 : decode cL_law 371 = .ok (.iload_n 3, 1) := by decide +kernel
theorem dL_law_372 : decode cL_law 372 = .ok (.iconst 2, 1) := by decide +kernel
theorem dL_law_373 : decode cL_law 373 = .ok (.iadd, 1) := by decide +kernel
theorem dL_law_374 : decode cL_law 374 = .ok (.iaload, 1) := by decide +kernel
theorem dL_law_375 : decode cL_law 375 = .ok (.invokevirtual 43, 3) := by decide +kernel
theorem dL_law_378 : decode cL_law 378 = .ok (.if_icmp .eq 423, 3) := by decide +kernel
theorem dL_law_381 : decode cL_law 381 = .ok (.iconst 0, 1) := by decide +kernel
theorem dL_law_382 : decode cL_law 382 = .ok (.ireturn, 1) := by decide +kernel
theorem dL_law_383 : decode cL_law 383 = .ok (.aload_n 1, 1) := by decide +kernel
theorem dL_law_384 : decode cL_law 384 = .ok (.aload_n 0, 1) := by decide +kernel
theorem dL_law_385 : decode cL_law 385 = .ok (.iload_n 3, 1) := by decide +kernel
theorem dL_law_386 : decode cL_law 386 = .ok (.iconst 1, 1) := by decide +kernel
theorem dL_law_387 : decode cL_law 387 = .ok (.iadd, 1) := by decide +kernel
theorem dL_law_388 : decode cL_law 388 = .ok (.iaload, 1) := by decide +kernel
theorem dL_law_389 : decode cL_law 389 = .ok (.invokevirtual 44, 3) := by decide +kernel
theorem dL_law_392 : decode cL_law 392 = .ok (.aload_n 2, 1) := by decide +kernel
theorem dL_law_393 : decode cL_law 393 = .ok (.aload_n 0, 1) := by decide +kernel
theorem dL_law_394 : decode cL_law 394 = .ok (.iload_n 3, 1) := by decide +kernel
theorem dL_law_395 : decode cL_law 395 = .ok (.iconst 1, 1) := by decide +kernel
theorem dL_law_396 : decode cL_law 396 = .ok (.iadd, 1) := by decide +kernel
theorem dL_law_397 : decode cL_law 397 = .ok (.iaload, 1) := by decide +kernel
theorem dL_law_398 : decode cL_law 398 = .ok (.invokevirtual 47, 3) := by decide +kernel
theorem dL_law_401 : decode cL_law 401 = .ok (.if_icmp .eq 400, 3) := by decide +kernel
theorem dL_law_404 : decode cL_law 404 = .ok (.iconst 0, 1) := by decide +kernel
theorem dL_law_405 : decode cL_law 405 = .ok (.ireturn, 1) := by decide +kernel
theorem dL_law_406 : decode cL_law 406 = .ok (.aload_n 1, 1) := by decide +kernel
theorem dL_law_407 : decode cL_law 407 = .ok (.aload_n 0, 1) := by decide +kernel
theorem dL_law_408 : decode cL_law 408 = .ok (.iload_n 3, 1) := by decide +kernel
theorem dL_law_409 : decode cL_law 409 = .ok (.iconst 1, 1) := by decide +kernel
theorem dL_law_410 : decode cL_law 410 = .ok (.iadd, 1) := by decide +kernel
theorem dL_law_411 : decode cL_law 411 = .ok (.iaload, 1) := by decide +kernel
theorem dL_law_412 : decode cL_law 412 = .ok (.aload_n 0, 1) := by decide +kernel
theorem dL_law_413 : decode cL_law 413 = .ok (.iload_n 3, 1) := by decide +kernel
theorem dL_law_414 : decode cL_law 414 = .ok (.iconst 2, 1) := by decide +kernel
theorem dL_law_415 : decode cL_law 415 = .ok (.iadd, 1) := by decide +kernel
theorem dL_law_416 : decode cL_law 416 = .ok (.iaload, 1) := by decide +kernel
theorem dL_law_417 : decode cL_law 417 = .ok (.invokevirtual 48, 3) := by decide +kernel
theorem dL_law_420 : decode cL_law 420 = .ok (.aload_n 2, 1) := by decide +kernel
theorem dL_law_421 : decode cL_law 421 = .ok (.aload_n 0, 1) := by decide +kernel
theorem dL_law_422 : decode cL_law 422 = .ok (.iload_n 3, 1) := by decide +kernel
theorem dL_law_423 : decode cL_law 423 = .ok (.iconst 1, 1) := by decide +kernel
theorem dL_law_424 : decode cL_law 424 = .ok (.iadd, 1) := by decide +kernel
theorem dL_law_425 : decode cL_law 425 = .ok (.iaload, 1) := by decide +kernel
theorem dL_law_426 : decode cL_law 426 = .ok (.aload_n 0, 1) := by decide +kernel
theorem dL_law_427 : decode cL_law 427 = .ok (.iload_n 3, 1) := by decide +kernel
theorem dL_law_428 : decode cL_law 428 = .ok (.iconst 2, 1) := by decide +kernel
theorem dL_law_429 : decode cL_law 429 = .ok (.iadd, 1) := by decide +kernel
theorem dL_law_430 : decode cL_law 430 = .ok (.iaload, 1) := by decide +kernel
theorem dL_law_431 : decode cL_law 431 = .ok (.invokevirtual 51, 3) := by decide +kernel
theorem dL_law_434 : decode cL_law 434 = .ok (.if_icmp .eq 367, 3) := by decide +kernel
theorem dL_law_437 : decode cL_law 437 = .ok (.iconst 0, 1) := by decide +kernel
theorem dL_law_438 : decode cL_law 438 = .ok (.ireturn, 1) := by decide +kernel
theorem dL_law_439 : decode cL_law 439 = .ok (.aload_n 1, 1) := by decide +kernel
theorem dL_law_440 : decode cL_law 440 = .ok (.invokevirtual 52, 3) := by decide +kernel
theorem dL_law_443 : decode cL_law 443 = .ok (.aload_n 2, 1) := by decide +kernel
theorem dL_law_444 : decode cL_law 444 = .ok (.invokevirtual 56, 3) := by decide +kernel
theorem dL_law_447 : decode cL_law 447 = .ok (.if_icmp .eq 354, 3) := by decide +kernel
theorem dL_law_450 : decode cL_law 450 = .ok (.iconst 0, 1) := by decide +kernel
theorem dL_law_451 : decode cL_law 451 = .ok (.ireturn, 1) := by decide +kernel
theorem dL_law_452 : decode cL_law 452 = .ok (.aload_n 1, 1) := by decide +kernel
theorem dL_law_453 : decode cL_law 453 = .ok (.aload_n 0, 1) := by decide +kernel
theorem dL_law_454 : decode cL_law 454 = .ok (.iload_n 3, 1) := by decide +kernel
theorem dL_law_455 : decode cL_law 455 = .ok (.iconst 1, 1) := by decide +kernel
theorem dL_law_456 : decode cL_law 456 = .ok (.iadd, 1) := by decide +kernel
theorem dL_law_457 : decode cL_law 457 = .ok (.iaload, 1) := by decide +kernel
theorem dL_law_458 : decode cL_law 458 = .ok (.invokevirtual 57, 3) := by decide +kernel
theorem dL_law_461 : decode cL_law 461 = .ok (.aload_n 2, 1) := by decide +kernel
theorem dL_law_462 : decode cL_law 462 = .ok (.aload_n 0, 1) := by decide +kernel
theorem dL_law_463 : decode cL_law 463 = .ok (.iload_n 3, 1) := by decide +kernel
theorem dL_law_464 : decode cL_law 464 = .ok (.iconst 1, 1) := by decide +kernel
theorem dL_law_465 : decode cL_law 465 = .ok (.iadd, 1) := by decide +kernel
theorem dL_law_466 : decode cL_law 466 = .ok (.iaload, 1) := by decide +kernel
theorem dL_law_467 : decode cL_law 467 = .ok (.invokevirtual 60, 3) := by decide +kernel
theorem dL_law_470 : decode cL_law 470 = .ok (.if_icmp .eq 331, 3) := by decide +kernel
theorem dL_law_473 : decode cL_law 473 = .ok (.iconst 0, 1) := by decide +kernel
theorem dL_law_474 : decode cL_law 474 = .ok (.ireturn, 1) := by decide +kernel
theorem dL_law_475 : decode cL_law 475 = .ok (.aload_n 1, 1) := by decide +kernel
theorem dL_law_476 : decode cL_law 476 = .ok (.invokevirtual 61, 3) := by decide +kernel
theorem dL_law_479 : decode cL_law 479 = .ok (.aload_n 2, 1) := by decide +kernel
theorem dL_law_480 : decode cL_law 480 = .ok (.invokevirtual 64, 3) := by decide +kernel
theorem dL_law_483 : decode cL_law 483 = .ok (.if_icmp .eq 318, 3) := by decide +kernel
theorem dL_law_486 : decode cL_law 486 = .ok (.iconst 0, 1) := by decide +kernel
theorem dL_law_487 : decode cL_law 487 = .ok (.ireturn, 1) := by decide +kernel
theorem dL_law_488 : decode cL_law 488 = .ok (.aload_n 1, 1) := by decide +kernel
theorem dL_law_489 : decode cL_law 489 = .ok (.invokevirtual 65, 3) := by decide +kernel
theorem dL_law_492 : decode cL_law 492 = .ok (.aload_n 2, 1) := by decide +kernel
theorem dL_law_493 : decode cL_law 493 = .ok (.invokevirtual 68, 3) := by decide +kernel
theorem dL_law_496 : decode cL_law 496 = .ok (.if_icmp .eq 305, 3) := by decide +kernel
theorem dL_law_499 : decode cL_law 499 = .ok (.iconst 0, 1) := by decide +kernel
theorem dL_law_500 : decode cL_law 500 = .ok (.ireturn, 1) := by decide +kernel
theorem dL_law_501 : decode cL_law 501 = .ok (.aload_n 1, 1) := by decide +kernel
theorem dL_law_502 : decode cL_law 502 = .ok (.aload_n 0, 1) := by decide +kernel
theorem dL_law_503 : decode cL_law 503 = .ok (.iload_n 3, 1) := by decide +kernel
theorem dL_law_504 : decode cL_law 504 = .ok (.iconst 1, 1) := by decide +kernel
theorem dL_law_505 : decode cL_law 505 = .ok (.iadd, 1) := by decide +kernel
theorem dL_law_506 : decode cL_law 506 = .ok (.iaload, 1) := by decide +kernel
theorem dL_law_507 : decode cL_law 507 = .ok (.invokevirtual 69, 3) := by decide +kernel
theorem dL_law_510 : decode cL_law 510 = .ok (.aload_n 2, 1) := by decide +kernel
theorem dL_law_511 : decode cL_law 511 = .ok (.aload_n 0, 1) := by decide +kernel
theorem dL_law_512 : decode cL_law 512 = .ok (.iload_n 3, 1) := by decide +kernel
theorem dL_law_513 : decode cL_law 513 = .ok (.iconst 1, 1) := by decide +kernel
theorem dL_law_514 : decode cL_law 514 = .ok (.iadd, 1) := by decide +kernel
theorem dL_law_515 : decode cL_law 515 = .ok (.iaload, 1) := by decide +kernel
theorem dL_law_516 : decode cL_law 516 = .ok (.invokevirtual 72, 3) := by decide +kernel
theorem dL_law_519 : decode cL_law 519 = .ok (.if_icmp .eq 282, 3) := by decide +kernel
theorem dL_law_522 : decode cL_law 522 = .ok (.iconst 0, 1) := by decide +kernel
theorem dL_law_523 : decode cL_law 523 = .ok (.ireturn, 1) := by decide +kernel
theorem dL_law_524 : decode cL_law 524 = .ok (.aload_n 1, 1) := by decide +kernel
theorem dL_law_525 : decode cL_law 525 = .ok (.invokevirtual 73, 3) := by decide +kernel
theorem dL_law_528 : decode cL_law 528 = .ok (.aload_n 2, 1) := by decide +kernel
theorem dL_law_529 : decode cL_law 529 = .ok (.invokevirtual 76, 3) := by decide +kernel
theorem dL_law_532 : decode cL_law 532 = .ok (.if_icmp .eq 269, 3) := by decide +kernel
theorem dL_law_535 : decode cL_law 535 = .ok (.iconst 0, 1) := by decide +kernel
theorem dL_law_536 : decode cL_law 536 = .ok (.ireturn, 1) := by decide +kernel
theorem dL_law_537 : decode cL_law 537 = .ok (.aload_n 1, 1) := by decide +kernel
theorem dL_law_538 : decode cL_law 538 = .ok (.aload_n 0, 1) := by decide +kernel
theorem dL_law_539 : decode cL_law 539 = .ok (.iload_n 3, 1) := by decide +kernel
theorem dL_law_540 : decode cL_law 540 = .ok (.iconst 1, 1) := by decide +kernel
theorem dL_law_541 : decode cL_law 541 = .ok (.iadd, 1) := by decide +kernel
theorem dL_law_542 : decode cL_law 542 = .ok (.iaload, 1) := by decide +kernel
theorem dL_law_543 : decode cL_law 543 = .ok (.invokevirtual 77, 3) := by decide +kernel
theorem dL_law_546 : decode cL_law 546 = .ok (.aload_n 2, 1) := by decide +kernel
theorem dL_law_547 : decode cL_law 547 = .ok (.aload_n 0, 1) := by decide +kernel
theorem dL_law_548 : decode cL_law 548 = .ok (.iload_n 3, 1) := by decide +kernel
theorem dL_law_549 : decode cL_law 549 = .ok (.iconst 1, 1) := by decide +kernel
theorem dL_law_550 : decode cL_law 550 = .ok (.iadd, 1) := by decide +kernel
theorem dL_law_551 : decode cL_law 551 = .ok (.iaload, 1) := by decide +kernel
theorem dL_law_552 : decode cL_law 552 = .ok (.invokevirtual 80, 3) := by decide +kernel
theorem dL_law_555 : decode cL_law 555 = .ok (.if_icmp .eq 246, 3) := by decide +kernel
theorem dL_law_558 : decode cL_law 558 = .ok (.iconst 0, 1) := by decide +kernel
theorem dL_law_559 : decode cL_law 559 = .ok (.ireturn, 1) := by decide +kernel
theorem dL_law_560 : decode cL_law 560 = .ok (.aload_n 1, 1) := by decide +kernel
theorem dL_law_561 : decode cL_law 561 = .ok (.aload_n 0, 1) := by decide +kernel
theorem dL_law_562 : decode cL_law 562 = .ok (.iload_n 3, 1) := by decide +kernel
theorem dL_law_563 : decode cL_law 563 = .ok (.iconst 1, 1) := by decide +kernel
theorem dL_law_564 : decode cL_law 564 = .ok (.iadd, 1) := by decide +kernel
theorem dL_law_565 : decode cL_law 565 = .ok (.iaload, 1) := by decide +kernel
theorem dL_law_566 : decode cL_law 566 = .ok (.aload_n 0, 1) := by decide +kernel
theorem dL_law_567 : decode cL_law 567 = .ok (.iload_n 3, 1) := by decide +kernel
theorem dL_law_568 : decode cL_law 568 = .ok (.iconst 2, 1) := by decide +kernel
theorem dL_law_569 : decode cL_law 569 = .ok (.iadd, 1) := by decide +kernel
theorem dL_law_570 : decode cL_law 570 = .ok (.iaload, 1) := by decide +kernel
theorem dL_law_571 : decode cL_law 571 = .ok (.aload_n 0, 1) := by decide +kernel
theorem dL_law_572 : decode cL_law 572 = .ok (.iload_n 3, 1) := by decide +kernel
theorem dL_law_573 : decode cL_law 573 = .ok (.iconst 3, 1) := by decide +kernel
theorem dL_law_574 : decode cL_law 574 = .ok (.iadd, 1) := by decide +kernel
theorem dL_law_575 : decode cL_law 575 = .ok (.iaload, 1) := by decide +kernel
theorem dL_law_576 : decode cL_law 576 = .ok (.invokevirtual 81, 3) := by decide +kernel
theorem dL_law_579 : decode cL_law 579 = .ok (.aload_n 2, 1) := by decide +kernel
theorem dL_law_580 : decode cL_law 580 = .ok (.aload_n 0, 1) := by decide +kernel
theorem dL_law_581 : decode cL_law 581 = .ok (.iload_n 3, 1) := by decide +kernel
theorem dL_law_582 : decode cL_law 582 = .ok (.iconst 1, 1) := by decide +kernel
theorem dL_law_583 : decode cL_law 583 = .ok (.iadd, 1) := by decide +kernel
theorem dL_law_584 : decode cL_law 584 = .ok (.iaload, 1) := by decide +kernel
theorem dL_law_585 : decode cL_law 585 = .ok (.aload_n 0, 1) := by decide +kernel
theorem dL_law_586 : decode cL_law 586 = .ok (.iload_n 3, 1) := by decide +kernel
theorem dL_law_587 : decode cL_law 587 = .ok (.iconst 2, 1) := by decide +kernel
theorem dL_law_588 : decode cL_law 588 = .ok (.iadd, 1) := by decide +kernel
theorem dL_law_589 : decode cL_law 589 = .ok (.iaload, 1) := by decide +kernel
theorem dL_law_590 : decode cL_law 590 = .ok (.aload_n 0, 1) := by decide +kernel
theorem dL_law_591 : decode cL_law 591 = .ok (.iload_n 3, 1) := by decide +kernel
theorem dL_law_592 : decode cL_law 592 = .ok (.iconst 3, 1) := by decide +kernel
theorem dL_law_593 : decode cL_law 593 = .ok (.iadd, 1) := by decide +kernel
theorem dL_law_594 : decode cL_law 594 = .ok (.iaload, 1) := by decide +kernel
theorem dL_law_595 : decode cL_law 595 = .ok (.invokevirtual 84, 3) := by decide +kernel
theorem dL_law_598 : decode cL_law 598 = .ok (.if_icmp .eq 203, 3) := by decide +kernel
theorem dL_law_601 : decode cL_law 601 = .ok (.iconst 0, 1) := by decide +kernel
theorem dL_law_602 : decode cL_law 602 = .ok (.ireturn, 1) := by decide +kernel
theorem dL_law_603 : decode cL_law 603 = .ok (.aload_n 1, 1) := by decide +kernel
theorem dL_law_604 : decode cL_law 604 = .ok (.invokevirtual 85, 3) := by decide +kernel
theorem dL_law_607 : decode cL_law 607 = .ok (.aload_n 2, 1) := by decide +kernel
theorem dL_law_608 : decode cL_law 608 = .ok (.invokevirtual 88, 3) := by decide +kernel
theorem dL_law_611 : decode cL_law 611 = .ok (.if_icmp .eq 190, 3) := by decide +kernel
theorem dL_law_614 : decode cL_law 614 = .ok (.iconst 0, 1) := by decide +kernel
theorem dL_law_615 : decode cL_law 615 = .ok (.ireturn, 1) := by decide +kernel
theorem dL_law_616 : decode cL_law 616 = .ok (.aload_n 1, 1) := by decide +kernel
theorem dL_law_617 : decode cL_law 617 = .ok (.aload_n 0, 1) := by decide +kernel
theorem dL_law_618 : decode cL_law 618 = .ok (.iload_n 3, 1) := by decide +kernel
theorem dL_law_619 : decode cL_law 619 = .ok (.iconst 1, 1) := by decide +kernel
theorem dL_law_620 : decode cL_law 620 = .ok (.iadd, 1) := by decide +kernel
theorem dL_law_621 : decode cL_law 621 = .ok (.iaload, 1) := by decide +kernel
theorem dL_law_622 : decode cL_law 622 = .ok (.invokevirtual 89, 3) := by decide +kernel
theorem dL_law_625 : decode cL_law 625 = .ok (.aload_n 2, 1) := by decide +kernel
theorem dL_law_626 : decode cL_law 626 = .ok (.aload_n 0, 1) := by decide +kernel
theorem dL_law_627 : decode cL_law 627 = .ok (.iload_n 3, 1) := by decide +kernel
theorem dL_law_628 : decode cL_law 628 = .ok (.iconst 1, 1) := by decide +kernel
theorem dL_law_629 : decode cL_law 629 = .ok (.iadd, 1) := by decide +kernel
theorem dL_law_630 : decode cL_law 630 = .ok (.iaload, 1) := by decide +kernel
theorem dL_law_631 : decode cL_law 631 = .ok (.invokevirtual 92, 3) := by decide +kernel
theorem dL_law_634 : decode cL_law 634 = .ok (.if_icmp .eq 167, 3) := by decide +kernel
theorem dL_law_637 : decode cL_law 637 = .ok (.iconst 0, 1) := by decide +kernel
theorem dL_law_638 : decode cL_law 638 = .ok (.ireturn, 1) := by decide +kernel
theorem dL_law_639 : decode cL_law 639 = .ok (.aload_n 1, 1) := by decide +kernel
theorem dL_law_640 : decode cL_law 640 = .ok (.aload_n 0, 1) := by decide +kernel
theorem dL_law_641 : decode cL_law 641 = .ok (.iload_n 3, 1) := by decide +kernel
theorem dL_law_642 : decode cL_law 642 = .ok (.iconst 1, 1) := by decide +kernel
theorem dL_law_643 : decode cL_law 643 = .ok (.iadd, 1) := by decide +kernel
theorem dL_law_644 : decode cL_law 644 = .ok (.iaload, 1) := by decide +kernel
theorem dL_law_645 : decode cL_law 645 = .ok (.aload_n 0, 1) := by decide +kernel
theorem dL_law_646 : decode cL_law 646 = .ok (.iload_n 3, 1) := by decide +kernel
theorem dL_law_647 : decode cL_law 647 = .ok (.iconst 2, 1) := by decide +kernel
theorem dL_law_648 : decode cL_law 648 = .ok (.iadd, 1) := by decide +kernel
theorem dL_law_649 : decode cL_law 649 = .ok (.iaload, 1) := by decide +kernel
theorem dL_law_650 : decode cL_law 650 = .ok (.invokevirtual 93, 3) := by decide +kernel
theorem dL_law_653 : decode cL_law 653 = .ok (.aload_n 2, 1) := by decide +kernel
theorem dL_law_654 : decode cL_law 654 = .ok (.aload_n 0, 1) := by decide +kernel
theorem dL_law_655 : decode cL_law 655 = .ok (.iload_n 3, 1) := by decide +kernel
theorem dL_law_656 : decode cL_law 656 = .ok (.iconst 1, 1) := by decide +kernel
theorem dL_law_657 : decode cL_law 657 = .ok (.iadd, 1) := by decide +kernel
theorem dL_law_658 : decode cL_law 658 = .ok (.iaload, 1) := by decide +kernel
theorem dL_law_659 : decode cL_law 659 = .ok (.aload_n 0, 1) := by decide +kernel
theorem dL_law_660 : decode cL_law 660 = .ok (.iload_n 3, 1) := by decide +kernel
theorem dL_law_661 : decode cL_law 661 = .ok (.iconst 2, 1) := by decide +kernel
theorem dL_law_662 : decode cL_law 662 = .ok (.iadd, 1) := by decide +kernel
theorem dL_law_663 : decode cL_law 663 = .ok (.iaload, 1) := by decide +kernel
theorem dL_law_664 : decode cL_law 664 = .ok (.invokevirtual 96, 3) := by decide +kernel
theorem dL_law_667 : decode cL_law 667 = .ok (.if_icmp .eq 134, 3) := by decide +kernel
theorem dL_law_670 : decode cL_law 670 = .ok (.iconst 0, 1) := by decide +kernel
theorem dL_law_671 : decode cL_law 671 = .ok (.ireturn, 1) := by decide +kernel
theorem dL_law_672 : decode cL_law 672 = .ok (.aload_n 1, 1) := by decide +kernel
theorem dL_law_673 : decode cL_law 673 = .ok (.aload_n 0, 1) := by decide +kernel
theorem dL_law_674 : decode cL_law 674 = .ok (.iload_n 3, 1) := by decide +kernel
theorem dL_law_675 : decode cL_law 675 = .ok (.iconst 1, 1) := by decide +kernel
theorem dL_law_676 : decode cL_law 676 = .ok (.iadd, 1) := by decide +kernel
theorem dL_law_677 : decode cL_law 677 = .ok (.iaload, 1) := by decide +kernel
theorem dL_law_678 : decode cL_law 678 = .ok (.invokevirtual 97, 3) := by decide +kernel
theorem dL_law_681 : decode cL_law 681 = .ok (.aload_n 2, 1) := by decide +kernel
theorem dL_law_682 : decode cL_law 682 = .ok (.aload_n 0, 1) := by decide +kernel
theorem dL_law_683 : decode cL_law 683 = .ok (.iload_n 3, 1) := by decide +kernel
theorem dL_law_684 : decode cL_law 684 = .ok (.iconst 1, 1) := by decide +kernel
theorem dL_law_685 : decode cL_law 685 = .ok (.iadd, 1) := by decide +kernel
theorem dL_law_686 : decode cL_law 686 = .ok (.iaload, 1) := by decide +kernel
theorem dL_law_687 : decode cL_law 687 = .ok (.invokevirtual 100, 3) := by decide +kernel
theorem dL_law_690 : decode cL_law 690 = .ok (.if_icmp .eq 111, 3) := by decide +kernel
theorem dL_law_693 : decode cL_law 693 = .ok (.iconst 0, 1) := by decide +kernel
theorem dL_law_694 : decode cL_law 694 = .ok (.ireturn, 1) := by decide +kernel
theorem dL_law_695 : decode cL_law 695 = .ok (.aload_n 1, 1) := by decide +kernel
theorem dL_law_696 : decode cL_law 696 = .ok (.aload_n 0, 1) := by decide +kernel
theorem dL_law_697 : decode cL_law 697 = .ok (.iload_n 3, 1) := by decide +kernel
theorem dL_law_698 : decode cL_law 698 = .ok (.iconst 1, 1) := by decide +kernel
theorem dL_law_699 : decode cL_law 699 = .ok (.iadd, 1) := by decide +kernel
theorem dL_law_700 : decode cL_law 700 = .ok (.iaload, 1) := by decide +kernel
theorem dL_law_701 : decode cL_law 701 = .ok (.invokevirtual 101, 3) := by decide +kernel
theorem dL_law_704 : decode cL_law 704 = .ok (.aload_n 2, 1) := by decide +kernel
theorem dL_law_705 : decode cL_law 705 = .ok (.aload_n 0, 1) := by decide +kernel
theorem dL_law_706 : decode cL_law 706 = .ok (.iload_n 3, 1) := by decide +kernel
theorem dL_law_707 : decode cL_law 707 = .ok (.iconst 1, 1) := by decide +kernel
theorem dL_law_708 : decode cL_law 708 = .ok (.iadd, 1) := by decide +kernel
theorem dL_law_709 : decode cL_law 709 = .ok (.iaload, 1) := by decide +kernel
theorem dL_law_710 : decode cL_law 710 = .ok (.invokevirtual 104, 3) := by decide +kernel
theorem dL_law_713 : decode cL_law 713 = .ok (.if_icmp .eq 88, 3) := by decide +kernel
theorem dL_law_716 : decode cL_law 716 = .ok (.iconst 0, 1) := by decide +kernel
theorem dL_law_717 : decode cL_law 717 = .ok (.ireturn, 1) := by decide +kernel
theorem dL_law_718 : decode cL_law 718 = .ok (.aload_n 1, 1) := by decide +kernel
theorem dL_law_719 : decode cL_law 719 = .ok (.aload_n 0, 1) := by decide +kernel
theorem dL_law_720 : decode cL_law 720 = .ok (.iload_n 3, 1) := by decide +kernel
theorem dL_law_721 : decode cL_law 721 = .ok (.iconst 1, 1) := by decide +kernel
theorem dL_law_722 : decode cL_law 722 = .ok (.iadd, 1) := by decide +kernel
theorem dL_law_723 : decode cL_law 723 = .ok (.iaload, 1) := by decide +kernel
theorem dL_law_724 : decode cL_law 724 = .ok (.invokevirtual 105, 3) := by decide +kernel
theorem dL_law_727 : decode cL_law 727 = .ok (.aload_n 2, 1) := by decide +kernel
theorem dL_law_728 : decode cL_law 728 = .ok (.aload_n 0, 1) := by decide +kernel
theorem dL_law_729 : decode cL_law 729 = .ok (.iload_n 3, 1) := by decide +kernel
theorem dL_law_730 : decode cL_law 730 = .ok (.iconst 1, 1) := by decide +kernel
theorem dL_law_731 : decode cL_law 731 = .ok (.iadd, 1) := by decide +kernel
theorem dL_law_732 : decode cL_law 732 = .ok (.iaload, 1) := by decide +kernel
theorem dL_law_733 : decode cL_law 733 = .ok (.invokevirtual 108, 3) := by decide +kernel
theorem dL_law_736 : decode cL_law 736 = .ok (.if_icmp .eq 65, 3) := by decide +kernel
theorem dL_law_739 : decode cL_law 739 = .ok (.iconst 0, 1) := by decide +kernel
theorem dL_law_740 : decode cL_law 740 = .ok (.ireturn, 1) := by decide +kernel
theorem dL_law_741 : decode cL_law 741 = .ok (.aload_n 1, 1) := by decide +kernel
theorem dL_law_742 : decode cL_law 742 = .ok (.aload_n 0, 1) := by decide +kernel
theorem dL_law_743 : decode cL_law 743 = .ok (.iload_n 3, 1) := by decide +kernel
theorem dL_law_744 : decode cL_law 744 = .ok (.iconst 1, 1) := by decide +kernel
theorem dL_law_745 : decode cL_law 745 = .ok (.iadd, 1) := by decide +kernel
theorem dL_law_746 : decode cL_law 746 = .ok (.iaload, 1) := by decide +kernel
theorem dL_law_747 : decode cL_law 747 = .ok (.invokevirtual 109, 3) := by decide +kernel
theorem dL_law_750 : decode cL_law 750 = .ok (.aload_n 2, 1) := by decide +kernel
theorem dL_law_751 : decode cL_law 751 = .ok (.aload_n 0, 1) := by decide +kernel
theorem dL_law_752 : decode cL_law 752 = .ok (.iload_n 3, 1) := by decide +kernel
theorem dL_law_753 : decode cL_law 753 = .ok (.iconst 1, 1) := by decide +kernel
theorem dL_law_754 : decode cL_law 754 = .ok (.iadd, 1) := by decide +kernel
theorem dL_law_755 : decode cL_law 755 = .ok (.iaload, 1) := by decide +kernel
theorem dL_law_756 : decode cL_law 756 = .ok (.invokevirtual 112, 3) := by decide +kernel
theorem dL_law_759 : decode cL_law 759 = .ok (.if_icmp .eq 42, 3) := by decide +kernel
theorem dL_law_762 : decode cL_law 762 = .ok (.iconst 0, 1) := by decide +kernel
theorem dL_law_763 : decode cL_law 763 = .ok (.ireturn, 1) := by decide +kernel
theorem dL_law_764 : decode cL_law 764 = .ok (.aload_n 1, 1) := by decide +kernel
theorem dL_law_765 : decode cL_law 765 = .ok (.aload_n 0, 1) := by decide +kernel
theorem dL_law_766 : decode cL_law 766 = .ok (.iload_n 3, 1) := by decide +kernel
theorem dL_law_767 : decode cL_law 767 = .ok (.iconst 1, 1) := by decide +kernel
theorem dL_law_768 : decode cL_law 768 = .ok (.iadd, 1) := by decide +kernel
theorem dL_law_769 : decode cL_law 769 = .ok (.iaload, 1) := by decide +kernel
theorem dL_law_770 : decode cL_law 770 = .ok (.invokevirtual 113, 3) := by decide +kernel
theorem dL_law_773 : decode cL_law 773 = .ok (.aload_n 2, 1) := by decide +kernel
theorem dL_law_774 : decode cL_law 774 = .ok (.aload_n 0, 1) := by decide +kernel
theorem dL_law_775 : decode cL_law 775 = .ok (.iload_n 3, 1) := by decide +kernel
theorem dL_law_776 : decode cL_law 776 = .ok (.iconst 1, 1) := by decide +kernel
theorem dL_law_777 : decode cL_law 777 = .ok (.iadd, 1) := by decide +kernel
theorem dL_law_778 : decode cL_law 778 = .ok (.iaload, 1) := by decide +kernel
theorem dL_law_779 : decode cL_law 779 = .ok (.invokevirtual 116, 3) := by decide +kernel
theorem dL_law_782 : decode cL_law 782 = .ok (.if_icmp .eq 19, 3) := by decide +kernel
theorem dL_law_785 : decode cL_law 785 = .ok (.iconst 0, 1) := by decide +kernel
theorem dL_law_786 : decode cL_law 786 = .ok (.ireturn, 1) := by decide +kernel
theorem dL_law_787 : decode cL_law 787 = .ok (.aload_n 1, 1) := by decide +kernel
theorem dL_law_788 : decode cL_law 788 = .ok (.invokevirtual 117, 3) := by decide +kernel
theorem dL_law_791 : decode cL_law 791 = .ok (.aload_n 2, 1) := by decide +kernel
theorem dL_law_792 : decode cL_law 792 = .ok (.invokevirtual 121, 3) := by decide +kernel
theorem dL_law_795 : decode cL_law 795 = .ok (.lcmp, 1) := by decide +kernel
theorem dL_law_796 : decode cL_law 796 = .ok (.ifCond .eq 5, 3) := by decide +kernel
theorem dL_law_799 : decode cL_law 799 = .ok (.iconst 0, 1) := by decide +kernel
theorem dL_law_800 : decode cL_law 800 = .ok (.ireturn, 1) := by decide +kernel
theorem dL_law_801 : decode cL_law 801 = .ok (.iinc 3 4, 3) := by decide +kernel
theorem dL_law_804 : decode cL_law 804 = .ok (.goto (-786), 3) := by decide +kernel
theorem dL_law_807 : decode cL_law 807 = .ok (.iconst 1, 1) := by decide +kernel
theorem dL_law_808 : decode cL_law 808 = .ok (.ireturn, 1) := by decide +kernel
end
section
/-- the tables' words that stay true through a run -/
def AW : List Cond := lw_tbl.filter goodWord
theorem aw_mem {w : Cond} {i : Nat} (h : lw_tbl[i]? = some w) (g : goodWord w = true) : w ∈ AW := List.mem_filter.mpr ⟨List.mem_of_getElem? h, g⟩
theorem AW_good : GoodIn AW AW := fun w h => ⟨h, good_of_word (List.mem_filter.mp h).2⟩
theorem AW_in : ∀ w ∈ AW, w ∈ lw_tbl := fun w h => (List.mem_filter.mp h).1
theorem inAX0 : ∀ w ∈ u_ws RX0 TX0 1, w ∈ AW := fun w h => List.mem_filter.mpr ⟨(by decide +kernel : ∀ w ∈ u_ws RX0 TX0 1, w ∈ lw_tbl) w h, (by decide +kernel : ∀ w ∈ u_ws RX0 TX0 1, goodWord w = true) w h⟩
theorem inAX1 : ∀ w ∈ u_ws RX1 TX1 9, w ∈ AW := fun w h => List.mem_filter.mpr ⟨(by decide +kernel : ∀ w ∈ u_ws RX1 TX1 9, w ∈ lw_tbl) w h, (by decide +kernel : ∀ w ∈ u_ws RX1 TX1 9, goodWord w = true) w h⟩
theorem inAX2 : ∀ w ∈ u_ws RX2 TX2 5, w ∈ AW := fun w h => List.mem_filter.mpr ⟨(by decide +kernel : ∀ w ∈ u_ws RX2 TX2 5, w ∈ lw_tbl) w h, (by decide +kernel : ∀ w ∈ u_ws RX2 TX2 5, goodWord w = true) w h⟩
theorem inAX3 : ∀ w ∈ u_ws RX3 TX3 7, w ∈ AW := fun w h => List.mem_filter.mpr ⟨(by decide +kernel : ∀ w ∈ u_ws RX3 TX3 7, w ∈ lw_tbl) w h, (by decide +kernel : ∀ w ∈ u_ws RX3 TX3 7, goodWord w = true) w h⟩
theorem inAX4 : ∀ w ∈ u_ws RX4 TX4 9, w ∈ AW := fun w h => List.mem_filter.mpr ⟨(by decide +kernel : ∀ w ∈ u_ws RX4 TX4 9, w ∈ lw_tbl) w h, (by decide +kernel : ∀ w ∈ u_ws RX4 TX4 9, goodWord w = true) w h⟩
theorem inAX5 : ∀ w ∈ u_ws RX5 TX5 23, w ∈ AW := fun w h => List.mem_filter.mpr ⟨(by decide +kernel : ∀ w ∈ u_ws RX5 TX5 23, w ∈ lw_tbl) w h, (by decide +kernel : ∀ w ∈ u_ws RX5 TX5 23, goodWord w = true) w h⟩
theorem aw_0 : Cond.selects RX3 yX3_fullCut yX3_fullCut ∈ AW := aw_mem (i := 0) (by decide +kernel) (by decide +kernel)
theorem aw_1 : Cond.selects RX3 yX3_greatestDepth yX3_greatestDepth ∈ AW := aw_mem (i := 1) (by decide +kernel) (by decide +kernel)
theorem aw_2 : Cond.selects RX3 yX3_leastDepth yX3_leastDepth ∈ AW := aw_mem (i := 2) (by decide +kernel) (by decide +kernel)
theorem aw_3 : Cond.selects RX3 yX3_thinCut yX3_thinCut ∈ AW := aw_mem (i := 3) (by decide +kernel) (by decide +kernel)
theorem aw_4 : Cond.selects RX3 yX3_evenCut yX3_evenCut ∈ AW := aw_mem (i := 4) (by decide +kernel) (by decide +kernel)
theorem aw_5 : Cond.selects RX4 yX4_fillSizes yX4_fillSizes ∈ AW := aw_mem (i := 5) (by decide +kernel) (by decide +kernel)
theorem aw_6 : Cond.selects RX0 yX0_between yX0_between ∈ AW := aw_mem (i := 6) (by decide +kernel) (by decide +kernel)
theorem aw_7 : Cond.selects RX4 yX4_fillKeptSizes yX4_fillKeptSizes ∈ AW := aw_mem (i := 7) (by decide +kernel) (by decide +kernel)
theorem aw_8 : Cond.selects RX0 yX0_lowerOnce yX0_lowerOnce ∈ AW := aw_mem (i := 8) (by decide +kernel) (by decide +kernel)
theorem aw_9 : Cond.selects RX2 yX2_sort yX2_sort ∈ AW := aw_mem (i := 9) (by decide +kernel) (by decide +kernel)
theorem aw_10 : Cond.selects RX2 yX2_pairLastTwo yX2_pairLastTwo ∈ AW := aw_mem (i := 10) (by decide +kernel) (by decide +kernel)
theorem aw_11 : Cond.selects RX1 yX1_narrow yX1_narrow ∈ AW := aw_mem (i := 11) (by decide +kernel) (by decide +kernel)
theorem aw_12 : Cond.selects RX1 yX1_contradict yX1_contradict ∈ AW := aw_mem (i := 12) (by decide +kernel) (by decide +kernel)
theorem aw_13 : Cond.selects RX1 yX1_leftOutAt yX1_leftOutAt ∈ AW := aw_mem (i := 13) (by decide +kernel) (by decide +kernel)
theorem aw_14 : Cond.selects RX1 yX1_agreeingFrom yX1_agreeingFrom ∈ AW := aw_mem (i := 14) (by decide +kernel) (by decide +kernel)
theorem aw_15 : Cond.selects RX4 yX4_flatness yX4_flatness ∈ AW := aw_mem (i := 15) (by decide +kernel) (by decide +kernel)
theorem aw_16 : Cond.selects RX4 yX4_flatWheels yX4_flatWheels ∈ AW := aw_mem (i := 16) (by decide +kernel) (by decide +kernel)
theorem aw_17 : Cond.selects RX5 yX5_cutOf yX5_cutOf ∈ AW := aw_mem (i := 17) (by decide +kernel) (by decide +kernel)
theorem aw_18 : Cond.selects RX5 yX5_most yX5_most ∈ AW := aw_mem (i := 18) (by decide +kernel) (by decide +kernel)
theorem aw_19 : Cond.selects RX5 yX5_least yX5_least ∈ AW := aw_mem (i := 19) (by decide +kernel) (by decide +kernel)
theorem aw_20 : Cond.selects RX5 yX5_lawOf yX5_lawOf ∈ AW := aw_mem (i := 20) (by decide +kernel) (by decide +kernel)
theorem aw_21 : Cond.selects RX5 yX5_keeps yX5_keeps ∈ AW := aw_mem (i := 21) (by decide +kernel) (by decide +kernel)
theorem aw_22 : Cond.selects RX5 yX5_hands yX5_hands ∈ AW := aw_mem (i := 22) (by decide +kernel) (by decide +kernel)
theorem aw_23 : Cond.selects RX5 yX5_leftOut yX5_leftOut ∈ AW := aw_mem (i := 23) (by decide +kernel) (by decide +kernel)
theorem aw_24 : Cond.selects RX5 yX5_agree yX5_agree ∈ AW := aw_mem (i := 24) (by decide +kernel) (by decide +kernel)
theorem aw_25 : Cond.selects RX5 yX5_isFlat yX5_isFlat ∈ AW := aw_mem (i := 25) (by decide +kernel) (by decide +kernel)
theorem aw_26 : Cond.initialized RL ∈ AW := aw_mem (i := 26) (by decide +kernel) (by decide +kernel)
theorem aw_27 : Cond.initialized RX4 ∈ AW := aw_mem (i := 27) (by decide +kernel) (by decide +kernel)
theorem aw_28 : Cond.initialized RX0 ∈ AW := aw_mem (i := 28) (by decide +kernel) (by decide +kernel)
theorem aw_29 : Cond.initialized RX2 ∈ AW := aw_mem (i := 29) (by decide +kernel) (by decide +kernel)
theorem aw_30 : Cond.initialized RX1 ∈ AW := aw_mem (i := 30) (by decide +kernel) (by decide +kernel)
theorem aw_31 : Cond.initialized RX3 ∈ AW := aw_mem (i := 31) (by decide +kernel) (by decide +kernel)
theorem aw_32 : Cond.initialized RX5 ∈ AW := aw_mem (i := 32) (by decide +kernel) (by decide +kernel)
theorem aw_33 : Cond.initialized RJ9 ∈ AW := aw_mem (i := 33) (by decide +kernel) (by decide +kernel)
theorem aw_34 : Cond.classLink RL 7 RX4 ∈ AW := aw_mem (i := 34) (by decide +kernel) (by decide +kernel)
theorem aw_35 : Cond.instantiable RX4 9 ∈ AW := aw_mem (i := 35) (by decide +kernel) (by decide +kernel)
theorem aw_36 : Cond.methodLink RL 9 yX4_init ∈ AW := aw_mem (i := 36) (by decide +kernel) (by decide +kernel)
theorem aw_37 : Cond.instanceMethod yX4_init ∈ AW := aw_mem (i := 37) (by decide +kernel) (by decide +kernel)
theorem aw_38 : Cond.code yX4_init cX4_init 2 none ∈ AW := aw_mem (i := 38) (by decide +kernel) (by decide +kernel)
theorem aw_39 : Cond.methodLink RX4 1 objectInit ∈ AW := aw_mem (i := 39) (by decide +kernel) (by decide +kernel)
theorem aw_40 : Cond.instanceMethod objectInit ∈ AW := aw_mem (i := 40) (by decide +kernel) (by decide +kernel)
theorem aw_41 : Cond.code objectInit ⟨#[0xb1]⟩ 1 none ∈ AW := aw_mem (i := 41) (by decide +kernel) (by decide +kernel)
theorem aw_42 : Cond.classLink RX4 9 RX3 ∈ AW := aw_mem (i := 42) (by decide +kernel) (by decide +kernel)
theorem aw_44 : Cond.classLink RX4 15 RX0 ∈ AW := aw_mem (i := 44) (by decide +kernel) (by decide +kernel)
theorem aw_45 : Cond.instantiable RX0 1 ∈ AW := aw_mem (i := 45) (by decide +kernel) (by decide +kernel)
theorem aw_47 : Cond.instanceMethod yX0_init ∈ AW := aw_mem (i := 47) (by decide +kernel) (by decide +kernel)
theorem aw_48 : Cond.code yX0_init cX0_init 1 none ∈ AW := aw_mem (i := 48) (by decide +kernel) (by decide +kernel)
theorem aw_49 : Cond.methodLink RX0 1 objectInit ∈ AW := aw_mem (i := 49) (by decide +kernel) (by decide +kernel)
theorem aw_50 : Cond.fieldLink RX0 7 "WheelShop$Laws" "apart" "[I" ∈ AW := aw_mem (i := 50) (by decide +kernel) (by decide +kernel)
theorem aw_51 : Cond.fieldLink RX4 96 "WheelShop$Laws" "apart" "[I" ∈ AW := aw_mem (i := 51) (by decide +kernel) (by decide +kernel)
theorem aw_55 : Cond.arrayClass .int ∈ AW := aw_mem (i := 55) (by decide +kernel) (by decide +kernel)
theorem aw_56 : Cond.classLink RX4 22 RX2 ∈ AW := aw_mem (i := 56) (by decide +kernel) (by decide +kernel)
theorem aw_57 : Cond.instantiable RX2 5 ∈ AW := aw_mem (i := 57) (by decide +kernel) (by decide +kernel)
theorem aw_59 : Cond.instanceMethod yX2_init ∈ AW := aw_mem (i := 59) (by decide +kernel) (by decide +kernel)
theorem aw_60 : Cond.code yX2_init cX2_init 1 none ∈ AW := aw_mem (i := 60) (by decide +kernel) (by decide +kernel)
theorem aw_61 : Cond.methodLink RX2 1 objectInit ∈ AW := aw_mem (i := 61) (by decide +kernel) (by decide +kernel)
theorem aw_62 : Cond.fieldLink RX2 22 "WheelShop$Spares" "held" "I" ∈ AW := aw_mem (i := 62) (by decide +kernel) (by decide +kernel)
theorem aw_63 : Cond.fieldLink RX4 109 "WheelShop$Spares" "held" "I" ∈ AW := aw_mem (i := 63) (by decide +kernel) (by decide +kernel)
theorem aw_64 : Cond.fieldLink RX2 9 "WheelShop$Spares" "sizes" "[I" ∈ AW := aw_mem (i := 64) (by decide +kernel) (by decide +kernel)
theorem aw_65 : Cond.fieldLink RX2 13 "WheelShop$Spares" "sorted" "[I" ∈ AW := aw_mem (i := 65) (by decide +kernel) (by decide +kernel)
theorem aw_66 : Cond.fieldLink RX2 16 "WheelShop$Spares" "pairsOf" "[I" ∈ AW := aw_mem (i := 66) (by decide +kernel) (by decide +kernel)
theorem aw_67 : Cond.fieldLink RX2 19 "WheelShop$Spares" "sumOf" "[I" ∈ AW := aw_mem (i := 67) (by decide +kernel) (by decide +kernel)
theorem aw_79 : Cond.classLink RX4 29 RX1 ∈ AW := aw_mem (i := 79) (by decide +kernel) (by decide +kernel)
theorem aw_80 : Cond.instantiable RX1 9 ∈ AW := aw_mem (i := 80) (by decide +kernel) (by decide +kernel)
theorem aw_82 : Cond.instanceMethod yX1_init ∈ AW := aw_mem (i := 82) (by decide +kernel) (by decide +kernel)
theorem aw_83 : Cond.code yX1_init cX1_init 1 none ∈ AW := aw_mem (i := 83) (by decide +kernel) (by decide +kernel)
theorem aw_84 : Cond.methodLink RX1 3 objectInit ∈ AW := aw_mem (i := 84) (by decide +kernel) (by decide +kernel)
theorem aw_85 : Cond.fieldLink RX1 36 "WheelShop$Readings" "told" "I" ∈ AW := aw_mem (i := 85) (by decide +kernel) (by decide +kernel)
theorem aw_86 : Cond.fieldLink RX4 125 "WheelShop$Readings" "told" "I" ∈ AW := aw_mem (i := 86) (by decide +kernel) (by decide +kernel)
theorem aw_87 : Cond.fieldLink RX1 11 "WheelShop$Readings" "wheelOf" "[I" ∈ AW := aw_mem (i := 87) (by decide +kernel) (by decide +kernel)
theorem aw_88 : Cond.fieldLink RX1 15 "WheelShop$Readings" "byOf" "[I" ∈ AW := aw_mem (i := 88) (by decide +kernel) (by decide +kernel)
theorem aw_89 : Cond.fieldLink RX1 18 "WheelShop$Readings" "sizeOf" "[I" ∈ AW := aw_mem (i := 89) (by decide +kernel) (by decide +kernel)
theorem aw_90 : Cond.fieldLink RX1 21 "WheelShop$Readings" "handLow" "[I" ∈ AW := aw_mem (i := 90) (by decide +kernel) (by decide +kernel)
theorem aw_91 : Cond.fieldLink RX1 24 "WheelShop$Readings" "handHigh" "[I" ∈ AW := aw_mem (i := 91) (by decide +kernel) (by decide +kernel)
theorem aw_92 : Cond.fieldLink RX1 27 "WheelShop$Readings" "readerLow" "[I" ∈ AW := aw_mem (i := 92) (by decide +kernel) (by decide +kernel)
theorem aw_93 : Cond.fieldLink RX1 30 "WheelShop$Readings" "readerHigh" "[I" ∈ AW := aw_mem (i := 93) (by decide +kernel) (by decide +kernel)
theorem aw_94 : Cond.fieldLink RX1 33 "WheelShop$Readings" "mostAgreeing" "[I" ∈ AW := aw_mem (i := 94) (by decide +kernel) (by decide +kernel)
theorem aw_114 : Cond.instantiable RX3 7 ∈ AW := aw_mem (i := 114) (by decide +kernel) (by decide +kernel)
theorem aw_116 : Cond.instanceMethod yX3_init ∈ AW := aw_mem (i := 116) (by decide +kernel) (by decide +kernel)
theorem aw_117 : Cond.code yX3_init cX3_init 1 none ∈ AW := aw_mem (i := 117) (by decide +kernel) (by decide +kernel)
theorem aw_118 : Cond.methodLink RX3 3 objectInit ∈ AW := aw_mem (i := 118) (by decide +kernel) (by decide +kernel)
theorem aw_119 : Cond.fieldLink RX3 11 "WheelShop$Wheel" "depths" "[I" ∈ AW := aw_mem (i := 119) (by decide +kernel) (by decide +kernel)
theorem aw_120 : Cond.fieldLink RX4 59 "WheelShop$Wheel" "depths" "[I" ∈ AW := aw_mem (i := 120) (by decide +kernel) (by decide +kernel)
theorem aw_121 : Cond.fieldLink RX3 15 "WheelShop$Wheel" "size" "I" ∈ AW := aw_mem (i := 121) (by decide +kernel) (by decide +kernel)
theorem aw_122 : Cond.fieldLink RX4 56 "WheelShop$Wheel" "size" "I" ∈ AW := aw_mem (i := 122) (by decide +kernel) (by decide +kernel)
theorem aw_123 : Cond.fieldLink RX4 62 "WheelShop$Wheel" "wear" "I" ∈ AW := aw_mem (i := 123) (by decide +kernel) (by decide +kernel)
theorem aw_124 : Cond.fieldLink RX3 51 "WheelShop$Wheel" "wear" "I" ∈ AW := aw_mem (i := 124) (by decide +kernel) (by decide +kernel)
theorem aw_125 : Cond.fieldLink RX4 65 "WheelShop$Wheel" "road" "I" ∈ AW := aw_mem (i := 125) (by decide +kernel) (by decide +kernel)
theorem aw_126 : Cond.fieldLink RX3 48 "WheelShop$Wheel" "road" "I" ∈ AW := aw_mem (i := 126) (by decide +kernel) (by decide +kernel)
theorem aw_127 : Cond.fieldLink RX3 19 "WheelShop$Wheel" "blows" "[I" ∈ AW := aw_mem (i := 127) (by decide +kernel) (by decide +kernel)
theorem aw_128 : Cond.fieldLink RX3 57 "WheelShop$Wheel" "blowsKept" "I" ∈ AW := aw_mem (i := 128) (by decide +kernel) (by decide +kernel)
theorem aw_129 : Cond.fieldLink RX3 54 "WheelShop$Wheel" "oldestBlow" "I" ∈ AW := aw_mem (i := 129) (by decide +kernel) (by decide +kernel)
theorem aw_145 : Cond.fieldLink RX4 11 "WheelShop" "wheels" "[LWheelShop$Wheel;" ∈ AW := aw_mem (i := 145) (by decide +kernel) (by decide +kernel)
theorem aw_146 : Cond.fieldLink RX4 18 "WheelShop" "laws" "LWheelShop$Laws;" ∈ AW := aw_mem (i := 146) (by decide +kernel) (by decide +kernel)
theorem aw_147 : Cond.fieldLink RX4 25 "WheelShop" "spares" "LWheelShop$Spares;" ∈ AW := aw_mem (i := 147) (by decide +kernel) (by decide +kernel)
theorem aw_148 : Cond.fieldLink RX4 32 "WheelShop" "readings" "LWheelShop$Readings;" ∈ AW := aw_mem (i := 148) (by decide +kernel) (by decide +kernel)
theorem aw_149 : Cond.fieldLink RX4 36 "WheelShop" "sizes" "[I" ∈ AW := aw_mem (i := 149) (by decide +kernel) (by decide +kernel)
theorem aw_150 : Cond.fieldLink RX4 40 "WheelShop" "thinning" "I" ∈ AW := aw_mem (i := 150) (by decide +kernel) (by decide +kernel)
theorem aw_151 : Cond.fieldLink RX4 44 "WheelShop" "bar" "I" ∈ AW := aw_mem (i := 151) (by decide +kernel) (by decide +kernel)
theorem aw_152 : Cond.fieldLink RX4 86 "WheelShop" "turnings" "I" ∈ AW := aw_mem (i := 152) (by decide +kernel) (by decide +kernel)
theorem aw_153 : Cond.fieldLink RX4 71 "WheelShop" "trace" "J" ∈ AW := aw_mem (i := 153) (by decide +kernel) (by decide +kernel)
theorem aw_173 : Cond.methodLink RL 13 yX4_size ∈ AW := aw_mem (i := 173) (by decide +kernel) (by decide +kernel)
theorem aw_174 : Cond.instanceMethod yX4_size ∈ AW := aw_mem (i := 174) (by decide +kernel) (by decide +kernel)
theorem aw_175 : Cond.selects RX4 yX4_size yX4_size ∈ AW := aw_mem (i := 175) (by decide +kernel) (by decide +kernel)
theorem aw_176 : Cond.code yX4_size cX4_size 4 (some .int) ∈ AW := aw_mem (i := 176) (by decide +kernel) (by decide +kernel)
theorem aw_177 : Cond.methodLink RX4 48 yX4_isWheel ∈ AW := aw_mem (i := 177) (by decide +kernel) (by decide +kernel)
theorem aw_178 : Cond.static yX4_isWheel ∈ AW := aw_mem (i := 178) (by decide +kernel) (by decide +kernel)
theorem aw_179 : Cond.code yX4_isWheel cX4_isWheel 1 (some .boolean) ∈ AW := aw_mem (i := 179) (by decide +kernel) (by decide +kernel)
theorem aw_180 : Cond.methodLink RX4 52 yX4_within ∈ AW := aw_mem (i := 180) (by decide +kernel) (by decide +kernel)
theorem aw_181 : Cond.static yX4_within ∈ AW := aw_mem (i := 181) (by decide +kernel) (by decide +kernel)
theorem aw_182 : Cond.code yX4_within cX4_within 3 (some .boolean) ∈ AW := aw_mem (i := 182) (by decide +kernel) (by decide +kernel)
theorem aw_183 : Cond.methodLink RL 18 yX4_depth ∈ AW := aw_mem (i := 183) (by decide +kernel) (by decide +kernel)
theorem aw_184 : Cond.instanceMethod yX4_depth ∈ AW := aw_mem (i := 184) (by decide +kernel) (by decide +kernel)
theorem aw_185 : Cond.selects RX4 yX4_depth yX4_depth ∈ AW := aw_mem (i := 185) (by decide +kernel) (by decide +kernel)
theorem aw_186 : Cond.code yX4_depth cX4_depth 5 (some .int) ∈ AW := aw_mem (i := 186) (by decide +kernel) (by decide +kernel)
theorem aw_187 : Cond.methodLink RL 23 yX4_wear ∈ AW := aw_mem (i := 187) (by decide +kernel) (by decide +kernel)
theorem aw_188 : Cond.instanceMethod yX4_wear ∈ AW := aw_mem (i := 188) (by decide +kernel) (by decide +kernel)
theorem aw_189 : Cond.selects RX4 yX4_wear yX4_wear ∈ AW := aw_mem (i := 189) (by decide +kernel) (by decide +kernel)
theorem aw_190 : Cond.code yX4_wear cX4_wear 4 (some .int) ∈ AW := aw_mem (i := 190) (by decide +kernel) (by decide +kernel)
theorem aw_191 : Cond.methodLink RL 27 yX4_about ∈ AW := aw_mem (i := 191) (by decide +kernel) (by decide +kernel)
theorem aw_192 : Cond.instanceMethod yX4_about ∈ AW := aw_mem (i := 192) (by decide +kernel) (by decide +kernel)
theorem aw_193 : Cond.selects RX4 yX4_about yX4_about ∈ AW := aw_mem (i := 193) (by decide +kernel) (by decide +kernel)
theorem aw_194 : Cond.code yX4_about cX4_about 4 (some .int) ∈ AW := aw_mem (i := 194) (by decide +kernel) (by decide +kernel)
theorem aw_195 : Cond.methodLink RL 31 yX4_thinning ∈ AW := aw_mem (i := 195) (by decide +kernel) (by decide +kernel)
theorem aw_196 : Cond.instanceMethod yX4_thinning ∈ AW := aw_mem (i := 196) (by decide +kernel) (by decide +kernel)
theorem aw_197 : Cond.selects RX4 yX4_thinning yX4_thinning ∈ AW := aw_mem (i := 197) (by decide +kernel) (by decide +kernel)
theorem aw_198 : Cond.code yX4_thinning cX4_thinning 3 (some .int) ∈ AW := aw_mem (i := 198) (by decide +kernel) (by decide +kernel)
theorem aw_199 : Cond.methodLink RL 36 yX4_cut ∈ AW := aw_mem (i := 199) (by decide +kernel) (by decide +kernel)
theorem aw_200 : Cond.instanceMethod yX4_cut ∈ AW := aw_mem (i := 200) (by decide +kernel) (by decide +kernel)
theorem aw_201 : Cond.selects RX4 yX4_cut yX4_cut ∈ AW := aw_mem (i := 201) (by decide +kernel) (by decide +kernel)
theorem aw_202 : Cond.code yX4_cut cX4_cut 3 (some .int) ∈ AW := aw_mem (i := 202) (by decide +kernel) (by decide +kernel)
theorem aw_203 : Cond.methodLink RX4 68 yX4_isKind ∈ AW := aw_mem (i := 203) (by decide +kernel) (by decide +kernel)
theorem aw_204 : Cond.static yX4_isKind ∈ AW := aw_mem (i := 204) (by decide +kernel) (by decide +kernel)
theorem aw_205 : Cond.code yX4_isKind cX4_isKind 1 (some .boolean) ∈ AW := aw_mem (i := 205) (by decide +kernel) (by decide +kernel)
theorem aw_206 : Cond.fieldLink RX4 75 "WheelShop" "TRACE_OF_KIND" "[I" ∈ AW := aw_mem (i := 206) (by decide +kernel) (by decide +kernel)
theorem aw_208 : Cond.methodLink RX4 78 yX3_neededCut ∈ AW := aw_mem (i := 208) (by decide +kernel) (by decide +kernel)
theorem aw_209 : Cond.instanceMethod yX3_neededCut ∈ AW := aw_mem (i := 209) (by decide +kernel) (by decide +kernel)
theorem aw_210 : Cond.selects RX3 yX3_neededCut yX3_neededCut ∈ AW := aw_mem (i := 210) (by decide +kernel) (by decide +kernel)
theorem aw_211 : Cond.code yX3_neededCut cX3_neededCut 3 (some .int) ∈ AW := aw_mem (i := 211) (by decide +kernel) (by decide +kernel)
theorem aw_212 : Cond.methodLink RX3 22 yX3_fullCut ∈ AW := aw_mem (i := 212) (by decide +kernel) (by decide +kernel)
theorem aw_214 : Cond.instanceMethod yX3_fullCut ∈ AW := aw_mem (i := 214) (by decide +kernel) (by decide +kernel)
theorem aw_215 : Cond.code yX3_fullCut cX3_fullCut 1 (some .int) ∈ AW := aw_mem (i := 215) (by decide +kernel) (by decide +kernel)
theorem aw_216 : Cond.methodLink RX3 33 yX3_greatestDepth ∈ AW := aw_mem (i := 216) (by decide +kernel) (by decide +kernel)
theorem aw_218 : Cond.instanceMethod yX3_greatestDepth ∈ AW := aw_mem (i := 218) (by decide +kernel) (by decide +kernel)
theorem aw_219 : Cond.code yX3_greatestDepth cX3_greatestDepth 3 (some .int) ∈ AW := aw_mem (i := 219) (by decide +kernel) (by decide +kernel)
theorem aw_220 : Cond.methodLink RX3 39 Lib.Math.max.name ∈ AW := aw_mem (i := 220) (by decide +kernel) (by decide +kernel)
theorem aw_221 : Cond.static Lib.Math.max.name ∈ AW := aw_mem (i := 221) (by decide +kernel) (by decide +kernel)
theorem aw_222 : Cond.code Lib.Math.max.name Lib.Math.max.code 2 (some .int) ∈ AW := aw_mem (i := 222) (by decide +kernel) (by decide +kernel)
theorem aw_223 : Cond.methodLink RX3 36 yX3_leastDepth ∈ AW := aw_mem (i := 223) (by decide +kernel) (by decide +kernel)
theorem aw_225 : Cond.instanceMethod yX3_leastDepth ∈ AW := aw_mem (i := 225) (by decide +kernel) (by decide +kernel)
theorem aw_226 : Cond.code yX3_leastDepth cX3_leastDepth 3 (some .int) ∈ AW := aw_mem (i := 226) (by decide +kernel) (by decide +kernel)
theorem aw_227 : Cond.methodLink RX3 45 Lib.Math.min.name ∈ AW := aw_mem (i := 227) (by decide +kernel) (by decide +kernel)
theorem aw_228 : Cond.static Lib.Math.min.name ∈ AW := aw_mem (i := 228) (by decide +kernel) (by decide +kernel)
theorem aw_229 : Cond.code Lib.Math.min.name Lib.Math.min.code 2 (some .int) ∈ AW := aw_mem (i := 229) (by decide +kernel) (by decide +kernel)
theorem aw_230 : Cond.methodLink RX3 26 yX3_thinCut ∈ AW := aw_mem (i := 230) (by decide +kernel) (by decide +kernel)
theorem aw_232 : Cond.instanceMethod yX3_thinCut ∈ AW := aw_mem (i := 232) (by decide +kernel) (by decide +kernel)
theorem aw_233 : Cond.code yX3_thinCut cX3_thinCut 3 (some .int) ∈ AW := aw_mem (i := 233) (by decide +kernel) (by decide +kernel)
theorem aw_234 : Cond.methodLink RX3 30 yX3_evenCut ∈ AW := aw_mem (i := 234) (by decide +kernel) (by decide +kernel)
theorem aw_236 : Cond.instanceMethod yX3_evenCut ∈ AW := aw_mem (i := 236) (by decide +kernel) (by decide +kernel)
theorem aw_237 : Cond.code yX3_evenCut cX3_evenCut 3 (some .int) ∈ AW := aw_mem (i := 237) (by decide +kernel) (by decide +kernel)
theorem aw_238 : Cond.methodLink RL 40 yX4_turn ∈ AW := aw_mem (i := 238) (by decide +kernel) (by decide +kernel)
theorem aw_239 : Cond.instanceMethod yX4_turn ∈ AW := aw_mem (i := 239) (by decide +kernel) (by decide +kernel)
theorem aw_240 : Cond.selects RX4 yX4_turn yX4_turn ∈ AW := aw_mem (i := 240) (by decide +kernel) (by decide +kernel)
theorem aw_241 : Cond.code yX4_turn cX4_turn 4 (some .int) ∈ AW := aw_mem (i := 241) (by decide +kernel) (by decide +kernel)
theorem aw_242 : Cond.methodLink RX4 82 yX3_takeOff ∈ AW := aw_mem (i := 242) (by decide +kernel) (by decide +kernel)
theorem aw_243 : Cond.instanceMethod yX3_takeOff ∈ AW := aw_mem (i := 243) (by decide +kernel) (by decide +kernel)
theorem aw_244 : Cond.selects RX3 yX3_takeOff yX3_takeOff ∈ AW := aw_mem (i := 244) (by decide +kernel) (by decide +kernel)
theorem aw_245 : Cond.code yX3_takeOff cX3_takeOff 4 none ∈ AW := aw_mem (i := 245) (by decide +kernel) (by decide +kernel)
theorem aw_246 : Cond.methodLink RL 44 yX4_miles ∈ AW := aw_mem (i := 246) (by decide +kernel) (by decide +kernel)
theorem aw_247 : Cond.instanceMethod yX4_miles ∈ AW := aw_mem (i := 247) (by decide +kernel) (by decide +kernel)
theorem aw_248 : Cond.selects RX4 yX4_miles yX4_miles ∈ AW := aw_mem (i := 248) (by decide +kernel) (by decide +kernel)
theorem aw_249 : Cond.code yX4_miles cX4_miles 4 (some .int) ∈ AW := aw_mem (i := 249) (by decide +kernel) (by decide +kernel)
theorem aw_250 : Cond.methodLink RX4 89 yX3_run ∈ AW := aw_mem (i := 250) (by decide +kernel) (by decide +kernel)
theorem aw_251 : Cond.instanceMethod yX3_run ∈ AW := aw_mem (i := 251) (by decide +kernel) (by decide +kernel)
theorem aw_252 : Cond.selects RX3 yX3_run yX3_run ∈ AW := aw_mem (i := 252) (by decide +kernel) (by decide +kernel)
theorem aw_253 : Cond.code yX3_run cX3_run 5 none ∈ AW := aw_mem (i := 253) (by decide +kernel) (by decide +kernel)
theorem aw_254 : Cond.methodLink RX4 92 yX3_milesLeft ∈ AW := aw_mem (i := 254) (by decide +kernel) (by decide +kernel)
theorem aw_255 : Cond.instanceMethod yX3_milesLeft ∈ AW := aw_mem (i := 255) (by decide +kernel) (by decide +kernel)
theorem aw_256 : Cond.selects RX3 yX3_milesLeft yX3_milesLeft ∈ AW := aw_mem (i := 256) (by decide +kernel) (by decide +kernel)
theorem aw_257 : Cond.code yX3_milesLeft cX3_milesLeft 1 (some .int) ∈ AW := aw_mem (i := 257) (by decide +kernel) (by decide +kernel)
theorem aw_258 : Cond.methodLink RL 48 yX4_law ∈ AW := aw_mem (i := 258) (by decide +kernel) (by decide +kernel)
theorem aw_259 : Cond.instanceMethod yX4_law ∈ AW := aw_mem (i := 259) (by decide +kernel) (by decide +kernel)
theorem aw_260 : Cond.selects RX4 yX4_law yX4_law ∈ AW := aw_mem (i := 260) (by decide +kernel) (by decide +kernel)
theorem aw_261 : Cond.code yX4_law cX4_law 4 (some .int) ∈ AW := aw_mem (i := 261) (by decide +kernel) (by decide +kernel)
theorem aw_262 : Cond.methodLink RL 52 yX4_broken ∈ AW := aw_mem (i := 262) (by decide +kernel) (by decide +kernel)
theorem aw_263 : Cond.instanceMethod yX4_broken ∈ AW := aw_mem (i := 263) (by decide +kernel) (by decide +kernel)
theorem aw_264 : Cond.selects RX4 yX4_broken yX4_broken ∈ AW := aw_mem (i := 264) (by decide +kernel) (by decide +kernel)
theorem aw_265 : Cond.code yX4_broken cX4_broken 1 (some .int) ∈ AW := aw_mem (i := 265) (by decide +kernel) (by decide +kernel)
theorem aw_266 : Cond.methodLink RX4 99 yX4_fillSizes ∈ AW := aw_mem (i := 266) (by decide +kernel) (by decide +kernel)
theorem aw_268 : Cond.instanceMethod yX4_fillSizes ∈ AW := aw_mem (i := 268) (by decide +kernel) (by decide +kernel)
theorem aw_269 : Cond.code yX4_fillSizes cX4_fillSizes 2 none ∈ AW := aw_mem (i := 269) (by decide +kernel) (by decide +kernel)
theorem aw_270 : Cond.methodLink RX4 102 yX0_brokenPairs ∈ AW := aw_mem (i := 270) (by decide +kernel) (by decide +kernel)
theorem aw_271 : Cond.instanceMethod yX0_brokenPairs ∈ AW := aw_mem (i := 271) (by decide +kernel) (by decide +kernel)
theorem aw_272 : Cond.selects RX0 yX0_brokenPairs yX0_brokenPairs ∈ AW := aw_mem (i := 272) (by decide +kernel) (by decide +kernel)
theorem aw_273 : Cond.code yX0_brokenPairs cX0_brokenPairs 5 (some .int) ∈ AW := aw_mem (i := 273) (by decide +kernel) (by decide +kernel)
theorem aw_274 : Cond.methodLink RX0 13 Lib.Math.abs.name ∈ AW := aw_mem (i := 274) (by decide +kernel) (by decide +kernel)
theorem aw_275 : Cond.static Lib.Math.abs.name ∈ AW := aw_mem (i := 275) (by decide +kernel) (by decide +kernel)
theorem aw_276 : Cond.code Lib.Math.abs.name Lib.Math.abs.code 1 (some .int) ∈ AW := aw_mem (i := 276) (by decide +kernel) (by decide +kernel)
theorem aw_277 : Cond.methodLink RX0 19 yX0_between ∈ AW := aw_mem (i := 277) (by decide +kernel) (by decide +kernel)
theorem aw_279 : Cond.instanceMethod yX0_between ∈ AW := aw_mem (i := 279) (by decide +kernel) (by decide +kernel)
theorem aw_280 : Cond.code yX0_between cX0_between 3 (some .int) ∈ AW := aw_mem (i := 280) (by decide +kernel) (by decide +kernel)
theorem aw_281 : Cond.methodLink RL 57 yX4_kept ∈ AW := aw_mem (i := 281) (by decide +kernel) (by decide +kernel)
theorem aw_282 : Cond.instanceMethod yX4_kept ∈ AW := aw_mem (i := 282) (by decide +kernel) (by decide +kernel)
theorem aw_283 : Cond.selects RX4 yX4_kept yX4_kept ∈ AW := aw_mem (i := 283) (by decide +kernel) (by decide +kernel)
theorem aw_284 : Cond.code yX4_kept cX4_kept 2 (some .int) ∈ AW := aw_mem (i := 284) (by decide +kernel) (by decide +kernel)
theorem aw_285 : Cond.methodLink RX4 106 yX4_fillKeptSizes ∈ AW := aw_mem (i := 285) (by decide +kernel) (by decide +kernel)
theorem aw_287 : Cond.instanceMethod yX4_fillKeptSizes ∈ AW := aw_mem (i := 287) (by decide +kernel) (by decide +kernel)
theorem aw_288 : Cond.code yX4_fillKeptSizes cX4_fillKeptSizes 1 none ∈ AW := aw_mem (i := 288) (by decide +kernel) (by decide +kernel)
theorem aw_289 : Cond.methodLink RX4 159 yX0_lower ∈ AW := aw_mem (i := 289) (by decide +kernel) (by decide +kernel)
theorem aw_290 : Cond.instanceMethod yX0_lower ∈ AW := aw_mem (i := 290) (by decide +kernel) (by decide +kernel)
theorem aw_291 : Cond.selects RX0 yX0_lower yX0_lower ∈ AW := aw_mem (i := 291) (by decide +kernel) (by decide +kernel)
theorem aw_292 : Cond.code yX0_lower cX0_lower 4 none ∈ AW := aw_mem (i := 292) (by decide +kernel) (by decide +kernel)
theorem aw_293 : Cond.methodLink RX0 23 yX0_lowerOnce ∈ AW := aw_mem (i := 293) (by decide +kernel) (by decide +kernel)
theorem aw_295 : Cond.instanceMethod yX0_lowerOnce ∈ AW := aw_mem (i := 295) (by decide +kernel) (by decide +kernel)
theorem aw_296 : Cond.code yX0_lowerOnce cX0_lowerOnce 6 (some .boolean) ∈ AW := aw_mem (i := 296) (by decide +kernel) (by decide +kernel)
theorem aw_297 : Cond.methodLink RL 61 yX4_steel ∈ AW := aw_mem (i := 297) (by decide +kernel) (by decide +kernel)
theorem aw_298 : Cond.instanceMethod yX4_steel ∈ AW := aw_mem (i := 298) (by decide +kernel) (by decide +kernel)
theorem aw_299 : Cond.selects RX4 yX4_steel yX4_steel ∈ AW := aw_mem (i := 299) (by decide +kernel) (by decide +kernel)
theorem aw_300 : Cond.code yX4_steel cX4_steel 3 (some .int) ∈ AW := aw_mem (i := 300) (by decide +kernel) (by decide +kernel)
theorem aw_301 : Cond.methodLink RL 65 yX4_even ∈ AW := aw_mem (i := 301) (by decide +kernel) (by decide +kernel)
theorem aw_302 : Cond.instanceMethod yX4_even ∈ AW := aw_mem (i := 302) (by decide +kernel) (by decide +kernel)
theorem aw_303 : Cond.selects RX4 yX4_even yX4_even ∈ AW := aw_mem (i := 303) (by decide +kernel) (by decide +kernel)
theorem aw_304 : Cond.code yX4_even cX4_even 3 (some .int) ∈ AW := aw_mem (i := 304) (by decide +kernel) (by decide +kernel)
theorem aw_305 : Cond.methodLink RL 69 yX4_spare ∈ AW := aw_mem (i := 305) (by decide +kernel) (by decide +kernel)
theorem aw_306 : Cond.instanceMethod yX4_spare ∈ AW := aw_mem (i := 306) (by decide +kernel) (by decide +kernel)
theorem aw_307 : Cond.selects RX4 yX4_spare yX4_spare ∈ AW := aw_mem (i := 307) (by decide +kernel) (by decide +kernel)
theorem aw_308 : Cond.code yX4_spare cX4_spare 2 (some .int) ∈ AW := aw_mem (i := 308) (by decide +kernel) (by decide +kernel)
theorem aw_309 : Cond.methodLink RX4 112 yX2_store ∈ AW := aw_mem (i := 309) (by decide +kernel) (by decide +kernel)
theorem aw_310 : Cond.instanceMethod yX2_store ∈ AW := aw_mem (i := 310) (by decide +kernel) (by decide +kernel)
theorem aw_311 : Cond.selects RX2 yX2_store yX2_store ∈ AW := aw_mem (i := 311) (by decide +kernel) (by decide +kernel)
theorem aw_312 : Cond.code yX2_store cX2_store 2 (some .int) ∈ AW := aw_mem (i := 312) (by decide +kernel) (by decide +kernel)
theorem aw_313 : Cond.methodLink RL 73 yX4_sell ∈ AW := aw_mem (i := 313) (by decide +kernel) (by decide +kernel)
theorem aw_314 : Cond.instanceMethod yX4_sell ∈ AW := aw_mem (i := 314) (by decide +kernel) (by decide +kernel)
theorem aw_315 : Cond.selects RX4 yX4_sell yX4_sell ∈ AW := aw_mem (i := 315) (by decide +kernel) (by decide +kernel)
theorem aw_316 : Cond.code yX4_sell cX4_sell 1 (some .int) ∈ AW := aw_mem (i := 316) (by decide +kernel) (by decide +kernel)
theorem aw_317 : Cond.methodLink RL 77 yX4_pairs ∈ AW := aw_mem (i := 317) (by decide +kernel) (by decide +kernel)
theorem aw_318 : Cond.instanceMethod yX4_pairs ∈ AW := aw_mem (i := 318) (by decide +kernel) (by decide +kernel)
theorem aw_319 : Cond.selects RX4 yX4_pairs yX4_pairs ∈ AW := aw_mem (i := 319) (by decide +kernel) (by decide +kernel)
theorem aw_320 : Cond.code yX4_pairs cX4_pairs 2 (some .int) ∈ AW := aw_mem (i := 320) (by decide +kernel) (by decide +kernel)
theorem aw_321 : Cond.methodLink RX4 116 yX2_pairUp ∈ AW := aw_mem (i := 321) (by decide +kernel) (by decide +kernel)
theorem aw_322 : Cond.instanceMethod yX2_pairUp ∈ AW := aw_mem (i := 322) (by decide +kernel) (by decide +kernel)
theorem aw_323 : Cond.selects RX2 yX2_pairUp yX2_pairUp ∈ AW := aw_mem (i := 323) (by decide +kernel) (by decide +kernel)
theorem aw_324 : Cond.code yX2_pairUp cX2_pairUp 3 none ∈ AW := aw_mem (i := 324) (by decide +kernel) (by decide +kernel)
theorem aw_325 : Cond.methodLink RX2 26 yX2_sort ∈ AW := aw_mem (i := 325) (by decide +kernel) (by decide +kernel)
theorem aw_327 : Cond.instanceMethod yX2_sort ∈ AW := aw_mem (i := 327) (by decide +kernel) (by decide +kernel)
theorem aw_328 : Cond.code yX2_sort cX2_sort 3 none ∈ AW := aw_mem (i := 328) (by decide +kernel) (by decide +kernel)
theorem aw_329 : Cond.methodLink RX2 29 yX2_pairLastTwo ∈ AW := aw_mem (i := 329) (by decide +kernel) (by decide +kernel)
theorem aw_331 : Cond.instanceMethod yX2_pairLastTwo ∈ AW := aw_mem (i := 331) (by decide +kernel) (by decide +kernel)
theorem aw_332 : Cond.code yX2_pairLastTwo cX2_pairLastTwo 5 none ∈ AW := aw_mem (i := 332) (by decide +kernel) (by decide +kernel)
theorem aw_333 : Cond.methodLink RX4 119 yX2_bestPairs ∈ AW := aw_mem (i := 333) (by decide +kernel) (by decide +kernel)
theorem aw_334 : Cond.instanceMethod yX2_bestPairs ∈ AW := aw_mem (i := 334) (by decide +kernel) (by decide +kernel)
theorem aw_335 : Cond.selects RX2 yX2_bestPairs yX2_bestPairs ∈ AW := aw_mem (i := 335) (by decide +kernel) (by decide +kernel)
theorem aw_336 : Cond.code yX2_bestPairs cX2_bestPairs 1 (some .int) ∈ AW := aw_mem (i := 336) (by decide +kernel) (by decide +kernel)
theorem aw_337 : Cond.methodLink RX4 122 yX2_leastSum ∈ AW := aw_mem (i := 337) (by decide +kernel) (by decide +kernel)
theorem aw_338 : Cond.instanceMethod yX2_leastSum ∈ AW := aw_mem (i := 338) (by decide +kernel) (by decide +kernel)
theorem aw_339 : Cond.selects RX2 yX2_leastSum yX2_leastSum ∈ AW := aw_mem (i := 339) (by decide +kernel) (by decide +kernel)
theorem aw_340 : Cond.code yX2_leastSum cX2_leastSum 1 (some .int) ∈ AW := aw_mem (i := 340) (by decide +kernel) (by decide +kernel)
theorem aw_341 : Cond.methodLink RL 81 yX4_read ∈ AW := aw_mem (i := 341) (by decide +kernel) (by decide +kernel)
theorem aw_342 : Cond.instanceMethod yX4_read ∈ AW := aw_mem (i := 342) (by decide +kernel) (by decide +kernel)
theorem aw_343 : Cond.selects RX4 yX4_read yX4_read ∈ AW := aw_mem (i := 343) (by decide +kernel) (by decide +kernel)
theorem aw_344 : Cond.code yX4_read cX4_read 4 (some .int) ∈ AW := aw_mem (i := 344) (by decide +kernel) (by decide +kernel)
theorem aw_345 : Cond.methodLink RX4 128 yX1_tell ∈ AW := aw_mem (i := 345) (by decide +kernel) (by decide +kernel)
theorem aw_346 : Cond.instanceMethod yX1_tell ∈ AW := aw_mem (i := 346) (by decide +kernel) (by decide +kernel)
theorem aw_347 : Cond.selects RX1 yX1_tell yX1_tell ∈ AW := aw_mem (i := 347) (by decide +kernel) (by decide +kernel)
theorem aw_348 : Cond.code yX1_tell cX1_tell 4 none ∈ AW := aw_mem (i := 348) (by decide +kernel) (by decide +kernel)
theorem aw_349 : Cond.methodLink RL 85 yX4_forget ∈ AW := aw_mem (i := 349) (by decide +kernel) (by decide +kernel)
theorem aw_350 : Cond.instanceMethod yX4_forget ∈ AW := aw_mem (i := 350) (by decide +kernel) (by decide +kernel)
theorem aw_351 : Cond.selects RX4 yX4_forget yX4_forget ∈ AW := aw_mem (i := 351) (by decide +kernel) (by decide +kernel)
theorem aw_352 : Cond.code yX4_forget cX4_forget 1 (some .int) ∈ AW := aw_mem (i := 352) (by decide +kernel) (by decide +kernel)
theorem aw_353 : Cond.methodLink RL 89 yX4_offset ∈ AW := aw_mem (i := 353) (by decide +kernel) (by decide +kernel)
theorem aw_354 : Cond.instanceMethod yX4_offset ∈ AW := aw_mem (i := 354) (by decide +kernel) (by decide +kernel)
theorem aw_355 : Cond.selects RX4 yX4_offset yX4_offset ∈ AW := aw_mem (i := 355) (by decide +kernel) (by decide +kernel)
theorem aw_356 : Cond.code yX4_offset cX4_offset 3 (some .int) ∈ AW := aw_mem (i := 356) (by decide +kernel) (by decide +kernel)
theorem aw_357 : Cond.constant RX4 132 (-999999) ∈ AW := aw_mem (i := 357) (by decide +kernel) (by decide +kernel)
theorem aw_358 : Cond.methodLink RX4 133 yX1_fillBounds ∈ AW := aw_mem (i := 358) (by decide +kernel) (by decide +kernel)
theorem aw_359 : Cond.instanceMethod yX1_fillBounds ∈ AW := aw_mem (i := 359) (by decide +kernel) (by decide +kernel)
theorem aw_360 : Cond.selects RX1 yX1_fillBounds yX1_fillBounds ∈ AW := aw_mem (i := 360) (by decide +kernel) (by decide +kernel)
theorem aw_361 : Cond.code yX1_fillBounds cX1_fillBounds 2 none ∈ AW := aw_mem (i := 361) (by decide +kernel) (by decide +kernel)
theorem aw_362 : Cond.constant RX1 40 (-100000) ∈ AW := aw_mem (i := 362) (by decide +kernel) (by decide +kernel)
theorem aw_363 : Cond.constant RX1 41 (100000) ∈ AW := aw_mem (i := 363) (by decide +kernel) (by decide +kernel)
theorem aw_364 : Cond.methodLink RX1 42 yX1_narrow ∈ AW := aw_mem (i := 364) (by decide +kernel) (by decide +kernel)
theorem aw_366 : Cond.instanceMethod yX1_narrow ∈ AW := aw_mem (i := 366) (by decide +kernel) (by decide +kernel)
theorem aw_367 : Cond.code yX1_narrow cX1_narrow 6 none ∈ AW := aw_mem (i := 367) (by decide +kernel) (by decide +kernel)
theorem aw_368 : Cond.methodLink RX1 46 Lib.Math.max.name ∈ AW := aw_mem (i := 368) (by decide +kernel) (by decide +kernel)
theorem aw_369 : Cond.methodLink RX1 52 Lib.Math.min.name ∈ AW := aw_mem (i := 369) (by decide +kernel) (by decide +kernel)
theorem aw_370 : Cond.methodLink RX4 136 yX1_fewestLeftOut ∈ AW := aw_mem (i := 370) (by decide +kernel) (by decide +kernel)
theorem aw_371 : Cond.instanceMethod yX1_fewestLeftOut ∈ AW := aw_mem (i := 371) (by decide +kernel) (by decide +kernel)
theorem aw_372 : Cond.selects RX1 yX1_fewestLeftOut yX1_fewestLeftOut ∈ AW := aw_mem (i := 372) (by decide +kernel) (by decide +kernel)
theorem aw_373 : Cond.code yX1_fewestLeftOut cX1_fewestLeftOut 4 (some .int) ∈ AW := aw_mem (i := 373) (by decide +kernel) (by decide +kernel)
theorem aw_374 : Cond.methodLink RX1 55 yX1_contradict ∈ AW := aw_mem (i := 374) (by decide +kernel) (by decide +kernel)
theorem aw_376 : Cond.instanceMethod yX1_contradict ∈ AW := aw_mem (i := 376) (by decide +kernel) (by decide +kernel)
theorem aw_377 : Cond.code yX1_contradict cX1_contradict 4 (some .boolean) ∈ AW := aw_mem (i := 377) (by decide +kernel) (by decide +kernel)
theorem aw_378 : Cond.methodLink RX1 66 yX1_leftOutAt ∈ AW := aw_mem (i := 378) (by decide +kernel) (by decide +kernel)
theorem aw_380 : Cond.instanceMethod yX1_leftOutAt ∈ AW := aw_mem (i := 380) (by decide +kernel) (by decide +kernel)
theorem aw_381 : Cond.code yX1_leftOutAt cX1_leftOutAt 5 (some .int) ∈ AW := aw_mem (i := 381) (by decide +kernel) (by decide +kernel)
theorem aw_382 : Cond.methodLink RX1 70 yX1_agreeingFrom ∈ AW := aw_mem (i := 382) (by decide +kernel) (by decide +kernel)
theorem aw_384 : Cond.instanceMethod yX1_agreeingFrom ∈ AW := aw_mem (i := 384) (by decide +kernel) (by decide +kernel)
theorem aw_385 : Cond.code yX1_agreeingFrom cX1_agreeingFrom 8 (some .int) ∈ AW := aw_mem (i := 385) (by decide +kernel) (by decide +kernel)
theorem aw_386 : Cond.methodLink RX1 73 Lib.Math.abs.name ∈ AW := aw_mem (i := 386) (by decide +kernel) (by decide +kernel)
theorem aw_387 : Cond.methodLink RX4 139 yX1_agreeingOffsets ∈ AW := aw_mem (i := 387) (by decide +kernel) (by decide +kernel)
theorem aw_388 : Cond.instanceMethod yX1_agreeingOffsets ∈ AW := aw_mem (i := 388) (by decide +kernel) (by decide +kernel)
theorem aw_389 : Cond.selects RX1 yX1_agreeingOffsets yX1_agreeingOffsets ∈ AW := aw_mem (i := 389) (by decide +kernel) (by decide +kernel)
theorem aw_390 : Cond.code yX1_agreeingOffsets cX1_agreeingOffsets 1 (some .int) ∈ AW := aw_mem (i := 390) (by decide +kernel) (by decide +kernel)
theorem aw_391 : Cond.methodLink RX1 59 yX1_greatestOffset ∈ AW := aw_mem (i := 391) (by decide +kernel) (by decide +kernel)
theorem aw_392 : Cond.instanceMethod yX1_greatestOffset ∈ AW := aw_mem (i := 392) (by decide +kernel) (by decide +kernel)
theorem aw_393 : Cond.selects RX1 yX1_greatestOffset yX1_greatestOffset ∈ AW := aw_mem (i := 393) (by decide +kernel) (by decide +kernel)
theorem aw_394 : Cond.code yX1_greatestOffset cX1_greatestOffset 3 (some .int) ∈ AW := aw_mem (i := 394) (by decide +kernel) (by decide +kernel)
theorem aw_395 : Cond.methodLink RX1 63 yX1_leastOffset ∈ AW := aw_mem (i := 395) (by decide +kernel) (by decide +kernel)
theorem aw_396 : Cond.instanceMethod yX1_leastOffset ∈ AW := aw_mem (i := 396) (by decide +kernel) (by decide +kernel)
theorem aw_397 : Cond.selects RX1 yX1_leastOffset yX1_leastOffset ∈ AW := aw_mem (i := 397) (by decide +kernel) (by decide +kernel)
theorem aw_398 : Cond.code yX1_leastOffset cX1_leastOffset 3 (some .int) ∈ AW := aw_mem (i := 398) (by decide +kernel) (by decide +kernel)
theorem aw_399 : Cond.constant RX4 142 (-1000000) ∈ AW := aw_mem (i := 399) (by decide +kernel) (by decide +kernel)
theorem aw_400 : Cond.methodLink RX4 143 yX1_leastOffset ∈ AW := aw_mem (i := 400) (by decide +kernel) (by decide +kernel)
theorem aw_401 : Cond.methodLink RX4 146 yX1_greatestOffset ∈ AW := aw_mem (i := 401) (by decide +kernel) (by decide +kernel)
theorem aw_402 : Cond.methodLink RL 93 yX4_pass ∈ AW := aw_mem (i := 402) (by decide +kernel) (by decide +kernel)
theorem aw_403 : Cond.instanceMethod yX4_pass ∈ AW := aw_mem (i := 403) (by decide +kernel) (by decide +kernel)
theorem aw_404 : Cond.selects RX4 yX4_pass yX4_pass ∈ AW := aw_mem (i := 404) (by decide +kernel) (by decide +kernel)
theorem aw_405 : Cond.code yX4_pass cX4_pass 3 (some .int) ∈ AW := aw_mem (i := 405) (by decide +kernel) (by decide +kernel)
theorem aw_406 : Cond.methodLink RX4 149 yX3_feel ∈ AW := aw_mem (i := 406) (by decide +kernel) (by decide +kernel)
theorem aw_407 : Cond.instanceMethod yX3_feel ∈ AW := aw_mem (i := 407) (by decide +kernel) (by decide +kernel)
theorem aw_408 : Cond.selects RX3 yX3_feel yX3_feel ∈ AW := aw_mem (i := 408) (by decide +kernel) (by decide +kernel)
theorem aw_409 : Cond.code yX3_feel cX3_feel 2 none ∈ AW := aw_mem (i := 409) (by decide +kernel) (by decide +kernel)
theorem aw_410 : Cond.methodLink RX4 152 yX4_flatness ∈ AW := aw_mem (i := 410) (by decide +kernel) (by decide +kernel)
theorem aw_412 : Cond.instanceMethod yX4_flatness ∈ AW := aw_mem (i := 412) (by decide +kernel) (by decide +kernel)
theorem aw_413 : Cond.code yX4_flatness cX4_flatness 2 (some .int) ∈ AW := aw_mem (i := 413) (by decide +kernel) (by decide +kernel)
theorem aw_414 : Cond.methodLink RX4 163 yX3_isFlat ∈ AW := aw_mem (i := 414) (by decide +kernel) (by decide +kernel)
theorem aw_415 : Cond.instanceMethod yX3_isFlat ∈ AW := aw_mem (i := 415) (by decide +kernel) (by decide +kernel)
theorem aw_416 : Cond.selects RX3 yX3_isFlat yX3_isFlat ∈ AW := aw_mem (i := 416) (by decide +kernel) (by decide +kernel)
theorem aw_417 : Cond.code yX3_isFlat cX3_isFlat 4 (some .boolean) ∈ AW := aw_mem (i := 417) (by decide +kernel) (by decide +kernel)
theorem aw_418 : Cond.methodLink RL 97 yX4_bar ∈ AW := aw_mem (i := 418) (by decide +kernel) (by decide +kernel)
theorem aw_419 : Cond.instanceMethod yX4_bar ∈ AW := aw_mem (i := 419) (by decide +kernel) (by decide +kernel)
theorem aw_420 : Cond.selects RX4 yX4_bar yX4_bar ∈ AW := aw_mem (i := 420) (by decide +kernel) (by decide +kernel)
theorem aw_421 : Cond.code yX4_bar cX4_bar 3 (some .int) ∈ AW := aw_mem (i := 421) (by decide +kernel) (by decide +kernel)
theorem aw_422 : Cond.methodLink RL 101 yX4_flat ∈ AW := aw_mem (i := 422) (by decide +kernel) (by decide +kernel)
theorem aw_423 : Cond.instanceMethod yX4_flat ∈ AW := aw_mem (i := 423) (by decide +kernel) (by decide +kernel)
theorem aw_424 : Cond.selects RX4 yX4_flat yX4_flat ∈ AW := aw_mem (i := 424) (by decide +kernel) (by decide +kernel)
theorem aw_425 : Cond.code yX4_flat cX4_flat 2 (some .int) ∈ AW := aw_mem (i := 425) (by decide +kernel) (by decide +kernel)
theorem aw_426 : Cond.methodLink RL 105 yX4_look ∈ AW := aw_mem (i := 426) (by decide +kernel) (by decide +kernel)
theorem aw_427 : Cond.instanceMethod yX4_look ∈ AW := aw_mem (i := 427) (by decide +kernel) (by decide +kernel)
theorem aw_428 : Cond.selects RX4 yX4_look yX4_look ∈ AW := aw_mem (i := 428) (by decide +kernel) (by decide +kernel)
theorem aw_429 : Cond.code yX4_look cX4_look 3 (some .int) ∈ AW := aw_mem (i := 429) (by decide +kernel) (by decide +kernel)
theorem aw_430 : Cond.methodLink RL 109 yX4_due ∈ AW := aw_mem (i := 430) (by decide +kernel) (by decide +kernel)
theorem aw_431 : Cond.instanceMethod yX4_due ∈ AW := aw_mem (i := 431) (by decide +kernel) (by decide +kernel)
theorem aw_432 : Cond.selects RX4 yX4_due yX4_due ∈ AW := aw_mem (i := 432) (by decide +kernel) (by decide +kernel)
theorem aw_433 : Cond.code yX4_due cX4_due 2 (some .int) ∈ AW := aw_mem (i := 433) (by decide +kernel) (by decide +kernel)
theorem aw_434 : Cond.methodLink RL 113 yX4_count ∈ AW := aw_mem (i := 434) (by decide +kernel) (by decide +kernel)
theorem aw_435 : Cond.instanceMethod yX4_count ∈ AW := aw_mem (i := 435) (by decide +kernel) (by decide +kernel)
theorem aw_436 : Cond.selects RX4 yX4_count yX4_count ∈ AW := aw_mem (i := 436) (by decide +kernel) (by decide +kernel)
theorem aw_437 : Cond.code yX4_count cX4_count 2 (some .int) ∈ AW := aw_mem (i := 437) (by decide +kernel) (by decide +kernel)
theorem aw_438 : Cond.methodLink RX4 156 yX4_flatWheels ∈ AW := aw_mem (i := 438) (by decide +kernel) (by decide +kernel)
theorem aw_440 : Cond.instanceMethod yX4_flatWheels ∈ AW := aw_mem (i := 440) (by decide +kernel) (by decide +kernel)
theorem aw_441 : Cond.code yX4_flatWheels cX4_flatWheels 3 (some .int) ∈ AW := aw_mem (i := 441) (by decide +kernel) (by decide +kernel)
theorem aw_442 : Cond.methodLink RL 117 yX4_trace ∈ AW := aw_mem (i := 442) (by decide +kernel) (by decide +kernel)
theorem aw_443 : Cond.instanceMethod yX4_trace ∈ AW := aw_mem (i := 443) (by decide +kernel) (by decide +kernel)
theorem aw_444 : Cond.selects RX4 yX4_trace yX4_trace ∈ AW := aw_mem (i := 444) (by decide +kernel) (by decide +kernel)
theorem aw_445 : Cond.code yX4_trace cX4_trace 1 (some .long) ∈ AW := aw_mem (i := 445) (by decide +kernel) (by decide +kernel)
theorem aw_446 : Cond.classLink RL 10 RX5 ∈ AW := aw_mem (i := 446) (by decide +kernel) (by decide +kernel)
theorem aw_447 : Cond.instantiable RX5 23 ∈ AW := aw_mem (i := 447) (by decide +kernel) (by decide +kernel)
theorem aw_448 : Cond.methodLink RL 12 yX5_init ∈ AW := aw_mem (i := 448) (by decide +kernel) (by decide +kernel)
theorem aw_449 : Cond.instanceMethod yX5_init ∈ AW := aw_mem (i := 449) (by decide +kernel) (by decide +kernel)
theorem aw_450 : Cond.code yX5_init cX5_init 2 none ∈ AW := aw_mem (i := 450) (by decide +kernel) (by decide +kernel)
theorem aw_451 : Cond.methodLink RX5 1 objectInit ∈ AW := aw_mem (i := 451) (by decide +kernel) (by decide +kernel)
theorem aw_452 : Cond.fieldLink RX5 65 "WheelShopModel" "thrown" "I" ∈ AW := aw_mem (i := 452) (by decide +kernel) (by decide +kernel)
theorem aw_453 : Cond.fieldLink RX5 83 "WheelShopModel" "trace" "J" ∈ AW := aw_mem (i := 453) (by decide +kernel) (by decide +kernel)
theorem aw_454 : Cond.fieldLink RX5 7 "WheelShopModel" "size" "[I" ∈ AW := aw_mem (i := 454) (by decide +kernel) (by decide +kernel)
theorem aw_455 : Cond.fieldLink RX5 13 "WheelShopModel" "depth" "[I" ∈ AW := aw_mem (i := 455) (by decide +kernel) (by decide +kernel)
theorem aw_456 : Cond.fieldLink RX5 16 "WheelShopModel" "wear" "[I" ∈ AW := aw_mem (i := 456) (by decide +kernel) (by decide +kernel)
theorem aw_457 : Cond.fieldLink RX5 19 "WheelShopModel" "road" "[I" ∈ AW := aw_mem (i := 457) (by decide +kernel) (by decide +kernel)
theorem aw_458 : Cond.fieldLink RX5 22 "WheelShopModel" "thinning" "I" ∈ AW := aw_mem (i := 458) (by decide +kernel) (by decide +kernel)
theorem aw_459 : Cond.fieldLink RX5 95 "WheelShopModel" "turnings" "I" ∈ AW := aw_mem (i := 459) (by decide +kernel) (by decide +kernel)
theorem aw_460 : Cond.fieldLink RX5 26 "WheelShopModel" "laws" "[I" ∈ AW := aw_mem (i := 460) (by decide +kernel) (by decide +kernel)
theorem aw_461 : Cond.fieldLink RX5 29 "WheelShopModel" "kept" "[I" ∈ AW := aw_mem (i := 461) (by decide +kernel) (by decide +kernel)
theorem aw_462 : Cond.fieldLink RX5 104 "WheelShopModel" "spares" "I" ∈ AW := aw_mem (i := 462) (by decide +kernel) (by decide +kernel)
theorem aw_463 : Cond.fieldLink RX5 32 "WheelShopModel" "spare" "[I" ∈ AW := aw_mem (i := 463) (by decide +kernel) (by decide +kernel)
theorem aw_464 : Cond.fieldLink RX5 35 "WheelShopModel" "pairMany" "[I" ∈ AW := aw_mem (i := 464) (by decide +kernel) (by decide +kernel)
theorem aw_465 : Cond.fieldLink RX5 38 "WheelShopModel" "pairSum" "[I" ∈ AW := aw_mem (i := 465) (by decide +kernel) (by decide +kernel)
theorem aw_466 : Cond.fieldLink RX5 107 "WheelShopModel" "readings" "I" ∈ AW := aw_mem (i := 466) (by decide +kernel) (by decide +kernel)
theorem aw_467 : Cond.fieldLink RX5 41 "WheelShopModel" "wheelOf" "[I" ∈ AW := aw_mem (i := 467) (by decide +kernel) (by decide +kernel)
theorem aw_468 : Cond.fieldLink RX5 44 "WheelShopModel" "byOf" "[I" ∈ AW := aw_mem (i := 468) (by decide +kernel) (by decide +kernel)
theorem aw_469 : Cond.fieldLink RX5 47 "WheelShopModel" "told" "[I" ∈ AW := aw_mem (i := 469) (by decide +kernel) (by decide +kernel)
theorem aw_470 : Cond.fieldLink RX5 50 "WheelShopModel" "low" "[I" ∈ AW := aw_mem (i := 470) (by decide +kernel) (by decide +kernel)
theorem aw_471 : Cond.fieldLink RX5 53 "WheelShopModel" "high" "[I" ∈ AW := aw_mem (i := 471) (by decide +kernel) (by decide +kernel)
theorem aw_472 : Cond.fieldLink RX5 56 "WheelShopModel" "passes" "[I" ∈ AW := aw_mem (i := 472) (by decide +kernel) (by decide +kernel)
theorem aw_473 : Cond.fieldLink RX5 59 "WheelShopModel" "blow" "[I" ∈ AW := aw_mem (i := 473) (by decide +kernel) (by decide +kernel)
theorem aw_474 : Cond.fieldLink RX5 62 "WheelShopModel" "bar" "I" ∈ AW := aw_mem (i := 474) (by decide +kernel) (by decide +kernel)
theorem aw_522 : Cond.methodLink RL 17 yX5_size ∈ AW := aw_mem (i := 522) (by decide +kernel) (by decide +kernel)
theorem aw_523 : Cond.instanceMethod yX5_size ∈ AW := aw_mem (i := 523) (by decide +kernel) (by decide +kernel)
theorem aw_524 : Cond.selects RX5 yX5_size yX5_size ∈ AW := aw_mem (i := 524) (by decide +kernel) (by decide +kernel)
theorem aw_525 : Cond.code yX5_size cX5_size 4 (some .int) ∈ AW := aw_mem (i := 525) (by decide +kernel) (by decide +kernel)
theorem aw_526 : Cond.methodLink RX5 72 yX5_isWheel ∈ AW := aw_mem (i := 526) (by decide +kernel) (by decide +kernel)
theorem aw_527 : Cond.static yX5_isWheel ∈ AW := aw_mem (i := 527) (by decide +kernel) (by decide +kernel)
theorem aw_528 : Cond.code yX5_isWheel cX5_isWheel 1 (some .boolean) ∈ AW := aw_mem (i := 528) (by decide +kernel) (by decide +kernel)
theorem aw_529 : Cond.methodLink RX5 68 yX5_in ∈ AW := aw_mem (i := 529) (by decide +kernel) (by decide +kernel)
theorem aw_530 : Cond.static yX5_in ∈ AW := aw_mem (i := 530) (by decide +kernel) (by decide +kernel)
theorem aw_531 : Cond.code yX5_in cX5_in 3 (some .boolean) ∈ AW := aw_mem (i := 531) (by decide +kernel) (by decide +kernel)
theorem aw_532 : Cond.methodLink RL 22 yX5_depth ∈ AW := aw_mem (i := 532) (by decide +kernel) (by decide +kernel)
theorem aw_533 : Cond.instanceMethod yX5_depth ∈ AW := aw_mem (i := 533) (by decide +kernel) (by decide +kernel)
theorem aw_534 : Cond.selects RX5 yX5_depth yX5_depth ∈ AW := aw_mem (i := 534) (by decide +kernel) (by decide +kernel)
theorem aw_535 : Cond.code yX5_depth cX5_depth 5 (some .int) ∈ AW := aw_mem (i := 535) (by decide +kernel) (by decide +kernel)
theorem aw_536 : Cond.methodLink RL 26 yX5_wear ∈ AW := aw_mem (i := 536) (by decide +kernel) (by decide +kernel)
theorem aw_537 : Cond.instanceMethod yX5_wear ∈ AW := aw_mem (i := 537) (by decide +kernel) (by decide +kernel)
theorem aw_538 : Cond.selects RX5 yX5_wear yX5_wear ∈ AW := aw_mem (i := 538) (by decide +kernel) (by decide +kernel)
theorem aw_539 : Cond.code yX5_wear cX5_wear 4 (some .int) ∈ AW := aw_mem (i := 539) (by decide +kernel) (by decide +kernel)
theorem aw_540 : Cond.methodLink RL 30 yX5_about ∈ AW := aw_mem (i := 540) (by decide +kernel) (by decide +kernel)
theorem aw_541 : Cond.instanceMethod yX5_about ∈ AW := aw_mem (i := 541) (by decide +kernel) (by decide +kernel)
theorem aw_542 : Cond.selects RX5 yX5_about yX5_about ∈ AW := aw_mem (i := 542) (by decide +kernel) (by decide +kernel)
theorem aw_543 : Cond.code yX5_about cX5_about 3 (some .int) ∈ AW := aw_mem (i := 543) (by decide +kernel) (by decide +kernel)
theorem aw_544 : Cond.methodLink RL 35 yX5_thinning ∈ AW := aw_mem (i := 544) (by decide +kernel) (by decide +kernel)
theorem aw_545 : Cond.instanceMethod yX5_thinning ∈ AW := aw_mem (i := 545) (by decide +kernel) (by decide +kernel)
theorem aw_546 : Cond.selects RX5 yX5_thinning yX5_thinning ∈ AW := aw_mem (i := 546) (by decide +kernel) (by decide +kernel)
theorem aw_547 : Cond.code yX5_thinning cX5_thinning 3 (some .int) ∈ AW := aw_mem (i := 547) (by decide +kernel) (by decide +kernel)
theorem aw_548 : Cond.methodLink RL 39 yX5_cut ∈ AW := aw_mem (i := 548) (by decide +kernel) (by decide +kernel)
theorem aw_549 : Cond.instanceMethod yX5_cut ∈ AW := aw_mem (i := 549) (by decide +kernel) (by decide +kernel)
theorem aw_550 : Cond.selects RX5 yX5_cut yX5_cut ∈ AW := aw_mem (i := 550) (by decide +kernel) (by decide +kernel)
theorem aw_551 : Cond.code yX5_cut cX5_cut 3 (some .int) ∈ AW := aw_mem (i := 551) (by decide +kernel) (by decide +kernel)
theorem aw_552 : Cond.constantLong RX5 87 (11) ∈ AW := aw_mem (i := 552) (by decide +kernel) (by decide +kernel)
theorem aw_553 : Cond.constantLong RX5 89 (111) ∈ AW := aw_mem (i := 553) (by decide +kernel) (by decide +kernel)
theorem aw_554 : Cond.methodLink RX5 91 yX5_cutOf ∈ AW := aw_mem (i := 554) (by decide +kernel) (by decide +kernel)
theorem aw_556 : Cond.instanceMethod yX5_cutOf ∈ AW := aw_mem (i := 556) (by decide +kernel) (by decide +kernel)
theorem aw_557 : Cond.code yX5_cutOf cX5_cutOf 4 (some .int) ∈ AW := aw_mem (i := 557) (by decide +kernel) (by decide +kernel)
theorem aw_558 : Cond.methodLink RX5 76 yX5_most ∈ AW := aw_mem (i := 558) (by decide +kernel) (by decide +kernel)
theorem aw_560 : Cond.instanceMethod yX5_most ∈ AW := aw_mem (i := 560) (by decide +kernel) (by decide +kernel)
theorem aw_561 : Cond.code yX5_most cX5_most 4 (some .int) ∈ AW := aw_mem (i := 561) (by decide +kernel) (by decide +kernel)
theorem aw_562 : Cond.methodLink RX5 80 yX5_least ∈ AW := aw_mem (i := 562) (by decide +kernel) (by decide +kernel)
theorem aw_564 : Cond.instanceMethod yX5_least ∈ AW := aw_mem (i := 564) (by decide +kernel) (by decide +kernel)
theorem aw_565 : Cond.code yX5_least cX5_least 4 (some .int) ∈ AW := aw_mem (i := 565) (by decide +kernel) (by decide +kernel)
theorem aw_566 : Cond.methodLink RL 43 yX5_turn ∈ AW := aw_mem (i := 566) (by decide +kernel) (by decide +kernel)
theorem aw_567 : Cond.instanceMethod yX5_turn ∈ AW := aw_mem (i := 567) (by decide +kernel) (by decide +kernel)
theorem aw_568 : Cond.selects RX5 yX5_turn yX5_turn ∈ AW := aw_mem (i := 568) (by decide +kernel) (by decide +kernel)
theorem aw_569 : Cond.code yX5_turn cX5_turn 7 (some .int) ∈ AW := aw_mem (i := 569) (by decide +kernel) (by decide +kernel)
theorem aw_570 : Cond.methodLink RL 47 yX5_miles ∈ AW := aw_mem (i := 570) (by decide +kernel) (by decide +kernel)
theorem aw_571 : Cond.instanceMethod yX5_miles ∈ AW := aw_mem (i := 571) (by decide +kernel) (by decide +kernel)
theorem aw_572 : Cond.selects RX5 yX5_miles yX5_miles ∈ AW := aw_mem (i := 572) (by decide +kernel) (by decide +kernel)
theorem aw_573 : Cond.code yX5_miles cX5_miles 7 (some .int) ∈ AW := aw_mem (i := 573) (by decide +kernel) (by decide +kernel)
theorem aw_574 : Cond.methodLink RL 51 yX5_law ∈ AW := aw_mem (i := 574) (by decide +kernel) (by decide +kernel)
theorem aw_575 : Cond.instanceMethod yX5_law ∈ AW := aw_mem (i := 575) (by decide +kernel) (by decide +kernel)
theorem aw_576 : Cond.selects RX5 yX5_law yX5_law ∈ AW := aw_mem (i := 576) (by decide +kernel) (by decide +kernel)
theorem aw_577 : Cond.code yX5_law cX5_law 4 (some .int) ∈ AW := aw_mem (i := 577) (by decide +kernel) (by decide +kernel)
theorem aw_578 : Cond.methodLink RL 56 yX5_broken ∈ AW := aw_mem (i := 578) (by decide +kernel) (by decide +kernel)
theorem aw_579 : Cond.instanceMethod yX5_broken ∈ AW := aw_mem (i := 579) (by decide +kernel) (by decide +kernel)
theorem aw_580 : Cond.selects RX5 yX5_broken yX5_broken ∈ AW := aw_mem (i := 580) (by decide +kernel) (by decide +kernel)
theorem aw_581 : Cond.code yX5_broken cX5_broken 4 (some .int) ∈ AW := aw_mem (i := 581) (by decide +kernel) (by decide +kernel)
theorem aw_582 : Cond.methodLink RX5 98 yX5_lawOf ∈ AW := aw_mem (i := 582) (by decide +kernel) (by decide +kernel)
theorem aw_584 : Cond.instanceMethod yX5_lawOf ∈ AW := aw_mem (i := 584) (by decide +kernel) (by decide +kernel)
theorem aw_585 : Cond.code yX5_lawOf cX5_lawOf 3 (some .int) ∈ AW := aw_mem (i := 585) (by decide +kernel) (by decide +kernel)
theorem aw_586 : Cond.methodLink RL 60 yX5_kept ∈ AW := aw_mem (i := 586) (by decide +kernel) (by decide +kernel)
theorem aw_587 : Cond.instanceMethod yX5_kept ∈ AW := aw_mem (i := 587) (by decide +kernel) (by decide +kernel)
theorem aw_588 : Cond.selects RX5 yX5_kept yX5_kept ∈ AW := aw_mem (i := 588) (by decide +kernel) (by decide +kernel)
theorem aw_589 : Cond.code yX5_kept cX5_kept 2 (some .int) ∈ AW := aw_mem (i := 589) (by decide +kernel) (by decide +kernel)
theorem aw_590 : Cond.methodLink RX5 101 yX5_keeps ∈ AW := aw_mem (i := 590) (by decide +kernel) (by decide +kernel)
theorem aw_592 : Cond.instanceMethod yX5_keeps ∈ AW := aw_mem (i := 592) (by decide +kernel) (by decide +kernel)
theorem aw_593 : Cond.code yX5_keeps cX5_keeps 4 none ∈ AW := aw_mem (i := 593) (by decide +kernel) (by decide +kernel)
theorem aw_594 : Cond.methodLink RL 64 yX5_steel ∈ AW := aw_mem (i := 594) (by decide +kernel) (by decide +kernel)
theorem aw_595 : Cond.instanceMethod yX5_steel ∈ AW := aw_mem (i := 595) (by decide +kernel) (by decide +kernel)
theorem aw_596 : Cond.selects RX5 yX5_steel yX5_steel ∈ AW := aw_mem (i := 596) (by decide +kernel) (by decide +kernel)
theorem aw_597 : Cond.code yX5_steel cX5_steel 3 (some .int) ∈ AW := aw_mem (i := 597) (by decide +kernel) (by decide +kernel)
theorem aw_598 : Cond.methodLink RL 68 yX5_even ∈ AW := aw_mem (i := 598) (by decide +kernel) (by decide +kernel)
theorem aw_599 : Cond.instanceMethod yX5_even ∈ AW := aw_mem (i := 599) (by decide +kernel) (by decide +kernel)
theorem aw_600 : Cond.selects RX5 yX5_even yX5_even ∈ AW := aw_mem (i := 600) (by decide +kernel) (by decide +kernel)
theorem aw_601 : Cond.code yX5_even cX5_even 3 (some .int) ∈ AW := aw_mem (i := 601) (by decide +kernel) (by decide +kernel)
theorem aw_602 : Cond.methodLink RL 72 yX5_spare ∈ AW := aw_mem (i := 602) (by decide +kernel) (by decide +kernel)
theorem aw_603 : Cond.instanceMethod yX5_spare ∈ AW := aw_mem (i := 603) (by decide +kernel) (by decide +kernel)
theorem aw_604 : Cond.selects RX5 yX5_spare yX5_spare ∈ AW := aw_mem (i := 604) (by decide +kernel) (by decide +kernel)
theorem aw_605 : Cond.code yX5_spare cX5_spare 2 (some .int) ∈ AW := aw_mem (i := 605) (by decide +kernel) (by decide +kernel)
theorem aw_606 : Cond.methodLink RL 76 yX5_sell ∈ AW := aw_mem (i := 606) (by decide +kernel) (by decide +kernel)
theorem aw_607 : Cond.instanceMethod yX5_sell ∈ AW := aw_mem (i := 607) (by decide +kernel) (by decide +kernel)
theorem aw_608 : Cond.selects RX5 yX5_sell yX5_sell ∈ AW := aw_mem (i := 608) (by decide +kernel) (by decide +kernel)
theorem aw_609 : Cond.code yX5_sell cX5_sell 1 (some .int) ∈ AW := aw_mem (i := 609) (by decide +kernel) (by decide +kernel)
theorem aw_610 : Cond.methodLink RL 80 yX5_pairs ∈ AW := aw_mem (i := 610) (by decide +kernel) (by decide +kernel)
theorem aw_611 : Cond.instanceMethod yX5_pairs ∈ AW := aw_mem (i := 611) (by decide +kernel) (by decide +kernel)
theorem aw_612 : Cond.selects RX5 yX5_pairs yX5_pairs ∈ AW := aw_mem (i := 612) (by decide +kernel) (by decide +kernel)
theorem aw_613 : Cond.code yX5_pairs cX5_pairs 8 (some .int) ∈ AW := aw_mem (i := 613) (by decide +kernel) (by decide +kernel)
theorem aw_614 : Cond.methodLink RL 84 yX5_read ∈ AW := aw_mem (i := 614) (by decide +kernel) (by decide +kernel)
theorem aw_615 : Cond.instanceMethod yX5_read ∈ AW := aw_mem (i := 615) (by decide +kernel) (by decide +kernel)
theorem aw_616 : Cond.selects RX5 yX5_read yX5_read ∈ AW := aw_mem (i := 616) (by decide +kernel) (by decide +kernel)
theorem aw_617 : Cond.code yX5_read cX5_read 4 (some .int) ∈ AW := aw_mem (i := 617) (by decide +kernel) (by decide +kernel)
theorem aw_618 : Cond.methodLink RL 88 yX5_forget ∈ AW := aw_mem (i := 618) (by decide +kernel) (by decide +kernel)
theorem aw_619 : Cond.instanceMethod yX5_forget ∈ AW := aw_mem (i := 619) (by decide +kernel) (by decide +kernel)
theorem aw_620 : Cond.selects RX5 yX5_forget yX5_forget ∈ AW := aw_mem (i := 620) (by decide +kernel) (by decide +kernel)
theorem aw_621 : Cond.code yX5_forget cX5_forget 1 (some .int) ∈ AW := aw_mem (i := 621) (by decide +kernel) (by decide +kernel)
theorem aw_622 : Cond.methodLink RL 92 yX5_offset ∈ AW := aw_mem (i := 622) (by decide +kernel) (by decide +kernel)
theorem aw_623 : Cond.instanceMethod yX5_offset ∈ AW := aw_mem (i := 623) (by decide +kernel) (by decide +kernel)
theorem aw_624 : Cond.selects RX5 yX5_offset yX5_offset ∈ AW := aw_mem (i := 624) (by decide +kernel) (by decide +kernel)
theorem aw_625 : Cond.code yX5_offset cX5_offset 9 (some .int) ∈ AW := aw_mem (i := 625) (by decide +kernel) (by decide +kernel)
theorem aw_626 : Cond.constant RX5 116 (-999999) ∈ AW := aw_mem (i := 626) (by decide +kernel) (by decide +kernel)
theorem aw_627 : Cond.methodLink RX5 117 yX5_hands ∈ AW := aw_mem (i := 627) (by decide +kernel) (by decide +kernel)
theorem aw_629 : Cond.instanceMethod yX5_hands ∈ AW := aw_mem (i := 629) (by decide +kernel) (by decide +kernel)
theorem aw_630 : Cond.code yX5_hands cX5_hands 3 (some .boolean) ∈ AW := aw_mem (i := 630) (by decide +kernel) (by decide +kernel)
theorem aw_631 : Cond.constant RX5 110 (-100000) ∈ AW := aw_mem (i := 631) (by decide +kernel) (by decide +kernel)
theorem aw_632 : Cond.constant RX5 111 (100000) ∈ AW := aw_mem (i := 632) (by decide +kernel) (by decide +kernel)
theorem aw_633 : Cond.constant RX5 121 (-1000000) ∈ AW := aw_mem (i := 633) (by decide +kernel) (by decide +kernel)
theorem aw_634 : Cond.methodLink RX5 122 yX5_leftOut ∈ AW := aw_mem (i := 634) (by decide +kernel) (by decide +kernel)
theorem aw_636 : Cond.instanceMethod yX5_leftOut ∈ AW := aw_mem (i := 636) (by decide +kernel) (by decide +kernel)
theorem aw_637 : Cond.code yX5_leftOut cX5_leftOut 9 (some .int) ∈ AW := aw_mem (i := 637) (by decide +kernel) (by decide +kernel)
theorem aw_638 : Cond.methodLink RX5 112 yX5_agree ∈ AW := aw_mem (i := 638) (by decide +kernel) (by decide +kernel)
theorem aw_640 : Cond.instanceMethod yX5_agree ∈ AW := aw_mem (i := 640) (by decide +kernel) (by decide +kernel)
theorem aw_641 : Cond.code yX5_agree cX5_agree 6 (some .int) ∈ AW := aw_mem (i := 641) (by decide +kernel) (by decide +kernel)
theorem aw_642 : Cond.methodLink RL 96 yX5_pass ∈ AW := aw_mem (i := 642) (by decide +kernel) (by decide +kernel)
theorem aw_643 : Cond.instanceMethod yX5_pass ∈ AW := aw_mem (i := 643) (by decide +kernel) (by decide +kernel)
theorem aw_644 : Cond.selects RX5 yX5_pass yX5_pass ∈ AW := aw_mem (i := 644) (by decide +kernel) (by decide +kernel)
theorem aw_645 : Cond.code yX5_pass cX5_pass 3 (some .int) ∈ AW := aw_mem (i := 645) (by decide +kernel) (by decide +kernel)
theorem aw_646 : Cond.methodLink RX5 125 yX5_isFlat ∈ AW := aw_mem (i := 646) (by decide +kernel) (by decide +kernel)
theorem aw_648 : Cond.instanceMethod yX5_isFlat ∈ AW := aw_mem (i := 648) (by decide +kernel) (by decide +kernel)
theorem aw_649 : Cond.code yX5_isFlat cX5_isFlat 4 (some .boolean) ∈ AW := aw_mem (i := 649) (by decide +kernel) (by decide +kernel)
theorem aw_650 : Cond.methodLink RL 100 yX5_bar ∈ AW := aw_mem (i := 650) (by decide +kernel) (by decide +kernel)
theorem aw_651 : Cond.instanceMethod yX5_bar ∈ AW := aw_mem (i := 651) (by decide +kernel) (by decide +kernel)
theorem aw_652 : Cond.selects RX5 yX5_bar yX5_bar ∈ AW := aw_mem (i := 652) (by decide +kernel) (by decide +kernel)
theorem aw_653 : Cond.code yX5_bar cX5_bar 3 (some .int) ∈ AW := aw_mem (i := 653) (by decide +kernel) (by decide +kernel)
theorem aw_654 : Cond.methodLink RL 104 yX5_flat ∈ AW := aw_mem (i := 654) (by decide +kernel) (by decide +kernel)
theorem aw_655 : Cond.instanceMethod yX5_flat ∈ AW := aw_mem (i := 655) (by decide +kernel) (by decide +kernel)
theorem aw_656 : Cond.selects RX5 yX5_flat yX5_flat ∈ AW := aw_mem (i := 656) (by decide +kernel) (by decide +kernel)
theorem aw_657 : Cond.code yX5_flat cX5_flat 2 (some .int) ∈ AW := aw_mem (i := 657) (by decide +kernel) (by decide +kernel)
theorem aw_658 : Cond.methodLink RL 108 yX5_look ∈ AW := aw_mem (i := 658) (by decide +kernel) (by decide +kernel)
theorem aw_659 : Cond.instanceMethod yX5_look ∈ AW := aw_mem (i := 659) (by decide +kernel) (by decide +kernel)
theorem aw_660 : Cond.selects RX5 yX5_look yX5_look ∈ AW := aw_mem (i := 660) (by decide +kernel) (by decide +kernel)
theorem aw_661 : Cond.code yX5_look cX5_look 3 (some .int) ∈ AW := aw_mem (i := 661) (by decide +kernel) (by decide +kernel)
theorem aw_662 : Cond.methodLink RL 112 yX5_due ∈ AW := aw_mem (i := 662) (by decide +kernel) (by decide +kernel)
theorem aw_663 : Cond.instanceMethod yX5_due ∈ AW := aw_mem (i := 663) (by decide +kernel) (by decide +kernel)
theorem aw_664 : Cond.selects RX5 yX5_due yX5_due ∈ AW := aw_mem (i := 664) (by decide +kernel) (by decide +kernel)
theorem aw_665 : Cond.code yX5_due cX5_due 2 (some .int) ∈ AW := aw_mem (i := 665) (by decide +kernel) (by decide +kernel)
theorem aw_666 : Cond.methodLink RL 116 yX5_count ∈ AW := aw_mem (i := 666) (by decide +kernel) (by decide +kernel)
theorem aw_667 : Cond.instanceMethod yX5_count ∈ AW := aw_mem (i := 667) (by decide +kernel) (by decide +kernel)
theorem aw_668 : Cond.selects RX5 yX5_count yX5_count ∈ AW := aw_mem (i := 668) (by decide +kernel) (by decide +kernel)
theorem aw_669 : Cond.code yX5_count cX5_count 4 (some .int) ∈ AW := aw_mem (i := 669) (by decide +kernel) (by decide +kernel)
theorem aw_670 : Cond.methodLink RL 121 yX5_trace ∈ AW := aw_mem (i := 670) (by decide +kernel) (by decide +kernel)
theorem aw_671 : Cond.instanceMethod yX5_trace ∈ AW := aw_mem (i := 671) (by decide +kernel) (by decide +kernel)
theorem aw_672 : Cond.selects RX5 yX5_trace yX5_trace ∈ AW := aw_mem (i := 672) (by decide +kernel) (by decide +kernel)
theorem aw_673 : Cond.code yX5_trace cX5_trace 1 (some .long) ∈ AW := aw_mem (i := 673) (by decide +kernel) (by decide +kernel)
end
section
/-! THE JUDGEMENT Zj: the machine at pc with locals L, stack st, a heap with HP -/
abbrev St : Type := Nat → Nat → Int32
def up2 (f : St) (i k : Nat) (v : Int32) : St := fun a b => if a = i ∧ b = k then v else f a b
theorem up2_s (f : St) (i k : Nat) (v : Int32) : up2 f i k v i k = v := by simp [up2]
theorem up2_c (f : St) {i j : Nat} (k b : Nat) (v : Int32) (h : j ≠ i) : up2 f i k v j b = f j b := by simp [up2, h]
theorem up2_cc (f : St) {i j : Nat} (k : Nat) (v : Int32) (h : j ≠ i) : up2 f i k v j = f j := by funext b; simp [up2, h]
theorem up2_k (f : St) (i : Nat) {k b : Nat} (v : Int32) (h : b ≠ k) : up2 f i k v i b = f i b := by simp [up2, h]
theorem up2_u (f : St) (i k : Nat) (v : Int32) : up2 f i k v i = upd (f i) k v := by funext b; simp [up2, upd]
def setL : List Value → Nat → Value → List Value
  | [], _, v => [v]
  | _ :: t, 0, v => v :: t
  | a :: t, i + 1, v => a :: setL t i v
theorem setL_at (v : Value) : ∀ (L : List Value) (i : Nat), i ≤ L.length → ∀ j : Nat, (setL L i v)[j]? = if j = i then some v else L[j]?
  | [], i, h, j => by
    have hi : i = 0 := by simpa using h
    subst hi
    cases j with
    | zero => rfl
    | succ j => rfl
  | a :: t, 0, _, j => by
    cases j with
    | zero => rfl
    | succ j => rfl
  | a :: t, i + 1, h, j => by
    cases j with
    | zero => rfl
    | succ j =>
      have h2 := setL_at v t i (by simpa using h) j
      show (setL t i v)[j]? = _
      rw [h2]
      by_cases e : j = i
      · subst e; simp
      · have e2 : ¬ (j + 1 = i + 1) := by omega
        rw [if_neg e, if_neg e2]
        rfl
theorem setL_mem {v w : Value} : ∀ {L : List Value} {i : Nat}, w ∈ setL L i v → w = v ∨ w ∈ L
  | [], i, h => by left; simpa [setL] using h
  | a :: t, 0, h => by
    rcases List.mem_cons.mp h with e | e
    · exact Or.inl e
    · exact Or.inr (List.mem_cons_of_mem _ e)
  | a :: t, i + 1, h => by
    rcases List.mem_cons.mp h with e | e
    · exact Or.inr (by rw [e]; exact List.mem_cons_self)
    · rcases setL_mem (L := t) (i := i) e with q | q
      · exact Or.inl q
      · exact Or.inr (List.mem_cons_of_mem _ q)
def lvZ (ls : Array Slot) (nL : Nat) (L : List Value) : Prop := ls.size = nL ∧ lv_wf ls ∧ (∀ (i : Nat) (v : Value), L[i]? = some v → ls[i]? = some (.val v)) ∧ ∀ v ∈ L, v.category = 1
theorem lvZ_store {ls : Array Slot} {nL i : Nat} {L : List Value} {v : Value} (h : lvZ ls nL L) (hi : i < nL) (hle : i ≤ L.length) (hc : v.category = 1) : ∃ ls', storeLocals ls i v = some ls' ∧ lvZ ls' nL (setL L i v) := by
  obtain ⟨h1, h2, h3, h4⟩ := h
  have hh : lv_has ls nL ((List.range L.length).map (fun j => (j, L.getD j .null))) := by
    refine ⟨h1, h2, fun q hq => ?_⟩
    obtain ⟨j, hj, rfl⟩ := List.mem_map.mp hq
    have hjl := List.mem_range.mp hj
    exact h3 j _ (by simp [List.getD, List.getElem?_eq_getElem hjl])
  obtain ⟨ls', e, g1, g2, g3⟩ := lv_store1 (v := v) hh hi hc
  refine ⟨ls', e, g1, g2, fun j w hw => ?_, fun w hw => ?_⟩
  · rw [setL_at v L i hle j] at hw
    by_cases e : j = i
    · rw [if_pos e] at hw
      subst e
      cases hw
      exact g3 (j, v) List.mem_cons_self
    · rw [if_neg e] at hw
      have hjl : j < L.length := (List.getElem?_eq_some_iff.mp hw).1
      have hg : L.getD j .null = w := by simp [List.getD, hw]
      have hm : w ∈ L := List.mem_of_getElem? hw
      refine g3 (j, w) (List.mem_cons_of_mem _ (List.mem_filter.mpr ⟨List.mem_map.mpr ⟨j, List.mem_range.mpr hjl, by rw [hg]⟩, ?_⟩))
      have hcw := h4 w hm
      simp [e, hcw]
  · rcases setL_mem hw with q | q
    · rw [q]; exact hc
    · exact h4 w q
theorem lvZ_sub {ls : Array Slot} {nL : Nat} {L L' : List Value} (h : lvZ ls nL L) (hp : ∀ (i : Nat) (v : Value), L'[i]? = some v → L[i]? = some v) : lvZ ls nL L' :=
  ⟨h.1, h.2.1, fun i v hv => h.2.2.1 i v (hp i v hv), fun v hv => by
    obtain ⟨i, hi⟩ := List.getElem?_of_mem hv
    exact h.2.2.2 v (List.mem_of_getElem? (hp i v hi))⟩
theorem lvZ_entry (vs : List Value) {n : Nat} (hn : vs.length ≤ n) (hc : ∀ v ∈ vs, v.category = 1) : lvZ ((vs.map Slot.val ++ List.replicate (n - vs.length) Slot.unset).toArray) n vs := by
  have hnone : ∀ i : Nat, (vs.map Slot.val ++ List.replicate (n - vs.length) Slot.unset).toArray[i]? ≠ some .second := by
    intro i h
    have h2 : Slot.second ∈ vs.map Slot.val ++ List.replicate (n - vs.length) Slot.unset := by
      rw [List.getElem?_toArray] at h
      exact List.mem_of_getElem? h
    rcases List.mem_append.mp h2 with q | q
    · obtain ⟨v, -, e⟩ := List.mem_map.mp q
      cases e
    · have := List.eq_of_mem_replicate q
      cases this
  refine ⟨by simp; omega, ⟨fun i v h hcat => ?_, fun i h => absurd h (hnone i)⟩, fun i v h => ?_, hc⟩
  · exfalso
    have h2 : Slot.val v ∈ vs.map Slot.val ++ List.replicate (n - vs.length) Slot.unset := by
      rw [List.getElem?_toArray] at h
      exact List.mem_of_getElem? h
    rcases List.mem_append.mp h2 with q | q
    · obtain ⟨w, hw, e⟩ := List.mem_map.mp q
      cases e
      have := hc v hw
      omega
    · have := List.eq_of_mem_replicate q
      cases this
  · have hl : i < vs.length := (List.getElem?_eq_some_iff.mp h).1
    rw [List.getElem?_toArray, List.getElem?_append_left (by simpa using hl), List.getElem?_map, h]
    rfl
def Zj (p : Program) (l : Launch) (e : Env) (R : Room) (s : State) (m : MethodId) (args : Array Value) (below : List Frame) (meth : Method) (c : Code) (nL : Nat) (A : Nat → Prop) (cells slots : Nat) (Q : State → Prop) (HP : Heap → Prop) (pc : Nat) (L st : List Value) : Prop :=
  ∀ (ls : Array Slot) (H : Heap) (locs : List Loc), lvZ ls nL L → HP H → va_S A s.heap H locs → W p l e R s m args below meth c H locs cells slots Q (F0 m pc ls st)
abbrev ZFix (p : Program) (m : MethodId) (c : Code) (cc : ByteArray) (nL : Nat) (s : State) (args : Array Value) (own : String) : Prop := CallFix p m c cc nL s args AW own
section ZR
variable {p : Program} {l : Launch} {e : Env} {R : Room} {s : State} {m : MethodId} {args : Array Value} {below : List Frame} {meth : Method} {c : Code} {nL : Nat} {A : Nat → Prop} {cells slots : Nat} {Q : State → Prop} {HP : Heap → Prop} {cc : ByteArray} {own : String} {pc pc' : Nat} {L L' st : List Value}
/-- weaken: fewer locals, another picture -/
theorem z_weak {HP' : Heap → Prop} (hL : ∀ (i : Nat) (v : Value), L'[i]? = some v → L[i]? = some v) (hH : ∀ H, HP H → HP' H) (k : Zj p l e R s m args below meth c nL A cells slots Q HP' pc L' st) : Zj p l e R s m args below meth c nL A cells slots Q HP pc L st :=
  fun ls H locs h1 h2 h3 => k ls H locs (lvZ_sub h1 hL) (hH H h2) h3
theorem z_iconst (C : ZFix p m c cc nL s args own) {n : Int} {v : Int32} (hd : decode cc pc = .ok (.iconst n, 1)) (hp : pc + 1 = pc') (hv : Int32.ofInt n = v) (k : Zj p l e R s m args below meth c nL A cells slots Q HP pc' L (.int v :: st)) : Zj p l e R s m args below meth c nL A cells slots Q HP pc L st :=
  fun ls H locs h1 h2 h3 => lv_iconst C.1 C.2.1 hd hv (hp ▸ k ls H locs h1 h2 h3)
theorem z_bipush (C : ZFix p m c cc nL s args own) {n : Int} {v : Int32} (hd : decode cc pc = .ok (.bipush n, 2)) (hp : pc + 2 = pc') (hv : (Int8.ofInt n).toInt32 = v) (k : Zj p l e R s m args below meth c nL A cells slots Q HP pc' L (.int v :: st)) : Zj p l e R s m args below meth c nL A cells slots Q HP pc L st :=
  fun ls H locs h1 h2 h3 => lv_bipush C.1 C.2.1 hd hv (hp ▸ k ls H locs h1 h2 h3)
theorem z_sipush (C : ZFix p m c cc nL s args own) {n : Int} {v : Int32} (hd : decode cc pc = .ok (.sipush n, 3)) (hp : pc + 3 = pc') (hv : (Int16.ofInt n).toInt32 = v) (k : Zj p l e R s m args below meth c nL A cells slots Q HP pc' L (.int v :: st)) : Zj p l e R s m args below meth c nL A cells slots Q HP pc L st :=
  fun ls H locs h1 h2 h3 => lv_sipush C.1 C.2.1 hd hv (hp ▸ k ls H locs h1 h2 h3)
theorem z_ldc (C : ZFix p m c cc nL s args own) {index : Nat} {v : Int32} (hd : decode cc pc = .ok (.ldc index, 2)) (hp : pc + 2 = pc') (hw : Cond.constant own index v ∈ AW) (k : Zj p l e R s m args below meth c nL A cells slots Q HP pc' L (.int v :: st)) : Zj p l e R s m args below meth c nL A cells slots Q HP pc L st :=
  fun ls H locs h1 h2 h3 => lv_ldc C.1 C.2.1 C.2.2.2.1 (C.2.2.2.2 _ hw) hd (hp ▸ k ls H locs h1 h2 h3)
theorem z_ldc2 (C : ZFix p m c cc nL s args own) {index : Nat} {v : Int64} (hd : decode cc pc = .ok (.ldc2_w index, 3)) (hp : pc + 3 = pc') (hw : Cond.constantLong own index v ∈ AW) (k : Zj p l e R s m args below meth c nL A cells slots Q HP pc' L (.long v :: st)) : Zj p l e R s m args below meth c nL A cells slots Q HP pc L st :=
  fun ls H locs h1 h2 h3 => lv_ldc2 C.1 C.2.1 C.2.2.2.1 (C.2.2.2.2 _ hw) hd (hp ▸ k ls H locs h1 h2 h3)
theorem z_lconst (C : ZFix p m c cc nL s args own) {n : Fin 2} {v : Int64} (hd : decode cc pc = .ok (.lconst n, 1)) (hp : pc + 1 = pc') (hv : Int64.ofNat (n : Nat) = v) (k : Zj p l e R s m args below meth c nL A cells slots Q HP pc' L (.long v :: st)) : Zj p l e R s m args below meth c nL A cells slots Q HP pc L st :=
  fun ls H locs h1 h2 h3 => lv_lconst C.1 C.2.1 hd hv (hp ▸ k ls H locs h1 h2 h3)
theorem z_iload_n (C : ZFix p m c cc nL s args own) {n : Fin 4} {i : Nat} {x : Int32} (hd : decode cc pc = .ok (.iload_n n, 1)) (hp : pc + 1 = pc') (hi : (n : Nat) = i) (hl : L[i]? = some (.int x)) (k : Zj p l e R s m args below meth c nL A cells slots Q HP pc' L (.int x :: st)) : Zj p l e R s m args below meth c nL A cells slots Q HP pc L st :=
  fun ls H locs h1 h2 h3 => lv_iload_n C.1 C.2.1 hd hi (h1.2.2.1 i _ hl) (hp ▸ k ls H locs h1 h2 h3)
theorem z_iload (C : ZFix p m c cc nL s args own) {i : Nat} {x : Int32} (hd : decode cc pc = .ok (.iload i, 2)) (hp : pc + 2 = pc') (hl : L[i]? = some (.int x)) (k : Zj p l e R s m args below meth c nL A cells slots Q HP pc' L (.int x :: st)) : Zj p l e R s m args below meth c nL A cells slots Q HP pc L st :=
  fun ls H locs h1 h2 h3 => lv_iload C.1 C.2.1 hd (h1.2.2.1 i _ hl) (hp ▸ k ls H locs h1 h2 h3)
theorem z_aload_n (C : ZFix p m c cc nL s args own) {n : Fin 4} {i : Nat} {x : Nat} (hd : decode cc pc = .ok (.aload_n n, 1)) (hp : pc + 1 = pc') (hi : (n : Nat) = i) (hl : L[i]? = some (.ref x)) (k : Zj p l e R s m args below meth c nL A cells slots Q HP pc' L (.ref x :: st)) : Zj p l e R s m args below meth c nL A cells slots Q HP pc L st :=
  fun ls H locs h1 h2 h3 => lv_aload_n C.1 C.2.1 hd hi (h1.2.2.1 i _ hl) (hp ▸ k ls H locs h1 h2 h3)
theorem z_aload (C : ZFix p m c cc nL s args own) {i : Nat} {x : Nat} (hd : decode cc pc = .ok (.aload i, 2)) (hp : pc + 2 = pc') (hl : L[i]? = some (.ref x)) (k : Zj p l e R s m args below meth c nL A cells slots Q HP pc' L (.ref x :: st)) : Zj p l e R s m args below meth c nL A cells slots Q HP pc L st :=
  fun ls H locs h1 h2 h3 => lv_aload C.1 C.2.1 hd (h1.2.2.1 i _ hl) (hp ▸ k ls H locs h1 h2 h3)
theorem z_istore_n (C : ZFix p m c cc nL s args own) {n : Fin 4} {i : Nat} {x : Int32} (hd : decode cc pc = .ok (.istore_n n, 1)) (hp : pc + 1 = pc') (hi : (n : Nat) = i) (hn : i < nL) (hle : i ≤ L.length) (hl : setL L i (.int x) = L') (k : Zj p l e R s m args below meth c nL A cells slots Q HP pc' L' st) : Zj p l e R s m args below meth c nL A cells slots Q HP pc L (.int x :: st) := by
  intro ls H locs h1 h2 h3 T hT X
  subst hi; subst hp; subst hl
  obtain ⟨ls', e', h'⟩ := lvZ_store (v := .int x) h1 hn hle rfl
  obtain ⟨t, a, b⟩ := k ls' H locs h' h2 h3 T hT X
  have hexec := C.1
  have hb := C.2.1
  refine ⟨t, ?_, b⟩
  jvm_step X.here [X.here.top, ↓top_set X.here.top, hexec, hb, hd, e']
  exact a
theorem z_istore (C : ZFix p m c cc nL s args own) {i : Nat} {x : Int32} (hd : decode cc pc = .ok (.istore i, 2)) (hp : pc + 2 = pc') (hn : i < nL) (hle : i ≤ L.length) (hl : setL L i (.int x) = L') (k : Zj p l e R s m args below meth c nL A cells slots Q HP pc' L' st) : Zj p l e R s m args below meth c nL A cells slots Q HP pc L (.int x :: st) := by
  intro ls H locs h1 h2 h3 T hT X
  subst hp; subst hl
  obtain ⟨ls', e', h'⟩ := lvZ_store (v := .int x) h1 hn hle rfl
  obtain ⟨t, a, b⟩ := k ls' H locs h' h2 h3 T hT X
  have hexec := C.1
  have hb := C.2.1
  refine ⟨t, ?_, b⟩
  jvm_step X.here [X.here.top, ↓top_set X.here.top, hexec, hb, hd, e']
  exact a
theorem z_astore_n (C : ZFix p m c cc nL s args own) {n : Fin 4} {i : Nat} {x : Nat} (hd : decode cc pc = .ok (.astore_n n, 1)) (hp : pc + 1 = pc') (hi : (n : Nat) = i) (hn : i < nL) (hle : i ≤ L.length) (hl : setL L i (.ref x) = L') (k : Zj p l e R s m args below meth c nL A cells slots Q HP pc' L' st) : Zj p l e R s m args below meth c nL A cells slots Q HP pc L (.ref x :: st) := by
  intro ls H locs h1 h2 h3 T hT X
  subst hi; subst hp; subst hl
  obtain ⟨ls', e', h'⟩ := lvZ_store (v := .ref x) h1 hn hle rfl
  obtain ⟨t, a, b⟩ := k ls' H locs h' h2 h3 T hT X
  have hexec := C.1
  have hb := C.2.1
  refine ⟨t, ?_, b⟩
  jvm_step X.here [X.here.top, ↓top_set X.here.top, hexec, hb, hd, e', Value.isRef]
  exact a
theorem z_iinc (C : ZFix p m c cc nL s args own) {i : Nat} {n : Int} {x v : Int32} (hd : decode cc pc = .ok (.iinc i n, 3)) (hp : pc + 3 = pc') (hg : L[i]? = some (.int x)) (hv : x + Int32.ofInt n = v) (hn : i < nL) (hle : i ≤ L.length) (hl : setL L i (.int v) = L') (k : Zj p l e R s m args below meth c nL A cells slots Q HP pc' L' st) : Zj p l e R s m args below meth c nL A cells slots Q HP pc L st := by
  intro ls H locs h1 h2 h3 T hT X
  subst hp; subst hl; subst hv
  have hg2 := h1.2.2.1 i _ hg
  obtain ⟨ls', e', h'⟩ := lvZ_store (v := .int (x + Int32.ofInt n)) h1 hn hle rfl
  obtain ⟨t, a, b⟩ := k ls' H locs h' h2 h3 T hT X
  have hexec := C.1
  have hb := C.2.1
  refine ⟨t, ?_, b⟩
  jvm_step X.here [X.here.top, ↓top_set X.here.top, hexec, hb, hd, hg2, e']
  exact a
theorem z_dup (C : ZFix p m c cc nL s args own) {v : Value} (hd : decode cc pc = .ok (.dup, 1)) (hp : pc + 1 = pc') (hv : v.category = 1) (k : Zj p l e R s m args below meth c nL A cells slots Q HP pc' L (v :: v :: st)) : Zj p l e R s m args below meth c nL A cells slots Q HP pc L (v :: st) :=
  fun ls H locs h1 h2 h3 => lv_dup C.1 C.2.1 hd hv (hp ▸ k ls H locs h1 h2 h3)
theorem z_dup2 (C : ZFix p m c cc nL s args own) {v w : Value} (hd : decode cc pc = .ok (.dup2, 1)) (hp : pc + 1 = pc') (hv : v.category = 1) (hw : w.category = 1) (k : Zj p l e R s m args below meth c nL A cells slots Q HP pc' L (v :: w :: v :: w :: st)) : Zj p l e R s m args below meth c nL A cells slots Q HP pc L (v :: w :: st) :=
  fun ls H locs h1 h2 h3 => lv_dup2_11 C.1 C.2.1 hd hv hw (hp ▸ k ls H locs h1 h2 h3)
theorem z_iadd (C : ZFix p m c cc nL s args own) {x y z : Int32} (hd : decode cc pc = .ok (.iadd, 1)) (hp : pc + 1 = pc') (hz : x + y = z) (k : Zj p l e R s m args below meth c nL A cells slots Q HP pc' L (.int z :: st)) : Zj p l e R s m args below meth c nL A cells slots Q HP pc L (.int y :: .int x :: st) :=
  fun ls H locs h1 h2 h3 => lv_iadd C.1 C.2.1 hd (hz ▸ hp ▸ k ls H locs h1 h2 h3)
theorem z_isub (C : ZFix p m c cc nL s args own) {x y z : Int32} (hd : decode cc pc = .ok (.isub, 1)) (hp : pc + 1 = pc') (hz : x - y = z) (k : Zj p l e R s m args below meth c nL A cells slots Q HP pc' L (.int z :: st)) : Zj p l e R s m args below meth c nL A cells slots Q HP pc L (.int y :: .int x :: st) :=
  fun ls H locs h1 h2 h3 => lv_isub C.1 C.2.1 hd (hz ▸ hp ▸ k ls H locs h1 h2 h3)
theorem z_imul (C : ZFix p m c cc nL s args own) {x y z : Int32} (hd : decode cc pc = .ok (.imul, 1)) (hp : pc + 1 = pc') (hz : x * y = z) (k : Zj p l e R s m args below meth c nL A cells slots Q HP pc' L (.int z :: st)) : Zj p l e R s m args below meth c nL A cells slots Q HP pc L (.int y :: .int x :: st) :=
  fun ls H locs h1 h2 h3 => lv_imul C.1 C.2.1 hd (hz ▸ hp ▸ k ls H locs h1 h2 h3)
theorem z_idiv (C : ZFix p m c cc nL s args own) {x y z : Int32} (hd : decode cc pc = .ok (.idiv, 1)) (hp : pc + 1 = pc') (hne : ¬ y = 0) (hz : x / y = z) (k : Zj p l e R s m args below meth c nL A cells slots Q HP pc' L (.int z :: st)) : Zj p l e R s m args below meth c nL A cells slots Q HP pc L (.int y :: .int x :: st) :=
  fun ls H locs h1 h2 h3 => lv_idiv C.1 C.2.1 hd hne (hz ▸ hp ▸ k ls H locs h1 h2 h3)
theorem z_irem (C : ZFix p m c cc nL s args own) {x y z : Int32} (hd : decode cc pc = .ok (.irem, 1)) (hp : pc + 1 = pc') (hne : ¬ y = 0) (hz : x - x / y * y = z) (k : Zj p l e R s m args below meth c nL A cells slots Q HP pc' L (.int z :: st)) : Zj p l e R s m args below meth c nL A cells slots Q HP pc L (.int y :: .int x :: st) :=
  fun ls H locs h1 h2 h3 => lv_irem C.1 C.2.1 hd hne (hz ▸ hp ▸ k ls H locs h1 h2 h3)
theorem z_ineg (C : ZFix p m c cc nL s args own) {x z : Int32} (hd : decode cc pc = .ok (.ineg, 1)) (hp : pc + 1 = pc') (hz : -x = z) (k : Zj p l e R s m args below meth c nL A cells slots Q HP pc' L (.int z :: st)) : Zj p l e R s m args below meth c nL A cells slots Q HP pc L (.int x :: st) :=
  fun ls H locs h1 h2 h3 => lv_ineg C.1 C.2.1 hd (hz ▸ hp ▸ k ls H locs h1 h2 h3)
theorem z_iand (C : ZFix p m c cc nL s args own) {x y z : Int32} (hd : decode cc pc = .ok (.iand, 1)) (hp : pc + 1 = pc') (hz : x &&& y = z) (k : Zj p l e R s m args below meth c nL A cells slots Q HP pc' L (.int z :: st)) : Zj p l e R s m args below meth c nL A cells slots Q HP pc L (.int y :: .int x :: st) :=
  fun ls H locs h1 h2 h3 => lv_iand C.1 C.2.1 hd (hz ▸ hp ▸ k ls H locs h1 h2 h3)
theorem z_ishl (C : ZFix p m c cc nL s args own) {x y z : Int32} (hd : decode cc pc = .ok (.ishl, 1)) (hp : pc + 1 = pc') (hz : x <<< (y &&& 31) = z) (k : Zj p l e R s m args below meth c nL A cells slots Q HP pc' L (.int z :: st)) : Zj p l e R s m args below meth c nL A cells slots Q HP pc L (.int y :: .int x :: st) :=
  fun ls H locs h1 h2 h3 => lv_ishl C.1 C.2.1 hd (hz ▸ hp ▸ k ls H locs h1 h2 h3)
theorem z_ishr (C : ZFix p m c cc nL s args own) {x y z : Int32} (hd : decode cc pc = .ok (.ishr, 1)) (hp : pc + 1 = pc') (hz : x >>> (y &&& 31) = z) (k : Zj p l e R s m args below meth c nL A cells slots Q HP pc' L (.int z :: st)) : Zj p l e R s m args below meth c nL A cells slots Q HP pc L (.int y :: .int x :: st) :=
  fun ls H locs h1 h2 h3 => lv_ishr C.1 C.2.1 hd (hz ▸ hp ▸ k ls H locs h1 h2 h3)
theorem z_i2l (C : ZFix p m c cc nL s args own) {x : Int32} {v : Int64} (hd : decode cc pc = .ok (.i2l, 1)) (hp : pc + 1 = pc') (hv : x.toInt64 = v) (k : Zj p l e R s m args below meth c nL A cells slots Q HP pc' L (.long v :: st)) : Zj p l e R s m args below meth c nL A cells slots Q HP pc L (.int x :: st) :=
  fun ls H locs h1 h2 h3 => lv_i2l C.1 C.2.1 hd hv (hp ▸ k ls H locs h1 h2 h3)
theorem z_ladd (C : ZFix p m c cc nL s args own) {x y z : Int64} (hd : decode cc pc = .ok (.ladd, 1)) (hp : pc + 1 = pc') (hz : x + y = z) (k : Zj p l e R s m args below meth c nL A cells slots Q HP pc' L (.long z :: st)) : Zj p l e R s m args below meth c nL A cells slots Q HP pc L (.long y :: .long x :: st) :=
  fun ls H locs h1 h2 h3 => lv_ladd C.1 C.2.1 hd (hz ▸ hp ▸ k ls H locs h1 h2 h3)
theorem z_lcmp (C : ZFix p m c cc nL s args own) {x y : Int64} (hd : decode cc pc = .ok (.lcmp, 1)) (hp : pc + 1 = pc') (k : Zj p l e R s m args below meth c nL A cells slots Q HP pc' L (.int (lg_cmp x y) :: st)) : Zj p l e R s m args below meth c nL A cells slots Q HP pc L (.long y :: .long x :: st) :=
  fun ls H locs h1 h2 h3 => W.lcmp C.1 C.2.1 hd (hp ▸ k ls H locs h1 h2 h3)
theorem z_goto (C : ZFix p m c cc nL s args own) {off : Int} (hd : decode cc pc = .ok (.goto off, 3)) (hp : (pc : Int) + off = (pc' : Int)) (k : Zj p l e R s m args below meth c nL A cells slots Q HP pc' L st) : Zj p l e R s m args below meth c nL A cells slots Q HP pc L st :=
  fun ls H locs h1 h2 h3 => lv_goto C.1 C.2.1 hd hp (k ls H locs h1 h2 h3)
theorem z_icmp_ge (C : ZFix p m c cc nL s args own) {x y : Int32} {off : Int} {tgt : Nat} (hd : decode cc pc = .ok (.if_icmp .ge off, 3)) (ht : (pc : Int) + off = (tgt : Int)) (hp : pc + 3 = pc') (kt : y ≤ x → Zj p l e R s m args below meth c nL A cells slots Q HP tgt L st) (kf : ¬ y ≤ x → Zj p l e R s m args below meth c nL A cells slots Q HP pc' L st) : Zj p l e R s m args below meth c nL A cells slots Q HP pc L (.int y :: .int x :: st) :=
  fun ls H locs h1 h2 h3 => lv_icmp_ge C.1 C.2.1 hd ht (fun q => kt q ls H locs h1 h2 h3) (fun q => hp ▸ kf q ls H locs h1 h2 h3)
theorem z_icmp_lt (C : ZFix p m c cc nL s args own) {x y : Int32} {off : Int} {tgt : Nat} (hd : decode cc pc = .ok (.if_icmp .lt off, 3)) (ht : (pc : Int) + off = (tgt : Int)) (hp : pc + 3 = pc') (kt : x < y → Zj p l e R s m args below meth c nL A cells slots Q HP tgt L st) (kf : ¬ x < y → Zj p l e R s m args below meth c nL A cells slots Q HP pc' L st) : Zj p l e R s m args below meth c nL A cells slots Q HP pc L (.int y :: .int x :: st) :=
  fun ls H locs h1 h2 h3 => lv_icmp_lt C.1 C.2.1 hd ht (fun q => kt q ls H locs h1 h2 h3) (fun q => hp ▸ kf q ls H locs h1 h2 h3)
theorem z_icmp_eq (C : ZFix p m c cc nL s args own) {x y : Int32} {off : Int} {tgt : Nat} (hd : decode cc pc = .ok (.if_icmp .eq off, 3)) (ht : (pc : Int) + off = (tgt : Int)) (hp : pc + 3 = pc') (kt : x = y → Zj p l e R s m args below meth c nL A cells slots Q HP tgt L st) (kf : ¬ x = y → Zj p l e R s m args below meth c nL A cells slots Q HP pc' L st) : Zj p l e R s m args below meth c nL A cells slots Q HP pc L (.int y :: .int x :: st) :=
  fun ls H locs h1 h2 h3 => lv_icmp_eq C.1 C.2.1 hd ht (fun q => kt q ls H locs h1 h2 h3) (fun q => hp ▸ kf q ls H locs h1 h2 h3)
theorem z_icmp_ne (C : ZFix p m c cc nL s args own) {x y : Int32} {off : Int} {tgt : Nat} (hd : decode cc pc = .ok (.if_icmp .ne off, 3)) (ht : (pc : Int) + off = (tgt : Int)) (hp : pc + 3 = pc') (kt : ¬ x = y → Zj p l e R s m args below meth c nL A cells slots Q HP tgt L st) (kf : x = y → Zj p l e R s m args below meth c nL A cells slots Q HP pc' L st) : Zj p l e R s m args below meth c nL A cells slots Q HP pc L (.int y :: .int x :: st) :=
  fun ls H locs h1 h2 h3 => lv_icmp_ne C.1 C.2.1 hd ht (fun q => kt q ls H locs h1 h2 h3) (fun q => hp ▸ kf q ls H locs h1 h2 h3)
theorem z_icmp_gt (C : ZFix p m c cc nL s args own) {x y : Int32} {off : Int} {tgt : Nat} (hd : decode cc pc = .ok (.if_icmp .gt off, 3)) (ht : (pc : Int) + off = (tgt : Int)) (hp : pc + 3 = pc') (kt : y < x → Zj p l e R s m args below meth c nL A cells slots Q HP tgt L st) (kf : ¬ y < x → Zj p l e R s m args below meth c nL A cells slots Q HP pc' L st) : Zj p l e R s m args below meth c nL A cells slots Q HP pc L (.int y :: .int x :: st) :=
  fun ls H locs h1 h2 h3 => lv_icmp_gt C.1 C.2.1 hd ht (fun q => kt q ls H locs h1 h2 h3) (fun q => hp ▸ kf q ls H locs h1 h2 h3)
theorem z_icmp_le (C : ZFix p m c cc nL s args own) {x y : Int32} {off : Int} {tgt : Nat} (hd : decode cc pc = .ok (.if_icmp .le off, 3)) (ht : (pc : Int) + off = (tgt : Int)) (hp : pc + 3 = pc') (kt : x ≤ y → Zj p l e R s m args below meth c nL A cells slots Q HP tgt L st) (kf : ¬ x ≤ y → Zj p l e R s m args below meth c nL A cells slots Q HP pc' L st) : Zj p l e R s m args below meth c nL A cells slots Q HP pc L (.int y :: .int x :: st) :=
  fun ls H locs h1 h2 h3 => lv_icmp_le C.1 C.2.1 hd ht (fun q => kt q ls H locs h1 h2 h3) (fun q => hp ▸ kf q ls H locs h1 h2 h3)
theorem z_if_eq (C : ZFix p m c cc nL s args own) {x : Int32} {off : Int} {tgt : Nat} (hd : decode cc pc = .ok (.ifCond .eq off, 3)) (ht : (pc : Int) + off = (tgt : Int)) (hp : pc + 3 = pc') (kt : x = 0 → Zj p l e R s m args below meth c nL A cells slots Q HP tgt L st) (kf : ¬ x = 0 → Zj p l e R s m args below meth c nL A cells slots Q HP pc' L st) : Zj p l e R s m args below meth c nL A cells slots Q HP pc L (.int x :: st) :=
  fun ls H locs h1 h2 h3 => lv_if_eq C.1 C.2.1 hd ht (fun q => kt q ls H locs h1 h2 h3) (fun q => hp ▸ kf q ls H locs h1 h2 h3)
theorem z_if_ne (C : ZFix p m c cc nL s args own) {x : Int32} {off : Int} {tgt : Nat} (hd : decode cc pc = .ok (.ifCond .ne off, 3)) (ht : (pc : Int) + off = (tgt : Int)) (hp : pc + 3 = pc') (kt : ¬ x = 0 → Zj p l e R s m args below meth c nL A cells slots Q HP tgt L st) (kf : x = 0 → Zj p l e R s m args below meth c nL A cells slots Q HP pc' L st) : Zj p l e R s m args below meth c nL A cells slots Q HP pc L (.int x :: st) :=
  fun ls H locs h1 h2 h3 => lv_if_ne C.1 C.2.1 hd ht (fun q => kt q ls H locs h1 h2 h3) (fun q => hp ▸ kf q ls H locs h1 h2 h3)
theorem z_if_lt (C : ZFix p m c cc nL s args own) {x : Int32} {off : Int} {tgt : Nat} (hd : decode cc pc = .ok (.ifCond .lt off, 3)) (ht : (pc : Int) + off = (tgt : Int)) (hp : pc + 3 = pc') (kt : x < 0 → Zj p l e R s m args below meth c nL A cells slots Q HP tgt L st) (kf : ¬ x < 0 → Zj p l e R s m args below meth c nL A cells slots Q HP pc' L st) : Zj p l e R s m args below meth c nL A cells slots Q HP pc L (.int x :: st) :=
  fun ls H locs h1 h2 h3 => lv_if_lt C.1 C.2.1 hd ht (fun q => kt q ls H locs h1 h2 h3) (fun q => hp ▸ kf q ls H locs h1 h2 h3)
theorem z_if_ge (C : ZFix p m c cc nL s args own) {x : Int32} {off : Int} {tgt : Nat} (hd : decode cc pc = .ok (.ifCond .ge off, 3)) (ht : (pc : Int) + off = (tgt : Int)) (hp : pc + 3 = pc') (kt : 0 ≤ x → Zj p l e R s m args below meth c nL A cells slots Q HP tgt L st) (kf : ¬ 0 ≤ x → Zj p l e R s m args below meth c nL A cells slots Q HP pc' L st) : Zj p l e R s m args below meth c nL A cells slots Q HP pc L (.int x :: st) :=
  fun ls H locs h1 h2 h3 => lv_if_ge C.1 C.2.1 hd ht (fun q => kt q ls H locs h1 h2 h3) (fun q => hp ▸ kf q ls H locs h1 h2 h3)
theorem z_if_gt (C : ZFix p m c cc nL s args own) {x : Int32} {off : Int} {tgt : Nat} (hd : decode cc pc = .ok (.ifCond .gt off, 3)) (ht : (pc : Int) + off = (tgt : Int)) (hp : pc + 3 = pc') (kt : 0 < x → Zj p l e R s m args below meth c nL A cells slots Q HP tgt L st) (kf : ¬ 0 < x → Zj p l e R s m args below meth c nL A cells slots Q HP pc' L st) : Zj p l e R s m args below meth c nL A cells slots Q HP pc L (.int x :: st) :=
  fun ls H locs h1 h2 h3 => lv_if_gt C.1 C.2.1 hd ht (fun q => kt q ls H locs h1 h2 h3) (fun q => hp ▸ kf q ls H locs h1 h2 h3)
theorem z_if_le (C : ZFix p m c cc nL s args own) {x : Int32} {off : Int} {tgt : Nat} (hd : decode cc pc = .ok (.ifCond .le off, 3)) (ht : (pc : Int) + off = (tgt : Int)) (hp : pc + 3 = pc') (kt : x ≤ 0 → Zj p l e R s m args below meth c nL A cells slots Q HP tgt L st) (kf : ¬ x ≤ 0 → Zj p l e R s m args below meth c nL A cells slots Q HP pc' L st) : Zj p l e R s m args below meth c nL A cells slots Q HP pc L (.int x :: st) :=
  fun ls H locs h1 h2 h3 => lv_if_le C.1 C.2.1 hd ht (fun q => kt q ls H locs h1 h2 h3) (fun q => hp ▸ kf q ls H locs h1 h2 h3)
/-- the value on the stack gets another name -/
theorem z_top {x y : Int32} (h : x = y) (k : Zj p l e R s m args below meth c nL A cells slots Q HP pc L (.int y :: st)) : Zj p l e R s m args below meth c nL A cells slots Q HP pc L (.int x :: st) := h ▸ k
theorem z_lkp (C : ZFix p m c cc nL s args own) {dflt : Int} {ps : Array (Int × Int)} {len : Nat} {x : Int32} {off : Int} (hd : decode cc pc = .ok (.lookupswitch dflt ps, len)) (hq : (ps.toList.zip (ps.toList.drop 1)).all (fun (a, next) => a.1 < next.1) = true) (ho : Op.lookupswitch.offset ps.toList dflt x.toInt = off) (ht : (pc : Int) + off = (pc' : Int)) (k : Zj p l e R s m args below meth c nL A cells slots Q HP pc' L st) : Zj p l e R s m args below meth c nL A cells slots Q HP pc L (.int x :: st) :=
  fun ls H locs h1 h2 h3 => lv_lookup C.1 C.2.1 hd hq ho ht (k ls H locs h1 h2 h3)
theorem z_tin (C : ZFix p m c cc nL s args own) {dflt lo hi : Int} {offs : Array Int} {len : Nat} {x : Int32} {off : Int} (hd : decode cc pc = .ok (.tableswitch dflt lo hi offs, len)) (a1 : ¬ x.toInt < lo) (a2 : ¬ hi < x.toInt) (ho : offs[(x.toInt - lo).toNat]? = some off) (ht : (pc : Int) + off = (pc' : Int)) (k : Zj p l e R s m args below meth c nL A cells slots Q HP pc' L st) : Zj p l e R s m args below meth c nL A cells slots Q HP pc L (.int x :: st) :=
  fun ls H locs h1 h2 h3 => lv_tableIn C.1 C.2.1 hd a1 a2 ho ht (k ls H locs h1 h2 h3)
theorem z_tout (C : ZFix p m c cc nL s args own) {dflt lo hi : Int} {offs : Array Int} {len : Nat} {x : Int32} (hd : decode cc pc = .ok (.tableswitch dflt lo hi offs, len)) (h : x.toInt < lo ∨ hi < x.toInt) (ht : (pc : Int) + dflt = (pc' : Int)) (k : Zj p l e R s m args below meth c nL A cells slots Q HP pc' L st) : Zj p l e R s m args below meth c nL A cells slots Q HP pc L (.int x :: st) :=
  fun ls H locs h1 h2 h3 => lv_tableOut C.1 C.2.1 hd h ht (k ls H locs h1 h2 h3)
/-- Math.max, min, abs -/
theorem z_max (C : ZFix p m c cc nL s args own) {index : Nat} (w1 : Cond.methodLink own index Lib.Math.max.name ∈ AW) (w2 : Cond.static Lib.Math.max.name ∈ AW) (w3 : Cond.initialized "java/lang/Math" ∈ AW) (w4 : Cond.code Lib.Math.max.name Lib.Math.max.code 2 (some .int) ∈ AW) (hR : 1 ≤ R.frames ∧ (st.map fun v => v.category).sum + 13 ≤ R.locals) (hf : cells ≤ R.cells ∧ slots ≤ R.slots) {x y : Int32} (hd : decode cc pc = .ok (.invokestatic index, 3)) (hp : pc + 3 = pc') (k : Zj p l e R s m args below meth c nL A cells slots Q HP pc' L (.int (if x < y then y else x) :: st)) : Zj p l e R s m args below meth c nL A cells slots Q HP pc L (.int y :: .int x :: st) :=
  fun ls H locs h1 h2 h3 => va_mmax C.1 C.2.1 (C.2.2.1.trans h1.1.symm) C.2.2.2.1 (C.2.2.2.2 _ w1) (C.2.2.2.2 _ w2) (C.2.2.2.2 _ w3) (C.2.2.2.2 _ w4) hR.1 hR.2 hf.1 hf.2 hd (hp ▸ k ls H locs h1 h2 h3)
theorem z_min (C : ZFix p m c cc nL s args own) {index : Nat} (w1 : Cond.methodLink own index Lib.Math.min.name ∈ AW) (w2 : Cond.static Lib.Math.min.name ∈ AW) (w3 : Cond.initialized "java/lang/Math" ∈ AW) (w4 : Cond.code Lib.Math.min.name Lib.Math.min.code 2 (some .int) ∈ AW) (hR : 1 ≤ R.frames ∧ (st.map fun v => v.category).sum + 13 ≤ R.locals) (hf : cells ≤ R.cells ∧ slots ≤ R.slots) {x y : Int32} (hd : decode cc pc = .ok (.invokestatic index, 3)) (hp : pc + 3 = pc') (k : Zj p l e R s m args below meth c nL A cells slots Q HP pc' L (.int (if y < x then y else x) :: st)) : Zj p l e R s m args below meth c nL A cells slots Q HP pc L (.int y :: .int x :: st) :=
  fun ls H locs h1 h2 h3 => va_mmin C.1 C.2.1 (C.2.2.1.trans h1.1.symm) C.2.2.2.1 (C.2.2.2.2 _ w1) (C.2.2.2.2 _ w2) (C.2.2.2.2 _ w3) (C.2.2.2.2 _ w4) hR.1 hR.2 hf.1 hf.2 hd (hp ▸ k ls H locs h1 h2 h3)
theorem z_abs (C : ZFix p m c cc nL s args own) {index : Nat} (w1 : Cond.methodLink own index Lib.Math.abs.name ∈ AW) (w2 : Cond.static Lib.Math.abs.name ∈ AW) (w3 : Cond.initialized "java/lang/Math" ∈ AW) (w4 : Cond.code Lib.Math.abs.name Lib.Math.abs.code 1 (some .int) ∈ AW) (hR : 1 ≤ R.frames ∧ (st.map fun v => v.category).sum + 13 ≤ R.locals) (hf : cells ≤ R.cells ∧ slots ≤ R.slots) {x : Int32} (hd : decode cc pc = .ok (.invokestatic index, 3)) (hp : pc + 3 = pc') (k : Zj p l e R s m args below meth c nL A cells slots Q HP pc' L (.int (if 0 ≤ x then x else 0 - x) :: st)) : Zj p l e R s m args below meth c nL A cells slots Q HP pc L (.int x :: st) :=
  fun ls H locs h1 h2 h3 => va_mabs C.1 C.2.1 (C.2.2.1.trans h1.1.symm) C.2.2.2.1 (C.2.2.2.2 _ w1) (C.2.2.2.2 _ w2) (C.2.2.2.2 _ w3) (C.2.2.2.2 _ w4) hR.1 hR.2 hf.1 hf.2 hd (hp ▸ k ls H locs h1 h2 h3)
end ZR
end
section
/-! WORLDS BY PLACES: n cells at ad 0 .. ad (n - 1), the content of each a function of the state -/
def wv (n : Nat) (ad : Nat → Nat) (cell : Nat → St → va_E) (σ : St) : va_W := (List.range n).map fun i => (ad i, cell i σ)
theorem wv_at {n : Nat} {ad : Nat → Nat} {cell : Nat → St → va_E} {σ : St} {q : Nat} (h : q < n) : (wv n ad cell σ)[q]? = some (ad q, cell q σ) := by simp [wv, h]
theorem wv_of {n : Nat} {ad : Nat → Nat} {cell : Nat → St → va_E} {σ : St} {k : Nat} {x : Nat × va_E} (h : (wv n ad cell σ)[k]? = some x) : k < n ∧ x = (ad k, cell k σ) := by
  have hk : k < n := by
    have := (List.getElem?_eq_some_iff.mp h).1
    simpa [wv] using this
  rw [wv_at hk] at h
  exact ⟨hk, (Option.some.inj h).symm⟩
theorem wv_set {n : Nat} {ad : Nat → Nat} {cell : Nat → St → va_E} {σ σ' : St} {q : Nat} {e : va_E} (h : q < n) (he : cell q σ' = e) (ho : ∀ i, i < n → i ≠ q → cell i σ' = cell i σ) : (wv n ad cell σ).set q (ad q, e) = wv n ad cell σ' := by
  apply List.ext_getElem?
  intro i
  by_cases hi : i < n
  · by_cases hiq : i = q
    · subst hiq
      rw [List.getElem?_set_self (by simpa [wv] using hi), wv_at hi, he]
    · rw [List.getElem?_set_ne (Ne.symm hiq), wv_at hi, wv_at hi, ho i hi hiq]
  · rw [List.getElem?_eq_none (by simp [wv]; omega), List.getElem?_eq_none (by simp [wv]; omega)]
def Inj (n : Nat) (ad : Nat → Nat) : Prop := ∀ i j : Nat, i < n → j < n → ad i = ad j → i = j
def AdS (n : Nat) (ad : Nat → Nat) : Nat → Prop := fun q => ∃ i, i < n ∧ q = ad i
theorem wv_D {n : Nat} {ad : Nat → Nat} {cell : Nat → St → va_E} {σ : St} {A : Nat → Prop} (h : Inj n ad) (hA : ∀ i, i < n → A (ad i)) : va_D A (wv n ad cell σ) := by
  refine ⟨fun i j x y hi hj hxy => ?_, fun k x hk => ?_⟩
  · obtain ⟨h1, rfl⟩ := wv_of hi
    obtain ⟨h2, rfl⟩ := wv_of hj
    exact h i j h1 h2 hxy
  · obtain ⟨h1, rfl⟩ := wv_of hk
    exact hA k h1
theorem AdS_in {n : Nat} {ad : Nat → Nat} : ∀ i, i < n → AdS n ad (ad i) := fun i h => ⟨i, h, rfl⟩
/-- the picture -/
def PV (D : va_G) (n : Nat) (ad : Nat → Nat) (cell : Nat → St → va_E) (σ : St) (H : Heap) : Prop := va_P D vwCl (wv n ad cell σ) H
theorem PV_kept {D : va_G} {n : Nat} {ad : Nat → Nat} {cell : Nat → St → va_E} {σ : St} {H H1 : Heap} (h : PV D n ad cell σ H) (hk : ∀ i, i < n → ad i < H.size → H1[ad i]? = H[ad i]?) : PV D n ad cell σ H1 := by
  refine va_P.kept h fun k q hq => ?_
  have hl := (h k q hq).lt
  obtain ⟨h1, rfl⟩ := wv_of hq
  exact hk k h1 hl
/-- what a method finds -/
def PB (D : va_G) (tys : List (ClassId × FieldType)) (n : Nat) (ad : Nat → Nat) (cell : Nat → St → va_E) (σ : St) (U : State) : Prop := PV D n ad cell σ U.heap ∧ va_K D vwCl tys U
theorem PB_blind {D : va_G} {tys : List (ClassId × FieldType)} {n : Nat} {ad : Nat → Nat} {cell : Nat → St → va_E} {σ : St} {As : List Value} : FrameBlind (va_Pc As (PB D tys n ad cell σ)) := fun a U g mk h => ⟨h.1, h.2.1, va_K.moved (u := U) (U := U.calling g mk a) (Vm.Alike.refl U.vm) h.2.2⟩
/-- contracts of methods of a system whose cells stay -/
def CI (l : Launch) (y : MethodName) (b : ByteArray) (nL : Nat) (rt : FieldType) (fr lo : Nat) (D : va_G) (tys : List (ClassId × FieldType)) (n : Nat) (ad : Nat → Nat) (cell : Nat → St → va_E) (σ : St) (As : List Value) (post : Int32 → St → Prop) : Prop :=
  Met l y (.code y b nL (some rt) :: AW) { frames := fr, cells := 0, slots := 0, locals := lo } (va_Pc As (PB D tys n ad cell σ)) (va_Qi post (fun u t => PV D n ad cell u t.heap) (AdS n ad)) 0 0 (AdS n ad)
def CL (l : Launch) (y : MethodName) (b : ByteArray) (nL : Nat) (fr lo : Nat) (D : va_G) (tys : List (ClassId × FieldType)) (n : Nat) (ad : Nat → Nat) (cell : Nat → St → va_E) (σ : St) (As : List Value) (post : Int64 → St → Prop) : Prop :=
  Met l y (.code y b nL (some .long) :: AW) { frames := fr, cells := 0, slots := 0, locals := lo } (va_Pc As (PB D tys n ad cell σ)) (va_Ql post (fun u t => PV D n ad cell u t.heap) (AdS n ad)) 0 0 (AdS n ad)
def CV (l : Launch) (y : MethodName) (b : ByteArray) (nL : Nat) (fr lo : Nat) (D : va_G) (tys : List (ClassId × FieldType)) (n : Nat) (ad : Nat → Nat) (cell : Nat → St → va_E) (σ : St) (As : List Value) (post : St → Prop) : Prop :=
  Met l y (.code y b nL none :: AW) { frames := fr, cells := 0, slots := 0, locals := lo } (va_Pc As (PB D tys n ad cell σ)) (va_Qv post (fun u t => PV D n ad cell u t.heap) (AdS n ad)) 0 0 (AdS n ad)
def CS (l : Launch) (y : MethodName) (b : ByteArray) (nL : Nat) (rt : FieldType) (fr lo : Nat) (As : List Value) (post : Int32 → Prop) : Prop :=
  Met l y (.code y b nL (some rt) :: AW) { frames := fr, cells := 0, slots := 0, locals := lo } (va_Pc As (fun _ => True)) (va_Qi (fun r (_ : Unit) => post r) (fun _ _ => True) (fun _ => False)) 0 0 (fun _ => False)
section ZC
variable {l : Launch} {y : MethodName} {b : ByteArray} {nL fr lo : Nat} {rt : FieldType} {D : va_G} {tys : List (ClassId × FieldType)} {n : Nat} {ad : Nat → Nat} {cell : Nat → St → va_E} {σ : St} {As : List Value}
theorem CI_of {post : Int32 → St → Prop} (hy : plainName y.cls = true) (hn : As.length ≤ nL) (hc : ∀ v ∈ As, v.category = 1)
    (body : ∀ (p : Program) (e : Env) (s : State) (m : MethodId) (below : List Frame) (meth : Method) (c : Code), ZFix p m c b nL s As.toArray y.cls → meth.sig.returnType = some rt ∧ meth.locks = false → va_K D vwCl tys s →
      Zj p l e { frames := fr, cells := 0, slots := 0, locals := lo } s m As.toArray below meth c nL (AdS n ad) 0 0 (MQ below (va_Qi post (fun u t => PV D n ad cell u t.heap) (AdS n ad)) As.toArray s 0 0 (AdS n ad)) (PV D n ad cell σ) 0 As []) : CI l y b nL rt fr lo D tys n ad cell σ As post := by
  refine Met.ofW (cc := b) (maxL := nL) (ret := some rt) hy rfl ?_
  intro p e s m args below meth c s₁ B hml hv
  obtain ⟨rfl, hP, hK⟩ := hv
  have hts := atoms_spec (ws := .code y b nL (some rt) :: AW) B.pre
  have k := body p e s m below meth c ⟨B.exec, B.bytes, hml, findClass_of_methodNamed B.named, fun w hw => hts w (List.mem_cons_of_mem _ hw)⟩ ⟨B.returns, B.notSynchronized⟩ hK
  rw [entry_eq m As hc nL]
  exact k _ _ [] (lvZ_entry As hn hc) hP va_S.rf
theorem CL_of {post : Int64 → St → Prop} (hy : plainName y.cls = true) (hn : As.length ≤ nL) (hc : ∀ v ∈ As, v.category = 1)
    (body : ∀ (p : Program) (e : Env) (s : State) (m : MethodId) (below : List Frame) (meth : Method) (c : Code), ZFix p m c b nL s As.toArray y.cls → meth.sig.returnType = some .long ∧ meth.locks = false → va_K D vwCl tys s →
      Zj p l e { frames := fr, cells := 0, slots := 0, locals := lo } s m As.toArray below meth c nL (AdS n ad) 0 0 (MQ below (va_Ql post (fun u t => PV D n ad cell u t.heap) (AdS n ad)) As.toArray s 0 0 (AdS n ad)) (PV D n ad cell σ) 0 As []) : CL l y b nL fr lo D tys n ad cell σ As post := by
  refine Met.ofW (cc := b) (maxL := nL) (ret := some .long) hy rfl ?_
  intro p e s m args below meth c s₁ B hml hv
  obtain ⟨rfl, hP, hK⟩ := hv
  have hts := atoms_spec (ws := .code y b nL (some .long) :: AW) B.pre
  have k := body p e s m below meth c ⟨B.exec, B.bytes, hml, findClass_of_methodNamed B.named, fun w hw => hts w (List.mem_cons_of_mem _ hw)⟩ ⟨B.returns, B.notSynchronized⟩ hK
  rw [entry_eq m As hc nL]
  exact k _ _ [] (lvZ_entry As hn hc) hP va_S.rf
theorem CV_of {post : St → Prop} (hy : plainName y.cls = true) (hn : As.length ≤ nL) (hc : ∀ v ∈ As, v.category = 1)
    (body : ∀ (p : Program) (e : Env) (s : State) (m : MethodId) (below : List Frame) (meth : Method) (c : Code), ZFix p m c b nL s As.toArray y.cls → meth.sig.returnType = none ∧ meth.locks = false → va_K D vwCl tys s →
      Zj p l e { frames := fr, cells := 0, slots := 0, locals := lo } s m As.toArray below meth c nL (AdS n ad) 0 0 (MQ below (va_Qv post (fun u t => PV D n ad cell u t.heap) (AdS n ad)) As.toArray s 0 0 (AdS n ad)) (PV D n ad cell σ) 0 As []) : CV l y b nL fr lo D tys n ad cell σ As post := by
  refine Met.ofW (cc := b) (maxL := nL) (ret := none) hy rfl ?_
  intro p e s m args below meth c s₁ B hml hv
  obtain ⟨rfl, hP, hK⟩ := hv
  have hts := atoms_spec (ws := .code y b nL none :: AW) B.pre
  have k := body p e s m below meth c ⟨B.exec, B.bytes, hml, findClass_of_methodNamed B.named, fun w hw => hts w (List.mem_cons_of_mem _ hw)⟩ ⟨B.returns, B.notSynchronized⟩ hK
  rw [entry_eq m As hc nL]
  exact k _ _ [] (lvZ_entry As hn hc) hP va_S.rf
theorem CS_of {post : Int32 → Prop} (hy : plainName y.cls = true) (hn : As.length ≤ nL) (hc : ∀ v ∈ As, v.category = 1)
    (body : ∀ (p : Program) (e : Env) (s : State) (m : MethodId) (below : List Frame) (meth : Method) (c : Code), ZFix p m c b nL s As.toArray y.cls → meth.sig.returnType = some rt ∧ meth.locks = false →
      Zj p l e { frames := fr, cells := 0, slots := 0, locals := lo } s m As.toArray below meth c nL (fun _ => False) 0 0 (MQ below (va_Qi (fun r (_ : Unit) => post r) (fun _ _ => True) (fun _ => False)) As.toArray s 0 0 (fun _ => False)) (fun _ => True) 0 As []) : CS l y b nL rt fr lo As post := by
  refine Met.ofW (cc := b) (maxL := nL) (ret := some rt) hy rfl ?_
  intro p e s m args below meth c s₁ B hml hv
  obtain ⟨rfl, -⟩ := hv
  have hts := atoms_spec (ws := .code y b nL (some rt) :: AW) B.pre
  have k := body p e s m below meth c ⟨B.exec, B.bytes, hml, findClass_of_methodNamed B.named, fun w hw => hts w (List.mem_cons_of_mem _ hw)⟩ ⟨B.returns, B.notSynchronized⟩
  rw [entry_eq m As hc nL]
  exact k _ _ [] (lvZ_entry As hn hc) trivial va_S.rf
end ZC
section ZW
variable {p : Program} {l : Launch} {e : Env} {R : Room} {s : State} {m : MethodId} {args : Array Value} {below : List Frame} {meth : Method} {c : Code} {nL : Nat} {A : Nat → Prop} {cells slots : Nat} {Q : State → Prop} {HP : Heap → Prop} {cc : ByteArray} {own : String} {pc pc' : Nat} {L L' st rest : List Value}
variable {D : va_G} {tys : List (ClassId × FieldType)} {n : Nat} {ad : Nat → Nat} {cell : Nat → St → va_E} {σ σ' : St}
theorem z_get (C : ZFix p m c cc nL s args own) (hK : va_K D vwCl tys s) {q ci k N index : Nat} {T : u_T} {Cn : String} {fs : List Value} {v : Value} (hq : q < n) (hce : cell q σ = .inr (ci, fs)) (hcl : vwCl[ci]? = some (Cn, T, N)) (hin : ∀ w ∈ u_ws Cn T N, w ∈ AW) (hk : k < N) (hlink : Cond.fieldLink own index (T k).1 (T k).2.1 (T k).2.2.1 ∈ AW) (hv : fs[k]? = some v) (hd : decode cc pc = .ok (.getfield index, 3)) (hp : pc + 3 = pc')
    (kk : Zj p l e R s m args below meth c nL A cells slots Q (PV D n ad cell σ) pc' L (v :: st)) : Zj p l e R s m args below meth c nL A cells slots Q (PV D n ad cell σ) pc L (.ref (ad q) :: st) :=
  fun ls H locs h1 h2 h3 => va_get C.1 C.2.1 C.2.2.2.2 hin C.2.2.2.1 hK h2 q ((wv_at hq).trans (by rw [hce])) hcl k hk (C.2.2.2.2 _ hlink) (fun _ h => h) hv hd (hp ▸ kk ls H locs h1 h2 h3)
theorem z_put (C : ZFix p m c cc nL s args own) (hK : va_K D vwCl tys s) (hI : Inj n ad) (hA : ∀ i, i < n → A (ad i)) {q ci k N index : Nat} {T : u_T} {ty0 : Nat → FieldType} {Cn : String} {fs : List Value} {v : Value} {ty : FieldType} (hq : q < n) (hce : cell q σ = .inr (ci, fs)) (hce' : cell q σ' = .inr (ci, fs.set k v)) (ho : ∀ i, i < n → i ≠ q → cell i σ' = cell i σ) (hcl : vwCl[ci]? = some (Cn, T, N)) (hin : ∀ w ∈ u_ws Cn T N, w ∈ AW) (hty : ∀ k, k < N → parseFieldDescriptor (T k).2.2.1 = some (ty0 k)) (hnm : ∀ a, a < N → ∀ b, b < N → a ≠ b → (T a).2.1 ≠ (T b).2.1) (hk : k < N) (hlink : Cond.fieldLink own index (T k).1 (T k).2.1 (T k).2.2.1 ∈ AW) (hfin : (T k).2.2.2 = false) (hpd : parseFieldDescriptor (T k).2.2.1 = some ty) (hnr : narrow ty v = v) (hfit : fits ty v = true) (hl : k < fs.length) (hd : decode cc pc = .ok (.putfield index, 3)) (hp : pc + 3 = pc')
    (kk : Zj p l e R s m args below meth c nL A cells slots Q (PV D n ad cell σ') pc' L st) : Zj p l e R s m args below meth c nL A cells slots Q (PV D n ad cell σ) pc L (v :: .ref (ad q) :: st) := by
  intro ls H locs h1 h2 h3
  refine va_put C.1 C.2.1 C.2.2.2.2 hin ty0 hty hnm C.2.2.2.1 hK h2 (wv_D hI hA) h3 q ((wv_at hq).trans (by rw [hce])) hcl k hk (C.2.2.2.2 _ hlink) (fun _ h => h) hfin hpd hnr hfit hl hd (fun H1 locs1 hP hD hS => ?_)
  rw [wv_set hq hce' ho] at hP
  exact hp ▸ kk ls H1 locs1 h1 hP hS
theorem z_iald (C : ZFix p m c cc nL s args own) (hK : va_K D vwCl tys s) {q t0 N j : Nat} {cA : ClassId} {f : Nat → Int32} {i : Int32} (hq : q < n) (hce : cell q σ = .inl (cA, N, .inl f)) (ht : tys[t0]? = some (cA, .int)) (hi : i = nI j) (hj : j < N) (hN : N < 2 ^ 31) {v : Int32} (hv : f j = v) (hd : decode cc pc = .ok (.iaload, 1)) (hp : pc + 1 = pc')
    (kk : Zj p l e R s m args below meth c nL A cells slots Q (PV D n ad cell σ) pc' L (.int v :: st)) : Zj p l e R s m args below meth c nL A cells slots Q (PV D n ad cell σ) pc L (.int i :: .ref (ad q) :: st) := by
  intro ls H locs h1 h2 h3
  subst hi; subst hp; subst hv
  refine va_iald C.1 C.2.1 hK h2 q t0 ((wv_at hq).trans (by rw [hce])) ht (vp_in_nI hj hN) hd ?_
  rw [nI_clamp (by omega)]
  exact kk ls H locs h1 h2 h3
theorem z_iast (C : ZFix p m c cc nL s args own) (hK : va_K D vwCl tys s) (hI : Inj n ad) (hA : ∀ i, i < n → A (ad i)) {q t0 N j : Nat} {cA : ClassId} {f : Nat → Int32} {i x : Int32} (hq : q < n) (hce : cell q σ = .inl (cA, N, .inl f)) (hce' : cell q σ' = .inl (cA, N, .inl (upd f j x))) (ho : ∀ i, i < n → i ≠ q → cell i σ' = cell i σ) (ht : tys[t0]? = some (cA, .int)) (hi : i = nI j) (hj : j < N) (hN : N < 2 ^ 31) (hd : decode cc pc = .ok (.iastore, 1)) (hp : pc + 1 = pc')
    (kk : Zj p l e R s m args below meth c nL A cells slots Q (PV D n ad cell σ') pc' L st) : Zj p l e R s m args below meth c nL A cells slots Q (PV D n ad cell σ) pc L (.int x :: .int i :: .ref (ad q) :: st) := by
  intro ls H locs h1 h2 h3
  subst hi; subst hp
  refine va_iast C.1 C.2.1 hK h2 (wv_D hI hA) h3 q t0 ((wv_at hq).trans (by rw [hce])) ht (vp_in_nI hj hN) hd (fun H1 locs1 hP hD hS => ?_)
  rw [nI_clamp (by omega), wv_set hq hce' ho] at hP
  exact kk ls H1 locs1 h1 hP hS
theorem z_alen (C : ZFix p m c cc nL s args own) (hK : va_K D vwCl tys s) {q t0 N : Nat} {cA : ClassId} {ty : FieldType} {f : (Nat → Int32) ⊕ (Nat → Int64) ⊕ (Nat → UInt32) ⊕ (Nat → UInt64) ⊕ (Nat → Option Nat)} (hq : q < n) (hce : cell q σ = .inl (cA, N, f)) (ht : tys[t0]? = some (cA, ty)) (hd : decode cc pc = .ok (.arraylength, 1)) (hp : pc + 1 = pc')
    (kk : Zj p l e R s m args below meth c nL A cells slots Q (PV D n ad cell σ) pc' L (.int (nI N) :: st)) : Zj p l e R s m args below meth c nL A cells slots Q (PV D n ad cell σ) pc L (.ref (ad q) :: st) :=
  fun ls H locs h1 h2 h3 => va_alen (x := (N, f)) C.1 C.2.1 hK h2 q t0 ((wv_at hq).trans (by rw [hce])) ht rfl hd (hp ▸ kk ls H locs h1 h2 h3)
/-- ends -/
theorem z_iret {post : Int32 → St → Prop} {x : Int32} (C : ZFix p m c cc nL s args own) (hM : meth.sig.returnType = some .int ∧ meth.locks = false) (hd : decode cc pc = .ok (.ireturn, 1)) (hq : post x σ) :
    Zj p l e R s m args below meth c nL (AdS n ad) 0 0 (MQ below (va_Qi post (fun u t => PV D n ad cell u t.heap) (AdS n ad)) args s 0 0 (AdS n ad)) (PV D n ad cell σ) pc L [.int x] :=
  fun ls H locs h1 h2 h3 => W.iret C.1 C.2.1 hM.1 (fun t ht _ => ⟨⟨x, σ, rfl, hq, by subst ht; exact h2⟩, h3.F ht⟩) h3.2.2 hd hM.2
theorem z_zret {post : Int32 → St → Prop} {x : Int32} (C : ZFix p m c cc nL s args own) (hM : meth.sig.returnType = some .boolean ∧ meth.locks = false) (hd : decode cc pc = .ok (.ireturn, 1)) (hx : x = 0 ∨ x = 1) (hq : post x σ) :
    Zj p l e R s m args below meth c nL (AdS n ad) 0 0 (MQ below (va_Qi post (fun u t => PV D n ad cell u t.heap) (AdS n ad)) args s 0 0 (AdS n ad)) (PV D n ad cell σ) pc L [.int x] :=
  fun ls H locs h1 h2 h3 => W.zret C.1 C.2.1 hM.1 (by rcases hx with rfl | rfl <;> rfl) (fun t ht _ => ⟨⟨x, σ, rfl, hq, by subst ht; exact h2⟩, h3.F ht⟩) h3.2.2 hd hM.2
theorem z_lret {post : Int64 → St → Prop} {x : Int64} (C : ZFix p m c cc nL s args own) (hM : meth.sig.returnType = some .long ∧ meth.locks = false) (hd : decode cc pc = .ok (.lreturn, 1)) (hq : post x σ) :
    Zj p l e R s m args below meth c nL (AdS n ad) 0 0 (MQ below (va_Ql post (fun u t => PV D n ad cell u t.heap) (AdS n ad)) args s 0 0 (AdS n ad)) (PV D n ad cell σ) pc L [.long x] :=
  fun ls H locs h1 h2 h3 => W.lret C.1 C.2.1 hM.1 (fun t ht _ => ⟨⟨x, σ, rfl, hq, by subst ht; exact h2⟩, h3.F ht⟩) h3.2.2 hd hM.2
theorem z_vret {post : St → Prop} (C : ZFix p m c cc nL s args own) (hM : meth.sig.returnType = none ∧ meth.locks = false) (hd : decode cc pc = .ok (.return_, 1)) (hq : post σ) :
    Zj p l e R s m args below meth c nL (AdS n ad) 0 0 (MQ below (va_Qv post (fun u t => PV D n ad cell u t.heap) (AdS n ad)) args s 0 0 (AdS n ad)) (PV D n ad cell σ) pc L [] :=
  fun ls H locs h1 h2 h3 => W.vret C.1 C.2.1 hM.1 (fun t ht _ => ⟨⟨σ, rfl, hq, by subst ht; exact h2⟩, h3.F ht⟩) h3.2.2 hd hM.2
theorem z_sret {post : Int32 → Prop} {x : Int32} (C : ZFix p m c cc nL s args own) (hM : meth.sig.returnType = some .boolean ∧ meth.locks = false) (hd : decode cc pc = .ok (.ireturn, 1)) (hx : x = 0 ∨ x = 1) (hq : post x) :
    Zj p l e R s m args below meth c nL (fun _ => False) 0 0 (MQ below (va_Qi (fun r (_ : Unit) => post r) (fun _ _ => True) (fun _ => False)) args s 0 0 (fun _ => False)) (fun _ => True) pc L [.int x] :=
  fun ls H locs h1 h2 h3 => W.zret C.1 C.2.1 hM.1 (by rcases hx with rfl | rfl <;> rfl) (fun t ht _ => ⟨⟨x, (), rfl, hq, trivial⟩, h3.F ht⟩) h3.2.2 hd hM.2
/-- calls -/
theorem AW_V {own : String} {index : Nat} {y : MethodName} {b : ByteArray} {nL2 : Nat} {ret : Option FieldType} (w1 : Cond.methodLink own index y ∈ AW) (w2 : Cond.instanceMethod y ∈ AW) (w3 : Cond.selects y.cls y y ∈ AW) (w4 : Cond.initialized y.cls ∈ AW) (w5 : Cond.code y b nL2 ret ∈ AW) : GoodIn AW (wsV own index y.cls y (.code y b nL2 ret :: AW)) := by
  intro w hw
  have h : w ∈ AW := by
    unfold wsV at hw
    rcases List.mem_append.mp hw with h | h
    · simp only [List.mem_cons, List.not_mem_nil, or_false] at h
      rcases h with rfl | rfl | rfl | rfl
      · exact w1
      · exact w2
      · exact w3
      · exact w4
    · rcases List.mem_cons.mp h with rfl | h
      · exact w5
      · exact h
  exact AW_good w h
theorem AW_S {own : String} {index : Nat} {y : MethodName} {b : ByteArray} {nL2 : Nat} {ret : Option FieldType} (w1 : Cond.methodLink own index y ∈ AW) (w2 : Cond.static y ∈ AW) (w4 : Cond.initialized own ∈ AW) (w5 : Cond.code y b nL2 ret ∈ AW) : GoodIn AW (wsS own index y (.code y b nL2 ret :: AW)) := by
  intro w hw
  have h : w ∈ AW := by
    unfold wsS at hw
    rcases List.mem_append.mp hw with h | h
    · simp only [List.mem_cons, List.not_mem_nil, or_false] at h
      rcases h with rfl | rfl | rfl
      · exact w1
      · exact w2
      · exact w4
    · rcases List.mem_cons.mp h with rfl | h
      · exact w5
      · exact h
  exact AW_good w h
theorem z_callI (C : ZFix p m c cc nL s args own) (hK : va_K D vwCl tys s) {y : MethodName} {b : ByteArray} {nL2 fr lo nA : Nat} {rt : FieldType} {As : List Value} {post : Int32 → St → Prop} {q ci N index : Nat} {T : u_T} {fs : List Value} (hM : CI l y b nL2 rt fr lo D tys n ad cell σ (.ref (ad q) :: As) post) (hA : ∀ i, i < n → A (ad i))
    (w1 : Cond.methodLink own index y ∈ AW) (w2 : Cond.instanceMethod y ∈ AW) (w3 : Cond.selects y.cls y y ∈ AW) (w4 : Cond.initialized y.cls ∈ AW) (w5 : Cond.code y b nL2 (some rt) ∈ AW) (hq : q < n) (hce : cell q σ = .inr (ci, fs)) (hcl : vwCl[ci]? = some (y.cls, T, N))
    (hy : y.cls ≠ "java/lang/invoke/MethodHandle" ∧ y.cls ≠ "java/lang/invoke/VarHandle" ∧ (parseMethodDescriptor y.desc).map (fun d => d.parameters.length) = some nA) (hn : As.length = nA) (hR : fr + 1 ≤ R.frames ∧ 8 + (nL2 + 11) + lo ≤ R.locals) (hst : st = As.reverse ++ .ref (ad q) :: rest) (hrest : (rest.map fun v => v.category).sum ≤ 8) (hf : cells ≤ R.cells ∧ slots ≤ R.slots) (hd : decode cc pc = .ok (.invokevirtual index, 3)) (hp : pc + 3 = pc')
    (kk : ∀ (r : Int32) (u : St), post r u → Zj p l e R s m args below meth c nL A cells slots Q (PV D n ad cell u) pc' L (.int r :: rest)) : Zj p l e R s m args below meth c nL A cells slots Q (PV D n ad cell σ) pc L st := by
  intro ls H locs h1 h2 h3
  subst hst; subst hp; subst hn
  have hFA : ∀ q, AdS n ad q → A q := fun x ⟨i, hi, e⟩ => e ▸ hA i hi
  refine va_calli (va_runV (As := As) (rest := rest) C hM (cwV As.length C.2.2.2.2 (AW_V w1 w2 w3 w4 w5) rfl rfl rfl ⟨rfl, hy⟩ hR) ⟨PB_blind, va_recv hK h2 (ci := ci) (q0 := q) hcl ((wv_at hq).trans (by rw [hce])), fun U hU hW => ⟨rfl, by rw [hU]; exact h2, va_K.moved hW.alike hK⟩⟩ rfl rfl h1.1 rfl (lv_room hrest) hd ⟨hf.1, hf.2⟩) h3 (fun q _ h => hFA q h) hFA (fun r u t H1 locs1 ht hvm hw hB hz1 hk1 hS => ?_)
  rw [ht] at hB
  exact kk r u hw ls H1 locs1 h1 hB hS
theorem z_callL (C : ZFix p m c cc nL s args own) (hK : va_K D vwCl tys s) {y : MethodName} {b : ByteArray} {nL2 fr lo nA : Nat} {As : List Value} {post : Int64 → St → Prop} {q ci N index : Nat} {T : u_T} {fs : List Value} (hM : CL l y b nL2 fr lo D tys n ad cell σ (.ref (ad q) :: As) post) (hA : ∀ i, i < n → A (ad i))
    (w1 : Cond.methodLink own index y ∈ AW) (w2 : Cond.instanceMethod y ∈ AW) (w3 : Cond.selects y.cls y y ∈ AW) (w4 : Cond.initialized y.cls ∈ AW) (w5 : Cond.code y b nL2 (some .long) ∈ AW) (hq : q < n) (hce : cell q σ = .inr (ci, fs)) (hcl : vwCl[ci]? = some (y.cls, T, N))
    (hy : y.cls ≠ "java/lang/invoke/MethodHandle" ∧ y.cls ≠ "java/lang/invoke/VarHandle" ∧ (parseMethodDescriptor y.desc).map (fun d => d.parameters.length) = some nA) (hn : As.length = nA) (hR : fr + 1 ≤ R.frames ∧ 8 + (nL2 + 11) + lo ≤ R.locals) (hst : st = As.reverse ++ .ref (ad q) :: rest) (hrest : (rest.map fun v => v.category).sum ≤ 8) (hf : cells ≤ R.cells ∧ slots ≤ R.slots) (hd : decode cc pc = .ok (.invokevirtual index, 3)) (hp : pc + 3 = pc')
    (kk : ∀ (r : Int64) (u : St), post r u → Zj p l e R s m args below meth c nL A cells slots Q (PV D n ad cell u) pc' L (.long r :: rest)) : Zj p l e R s m args below meth c nL A cells slots Q (PV D n ad cell σ) pc L st := by
  intro ls H locs h1 h2 h3
  subst hst; subst hp; subst hn
  have hFA : ∀ q, AdS n ad q → A q := fun x ⟨i, hi, e⟩ => e ▸ hA i hi
  refine va_calll (va_runV (As := As) (rest := rest) C hM (cwV As.length C.2.2.2.2 (AW_V w1 w2 w3 w4 w5) rfl rfl rfl ⟨rfl, hy⟩ hR) ⟨PB_blind, va_recv hK h2 (ci := ci) (q0 := q) hcl ((wv_at hq).trans (by rw [hce])), fun U hU hW => ⟨rfl, by rw [hU]; exact h2, va_K.moved hW.alike hK⟩⟩ rfl rfl h1.1 rfl (lv_room hrest) hd ⟨hf.1, hf.2⟩) h3 (fun q _ h => hFA q h) hFA (fun r u t H1 locs1 ht hvm hw hB hz1 hk1 hS => ?_)
  rw [ht] at hB
  exact kk r u hw ls H1 locs1 h1 hB hS
theorem z_callV (C : ZFix p m c cc nL s args own) (hK : va_K D vwCl tys s) {y : MethodName} {b : ByteArray} {nL2 fr lo nA : Nat} {As : List Value} {post : St → Prop} {q ci N index : Nat} {T : u_T} {fs : List Value} (hM : CV l y b nL2 fr lo D tys n ad cell σ (.ref (ad q) :: As) post) (hA : ∀ i, i < n → A (ad i))
    (w1 : Cond.methodLink own index y ∈ AW) (w2 : Cond.instanceMethod y ∈ AW) (w3 : Cond.selects y.cls y y ∈ AW) (w4 : Cond.initialized y.cls ∈ AW) (w5 : Cond.code y b nL2 none ∈ AW) (hq : q < n) (hce : cell q σ = .inr (ci, fs)) (hcl : vwCl[ci]? = some (y.cls, T, N))
    (hy : y.cls ≠ "java/lang/invoke/MethodHandle" ∧ y.cls ≠ "java/lang/invoke/VarHandle" ∧ (parseMethodDescriptor y.desc).map (fun d => d.parameters.length) = some nA) (hn : As.length = nA) (hR : fr + 1 ≤ R.frames ∧ 8 + (nL2 + 11) + lo ≤ R.locals) (hst : st = As.reverse ++ .ref (ad q) :: rest) (hrest : (rest.map fun v => v.category).sum ≤ 8) (hf : cells ≤ R.cells ∧ slots ≤ R.slots) (hd : decode cc pc = .ok (.invokevirtual index, 3)) (hp : pc + 3 = pc')
    (kk : ∀ (u : St), post u → Zj p l e R s m args below meth c nL A cells slots Q (PV D n ad cell u) pc' L rest) : Zj p l e R s m args below meth c nL A cells slots Q (PV D n ad cell σ) pc L st := by
  intro ls H locs h1 h2 h3
  subst hst; subst hp; subst hn
  have hFA : ∀ q, AdS n ad q → A q := fun x ⟨i, hi, e⟩ => e ▸ hA i hi
  refine va_callv (va_runV (As := As) (rest := rest) C hM (cwV As.length C.2.2.2.2 (AW_V w1 w2 w3 w4 w5) rfl rfl rfl ⟨rfl, hy⟩ hR) ⟨PB_blind, va_recv hK h2 (ci := ci) (q0 := q) hcl ((wv_at hq).trans (by rw [hce])), fun U hU hW => ⟨rfl, by rw [hU]; exact h2, va_K.moved hW.alike hK⟩⟩ rfl rfl h1.1 rfl (lv_room hrest) hd ⟨hf.1, hf.2⟩) h3 (fun q _ h => hFA q h) hFA (fun u t H1 locs1 ht hvm hw hB hz1 hk1 hS => ?_)
  rw [ht] at hB
  exact kk u hw ls H1 locs1 h1 hB hS
theorem z_callS (C : ZFix p m c cc nL s args own) {y : MethodName} {b : ByteArray} {nL2 fr lo nA : Nat} {rt : FieldType} {As : List Value} {post : Int32 → Prop} {index : Nat} (hM : CS l y b nL2 rt fr lo As post) (hstab : ∀ H H1 : Heap, HP H → H.size ≤ H1.size → (∀ q : Nat, q < H.size → H1[q]? = H[q]?) → HP H1)
    (w1 : Cond.methodLink own index y ∈ AW) (w2 : Cond.static y ∈ AW) (w4 : Cond.initialized own ∈ AW) (w5 : Cond.code y b nL2 (some rt) ∈ AW)
    (hy : y.cls = own ∧ y.cls ≠ "java/lang/invoke/MethodHandle" ∧ y.cls ≠ "java/lang/invoke/VarHandle" ∧ (parseMethodDescriptor y.desc).map (fun d => d.parameters.length) = some nA) (hn : As.length = nA) (hR : fr + 1 ≤ R.frames ∧ 8 + (nL2 + 11) + lo ≤ R.locals) (hst : st = As.reverse ++ rest) (hrest : (rest.map fun v => v.category).sum ≤ 8) (hf : cells ≤ R.cells ∧ slots ≤ R.slots) (hd : decode cc pc = .ok (.invokestatic index, 3)) (hp : pc + 3 = pc')
    (kk : ∀ (r : Int32), post r → Zj p l e R s m args below meth c nL A cells slots Q HP pc' L (.int r :: rest)) : Zj p l e R s m args below meth c nL A cells slots Q HP pc L st := by
  intro ls H locs h1 h2 h3
  subst hst; subst hp; subst hn
  refine va_calli (va_runS (As := As) (rest := rest) C hM (cwS As.length C.2.2.2.2 (AW_S w1 w2 w4 w5) rfl rfl rfl hy hR) ⟨fun _ _ _ _ h => h, fun U hU hW => ⟨rfl, trivial⟩⟩ rfl rfl h1.1 rfl (lv_room hrest) hd ⟨hf.1, hf.2⟩) h3 (fun q _ h => h.elim) (fun q h => h.elim) (fun r u t H1 locs1 ht hvm hw hB hz1 hk1 hS => ?_)
  exact kk r hw ls H1 locs1 h1 (hstab H H1 h2 hz1 (fun q hq => hk1 q hq id)) hS
theorem stabP {D : va_G} {n : Nat} {ad : Nat → Nat} {cell : Nat → St → va_E} {σ : St} : ∀ H H1 : Heap, PV D n ad cell σ H → H.size ≤ H1.size → (∀ q : Nat, q < H.size → H1[q]? = H[q]?) → PV D n ad cell σ H1 := fun _ _ h _ hk => PV_kept h fun _ _ hl => hk _ hl
theorem stabT : ∀ H H1 : Heap, (fun _ : Heap => True) H → H.size ≤ H1.size → (∀ q : Nat, q < H.size → H1[q]? = H[q]?) → (fun _ : Heap => True) H1 := fun _ _ _ _ _ => trivial
end ZW
section ZX
variable {p : Program} {l : Launch} {e : Env} {R : Room} {s : State} {m : MethodId} {args : Array Value} {below : List Frame} {meth : Method} {c : Code} {nL : Nat} {A : Nat → Prop} {cells slots : Nat} {Q : State → Prop} {HP : Heap → Prop} {cc : ByteArray} {own : String} {pc pc' : Nat} {L L' st rest : List Value}
variable {D : va_G} {tys : List (ClassId × FieldType)} {n : Nat} {ad : Nat → Nat} {cell : Nat → St → va_E} {σ σ' : St}
theorem z_aald (C : ZFix p m c cc nL s args own) (hK : va_K D vwCl tys s) {q t0 N j a : Nat} {cA : ClassId} {Cn : String} {f : Nat → Option Nat} {i : Int32} (hq : q < n) (hce : cell q σ = .inl (cA, N, .inr (.inr (.inr (.inr f))))) (ht : tys[t0]? = some (cA, .object Cn)) (hi : i = nI j) (hj : j < N) (hN : N < 2 ^ 31) (hv : f j = some a) (hd : decode cc pc = .ok (.aaload, 1)) (hp : pc + 1 = pc')
    (kk : Zj p l e R s m args below meth c nL A cells slots Q (PV D n ad cell σ) pc' L (.ref a :: st)) : Zj p l e R s m args below meth c nL A cells slots Q (PV D n ad cell σ) pc L (.int i :: .ref (ad q) :: st) := by
  intro ls H locs h1 h2 h3
  subst hi; subst hp
  refine va_aldq C.1 C.2.1 hK h2 q t0 ((wv_at hq).trans (by rw [hce])) ht (vp_in_nI hj hN) hd ?_
  rw [nI_clamp (by omega), hv]
  exact kk ls H locs h1 h2 h3
/-- another name for the state -/
theorem z_st (h : σ = σ') (k : Zj p l e R s m args below meth c nL A cells slots Q (PV D n ad cell σ') pc L st) : Zj p l e R s m args below meth c nL A cells slots Q (PV D n ad cell σ) pc L st := h ▸ k
/-- go on where something is known -/
theorem z_to (h : Zj p l e R s m args below meth c nL A cells slots Q (PV D n ad cell σ') pc L' st) (hσ : σ = σ') (hL : ∃ t, L' ++ t = L) : Zj p l e R s m args below meth c nL A cells slots Q (PV D n ad cell σ) pc L st := by
  subst hσ
  obtain ⟨t, rfl⟩ := hL
  refine z_weak (fun i v hv => ?_) (fun _ h => h) h
  rw [List.getElem?_append_left (List.getElem?_eq_some_iff.mp hv).1]
  exact hv
theorem z_toS (h : Zj p l e R s m args below meth c nL A cells slots Q HP pc L' st) (hL : ∃ t, L' ++ t = L) : Zj p l e R s m args below meth c nL A cells slots Q HP pc L st := by
  obtain ⟨t, rfl⟩ := hL
  refine z_weak (fun i v hv => ?_) (fun _ h => h) h
  rw [List.getElem?_append_left (List.getElem?_eq_some_iff.mp hv).1]
  exact hv
theorem z_back (k : Nat) (h : Zj p l e R s m args below meth c nL A cells slots Q (PV D n ad cell σ') pc L' st) (hσ : σ = σ') (hL : L.take k = L') : Zj p l e R s m args below meth c nL A cells slots Q (PV D n ad cell σ) pc L st := by
  subst hσ; subst hL
  refine z_weak (fun i v hv => ?_) (fun _ h => h) h
  rw [List.getElem?_take] at hv
  split at hv
  · exact hv
  · cases hv
/-- a value comes to a place from several sides -/
theorem z_tern {P : Int32 → Prop} {J : Nat} (d : Nat) (hk : ∀ v, P v → Zj p l e R s m args below meth c nL A cells slots Q HP J L (.int v :: st.drop d)) (hb : (∀ v, P v → Zj p l e R s m args below meth c nL A cells slots Q HP J L (.int v :: st.drop d)) → Zj p l e R s m args below meth c nL A cells slots Q HP pc L st) : Zj p l e R s m args below meth c nL A cells slots Q HP pc L st := hb hk
theorem z_ternL {P : Int64 → Prop} {J : Nat} (d : Nat) (hk : ∀ v, P v → Zj p l e R s m args below meth c nL A cells slots Q HP J L (.long v :: st.drop d)) (hb : (∀ v, P v → Zj p l e R s m args below meth c nL A cells slots Q HP J L (.long v :: st.drop d)) → Zj p l e R s m args below meth c nL A cells slots Q HP pc L st) : Zj p l e R s m args below meth c nL A cells slots Q HP pc L st := hb hk
theorem z_ternE {J : Nat} (E : Int32) (d : Nat) (hk : Zj p l e R s m args below meth c nL A cells slots Q HP J L (.int E :: st.drop d)) (hb : (∀ v, v = E → Zj p l e R s m args below meth c nL A cells slots Q HP J L (.int v :: st.drop d)) → Zj p l e R s m args below meth c nL A cells slots Q HP pc L st) : Zj p l e R s m args below meth c nL A cells slots Q HP pc L st := hb fun _ hv => hv ▸ hk
theorem z_ternEL {J : Nat} (E : Int64) (d : Nat) (hk : Zj p l e R s m args below meth c nL A cells slots Q HP J L (.long E :: st.drop d)) (hb : (∀ v, v = E → Zj p l e R s m args below meth c nL A cells slots Q HP J L (.long v :: st.drop d)) → Zj p l e R s m args below meth c nL A cells slots Q HP pc L st) : Zj p l e R s m args below meth c nL A cells slots Q HP pc L st := hb fun _ hv => hv ▸ hk
/-- ways come together in a state -/
theorem z_meet {J : Nat} (L1 : List Value) (d : Nat) {P : St → Prop} (hk : ∀ u, P u → Zj p l e R s m args below meth c nL A cells slots Q (PV D n ad cell u) J L1 (st.drop d)) (hb : (∀ u, P u → Zj p l e R s m args below meth c nL A cells slots Q (PV D n ad cell u) J L1 (st.drop d)) → Zj p l e R s m args below meth c nL A cells slots Q (PV D n ad cell σ) pc L st) : Zj p l e R s m args below meth c nL A cells slots Q (PV D n ad cell σ) pc L st := hb hk
/-- a loop -/
theorem z_loop {τ : Type} (μ : τ → Nat) (I : τ → Prop) (σf : τ → St) (Lf : τ → List Value) (t0 : τ) (h0 : I t0) (hσ : σ = σf t0) (hL : ∃ t, Lf t0 ++ t = L) (step : ∀ t, I t → (∀ t', I t' → μ t' < μ t → Zj p l e R s m args below meth c nL A cells slots Q (PV D n ad cell (σf t')) pc (Lf t') st) → Zj p l e R s m args below meth c nL A cells slots Q (PV D n ad cell (σf t)) pc (Lf t) st) : Zj p l e R s m args below meth c nL A cells slots Q (PV D n ad cell σ) pc L st := by
  have key : ∀ (k : Nat) (t : τ), μ t < k → I t → Zj p l e R s m args below meth c nL A cells slots Q (PV D n ad cell (σf t)) pc (Lf t) st := by
    intro k
    induction k with
    | zero => intro t h; omega
    | succ k ih => exact fun t h hI => step t hI fun t' hI' hm => ih t' (by omega) hI'
  exact z_to (key _ t0 (Nat.lt_succ_self _) h0) hσ hL
theorem lt_of_nle {N k : Nat} (h : ¬ nI N ≤ nI k) (hk : k < 2 ^ 31) (hN : N < 2 ^ 31) : k < N := by
  rcases Nat.lt_or_ge k N with q | q
  · exact q
  · exact absurd (nI_le q hk) h
theorem ge_of_le {N k : Nat} (h : nI N ≤ nI k) (hk : k < 2 ^ 31) (hN : N < 2 ^ 31) : N ≤ k := (nI_leI hN hk).mp h
theorem i32_le {x y : Int32} : x ≤ y ↔ x.toInt ≤ y.toInt := Int32.le_iff_toInt_le
theorem i32_lt {x y : Int32} : x < y ↔ x.toInt < y.toInt := Int32.lt_iff_toInt_lt
theorem nI_ofR {x : Int32} {n : Nat} (h0 : 0 ≤ x) (h1 : x ≤ nI n) (hn : n < 2 ^ 31) : ∃ j : Nat, j ≤ n ∧ x = nI j := nI_of2 (M := nI n) (nI_toInt hn) (fun h => by rw [i32_lt] at h; rw [i32_le] at h0; omega) h1
end ZX
end
section
/-! THE CLASS'S CELLS: 0 the shop, 1 its wheels, 2 sizes, 3 Laws, 4 apart, 5 Spares, 6 .. 9 its arrays, 10 Readings, 11 .. 18 its arrays, 19 + 3 k the wheels, with depths and blows behind each.
The state: 0 numbers (0 thinning, 1 bar, 2 turnings, 3 trace, 4 spares, 5 readings), 1 sizes, 3 wear, 4 road, 5 laws, 6 spares, 7 wheels told, 8 by whom, 9 sizes told, 100 + 2 k depths, 101 + 2 k blows; 11 passes (the reference), 21 blowsKept, 22 oldestBlow (the class); rows used again: 12 .. 16 (the reference), 23 .. 31 (the class) -/
def pW (k : Nat) : Nat := 3 * k + 19
def pD (k : Nat) : Nat := 3 * k + 20
def pB (k : Nat) : Nat := 3 * k + 21
def fixC (cA cB : ClassId) (ad : Nat → Nat) (i : Nat) (σ : St) : va_E := match i with
  | 0 => .inr (4, [.ref (ad 1), .ref (ad 3), .ref (ad 5), .ref (ad 10), .ref (ad 2), .int (σ 0 0), .int (σ 0 1), .int (σ 0 2), .long (σ 0 3).toInt64])
  | 1 => .inl (cB, 16, .inr (.inr (.inr (.inr (fun j => some (ad (pW j)))))))
  | 2 => .inl (cA, 16, .inl (σ 23))
  | 3 => .inr (0, [.ref (ad 4)])
  | 4 => .inl (cA, 4, .inl (σ 5))
  | 5 => .inr (2, [.int (σ 0 4), .ref (ad 6), .ref (ad 7), .ref (ad 8), .ref (ad 9)])
  | 6 => .inl (cA, 8, .inl (σ 6))
  | 7 => .inl (cA, 8, .inl (σ 24))
  | 8 => .inl (cA, 9, .inl (σ 25))
  | 9 => .inl (cA, 9, .inl (σ 26))
  | 10 => .inr (1, [.int (σ 0 5), .ref (ad 11), .ref (ad 12), .ref (ad 13), .ref (ad 14), .ref (ad 15), .ref (ad 16), .ref (ad 17), .ref (ad 18)])
  | 11 => .inl (cA, 20, .inl (σ 7))
  | 12 => .inl (cA, 20, .inl (σ 8))
  | 13 => .inl (cA, 20, .inl (σ 9))
  | 14 => .inl (cA, 16, .inl (σ 27))
  | 15 => .inl (cA, 16, .inl (σ 28))
  | 16 => .inl (cA, 16, .inl (σ 29))
  | 17 => .inl (cA, 16, .inl (σ 30))
  | 18 => .inl (cA, 16, .inl (σ 31))
  | _ => .inl (cA, 0, .inl fun _ => 0)
def cellC (cA cB : ClassId) (ad : Nat → Nat) (i : Nat) (σ : St) : va_E :=
  if i < 19 then fixC cA cB ad i σ else if (i - 19) % 3 = 0 then .inr (3, [.ref (ad (pD ((i - 19) / 3))), .int (σ 1 ((i - 19) / 3)), .int (σ 3 ((i - 19) / 3)), .int (σ 4 ((i - 19) / 3)), .ref (ad (pB ((i - 19) / 3))), .int (σ 21 ((i - 19) / 3)), .int (σ 22 ((i - 19) / 3))])
  else if (i - 19) % 3 = 1 then .inl (cA, 5, .inl (σ (100 + 2 * ((i - 19) / 3)))) else .inl (cA, 5, .inl (σ (101 + 2 * ((i - 19) / 3))))
section KC
variable {cA cB : ClassId} {ad : Nat → Nat} {σ : St}
theorem kC_W (k : Nat) : cellC cA cB ad (pW k) σ = .inr (3, [.ref (ad (pD k)), .int (σ 1 k), .int (σ 3 k), .int (σ 4 k), .ref (ad (pB k)), .int (σ 21 k), .int (σ 22 k)]) := by
  have e1 : ¬ (3 * k + 19 < 19) := by omega
  have e2 : (3 * k + 19 - 19) % 3 = 0 := by omega
  have e3 : (3 * k + 19 - 19) / 3 = k := by omega
  unfold cellC pW
  rw [if_neg e1, if_pos e2, e3]
theorem kC_D (k : Nat) : cellC cA cB ad (pD k) σ = .inl (cA, 5, .inl (σ (100 + 2 * k))) := by
  have e1 : ¬ (3 * k + 20 < 19) := by omega
  have e2 : ¬ (3 * k + 20 - 19) % 3 = 0 := by omega
  have e4 : (3 * k + 20 - 19) % 3 = 1 := by omega
  have e3 : (3 * k + 20 - 19) / 3 = k := by omega
  unfold cellC pD
  rw [if_neg e1, if_neg e2, if_pos e4, e3]
theorem kC_B (k : Nat) : cellC cA cB ad (pB k) σ = .inl (cA, 5, .inl (σ (101 + 2 * k))) := by
  have e1 : ¬ (3 * k + 21 < 19) := by omega
  have e2 : ¬ (3 * k + 21 - 19) % 3 = 0 := by omega
  have e4 : ¬ (3 * k + 21 - 19) % 3 = 1 := by omega
  have e3 : (3 * k + 21 - 19) / 3 = k := by omega
  unfold cellC pB
  rw [if_neg e1, if_neg e2, if_neg e4, e3]
theorem kC_0 : cellC cA cB ad 0 σ = .inr (4, [.ref (ad 1), .ref (ad 3), .ref (ad 5), .ref (ad 10), .ref (ad 2), .int (σ 0 0), .int (σ 0 1), .int (σ 0 2), .long (σ 0 3).toInt64]) := rfl
theorem kC_1 : cellC cA cB ad 1 σ = .inl (cB, 16, .inr (.inr (.inr (.inr (fun j => some (ad (pW j))))))) := rfl
theorem kC_2 : cellC cA cB ad 2 σ = .inl (cA, 16, .inl (σ 23)) := rfl
theorem kC_3 : cellC cA cB ad 3 σ = .inr (0, [.ref (ad 4)]) := rfl
theorem kC_4 : cellC cA cB ad 4 σ = .inl (cA, 4, .inl (σ 5)) := rfl
theorem kC_5 : cellC cA cB ad 5 σ = .inr (2, [.int (σ 0 4), .ref (ad 6), .ref (ad 7), .ref (ad 8), .ref (ad 9)]) := rfl
theorem kC_6 : cellC cA cB ad 6 σ = .inl (cA, 8, .inl (σ 6)) := rfl
theorem kC_7 : cellC cA cB ad 7 σ = .inl (cA, 8, .inl (σ 24)) := rfl
theorem kC_8 : cellC cA cB ad 8 σ = .inl (cA, 9, .inl (σ 25)) := rfl
theorem kC_9 : cellC cA cB ad 9 σ = .inl (cA, 9, .inl (σ 26)) := rfl
theorem kC_10 : cellC cA cB ad 10 σ = .inr (1, [.int (σ 0 5), .ref (ad 11), .ref (ad 12), .ref (ad 13), .ref (ad 14), .ref (ad 15), .ref (ad 16), .ref (ad 17), .ref (ad 18)]) := rfl
theorem kC_11 : cellC cA cB ad 11 σ = .inl (cA, 20, .inl (σ 7)) := rfl
theorem kC_12 : cellC cA cB ad 12 σ = .inl (cA, 20, .inl (σ 8)) := rfl
theorem kC_13 : cellC cA cB ad 13 σ = .inl (cA, 20, .inl (σ 9)) := rfl
theorem kC_14 : cellC cA cB ad 14 σ = .inl (cA, 16, .inl (σ 27)) := rfl
theorem kC_15 : cellC cA cB ad 15 σ = .inl (cA, 16, .inl (σ 28)) := rfl
theorem kC_16 : cellC cA cB ad 16 σ = .inl (cA, 16, .inl (σ 29)) := rfl
theorem kC_17 : cellC cA cB ad 17 σ = .inl (cA, 16, .inl (σ 30)) := rfl
theorem kC_18 : cellC cA cB ad 18 σ = .inl (cA, 16, .inl (σ 31)) := rfl
def okA (i c : Nat) : Bool := match i with
  | 2 => !(c == 23)
  | 4 => !(c == 5)
  | 6 => !(c == 6)
  | 7 => !(c == 24)
  | 8 => !(c == 25)
  | 9 => !(c == 26)
  | 11 => !(c == 7)
  | 12 => !(c == 8)
  | 13 => !(c == 9)
  | 14 => !(c == 27)
  | 15 => !(c == 28)
  | 16 => !(c == 29)
  | 17 => !(c == 30)
  | 18 => !(c == 31)
  | _ => true
def ok0 (i j : Nat) : Bool := match i with
  | 0 => !(decide (j < 4))
  | 5 => !(j == 4)
  | 10 => !(j == 5)
  | _ => true
theorem fixC_upA {i c j : Nat} {v : Int32} (hi : i < 19) (h0 : c ≠ 0) (h : okA i c = true) : fixC cA cB ad i (up2 σ c j v) = fixC cA cB ad i σ := by
  match i, hi with
  | 0, _ => simp only [fixC, up2_c σ j _ v (Ne.symm h0)]
  | 1, _ => rfl
  | 2, _ =>
    have e : 23 ≠ c := by intro e; subst e; simp [okA] at h
    simp only [fixC, up2_cc σ j v e]
  | 3, _ => rfl
  | 4, _ =>
    have e : 5 ≠ c := by intro e; subst e; simp [okA] at h
    simp only [fixC, up2_cc σ j v e]
  | 5, _ => simp only [fixC, up2_c σ j _ v (Ne.symm h0)]
  | 6, _ =>
    have e : 6 ≠ c := by intro e; subst e; simp [okA] at h
    simp only [fixC, up2_cc σ j v e]
  | 7, _ =>
    have e : 24 ≠ c := by intro e; subst e; simp [okA] at h
    simp only [fixC, up2_cc σ j v e]
  | 8, _ =>
    have e : 25 ≠ c := by intro e; subst e; simp [okA] at h
    simp only [fixC, up2_cc σ j v e]
  | 9, _ =>
    have e : 26 ≠ c := by intro e; subst e; simp [okA] at h
    simp only [fixC, up2_cc σ j v e]
  | 10, _ => simp only [fixC, up2_c σ j _ v (Ne.symm h0)]
  | 11, _ =>
    have e : 7 ≠ c := by intro e; subst e; simp [okA] at h
    simp only [fixC, up2_cc σ j v e]
  | 12, _ =>
    have e : 8 ≠ c := by intro e; subst e; simp [okA] at h
    simp only [fixC, up2_cc σ j v e]
  | 13, _ =>
    have e : 9 ≠ c := by intro e; subst e; simp [okA] at h
    simp only [fixC, up2_cc σ j v e]
  | 14, _ =>
    have e : 27 ≠ c := by intro e; subst e; simp [okA] at h
    simp only [fixC, up2_cc σ j v e]
  | 15, _ =>
    have e : 28 ≠ c := by intro e; subst e; simp [okA] at h
    simp only [fixC, up2_cc σ j v e]
  | 16, _ =>
    have e : 29 ≠ c := by intro e; subst e; simp [okA] at h
    simp only [fixC, up2_cc σ j v e]
  | 17, _ =>
    have e : 30 ≠ c := by intro e; subst e; simp [okA] at h
    simp only [fixC, up2_cc σ j v e]
  | 18, _ =>
    have e : 31 ≠ c := by intro e; subst e; simp [okA] at h
    simp only [fixC, up2_cc σ j v e]
  | z + 19, hz => exact absurd hz (by omega)
theorem fixC_up0 {i j : Nat} {v : Int32} (hi : i < 19) (h : ok0 i j = true) : fixC cA cB ad i (up2 σ 0 j v) = fixC cA cB ad i σ := by
  match i, hi with
  | 0, _ =>
    have e : ¬ j < 4 := by intro q; simp [ok0, q] at h
    simp only [fixC, up2_k σ 0 v (show (0 : Nat) ≠ j by omega), up2_k σ 0 v (show (1 : Nat) ≠ j by omega), up2_k σ 0 v (show (2 : Nat) ≠ j by omega), up2_k σ 0 v (show (3 : Nat) ≠ j by omega)]
  | 1, _ => rfl
  | 2, _ => simp only [fixC, up2_cc σ j v (by decide : 23 ≠ 0)]
  | 3, _ => rfl
  | 4, _ => simp only [fixC, up2_cc σ j v (by decide : 5 ≠ 0)]
  | 5, _ =>
    have e : (4 : Nat) ≠ j := by intro q; subst q; simp [ok0] at h
    simp only [fixC, up2_k σ 0 v e]
  | 6, _ => simp only [fixC, up2_cc σ j v (by decide : 6 ≠ 0)]
  | 7, _ => simp only [fixC, up2_cc σ j v (by decide : 24 ≠ 0)]
  | 8, _ => simp only [fixC, up2_cc σ j v (by decide : 25 ≠ 0)]
  | 9, _ => simp only [fixC, up2_cc σ j v (by decide : 26 ≠ 0)]
  | 10, _ =>
    have e : (5 : Nat) ≠ j := by intro q; subst q; simp [ok0] at h
    simp only [fixC, up2_k σ 0 v e]
  | 11, _ => simp only [fixC, up2_cc σ j v (by decide : 7 ≠ 0)]
  | 12, _ => simp only [fixC, up2_cc σ j v (by decide : 8 ≠ 0)]
  | 13, _ => simp only [fixC, up2_cc σ j v (by decide : 9 ≠ 0)]
  | 14, _ => simp only [fixC, up2_cc σ j v (by decide : 27 ≠ 0)]
  | 15, _ => simp only [fixC, up2_cc σ j v (by decide : 28 ≠ 0)]
  | 16, _ => simp only [fixC, up2_cc σ j v (by decide : 29 ≠ 0)]
  | 17, _ => simp only [fixC, up2_cc σ j v (by decide : 30 ≠ 0)]
  | 18, _ => simp only [fixC, up2_cc σ j v (by decide : 31 ≠ 0)]
  | z + 19, hz => exact absurd hz (by omega)
theorem cellC_up0 {j q : Nat} {v : Int32} (h : ∀ i, i < 19 → i ≠ q → ok0 i j = true) : ∀ i, i < 67 → i ≠ q → cellC cA cB ad i (up2 σ 0 j v) = cellC cA cB ad i σ := by
  intro i _ hq
  unfold cellC
  by_cases hi : i < 19
  · rw [if_pos hi, if_pos hi, fixC_up0 hi (h i hi hq)]
  · rw [if_neg hi, if_neg hi]
    simp only [up2_c σ j _ v (show (1 : Nat) ≠ 0 by decide), up2_c σ j _ v (show (3 : Nat) ≠ 0 by decide), up2_c σ j _ v (show (4 : Nat) ≠ 0 by decide), up2_c σ j _ v (show (21 : Nat) ≠ 0 by decide), up2_c σ j _ v (show (22 : Nat) ≠ 0 by decide), up2_cc σ j v (show 100 + 2 * ((i - 19) / 3) ≠ 0 by omega), up2_cc σ j v (show 101 + 2 * ((i - 19) / 3) ≠ 0 by omega)]
def fixed (c : Nat) : Bool := decide (c ≠ 0) && (decide (c ≠ 1) && (decide (c ≠ 3) && (decide (c ≠ 4) && (decide (c ≠ 21) && (decide (c ≠ 22) && decide (c < 100))))))
theorem cellC_upA {c j q : Nat} {v : Int32} (hc : fixed c = true) (h : ∀ i, i < 19 → i ≠ q → okA i c = true) : ∀ i, i < 67 → i ≠ q → cellC cA cB ad i (up2 σ c j v) = cellC cA cB ad i σ := by
  simp only [fixed, Bool.and_eq_true, decide_eq_true_eq] at hc
  obtain ⟨h0, h1, h3, h4, h21, h22, h100⟩ := hc
  intro i _ hq
  unfold cellC
  by_cases hi : i < 19
  · rw [if_pos hi, if_pos hi, fixC_upA hi h0 (h i hi hq)]
  · rw [if_neg hi, if_neg hi]
    simp only [up2_c σ j _ v (Ne.symm h1), up2_c σ j _ v (Ne.symm h3), up2_c σ j _ v (Ne.symm h4), up2_c σ j _ v (Ne.symm h21), up2_c σ j _ v (Ne.symm h22), up2_cc σ j v (show 100 + 2 * ((i - 19) / 3) ≠ c by omega), up2_cc σ j v (show 101 + 2 * ((i - 19) / 3) ≠ c by omega)]
theorem okA_W {c : Nat} (hc : c = 1 ∨ c = 3 ∨ c = 4 ∨ c = 21 ∨ c = 22) : ∀ i, i < 19 → okA i c = true := by
  rcases hc with rfl | rfl | rfl | rfl | rfl <;> decide
theorem cellC_upW {c k : Nat} {v : Int32} (hc : c = 1 ∨ c = 3 ∨ c = 4 ∨ c = 21 ∨ c = 22) : ∀ i, i < 67 → i ≠ pW k → cellC cA cB ad i (up2 σ c k v) = cellC cA cB ad i σ := by
  intro i _ hq
  unfold cellC
  by_cases hi : i < 19
  · rw [if_pos hi, if_pos hi, fixC_upA hi (by omega) (okA_W hc i hi)]
  · rw [if_neg hi, if_neg hi]
    by_cases h3 : (i - 19) % 3 = 0
    · have hk : (i - 19) / 3 ≠ k := by unfold pW at hq; omega
      have hh : ∀ d : Nat, up2 σ c k v d ((i - 19) / 3) = σ d ((i - 19) / 3) := fun d => by simp [up2, hk]
      simp only [hh, if_pos h3]
    · rw [if_neg h3, if_neg h3, up2_cc σ k v (show 100 + 2 * ((i - 19) / 3) ≠ c by omega), up2_cc σ k v (show 101 + 2 * ((i - 19) / 3) ≠ c by omega)]
theorem okA_big {c : Nat} (hc : 100 ≤ c) : ∀ i, i < 19 → okA i c = true := by
  intro i hi
  match i, hi with
  | 0, _ => simp [okA]
  | 1, _ => simp [okA]
  | 2, _ => simp [okA]; omega
  | 3, _ => simp [okA]
  | 4, _ => simp [okA]; omega
  | 5, _ => simp [okA]
  | 6, _ => simp [okA]; omega
  | 7, _ => simp [okA]; omega
  | 8, _ => simp [okA]; omega
  | 9, _ => simp [okA]; omega
  | 10, _ => simp [okA]
  | 11, _ => simp [okA]; omega
  | 12, _ => simp [okA]; omega
  | 13, _ => simp [okA]; omega
  | 14, _ => simp [okA]; omega
  | 15, _ => simp [okA]; omega
  | 16, _ => simp [okA]; omega
  | 17, _ => simp [okA]; omega
  | 18, _ => simp [okA]; omega
  | z + 19, hz => exact absurd hz (by omega)
theorem cellC_upD {k j : Nat} {v : Int32} (hk : k < 16) : ∀ i, i < 67 → i ≠ pD k → cellC cA cB ad i (up2 σ (100 + 2 * k) j v) = cellC cA cB ad i σ := by
  intro i h67 hq
  unfold cellC
  by_cases hi : i < 19
  · rw [if_pos hi, if_pos hi, fixC_upA hi (by omega) (okA_big (by omega) i hi)]
  · rw [if_neg hi, if_neg hi]
    rw [up2_c σ j _ v (show 1 ≠ 100 + 2 * k by omega), up2_c σ j _ v (show 3 ≠ 100 + 2 * k by omega), up2_c σ j _ v (show 4 ≠ 100 + 2 * k by omega), up2_c σ j _ v (show 21 ≠ 100 + 2 * k by omega), up2_c σ j _ v (show 22 ≠ 100 + 2 * k by omega), up2_cc σ j v (show 101 + 2 * ((i - 19) / 3) ≠ 100 + 2 * k by omega)]
    by_cases h3 : (i - 19) % 3 = 0
    · rw [if_pos h3, if_pos h3]
    · by_cases h4 : (i - 19) % 3 = 1
      · rw [up2_cc σ j v (show 100 + 2 * ((i - 19) / 3) ≠ 100 + 2 * k by unfold pD at hq; omega)]
      · rw [if_neg h3, if_neg h3, if_neg h4, if_neg h4]
theorem cellC_upB {k j : Nat} {v : Int32} (hk : k < 16) : ∀ i, i < 67 → i ≠ pB k → cellC cA cB ad i (up2 σ (101 + 2 * k) j v) = cellC cA cB ad i σ := by
  intro i h67 hq
  unfold cellC
  by_cases hi : i < 19
  · rw [if_pos hi, if_pos hi, fixC_upA hi (by omega) (okA_big (by omega) i hi)]
  · rw [if_neg hi, if_neg hi]
    rw [up2_c σ j _ v (show 1 ≠ 101 + 2 * k by omega), up2_c σ j _ v (show 3 ≠ 101 + 2 * k by omega), up2_c σ j _ v (show 4 ≠ 101 + 2 * k by omega), up2_c σ j _ v (show 21 ≠ 101 + 2 * k by omega), up2_c σ j _ v (show 22 ≠ 101 + 2 * k by omega), up2_cc σ j v (show 100 + 2 * ((i - 19) / 3) ≠ 101 + 2 * k by omega)]
    by_cases h3 : (i - 19) % 3 = 0
    · rw [if_pos h3, if_pos h3]
    · by_cases h4 : (i - 19) % 3 = 1
      · rw [if_neg h3, if_neg h3, if_pos h4, if_pos h4]
      · rw [up2_cc σ j v (show 101 + 2 * ((i - 19) / 3) ≠ 101 + 2 * k by unfold pB at hq; omega)]
theorem pW_lt {k : Nat} (h : k < 16) : pW k < 67 := by unfold pW; omega
theorem pD_lt {k : Nat} (h : k < 16) : pD k < 67 := by unfold pD; omega
theorem pB_lt {k : Nat} (h : k < 16) : pB k < 67 := by unfold pB; omega
end KC
/-! THE REFERENCE'S CELLS: 0 the object, 1 .. 16 its arrays in the order of its fields -/
def cellR (cA : ClassId) (ad : Nat → Nat) (i : Nat) (σ : St) : va_E := match i with
  | 0 => .inr (5, [.int 0, .long (σ 0 3).toInt64, .ref (ad 1), .ref (ad 2), .ref (ad 3), .ref (ad 4), .int (σ 0 0), .int (σ 0 2), .ref (ad 5), .ref (ad 6), .int (σ 0 4), .ref (ad 7), .ref (ad 8), .ref (ad 9), .int (σ 0 5), .ref (ad 10), .ref (ad 11), .ref (ad 12), .ref (ad 13), .ref (ad 14), .ref (ad 15), .ref (ad 16), .int (σ 0 1)])
  | 1 => .inl (cA, 16, .inl (σ 1))
  | 2 => .inl (cA, 80, .inl (fun j => σ (100 + 2 * (j / 5)) (j % 5)))
  | 3 => .inl (cA, 16, .inl (σ 3))
  | 4 => .inl (cA, 16, .inl (σ 4))
  | 5 => .inl (cA, 4, .inl (σ 5))
  | 6 => .inl (cA, 16, .inl (σ 12))
  | 7 => .inl (cA, 8, .inl (σ 6))
  | 8 => .inl (cA, 256, .inl (σ 13))
  | 9 => .inl (cA, 256, .inl (σ 14))
  | 10 => .inl (cA, 20, .inl (σ 7))
  | 11 => .inl (cA, 20, .inl (σ 8))
  | 12 => .inl (cA, 20, .inl (σ 9))
  | 13 => .inl (cA, 16, .inl (σ 15))
  | 14 => .inl (cA, 16, .inl (σ 16))
  | 15 => .inl (cA, 16, .inl (σ 11))
  | 16 => .inl (cA, 80, .inl (fun j => σ (101 + 2 * (j / 5)) (j % 5)))
  | _ => .inl (cA, 0, .inl fun _ => 0)
section KR
variable {cA : ClassId} {ad : Nat → Nat} {σ : St}
theorem kR_0 : cellR cA ad 0 σ = .inr (5, [.int 0, .long (σ 0 3).toInt64, .ref (ad 1), .ref (ad 2), .ref (ad 3), .ref (ad 4), .int (σ 0 0), .int (σ 0 2), .ref (ad 5), .ref (ad 6), .int (σ 0 4), .ref (ad 7), .ref (ad 8), .ref (ad 9), .int (σ 0 5), .ref (ad 10), .ref (ad 11), .ref (ad 12), .ref (ad 13), .ref (ad 14), .ref (ad 15), .ref (ad 16), .int (σ 0 1)]) := rfl
theorem kR_1 : cellR cA ad 1 σ = .inl (cA, 16, .inl (σ 1)) := rfl
theorem kR_2 : cellR cA ad 2 σ = .inl (cA, 80, .inl (fun j => σ (100 + 2 * (j / 5)) (j % 5))) := rfl
theorem kR_3 : cellR cA ad 3 σ = .inl (cA, 16, .inl (σ 3)) := rfl
theorem kR_4 : cellR cA ad 4 σ = .inl (cA, 16, .inl (σ 4)) := rfl
theorem kR_5 : cellR cA ad 5 σ = .inl (cA, 4, .inl (σ 5)) := rfl
theorem kR_6 : cellR cA ad 6 σ = .inl (cA, 16, .inl (σ 12)) := rfl
theorem kR_7 : cellR cA ad 7 σ = .inl (cA, 8, .inl (σ 6)) := rfl
theorem kR_8 : cellR cA ad 8 σ = .inl (cA, 256, .inl (σ 13)) := rfl
theorem kR_9 : cellR cA ad 9 σ = .inl (cA, 256, .inl (σ 14)) := rfl
theorem kR_10 : cellR cA ad 10 σ = .inl (cA, 20, .inl (σ 7)) := rfl
theorem kR_11 : cellR cA ad 11 σ = .inl (cA, 20, .inl (σ 8)) := rfl
theorem kR_12 : cellR cA ad 12 σ = .inl (cA, 20, .inl (σ 9)) := rfl
theorem kR_13 : cellR cA ad 13 σ = .inl (cA, 16, .inl (σ 15)) := rfl
theorem kR_14 : cellR cA ad 14 σ = .inl (cA, 16, .inl (σ 16)) := rfl
theorem kR_15 : cellR cA ad 15 σ = .inl (cA, 16, .inl (σ 11)) := rfl
theorem kR_16 : cellR cA ad 16 σ = .inl (cA, 80, .inl (fun j => σ (101 + 2 * (j / 5)) (j % 5))) := rfl
def okR (i c : Nat) : Bool := match i with
  | 1 => !(c == 1)
  | 3 => !(c == 3)
  | 4 => !(c == 4)
  | 5 => !(c == 5)
  | 6 => !(c == 12)
  | 7 => !(c == 6)
  | 8 => !(c == 13)
  | 9 => !(c == 14)
  | 10 => !(c == 7)
  | 11 => !(c == 8)
  | 12 => !(c == 9)
  | 13 => !(c == 15)
  | 14 => !(c == 16)
  | 15 => !(c == 11)
  | 2 => decide (c < 100)
  | 16 => decide (c < 100)
  | _ => true
theorem cellR_upA {q c j : Nat} {v : Int32} (h0 : c ≠ 0) (h : ∀ i, i < 17 → i ≠ q → okR i c = true) : ∀ i, i < 17 → i ≠ q → cellR cA ad i (up2 σ c j v) = cellR cA ad i σ := by
  intro i hi hq
  have h := h i hi hq
  match i, hi with
  | 0, _ => simp only [cellR, up2_c σ j _ v (Ne.symm h0)]
  | 1, _ =>
    have e : 1 ≠ c := by intro e; subst e; simp [okR] at h
    simp only [cellR, up2_cc σ j v e]
  | 2, _ =>
    have e : c < 100 := by simpa [okR] using h
    have e2 : ∀ x : Nat, 100 + 2 * (x / 5) ≠ c := fun x => by omega
    simp only [cellR, up2_c σ j _ v (e2 _)]
  | 3, _ =>
    have e : 3 ≠ c := by intro e; subst e; simp [okR] at h
    simp only [cellR, up2_cc σ j v e]
  | 4, _ =>
    have e : 4 ≠ c := by intro e; subst e; simp [okR] at h
    simp only [cellR, up2_cc σ j v e]
  | 5, _ =>
    have e : 5 ≠ c := by intro e; subst e; simp [okR] at h
    simp only [cellR, up2_cc σ j v e]
  | 6, _ =>
    have e : 12 ≠ c := by intro e; subst e; simp [okR] at h
    simp only [cellR, up2_cc σ j v e]
  | 7, _ =>
    have e : 6 ≠ c := by intro e; subst e; simp [okR] at h
    simp only [cellR, up2_cc σ j v e]
  | 8, _ =>
    have e : 13 ≠ c := by intro e; subst e; simp [okR] at h
    simp only [cellR, up2_cc σ j v e]
  | 9, _ =>
    have e : 14 ≠ c := by intro e; subst e; simp [okR] at h
    simp only [cellR, up2_cc σ j v e]
  | 10, _ =>
    have e : 7 ≠ c := by intro e; subst e; simp [okR] at h
    simp only [cellR, up2_cc σ j v e]
  | 11, _ =>
    have e : 8 ≠ c := by intro e; subst e; simp [okR] at h
    simp only [cellR, up2_cc σ j v e]
  | 12, _ =>
    have e : 9 ≠ c := by intro e; subst e; simp [okR] at h
    simp only [cellR, up2_cc σ j v e]
  | 13, _ =>
    have e : 15 ≠ c := by intro e; subst e; simp [okR] at h
    simp only [cellR, up2_cc σ j v e]
  | 14, _ =>
    have e : 16 ≠ c := by intro e; subst e; simp [okR] at h
    simp only [cellR, up2_cc σ j v e]
  | 15, _ =>
    have e : 11 ≠ c := by intro e; subst e; simp [okR] at h
    simp only [cellR, up2_cc σ j v e]
  | 16, _ =>
    have e : c < 100 := by simpa [okR] using h
    have e2 : ∀ x : Nat, 101 + 2 * (x / 5) ≠ c := fun x => by omega
    simp only [cellR, up2_c σ j _ v (e2 _)]
  | z + 17, hz => exact absurd hz (by omega)
theorem cellR_up0 {j : Nat} {v : Int32} : ∀ i, i < 17 → i ≠ 0 → cellR cA ad i (up2 σ 0 j v) = cellR cA ad i σ := by
  intro i hi hq
  match i, hi with
  | 0, _ => exact absurd rfl hq
  | 1, _ => simp only [cellR, up2_cc σ j v (show 1 ≠ 0 by decide)]
  | 2, _ =>
    have e2 : ∀ x : Nat, 100 + 2 * (x / 5) ≠ 0 := fun x => by omega
    simp only [cellR, up2_c σ j _ v (e2 _)]
  | 3, _ => simp only [cellR, up2_cc σ j v (show 3 ≠ 0 by decide)]
  | 4, _ => simp only [cellR, up2_cc σ j v (show 4 ≠ 0 by decide)]
  | 5, _ => simp only [cellR, up2_cc σ j v (show 5 ≠ 0 by decide)]
  | 6, _ => simp only [cellR, up2_cc σ j v (show 12 ≠ 0 by decide)]
  | 7, _ => simp only [cellR, up2_cc σ j v (show 6 ≠ 0 by decide)]
  | 8, _ => simp only [cellR, up2_cc σ j v (show 13 ≠ 0 by decide)]
  | 9, _ => simp only [cellR, up2_cc σ j v (show 14 ≠ 0 by decide)]
  | 10, _ => simp only [cellR, up2_cc σ j v (show 7 ≠ 0 by decide)]
  | 11, _ => simp only [cellR, up2_cc σ j v (show 8 ≠ 0 by decide)]
  | 12, _ => simp only [cellR, up2_cc σ j v (show 9 ≠ 0 by decide)]
  | 13, _ => simp only [cellR, up2_cc σ j v (show 15 ≠ 0 by decide)]
  | 14, _ => simp only [cellR, up2_cc σ j v (show 16 ≠ 0 by decide)]
  | 15, _ => simp only [cellR, up2_cc σ j v (show 11 ≠ 0 by decide)]
  | 16, _ =>
    have e2 : ∀ x : Nat, 101 + 2 * (x / 5) ≠ 0 := fun x => by omega
    simp only [cellR, up2_c σ j _ v (e2 _)]
  | z + 17, hz => exact absurd hz (by omega)
theorem cellR_upD {k j : Nat} {v : Int32} (hk : k < 16) : ∀ i, i < 17 → i ≠ 2 → cellR cA ad i (up2 σ (100 + 2 * k) j v) = cellR cA ad i σ := by
  intro i hi hq
  match i, hi with
  | 0, _ => simp only [cellR, up2_c σ j _ v (show 0 ≠ 100 + 2 * k by omega)]
  | 1, _ => simp only [cellR, up2_cc σ j v (show 1 ≠ 100 + 2 * k by omega)]
  | 2, _ => exact absurd rfl hq
  | 3, _ => simp only [cellR, up2_cc σ j v (show 3 ≠ 100 + 2 * k by omega)]
  | 4, _ => simp only [cellR, up2_cc σ j v (show 4 ≠ 100 + 2 * k by omega)]
  | 5, _ => simp only [cellR, up2_cc σ j v (show 5 ≠ 100 + 2 * k by omega)]
  | 6, _ => simp only [cellR, up2_cc σ j v (show 12 ≠ 100 + 2 * k by omega)]
  | 7, _ => simp only [cellR, up2_cc σ j v (show 6 ≠ 100 + 2 * k by omega)]
  | 8, _ => simp only [cellR, up2_cc σ j v (show 13 ≠ 100 + 2 * k by omega)]
  | 9, _ => simp only [cellR, up2_cc σ j v (show 14 ≠ 100 + 2 * k by omega)]
  | 10, _ => simp only [cellR, up2_cc σ j v (show 7 ≠ 100 + 2 * k by omega)]
  | 11, _ => simp only [cellR, up2_cc σ j v (show 8 ≠ 100 + 2 * k by omega)]
  | 12, _ => simp only [cellR, up2_cc σ j v (show 9 ≠ 100 + 2 * k by omega)]
  | 13, _ => simp only [cellR, up2_cc σ j v (show 15 ≠ 100 + 2 * k by omega)]
  | 14, _ => simp only [cellR, up2_cc σ j v (show 16 ≠ 100 + 2 * k by omega)]
  | 15, _ => simp only [cellR, up2_cc σ j v (show 11 ≠ 100 + 2 * k by omega)]
  | 16, _ =>
    refine congrArg (fun f : Nat → Int32 => (Sum.inl (cA, 80, .inl f) : va_E)) ?_
    funext x
    by_cases hx : 101 + 2 * (x / 5) = 100 + 2 * k
    · omega
    · exact up2_c σ j _ v hx
  | z + 17, hz => exact absurd hz (by omega)
theorem kR_D {k j : Nat} {v : Int32} (hj : j < 5) : cellR cA ad 2 (up2 σ (100 + 2 * k) j v) = .inl (cA, 80, .inl (upd (fun x => σ (100 + 2 * (x / 5)) (x % 5)) (5 * k + j) v)) := by
  refine congrArg (fun f : Nat → Int32 => (Sum.inl (cA, 80, .inl f) : va_E)) ?_
  funext x
  by_cases hx : x = 5 * k + j
  · subst hx
    have e1 : 100 + 2 * ((5 * k + j) / 5) = 100 + 2 * k := by omega
    have e2 : (5 * k + j) % 5 = j := by omega
    show up2 σ (100 + 2 * k) j v (100 + 2 * ((5 * k + j) / 5)) ((5 * k + j) % 5) = _
    rw [e1, e2, up2_s]
    simp [upd]
  · show up2 σ (100 + 2 * k) j v (100 + 2 * (x / 5)) (x % 5) = _
    have e : ¬ (100 + 2 * (x / 5) = 100 + 2 * k ∧ x % 5 = j) := by omega
    simp only [up2, upd, if_neg e, if_neg hx]
theorem cellR_upB {k j : Nat} {v : Int32} (hk : k < 16) : ∀ i, i < 17 → i ≠ 16 → cellR cA ad i (up2 σ (101 + 2 * k) j v) = cellR cA ad i σ := by
  intro i hi hq
  match i, hi with
  | 0, _ => simp only [cellR, up2_c σ j _ v (show 0 ≠ 101 + 2 * k by omega)]
  | 1, _ => simp only [cellR, up2_cc σ j v (show 1 ≠ 101 + 2 * k by omega)]
  | 2, _ =>
    refine congrArg (fun f : Nat → Int32 => (Sum.inl (cA, 80, .inl f) : va_E)) ?_
    funext x
    by_cases hx : 100 + 2 * (x / 5) = 101 + 2 * k
    · omega
    · exact up2_c σ j _ v hx
  | 3, _ => simp only [cellR, up2_cc σ j v (show 3 ≠ 101 + 2 * k by omega)]
  | 4, _ => simp only [cellR, up2_cc σ j v (show 4 ≠ 101 + 2 * k by omega)]
  | 5, _ => simp only [cellR, up2_cc σ j v (show 5 ≠ 101 + 2 * k by omega)]
  | 6, _ => simp only [cellR, up2_cc σ j v (show 12 ≠ 101 + 2 * k by omega)]
  | 7, _ => simp only [cellR, up2_cc σ j v (show 6 ≠ 101 + 2 * k by omega)]
  | 8, _ => simp only [cellR, up2_cc σ j v (show 13 ≠ 101 + 2 * k by omega)]
  | 9, _ => simp only [cellR, up2_cc σ j v (show 14 ≠ 101 + 2 * k by omega)]
  | 10, _ => simp only [cellR, up2_cc σ j v (show 7 ≠ 101 + 2 * k by omega)]
  | 11, _ => simp only [cellR, up2_cc σ j v (show 8 ≠ 101 + 2 * k by omega)]
  | 12, _ => simp only [cellR, up2_cc σ j v (show 9 ≠ 101 + 2 * k by omega)]
  | 13, _ => simp only [cellR, up2_cc σ j v (show 15 ≠ 101 + 2 * k by omega)]
  | 14, _ => simp only [cellR, up2_cc σ j v (show 16 ≠ 101 + 2 * k by omega)]
  | 15, _ => simp only [cellR, up2_cc σ j v (show 11 ≠ 101 + 2 * k by omega)]
  | 16, _ => exact absurd rfl hq
  | z + 17, hz => exact absurd hz (by omega)
theorem kR_B {k j : Nat} {v : Int32} (hj : j < 5) : cellR cA ad 16 (up2 σ (101 + 2 * k) j v) = .inl (cA, 80, .inl (upd (fun x => σ (101 + 2 * (x / 5)) (x % 5)) (5 * k + j) v)) := by
  refine congrArg (fun f : Nat → Int32 => (Sum.inl (cA, 80, .inl f) : va_E)) ?_
  funext x
  by_cases hx : x = 5 * k + j
  · subst hx
    have e1 : 101 + 2 * ((5 * k + j) / 5) = 101 + 2 * k := by omega
    have e2 : (5 * k + j) % 5 = j := by omega
    show up2 σ (101 + 2 * k) j v (101 + 2 * ((5 * k + j) / 5)) ((5 * k + j) % 5) = _
    rw [e1, e2, up2_s]
    simp [upd]
  · show up2 σ (101 + 2 * k) j v (101 + 2 * (x / 5)) (x % 5) = _
    have e : ¬ (101 + 2 * (x / 5) = 101 + 2 * k ∧ x % 5 = j) := by omega
    simp only [up2, upd, if_neg e, if_neg hx]
end KR
end
section
/-! what a write makes of the state -/
section S7
variable {cA cB : ClassId} {ad : Nat → Nat} {σ : St}
theorem sC_00 {v : Int32} : cellC cA cB ad 0 (up2 σ 0 0 v) = .inr (4, ([.ref (ad 1), .ref (ad 3), .ref (ad 5), .ref (ad 10), .ref (ad 2), .int (σ 0 0), .int (σ 0 1), .int (σ 0 2), .long (σ 0 3).toInt64] : List Value).set 5 (.int v)) := by rw [kC_0]; simp [up2]
theorem oC_00 {v : Int32} : ∀ i, i < 67 → i ≠ 0 → cellC cA cB ad i (up2 σ 0 0 v) = cellC cA cB ad i σ := cellC_up0 (by decide)
theorem sC_01 {v : Int32} : cellC cA cB ad 0 (up2 σ 0 1 v) = .inr (4, ([.ref (ad 1), .ref (ad 3), .ref (ad 5), .ref (ad 10), .ref (ad 2), .int (σ 0 0), .int (σ 0 1), .int (σ 0 2), .long (σ 0 3).toInt64] : List Value).set 6 (.int v)) := by rw [kC_0]; simp [up2]
theorem oC_01 {v : Int32} : ∀ i, i < 67 → i ≠ 0 → cellC cA cB ad i (up2 σ 0 1 v) = cellC cA cB ad i σ := cellC_up0 (by decide)
theorem sC_02 {v : Int32} : cellC cA cB ad 0 (up2 σ 0 2 v) = .inr (4, ([.ref (ad 1), .ref (ad 3), .ref (ad 5), .ref (ad 10), .ref (ad 2), .int (σ 0 0), .int (σ 0 1), .int (σ 0 2), .long (σ 0 3).toInt64] : List Value).set 7 (.int v)) := by rw [kC_0]; simp [up2]
theorem oC_02 {v : Int32} : ∀ i, i < 67 → i ≠ 0 → cellC cA cB ad i (up2 σ 0 2 v) = cellC cA cB ad i σ := cellC_up0 (by decide)
theorem sC_04 {v : Int32} : cellC cA cB ad 5 (up2 σ 0 4 v) = .inr (2, ([.int (σ 0 4), .ref (ad 6), .ref (ad 7), .ref (ad 8), .ref (ad 9)] : List Value).set 0 (.int v)) := by rw [kC_5]; simp [up2]
theorem oC_04 {v : Int32} : ∀ i, i < 67 → i ≠ 5 → cellC cA cB ad i (up2 σ 0 4 v) = cellC cA cB ad i σ := cellC_up0 (by decide)
theorem sC_05 {v : Int32} : cellC cA cB ad 10 (up2 σ 0 5 v) = .inr (1, ([.int (σ 0 5), .ref (ad 11), .ref (ad 12), .ref (ad 13), .ref (ad 14), .ref (ad 15), .ref (ad 16), .ref (ad 17), .ref (ad 18)] : List Value).set 0 (.int v)) := by rw [kC_10]; simp [up2]
theorem oC_05 {v : Int32} : ∀ i, i < 67 → i ≠ 10 → cellC cA cB ad i (up2 σ 0 5 v) = cellC cA cB ad i σ := cellC_up0 (by decide)
theorem sC_03 {v : Int64} {x : Int32} (h : x.toInt64 = v) : cellC cA cB ad 0 (up2 σ 0 3 x) = .inr (4, ([.ref (ad 1), .ref (ad 3), .ref (ad 5), .ref (ad 10), .ref (ad 2), .int (σ 0 0), .int (σ 0 1), .int (σ 0 2), .long (σ 0 3).toInt64] : List Value).set 8 (.long v)) := by rw [kC_0]; simp [up2, h]
theorem oC_03 {v : Int32} : ∀ i, i < 67 → i ≠ 0 → cellC cA cB ad i (up2 σ 0 3 v) = cellC cA cB ad i σ := cellC_up0 (by decide)
theorem sR_00 {v : Int32} : cellR cA ad 0 (up2 σ 0 0 v) = .inr (5, ([.int 0, .long (σ 0 3).toInt64, .ref (ad 1), .ref (ad 2), .ref (ad 3), .ref (ad 4), .int (σ 0 0), .int (σ 0 2), .ref (ad 5), .ref (ad 6), .int (σ 0 4), .ref (ad 7), .ref (ad 8), .ref (ad 9), .int (σ 0 5), .ref (ad 10), .ref (ad 11), .ref (ad 12), .ref (ad 13), .ref (ad 14), .ref (ad 15), .ref (ad 16), .int (σ 0 1)] : List Value).set 6 (.int v)) := by rw [kR_0]; simp [up2]
theorem oR_00 {v : Int32} : ∀ i, i < 17 → i ≠ 0 → cellR cA ad i (up2 σ 0 0 v) = cellR cA ad i σ := cellR_up0
theorem sR_02 {v : Int32} : cellR cA ad 0 (up2 σ 0 2 v) = .inr (5, ([.int 0, .long (σ 0 3).toInt64, .ref (ad 1), .ref (ad 2), .ref (ad 3), .ref (ad 4), .int (σ 0 0), .int (σ 0 2), .ref (ad 5), .ref (ad 6), .int (σ 0 4), .ref (ad 7), .ref (ad 8), .ref (ad 9), .int (σ 0 5), .ref (ad 10), .ref (ad 11), .ref (ad 12), .ref (ad 13), .ref (ad 14), .ref (ad 15), .ref (ad 16), .int (σ 0 1)] : List Value).set 7 (.int v)) := by rw [kR_0]; simp [up2]
theorem oR_02 {v : Int32} : ∀ i, i < 17 → i ≠ 0 → cellR cA ad i (up2 σ 0 2 v) = cellR cA ad i σ := cellR_up0
theorem sR_04 {v : Int32} : cellR cA ad 0 (up2 σ 0 4 v) = .inr (5, ([.int 0, .long (σ 0 3).toInt64, .ref (ad 1), .ref (ad 2), .ref (ad 3), .ref (ad 4), .int (σ 0 0), .int (σ 0 2), .ref (ad 5), .ref (ad 6), .int (σ 0 4), .ref (ad 7), .ref (ad 8), .ref (ad 9), .int (σ 0 5), .ref (ad 10), .ref (ad 11), .ref (ad 12), .ref (ad 13), .ref (ad 14), .ref (ad 15), .ref (ad 16), .int (σ 0 1)] : List Value).set 10 (.int v)) := by rw [kR_0]; simp [up2]
theorem oR_04 {v : Int32} : ∀ i, i < 17 → i ≠ 0 → cellR cA ad i (up2 σ 0 4 v) = cellR cA ad i σ := cellR_up0
theorem sR_05 {v : Int32} : cellR cA ad 0 (up2 σ 0 5 v) = .inr (5, ([.int 0, .long (σ 0 3).toInt64, .ref (ad 1), .ref (ad 2), .ref (ad 3), .ref (ad 4), .int (σ 0 0), .int (σ 0 2), .ref (ad 5), .ref (ad 6), .int (σ 0 4), .ref (ad 7), .ref (ad 8), .ref (ad 9), .int (σ 0 5), .ref (ad 10), .ref (ad 11), .ref (ad 12), .ref (ad 13), .ref (ad 14), .ref (ad 15), .ref (ad 16), .int (σ 0 1)] : List Value).set 14 (.int v)) := by rw [kR_0]; simp [up2]
theorem oR_05 {v : Int32} : ∀ i, i < 17 → i ≠ 0 → cellR cA ad i (up2 σ 0 5 v) = cellR cA ad i σ := cellR_up0
theorem sR_01 {v : Int32} : cellR cA ad 0 (up2 σ 0 1 v) = .inr (5, ([.int 0, .long (σ 0 3).toInt64, .ref (ad 1), .ref (ad 2), .ref (ad 3), .ref (ad 4), .int (σ 0 0), .int (σ 0 2), .ref (ad 5), .ref (ad 6), .int (σ 0 4), .ref (ad 7), .ref (ad 8), .ref (ad 9), .int (σ 0 5), .ref (ad 10), .ref (ad 11), .ref (ad 12), .ref (ad 13), .ref (ad 14), .ref (ad 15), .ref (ad 16), .int (σ 0 1)] : List Value).set 22 (.int v)) := by rw [kR_0]; simp [up2]
theorem oR_01 {v : Int32} : ∀ i, i < 17 → i ≠ 0 → cellR cA ad i (up2 σ 0 1 v) = cellR cA ad i σ := cellR_up0
theorem sR_03 {v : Int64} {x : Int32} (h : x.toInt64 = v) : cellR cA ad 0 (up2 σ 0 3 x) = .inr (5, ([.int 0, .long (σ 0 3).toInt64, .ref (ad 1), .ref (ad 2), .ref (ad 3), .ref (ad 4), .int (σ 0 0), .int (σ 0 2), .ref (ad 5), .ref (ad 6), .int (σ 0 4), .ref (ad 7), .ref (ad 8), .ref (ad 9), .int (σ 0 5), .ref (ad 10), .ref (ad 11), .ref (ad 12), .ref (ad 13), .ref (ad 14), .ref (ad 15), .ref (ad 16), .int (σ 0 1)] : List Value).set 1 (.long v)) := by rw [kR_0]; simp [up2, h]
theorem oR_03 {v : Int32} : ∀ i, i < 17 → i ≠ 0 → cellR cA ad i (up2 σ 0 3 v) = cellR cA ad i σ := cellR_up0
theorem sR_th : cellR cA ad 0 σ = .inr (5, ([.int 0, .long (σ 0 3).toInt64, .ref (ad 1), .ref (ad 2), .ref (ad 3), .ref (ad 4), .int (σ 0 0), .int (σ 0 2), .ref (ad 5), .ref (ad 6), .int (σ 0 4), .ref (ad 7), .ref (ad 8), .ref (ad 9), .int (σ 0 5), .ref (ad 10), .ref (ad 11), .ref (ad 12), .ref (ad 13), .ref (ad 14), .ref (ad 15), .ref (ad 16), .int (σ 0 1)] : List Value).set 0 (.int 0)) := rfl
theorem oR_th : ∀ i, i < 17 → i ≠ 0 → cellR cA ad i σ = cellR cA ad i σ := fun _ _ _ => rfl
theorem sC_W1 (k : Nat) (v : Int32) : cellC cA cB ad (pW k) (up2 σ 1 k v) = .inr (3, ([.ref (ad (pD k)), .int (σ 1 k), .int (σ 3 k), .int (σ 4 k), .ref (ad (pB k)), .int (σ 21 k), .int (σ 22 k)] : List Value).set 1 (.int v)) := by rw [kC_W]; simp [up2]
theorem sC_W3 (k : Nat) (v : Int32) : cellC cA cB ad (pW k) (up2 σ 3 k v) = .inr (3, ([.ref (ad (pD k)), .int (σ 1 k), .int (σ 3 k), .int (σ 4 k), .ref (ad (pB k)), .int (σ 21 k), .int (σ 22 k)] : List Value).set 2 (.int v)) := by rw [kC_W]; simp [up2]
theorem sC_W4 (k : Nat) (v : Int32) : cellC cA cB ad (pW k) (up2 σ 4 k v) = .inr (3, ([.ref (ad (pD k)), .int (σ 1 k), .int (σ 3 k), .int (σ 4 k), .ref (ad (pB k)), .int (σ 21 k), .int (σ 22 k)] : List Value).set 3 (.int v)) := by rw [kC_W]; simp [up2]
theorem sC_W21 (k : Nat) (v : Int32) : cellC cA cB ad (pW k) (up2 σ 21 k v) = .inr (3, ([.ref (ad (pD k)), .int (σ 1 k), .int (σ 3 k), .int (σ 4 k), .ref (ad (pB k)), .int (σ 21 k), .int (σ 22 k)] : List Value).set 5 (.int v)) := by rw [kC_W]; simp [up2]
theorem sC_W22 (k : Nat) (v : Int32) : cellC cA cB ad (pW k) (up2 σ 22 k v) = .inr (3, ([.ref (ad (pD k)), .int (σ 1 k), .int (σ 3 k), .int (σ 4 k), .ref (ad (pB k)), .int (σ 21 k), .int (σ 22 k)] : List Value).set 6 (.int v)) := by rw [kC_W]; simp [up2]
theorem sC_D (k j : Nat) (v : Int32) : cellC cA cB ad (pD k) (up2 σ (100 + 2 * k) j v) = .inl (cA, 5, .inl (upd (σ (100 + 2 * k)) j v)) := by rw [kC_D, up2_u]
theorem sC_B (k j : Nat) (v : Int32) : cellC cA cB ad (pB k) (up2 σ (101 + 2 * k) j v) = .inl (cA, 5, .inl (upd (σ (101 + 2 * k)) j v)) := by rw [kC_B, up2_u]
theorem sC_a2 {j : Nat} {v : Int32} : cellC cA cB ad 2 (up2 σ 23 j v) = .inl (cA, 16, .inl (upd (σ 23) j v)) := by rw [kC_2, up2_u]
theorem oC_a2 {j : Nat} {v : Int32} : ∀ i, i < 67 → i ≠ 2 → cellC cA cB ad i (up2 σ 23 j v) = cellC cA cB ad i σ := cellC_upA (by decide) (by decide)
theorem sC_a4 {j : Nat} {v : Int32} : cellC cA cB ad 4 (up2 σ 5 j v) = .inl (cA, 4, .inl (upd (σ 5) j v)) := by rw [kC_4, up2_u]
theorem oC_a4 {j : Nat} {v : Int32} : ∀ i, i < 67 → i ≠ 4 → cellC cA cB ad i (up2 σ 5 j v) = cellC cA cB ad i σ := cellC_upA (by decide) (by decide)
theorem sC_a6 {j : Nat} {v : Int32} : cellC cA cB ad 6 (up2 σ 6 j v) = .inl (cA, 8, .inl (upd (σ 6) j v)) := by rw [kC_6, up2_u]
theorem oC_a6 {j : Nat} {v : Int32} : ∀ i, i < 67 → i ≠ 6 → cellC cA cB ad i (up2 σ 6 j v) = cellC cA cB ad i σ := cellC_upA (by decide) (by decide)
theorem sC_a7 {j : Nat} {v : Int32} : cellC cA cB ad 7 (up2 σ 24 j v) = .inl (cA, 8, .inl (upd (σ 24) j v)) := by rw [kC_7, up2_u]
theorem oC_a7 {j : Nat} {v : Int32} : ∀ i, i < 67 → i ≠ 7 → cellC cA cB ad i (up2 σ 24 j v) = cellC cA cB ad i σ := cellC_upA (by decide) (by decide)
theorem sC_a8 {j : Nat} {v : Int32} : cellC cA cB ad 8 (up2 σ 25 j v) = .inl (cA, 9, .inl (upd (σ 25) j v)) := by rw [kC_8, up2_u]
theorem oC_a8 {j : Nat} {v : Int32} : ∀ i, i < 67 → i ≠ 8 → cellC cA cB ad i (up2 σ 25 j v) = cellC cA cB ad i σ := cellC_upA (by decide) (by decide)
theorem sC_a9 {j : Nat} {v : Int32} : cellC cA cB ad 9 (up2 σ 26 j v) = .inl (cA, 9, .inl (upd (σ 26) j v)) := by rw [kC_9, up2_u]
theorem oC_a9 {j : Nat} {v : Int32} : ∀ i, i < 67 → i ≠ 9 → cellC cA cB ad i (up2 σ 26 j v) = cellC cA cB ad i σ := cellC_upA (by decide) (by decide)
theorem sC_a11 {j : Nat} {v : Int32} : cellC cA cB ad 11 (up2 σ 7 j v) = .inl (cA, 20, .inl (upd (σ 7) j v)) := by rw [kC_11, up2_u]
theorem oC_a11 {j : Nat} {v : Int32} : ∀ i, i < 67 → i ≠ 11 → cellC cA cB ad i (up2 σ 7 j v) = cellC cA cB ad i σ := cellC_upA (by decide) (by decide)
theorem sC_a12 {j : Nat} {v : Int32} : cellC cA cB ad 12 (up2 σ 8 j v) = .inl (cA, 20, .inl (upd (σ 8) j v)) := by rw [kC_12, up2_u]
theorem oC_a12 {j : Nat} {v : Int32} : ∀ i, i < 67 → i ≠ 12 → cellC cA cB ad i (up2 σ 8 j v) = cellC cA cB ad i σ := cellC_upA (by decide) (by decide)
theorem sC_a13 {j : Nat} {v : Int32} : cellC cA cB ad 13 (up2 σ 9 j v) = .inl (cA, 20, .inl (upd (σ 9) j v)) := by rw [kC_13, up2_u]
theorem oC_a13 {j : Nat} {v : Int32} : ∀ i, i < 67 → i ≠ 13 → cellC cA cB ad i (up2 σ 9 j v) = cellC cA cB ad i σ := cellC_upA (by decide) (by decide)
theorem sC_a14 {j : Nat} {v : Int32} : cellC cA cB ad 14 (up2 σ 27 j v) = .inl (cA, 16, .inl (upd (σ 27) j v)) := by rw [kC_14, up2_u]
theorem oC_a14 {j : Nat} {v : Int32} : ∀ i, i < 67 → i ≠ 14 → cellC cA cB ad i (up2 σ 27 j v) = cellC cA cB ad i σ := cellC_upA (by decide) (by decide)
theorem sC_a15 {j : Nat} {v : Int32} : cellC cA cB ad 15 (up2 σ 28 j v) = .inl (cA, 16, .inl (upd (σ 28) j v)) := by rw [kC_15, up2_u]
theorem oC_a15 {j : Nat} {v : Int32} : ∀ i, i < 67 → i ≠ 15 → cellC cA cB ad i (up2 σ 28 j v) = cellC cA cB ad i σ := cellC_upA (by decide) (by decide)
theorem sC_a16 {j : Nat} {v : Int32} : cellC cA cB ad 16 (up2 σ 29 j v) = .inl (cA, 16, .inl (upd (σ 29) j v)) := by rw [kC_16, up2_u]
theorem oC_a16 {j : Nat} {v : Int32} : ∀ i, i < 67 → i ≠ 16 → cellC cA cB ad i (up2 σ 29 j v) = cellC cA cB ad i σ := cellC_upA (by decide) (by decide)
theorem sC_a17 {j : Nat} {v : Int32} : cellC cA cB ad 17 (up2 σ 30 j v) = .inl (cA, 16, .inl (upd (σ 30) j v)) := by rw [kC_17, up2_u]
theorem oC_a17 {j : Nat} {v : Int32} : ∀ i, i < 67 → i ≠ 17 → cellC cA cB ad i (up2 σ 30 j v) = cellC cA cB ad i σ := cellC_upA (by decide) (by decide)
theorem sC_a18 {j : Nat} {v : Int32} : cellC cA cB ad 18 (up2 σ 31 j v) = .inl (cA, 16, .inl (upd (σ 31) j v)) := by rw [kC_18, up2_u]
theorem oC_a18 {j : Nat} {v : Int32} : ∀ i, i < 67 → i ≠ 18 → cellC cA cB ad i (up2 σ 31 j v) = cellC cA cB ad i σ := cellC_upA (by decide) (by decide)
theorem sR_a1 {j : Nat} {v : Int32} : cellR cA ad 1 (up2 σ 1 j v) = .inl (cA, 16, .inl (upd (σ 1) j v)) := by rw [kR_1, up2_u]
theorem oR_a1 {j : Nat} {v : Int32} : ∀ i, i < 17 → i ≠ 1 → cellR cA ad i (up2 σ 1 j v) = cellR cA ad i σ := cellR_upA (by decide) (by decide)
theorem sR_a3 {j : Nat} {v : Int32} : cellR cA ad 3 (up2 σ 3 j v) = .inl (cA, 16, .inl (upd (σ 3) j v)) := by rw [kR_3, up2_u]
theorem oR_a3 {j : Nat} {v : Int32} : ∀ i, i < 17 → i ≠ 3 → cellR cA ad i (up2 σ 3 j v) = cellR cA ad i σ := cellR_upA (by decide) (by decide)
theorem sR_a4 {j : Nat} {v : Int32} : cellR cA ad 4 (up2 σ 4 j v) = .inl (cA, 16, .inl (upd (σ 4) j v)) := by rw [kR_4, up2_u]
theorem oR_a4 {j : Nat} {v : Int32} : ∀ i, i < 17 → i ≠ 4 → cellR cA ad i (up2 σ 4 j v) = cellR cA ad i σ := cellR_upA (by decide) (by decide)
theorem sR_a5 {j : Nat} {v : Int32} : cellR cA ad 5 (up2 σ 5 j v) = .inl (cA, 4, .inl (upd (σ 5) j v)) := by rw [kR_5, up2_u]
theorem oR_a5 {j : Nat} {v : Int32} : ∀ i, i < 17 → i ≠ 5 → cellR cA ad i (up2 σ 5 j v) = cellR cA ad i σ := cellR_upA (by decide) (by decide)
theorem sR_a6 {j : Nat} {v : Int32} : cellR cA ad 6 (up2 σ 12 j v) = .inl (cA, 16, .inl (upd (σ 12) j v)) := by rw [kR_6, up2_u]
theorem oR_a6 {j : Nat} {v : Int32} : ∀ i, i < 17 → i ≠ 6 → cellR cA ad i (up2 σ 12 j v) = cellR cA ad i σ := cellR_upA (by decide) (by decide)
theorem sR_a7 {j : Nat} {v : Int32} : cellR cA ad 7 (up2 σ 6 j v) = .inl (cA, 8, .inl (upd (σ 6) j v)) := by rw [kR_7, up2_u]
theorem oR_a7 {j : Nat} {v : Int32} : ∀ i, i < 17 → i ≠ 7 → cellR cA ad i (up2 σ 6 j v) = cellR cA ad i σ := cellR_upA (by decide) (by decide)
theorem sR_a8 {j : Nat} {v : Int32} : cellR cA ad 8 (up2 σ 13 j v) = .inl (cA, 256, .inl (upd (σ 13) j v)) := by rw [kR_8, up2_u]
theorem oR_a8 {j : Nat} {v : Int32} : ∀ i, i < 17 → i ≠ 8 → cellR cA ad i (up2 σ 13 j v) = cellR cA ad i σ := cellR_upA (by decide) (by decide)
theorem sR_a9 {j : Nat} {v : Int32} : cellR cA ad 9 (up2 σ 14 j v) = .inl (cA, 256, .inl (upd (σ 14) j v)) := by rw [kR_9, up2_u]
theorem oR_a9 {j : Nat} {v : Int32} : ∀ i, i < 17 → i ≠ 9 → cellR cA ad i (up2 σ 14 j v) = cellR cA ad i σ := cellR_upA (by decide) (by decide)
theorem sR_a10 {j : Nat} {v : Int32} : cellR cA ad 10 (up2 σ 7 j v) = .inl (cA, 20, .inl (upd (σ 7) j v)) := by rw [kR_10, up2_u]
theorem oR_a10 {j : Nat} {v : Int32} : ∀ i, i < 17 → i ≠ 10 → cellR cA ad i (up2 σ 7 j v) = cellR cA ad i σ := cellR_upA (by decide) (by decide)
theorem sR_a11 {j : Nat} {v : Int32} : cellR cA ad 11 (up2 σ 8 j v) = .inl (cA, 20, .inl (upd (σ 8) j v)) := by rw [kR_11, up2_u]
theorem oR_a11 {j : Nat} {v : Int32} : ∀ i, i < 17 → i ≠ 11 → cellR cA ad i (up2 σ 8 j v) = cellR cA ad i σ := cellR_upA (by decide) (by decide)
theorem sR_a12 {j : Nat} {v : Int32} : cellR cA ad 12 (up2 σ 9 j v) = .inl (cA, 20, .inl (upd (σ 9) j v)) := by rw [kR_12, up2_u]
theorem oR_a12 {j : Nat} {v : Int32} : ∀ i, i < 17 → i ≠ 12 → cellR cA ad i (up2 σ 9 j v) = cellR cA ad i σ := cellR_upA (by decide) (by decide)
theorem sR_a13 {j : Nat} {v : Int32} : cellR cA ad 13 (up2 σ 15 j v) = .inl (cA, 16, .inl (upd (σ 15) j v)) := by rw [kR_13, up2_u]
theorem oR_a13 {j : Nat} {v : Int32} : ∀ i, i < 17 → i ≠ 13 → cellR cA ad i (up2 σ 15 j v) = cellR cA ad i σ := cellR_upA (by decide) (by decide)
theorem sR_a14 {j : Nat} {v : Int32} : cellR cA ad 14 (up2 σ 16 j v) = .inl (cA, 16, .inl (upd (σ 16) j v)) := by rw [kR_14, up2_u]
theorem oR_a14 {j : Nat} {v : Int32} : ∀ i, i < 17 → i ≠ 14 → cellR cA ad i (up2 σ 16 j v) = cellR cA ad i σ := cellR_upA (by decide) (by decide)
theorem sR_a15 {j : Nat} {v : Int32} : cellR cA ad 15 (up2 σ 11 j v) = .inl (cA, 16, .inl (upd (σ 11) j v)) := by rw [kR_15, up2_u]
theorem oR_a15 {j : Nat} {v : Int32} : ∀ i, i < 17 → i ≠ 15 → cellR cA ad i (up2 σ 11 j v) = cellR cA ad i σ := cellR_upA (by decide) (by decide)
theorem rDB (b : Nat) {k j : Nat} (h : j < 5) : σ (b + 2 * ((5 * k + j) / 5)) ((5 * k + j) % 5) = σ (b + 2 * k) j := by
  rw [show (5 * k + j) / 5 = k by omega, show (5 * k + j) % 5 = j by omega]
end S7
theorem iinc1 (k : Nat) : nI k + Int32.ofInt 1 = nI (k + 1) := nI_1 k
theorem iincx (x : Int32) : x + Int32.ofInt 1 = x + 1 := rfl
/-! numbers that are told -/
abbrev isW (w : Int32) : Prop := 0 ≤ w ∧ w ≤ 15
def wn (w : Int32) : Nat := w.toNatClampNeg
abbrev inR (v a b : Int32) : Prop := a ≤ v ∧ v ≤ b
theorem isW_nI {k : Nat} (h : k < 16) : isW (nI k) := ⟨nI_pos' (by omega), nI_le (a := k) (b := 15) (by omega) (by omega)⟩
theorem isW_of {w : Int32} (h : isW w) : ∃ k : Nat, k < 16 ∧ w = nI k := by
  obtain ⟨j, h1, h2⟩ := nI_ofR (n := 15) h.1 h.2 (by omega)
  exact ⟨j, by omega, h2⟩
theorem inR_of {w : Int32} {n : Nat} (hn : n < 2 ^ 31) (h : inR w 0 (nI n)) : ∃ k : Nat, k ≤ n ∧ w = nI k := nI_ofR h.1 h.2 hn
theorem inR_nI {k n : Nat} (h : k ≤ n) (hn : n < 2 ^ 31) : inR (nI k) 0 (nI n) := ⟨nI_pos' (by omega), nI_le h hn⟩
theorem nI_eq0 {k : Nat} (h : k < 2 ^ 31) : nI k = 0 ↔ k = 0 := nI_eq (b := 0) h (by omega)
theorem nI_le0 {k : Nat} (h : k < 2 ^ 31) : nI k ≤ 0 ↔ k = 0 := (nI_leI (b := 0) h (by omega)).trans (by omega)
theorem i32_nle {x y : Int32} (h : x < y) : ¬ y ≤ x := by rw [i32_lt] at h; rw [i32_le]; omega
theorem i32_nlt {x y : Int32} (h : ¬ x < y) : y ≤ x := by rw [i32_lt] at h; rw [i32_le]; omega
theorem sw_cases {n : Nat} (hn : n < 2 ^ 31) (x : Int32) : (∃ j : Nat, j ≤ n ∧ x = nI j) ∨ (x.toInt < 0 ∨ (n : Int) < x.toInt) := by
  by_cases h : x.toInt < 0 ∨ (n : Int) < x.toInt
  · exact Or.inr h
  · refine Or.inl (nI_ofR ?_ ?_ hn)
    · rw [i32_le, Int32.toInt_zero]; omega
    · rw [i32_le, nI_toInt hn]; omega
theorem wn_nI {k : Nat} (h : k < 2 ^ 31) : wn (nI k) = k := nI_clamp h
end
section
/-! the simple calls: what they answer, what becomes of the state; alike for the class and the reference -/
def f_size (σ : St) (w v : Int32) : Int32 := if isW w ∧ inR v 6000 9200 then σ 1 (wn w) else -1
def g_size (σ : St) (w v : Int32) : St := if isW w ∧ inR v 6000 9200 then up2 σ 1 (wn w) v else σ
def f_wear (σ : St) (w v : Int32) : Int32 := if isW w ∧ inR v 0 20 then σ 3 (wn w) else -1
def g_wear (σ : St) (w v : Int32) : St := if isW w ∧ inR v 0 20 then up2 σ 3 (wn w) v else σ
def f_depth (σ : St) (w i v : Int32) : Int32 := if isW w ∧ inR i 0 4 ∧ inR v 0 99 then σ (100 + 2 * wn w) (wn i) else -1
def g_depth (σ : St) (w i v : Int32) : St := if isW w ∧ inR i 0 4 ∧ inR v 0 99 then up2 σ (100 + 2 * wn w) (wn i) v else σ
def f_thinning (σ : St) (v : Int32) : Int32 := if inR v 0 30 then σ 0 0 else -1
def g_thinning (σ : St) (v : Int32) : St := if inR v 0 30 then up2 σ 0 0 v else σ
def f_bar (σ : St) (v : Int32) : Int32 := if inR v 0 999 then σ 0 1 else -1
def g_bar (σ : St) (v : Int32) : St := if inR v 0 999 then up2 σ 0 1 v else σ
def f_law (σ : St) (w v : Int32) : Int32 := if inR w 0 3 ∧ inR v 0 4000 then σ 5 (wn w) else -1
def g_law (σ : St) (w v : Int32) : St := if inR w 0 3 ∧ inR v 0 4000 then up2 σ 5 (wn w) v else σ
def f_sell (σ : St) : Int32 := if σ 0 4 = 0 then -2 else σ 0 4 - 1
def g_sell (σ : St) : St := if σ 0 4 = 0 then σ else up2 σ 0 4 (σ 0 4 - 1)
def f_forget (σ : St) : Int32 := if σ 0 5 = 0 then -2 else σ 0 5 - 1
def g_forget (σ : St) : St := if σ 0 5 = 0 then σ else up2 σ 0 5 (σ 0 5 - 1)
def f_due (σ : St) (w : Int32) : Int32 := if isW w then 1000 - σ 4 (wn w) else -1000000
def f_look (σ : St) (w : Int32) : Int32 := if isW w then 1000 - σ 4 (wn w) else -1000000
def g_look (σ : St) (w : Int32) : St := if isW w then up2 σ 4 (wn w) 0 else σ
def aboutN (σ : St) (k j : Nat) : Int32 := if j = 0 then σ 1 k else if j < 6 then σ (100 + 2 * k) (j - 1) else if j = 6 then σ 3 k else σ 4 k
def f_about (σ : St) (w q : Int32) : Int32 := if isW w ∧ inR q 0 7 then aboutN σ (wn w) (wn q) else -1
def f_spare (σ : St) (v : Int32) : Int32 := if inR v 6000 9200 then (if σ 0 4 = 8 then -3 else σ 0 4) else -1
def g_spare (σ : St) (v : Int32) : St := if inR v 6000 9200 ∧ ¬ σ 0 4 = 8 then up2 (up2 σ 6 (wn (σ 0 4)) v) 0 4 (σ 0 4 + 1) else σ
def f_read (σ : St) (w b v : Int32) : Int32 := if isW w ∧ inR b 0 1 ∧ inR v 5000 10000 then (if σ 0 5 = 20 then -3 else σ 0 5 + 1) else -1
def g_read (σ : St) (w b v : Int32) : St := if (isW w ∧ inR b 0 1 ∧ inR v 5000 10000) ∧ ¬ σ 0 5 = 20 then up2 (up2 (up2 (up2 σ 7 (wn (σ 0 5)) w) 8 (wn (σ 0 5)) b) 9 (wn (σ 0 5)) v) 0 5 (σ 0 5 + 1) else σ
set_option maxRecDepth 100000 in
set_option maxHeartbeats 400000 in
theorem m_X4_within (l : Launch) (v a b : Int32) : CS l yX4_within cX4_within 3 .boolean 0 0 [.int v, .int a, .int b] (fun r => (r = 1 ∧ inR v a b) ∨ (r = 0 ∧ ¬ inR v a b)) := by
  refine CS_of (by decide +kernel) (Nat.le_of_ble_eq_true rfl) (by simp [Value.category]) ?_
  intro p e s m below meth c C hM
  refine z_iload_n C dX4_within_0 (pc' := 1) rfl rfl rfl ?_
  refine z_iload_n C dX4_within_1 (pc' := 2) rfl rfl rfl ?_
  refine z_icmp_lt (tgt := 14) C dX4_within_2 (pc' := 5) (by decide) rfl (fun c_2 => ?_) (fun c_2 => ?_)
  ·
    refine z_iconst C dX4_within_14 (pc' := 15) rfl (v := 0) (by decide) ?_
    exact z_sret C hM dX4_within_15 (by decide) (Or.inr ⟨rfl, by simp only [inR, isW, i32_le, i32_lt] at *; omega⟩)
  ·
    refine z_iload_n C dX4_within_5 (pc' := 6) rfl rfl rfl ?_
    refine z_iload_n C dX4_within_6 (pc' := 7) rfl rfl rfl ?_
    refine z_icmp_gt (tgt := 14) C dX4_within_7 (pc' := 10) (by decide) rfl (fun c_7 => ?_) (fun c_7 => ?_)
    ·
      refine z_iconst C dX4_within_14 (pc' := 15) rfl (v := 0) (by decide) ?_
      exact z_sret C hM dX4_within_15 (by decide) (Or.inr ⟨rfl, by simp only [inR, isW, i32_le, i32_lt] at *; omega⟩)
    ·
      refine z_iconst C dX4_within_10 (pc' := 11) rfl (v := 1) (by decide) ?_
      refine z_goto C dX4_within_11 (pc' := 15) (by decide) ?_
      exact z_sret C hM dX4_within_15 (by decide) (Or.inl ⟨rfl, by simp only [inR, isW, i32_le, i32_lt] at *; omega⟩)
set_option maxRecDepth 100000 in
set_option maxHeartbeats 400000 in
theorem m_X4_isWheel (l : Launch) (w : Int32) : CS l yX4_isWheel cX4_isWheel 1 .boolean 1 22 [.int w] (fun r => (r = 1 ∧ isW w) ∨ (r = 0 ∧ ¬ isW w)) := by
  refine CS_of (by decide +kernel) (Nat.le_of_ble_eq_true rfl) (by simp [Value.category]) ?_
  intro p e s m below meth c C hM
  refine z_iload_n C dX4_isWheel_0 (pc' := 1) rfl rfl rfl ?_
  refine z_iconst C dX4_isWheel_1 (pc' := 2) rfl (v := 0) (by decide) ?_
  refine z_bipush C dX4_isWheel_2 (pc' := 4) rfl (v := 15) (by decide) ?_
  refine z_callS C (m_X4_within l _ _ _) stabT aw_180 aw_181 aw_27 aw_182 (nA := 3) (by decide +kernel) rfl ⟨Nat.le_of_ble_eq_true rfl, Nat.le_of_ble_eq_true rfl⟩ (rest := []) rfl (Nat.le_of_ble_eq_true rfl) ⟨Nat.zero_le _, Nat.zero_le _⟩ dX4_isWheel_4 (pc' := 7) rfl (fun r_4 h_4 => ?_)
  rcases h_4 with ⟨rfl, h_4⟩ | ⟨rfl, h_4⟩
  ·
    exact z_sret C hM dX4_isWheel_7 (by decide) (Or.inl ⟨rfl, by assumption⟩)
  ·
    exact z_sret C hM dX4_isWheel_7 (by decide) (Or.inr ⟨rfl, by assumption⟩)
set_option maxRecDepth 100000 in
set_option maxHeartbeats 400000 in
theorem m_X4_isKind (l : Launch) (w : Int32) : CS l yX4_isKind cX4_isKind 1 .boolean 1 22 [.int w] (fun r => (r = 1 ∧ inR w 0 2) ∨ (r = 0 ∧ ¬ inR w 0 2)) := by
  refine CS_of (by decide +kernel) (Nat.le_of_ble_eq_true rfl) (by simp [Value.category]) ?_
  intro p e s m below meth c C hM
  refine z_iload_n C dX4_isKind_0 (pc' := 1) rfl rfl rfl ?_
  refine z_iconst C dX4_isKind_1 (pc' := 2) rfl (v := 0) (by decide) ?_
  refine z_iconst C dX4_isKind_2 (pc' := 3) rfl (v := 2) (by decide) ?_
  refine z_callS C (m_X4_within l _ _ _) stabT aw_180 aw_181 aw_27 aw_182 (nA := 3) (by decide +kernel) rfl ⟨Nat.le_of_ble_eq_true rfl, Nat.le_of_ble_eq_true rfl⟩ (rest := []) rfl (Nat.le_of_ble_eq_true rfl) ⟨Nat.zero_le _, Nat.zero_le _⟩ dX4_isKind_3 (pc' := 6) rfl (fun r_3 h_3 => ?_)
  rcases h_3 with ⟨rfl, h_3⟩ | ⟨rfl, h_3⟩
  ·
    exact z_sret C hM dX4_isKind_6 (by decide) (Or.inl ⟨rfl, by assumption⟩)
  ·
    exact z_sret C hM dX4_isKind_6 (by decide) (Or.inr ⟨rfl, by assumption⟩)
set_option maxRecDepth 100000 in
set_option maxHeartbeats 400000 in
theorem m_X5_in (l : Launch) (v a b : Int32) : CS l yX5_in cX5_in 3 .boolean 0 0 [.int v, .int a, .int b] (fun r => (r = 1 ∧ inR v a b) ∨ (r = 0 ∧ ¬ inR v a b)) := by
  refine CS_of (by decide +kernel) (Nat.le_of_ble_eq_true rfl) (by simp [Value.category]) ?_
  intro p e s m below meth c C hM
  refine z_iload_n C dX5_in_0 (pc' := 1) rfl rfl rfl ?_
  refine z_iload_n C dX5_in_1 (pc' := 2) rfl rfl rfl ?_
  refine z_icmp_lt (tgt := 14) C dX5_in_2 (pc' := 5) (by decide) rfl (fun c_2 => ?_) (fun c_2 => ?_)
  ·
    refine z_iconst C dX5_in_14 (pc' := 15) rfl (v := 0) (by decide) ?_
    exact z_sret C hM dX5_in_15 (by decide) (Or.inr ⟨rfl, by simp only [inR, isW, i32_le, i32_lt] at *; omega⟩)
  ·
    refine z_iload_n C dX5_in_5 (pc' := 6) rfl rfl rfl ?_
    refine z_iload_n C dX5_in_6 (pc' := 7) rfl rfl rfl ?_
    refine z_icmp_gt (tgt := 14) C dX5_in_7 (pc' := 10) (by decide) rfl (fun c_7 => ?_) (fun c_7 => ?_)
    ·
      refine z_iconst C dX5_in_14 (pc' := 15) rfl (v := 0) (by decide) ?_
      exact z_sret C hM dX5_in_15 (by decide) (Or.inr ⟨rfl, by simp only [inR, isW, i32_le, i32_lt] at *; omega⟩)
    ·
      refine z_iconst C dX5_in_10 (pc' := 11) rfl (v := 1) (by decide) ?_
      refine z_goto C dX5_in_11 (pc' := 15) (by decide) ?_
      exact z_sret C hM dX5_in_15 (by decide) (Or.inl ⟨rfl, by simp only [inR, isW, i32_le, i32_lt] at *; omega⟩)
set_option maxRecDepth 100000 in
set_option maxHeartbeats 400000 in
theorem m_X5_isWheel (l : Launch) (w : Int32) : CS l yX5_isWheel cX5_isWheel 1 .boolean 1 22 [.int w] (fun r => (r = 1 ∧ isW w) ∨ (r = 0 ∧ ¬ isW w)) := by
  refine CS_of (by decide +kernel) (Nat.le_of_ble_eq_true rfl) (by simp [Value.category]) ?_
  intro p e s m below meth c C hM
  refine z_iload_n C dX5_isWheel_0 (pc' := 1) rfl rfl rfl ?_
  refine z_iconst C dX5_isWheel_1 (pc' := 2) rfl (v := 0) (by decide) ?_
  refine z_bipush C dX5_isWheel_2 (pc' := 4) rfl (v := 15) (by decide) ?_
  refine z_callS C (m_X5_in l _ _ _) stabT aw_529 aw_530 aw_32 aw_531 (nA := 3) (by decide +kernel) rfl ⟨Nat.le_of_ble_eq_true rfl, Nat.le_of_ble_eq_true rfl⟩ (rest := []) rfl (Nat.le_of_ble_eq_true rfl) ⟨Nat.zero_le _, Nat.zero_le _⟩ dX5_isWheel_4 (pc' := 7) rfl (fun r_4 h_4 => ?_)
  rcases h_4 with ⟨rfl, h_4⟩ | ⟨rfl, h_4⟩
  ·
    exact z_sret C hM dX5_isWheel_7 (by decide) (Or.inl ⟨rfl, by assumption⟩)
  ·
    exact z_sret C hM dX5_isWheel_7 (by decide) (Or.inr ⟨rfl, by assumption⟩)
set_option maxRecDepth 100000 in
set_option maxHeartbeats 400000 in
theorem m_X3_milesLeft (l : Launch) {cA cB : ClassId} {D : va_G} {ad : Nat → Nat} (hI : Inj 67 ad) (σ : St) {k : Nat} (hk : k < 16) : CI l yX3_milesLeft cX3_milesLeft 1 .int 0 0 D [(cA, .int), (cB, .object RX3)] 67 ad (cellC cA cB ad) σ [.ref (ad (pW k))] (fun r u => r = 1000 - σ 4 k ∧ u = σ) := by
  refine CI_of (by decide +kernel) (Nat.le_of_ble_eq_true rfl) (by simp [Value.category]) ?_
  intro p e s m below meth c C hM hK
  refine z_sipush C dX3_milesLeft_0 (pc' := 3) rfl (v := 1000) (by decide) ?_
  refine z_aload_n C dX3_milesLeft_3 (pc' := 4) rfl rfl rfl ?_
  refine z_get C hK (pW_lt (by omega)) (kC_W k) rfl inAX3 (k := 3) (by decide) aw_126 rfl dX3_milesLeft_4 (pc' := 7) rfl ?_
  refine z_isub C dX3_milesLeft_7 (pc' := 8) rfl rfl ?_
  exact z_iret C hM dX3_milesLeft_8 ⟨rfl, rfl⟩
set_option maxRecDepth 100000 in
set_option maxHeartbeats 400000 in
theorem m_X4_size (l : Launch) {cA cB : ClassId} {D : va_G} {ad : Nat → Nat} (hI : Inj 67 ad) (σ : St) (w v : Int32) : CI l yX4_size cX4_size 4 .int 2 42 D [(cA, .int), (cB, .object RX3)] 67 ad (cellC cA cB ad) σ [.ref (ad 0), .int w, .int v] (fun r u => r = f_size σ w v ∧ u = g_size σ w v) := by
  refine CI_of (by decide +kernel) (Nat.le_of_ble_eq_true rfl) (by simp [Value.category]) ?_
  intro p e s m below meth c C hM hK
  refine z_iload_n C dX4_size_0 (pc' := 1) rfl rfl rfl ?_
  refine z_callS C (m_X4_isWheel l _) stabP aw_177 aw_178 aw_27 aw_179 (nA := 1) (by decide +kernel) rfl ⟨Nat.le_of_ble_eq_true rfl, Nat.le_of_ble_eq_true rfl⟩ (rest := []) rfl (Nat.le_of_ble_eq_true rfl) ⟨Nat.zero_le _, Nat.zero_le _⟩ dX4_size_1 (pc' := 4) rfl (fun r_1 h_1 => ?_)
  rcases h_1 with ⟨rfl, h_1⟩ | ⟨rfl, h_1⟩
  ·
    obtain ⟨k, hk, rfl⟩ := isW_of h_1
    refine z_if_eq (tgt := 20) C dX4_size_4 (pc' := 7) (by decide) rfl (fun q => absurd q (by decide)) (fun _ => ?_)
    refine z_iload_n C dX4_size_7 (pc' := 8) rfl rfl rfl ?_
    refine z_sipush C dX4_size_8 (pc' := 11) rfl (v := 6000) (by decide) ?_
    refine z_sipush C dX4_size_11 (pc' := 14) rfl (v := 9200) (by decide) ?_
    refine z_callS C (m_X4_within l _ _ _) stabP aw_180 aw_181 aw_27 aw_182 (nA := 3) (by decide +kernel) rfl ⟨Nat.le_of_ble_eq_true rfl, Nat.le_of_ble_eq_true rfl⟩ (rest := []) rfl (Nat.le_of_ble_eq_true rfl) ⟨Nat.zero_le _, Nat.zero_le _⟩ dX4_size_14 (pc' := 17) rfl (fun r_14 h_14 => ?_)
    rcases h_14 with ⟨rfl, h_14⟩ | ⟨rfl, h_14⟩
    ·
      refine z_if_ne (tgt := 22) C dX4_size_17 (pc' := 20) (by decide) rfl (fun _ => ?_) (fun q => absurd q (by decide))
      refine z_aload_n C dX4_size_22 (pc' := 23) rfl rfl rfl ?_
      refine z_get C hK (by decide) kC_0 rfl inAX4 (k := 0) (by decide) aw_145 rfl dX4_size_23 (pc' := 26) rfl ?_
      refine z_iload_n C dX4_size_26 (pc' := 27) rfl rfl rfl ?_
      refine z_aald C hK (by decide) kC_1 (t0 := 1) rfl (j := k) rfl (by omega) (by decide) rfl dX4_size_27 (pc' := 28) rfl ?_
      refine z_get C hK (pW_lt (by omega)) (kC_W k) rfl inAX3 (k := 1) (by decide) aw_122 rfl dX4_size_28 (pc' := 31) rfl ?_
      refine z_istore_n (L' := [.ref _, .int _, .int _, .int _]) C dX4_size_31 (pc' := 32) rfl rfl (by decide) (Nat.le_of_ble_eq_true rfl) rfl ?_
      refine z_aload_n C dX4_size_32 (pc' := 33) rfl rfl rfl ?_
      refine z_get C hK (by decide) kC_0 rfl inAX4 (k := 0) (by decide) aw_145 rfl dX4_size_33 (pc' := 36) rfl ?_
      refine z_iload_n C dX4_size_36 (pc' := 37) rfl rfl rfl ?_
      refine z_aald C hK (by decide) kC_1 (t0 := 1) rfl (j := k) rfl (by omega) (by decide) rfl dX4_size_37 (pc' := 38) rfl ?_
      refine z_iload_n C dX4_size_38 (pc' := 39) rfl rfl rfl ?_
      refine z_put C hK hI AdS_in (pW_lt (by omega)) (kC_W k) (sC_W1 k _) (cellC_upW (by decide)) rfl inAX3 tyX3_ok nmX3 (k := 1) (by decide) aw_122 rfl (ty := .int) (by decide +kernel) rfl rfl (Nat.le_of_ble_eq_true rfl) dX4_size_39 (pc' := 42) rfl ?_
      refine z_iload_n C dX4_size_42 (pc' := 43) rfl rfl rfl ?_
      exact z_iret C hM dX4_size_43 (by have ek := wn_nI (k := k) (by omega); have wk := isW_nI hk; simp [f_size, g_size, ek, wk, *])
    ·
      refine z_if_ne (tgt := 22) C dX4_size_17 (pc' := 20) (by decide) rfl (fun q => absurd q (by decide)) (fun _ => ?_)
      refine z_iconst C dX4_size_20 (pc' := 21) rfl (v := (-1)) (by decide) ?_
      exact z_iret C hM dX4_size_21 (by simp [f_size, g_size, *])
  ·
    refine z_if_eq (tgt := 20) C dX4_size_4 (pc' := 7) (by decide) rfl (fun _ => ?_) (fun q => absurd q (by decide))
    refine z_iconst C dX4_size_20 (pc' := 21) rfl (v := (-1)) (by decide) ?_
    exact z_iret C hM dX4_size_21 (by simp [f_size, g_size, *])
set_option maxRecDepth 100000 in
set_option maxHeartbeats 400000 in
theorem m_X5_size (l : Launch) {cA : ClassId} {D : va_G} {ad : Nat → Nat} (hI : Inj 17 ad) (σ : St) (w v : Int32) : CI l yX5_size cX5_size 4 .int 2 42 D [(cA, .int)] 17 ad (cellR cA ad) σ [.ref (ad 0), .int w, .int v] (fun r u => r = f_size σ w v ∧ u = g_size σ w v) := by
  refine CI_of (by decide +kernel) (Nat.le_of_ble_eq_true rfl) (by simp [Value.category]) ?_
  intro p e s m below meth c C hM hK
  refine z_aload_n C dX5_size_0 (pc' := 1) rfl rfl rfl ?_
  refine z_iconst C dX5_size_1 (pc' := 2) rfl (v := 0) (by decide) ?_
  refine z_put C hK hI AdS_in (by decide) kR_0 sR_th oR_th rfl inAX5 tyX5_ok nmX5 (k := 0) (by decide) aw_452 rfl (ty := .int) (by decide +kernel) rfl rfl (Nat.le_of_ble_eq_true rfl) dX5_size_2 (pc' := 5) rfl ?_
  refine z_iload_n C dX5_size_5 (pc' := 6) rfl rfl rfl ?_
  refine z_callS C (m_X5_isWheel l _) stabP aw_526 aw_527 aw_32 aw_528 (nA := 1) (by decide +kernel) rfl ⟨Nat.le_of_ble_eq_true rfl, Nat.le_of_ble_eq_true rfl⟩ (rest := []) rfl (Nat.le_of_ble_eq_true rfl) ⟨Nat.zero_le _, Nat.zero_le _⟩ dX5_size_6 (pc' := 9) rfl (fun r_6 h_6 => ?_)
  rcases h_6 with ⟨rfl, h_6⟩ | ⟨rfl, h_6⟩
  ·
    obtain ⟨k, hk, rfl⟩ := isW_of h_6
    refine z_if_eq (tgt := 25) C dX5_size_9 (pc' := 12) (by decide) rfl (fun q => absurd q (by decide)) (fun _ => ?_)
    refine z_iload_n C dX5_size_12 (pc' := 13) rfl rfl rfl ?_
    refine z_sipush C dX5_size_13 (pc' := 16) rfl (v := 6000) (by decide) ?_
    refine z_sipush C dX5_size_16 (pc' := 19) rfl (v := 9200) (by decide) ?_
    refine z_callS C (m_X5_in l _ _ _) stabP aw_529 aw_530 aw_32 aw_531 (nA := 3) (by decide +kernel) rfl ⟨Nat.le_of_ble_eq_true rfl, Nat.le_of_ble_eq_true rfl⟩ (rest := []) rfl (Nat.le_of_ble_eq_true rfl) ⟨Nat.zero_le _, Nat.zero_le _⟩ dX5_size_19 (pc' := 22) rfl (fun r_19 h_19 => ?_)
    rcases h_19 with ⟨rfl, h_19⟩ | ⟨rfl, h_19⟩
    ·
      refine z_if_ne (tgt := 27) C dX5_size_22 (pc' := 25) (by decide) rfl (fun _ => ?_) (fun q => absurd q (by decide))
      refine z_aload_n C dX5_size_27 (pc' := 28) rfl rfl rfl ?_
      refine z_get C hK (by decide) kR_0 rfl inAX5 (k := 2) (by decide) aw_454 rfl dX5_size_28 (pc' := 31) rfl ?_
      refine z_iload_n C dX5_size_31 (pc' := 32) rfl rfl rfl ?_
      refine z_iald C hK (by decide) kR_1 (t0 := 0) rfl (j := k) rfl (by omega) (by decide) rfl dX5_size_32 (pc' := 33) rfl ?_
      refine z_istore_n (L' := [.ref _, .int _, .int _, .int _]) C dX5_size_33 (pc' := 34) rfl rfl (by decide) (Nat.le_of_ble_eq_true rfl) rfl ?_
      refine z_aload_n C dX5_size_34 (pc' := 35) rfl rfl rfl ?_
      refine z_get C hK (by decide) kR_0 rfl inAX5 (k := 2) (by decide) aw_454 rfl dX5_size_35 (pc' := 38) rfl ?_
      refine z_iload_n C dX5_size_38 (pc' := 39) rfl rfl rfl ?_
      refine z_iload_n C dX5_size_39 (pc' := 40) rfl rfl rfl ?_
      refine z_iast C hK hI AdS_in (by decide) kR_1 sR_a1 oR_a1 (t0 := 0) rfl (j := k) rfl (by omega) (by decide) dX5_size_40 (pc' := 41) rfl ?_
      refine z_iload_n C dX5_size_41 (pc' := 42) rfl rfl rfl ?_
      exact z_iret C hM dX5_size_42 (by have ek := wn_nI (k := k) (by omega); have wk := isW_nI hk; simp [f_size, g_size, ek, wk, *])
    ·
      refine z_if_ne (tgt := 27) C dX5_size_22 (pc' := 25) (by decide) rfl (fun q => absurd q (by decide)) (fun _ => ?_)
      refine z_iconst C dX5_size_25 (pc' := 26) rfl (v := (-1)) (by decide) ?_
      exact z_iret C hM dX5_size_26 (by simp [f_size, g_size, *])
  ·
    refine z_if_eq (tgt := 25) C dX5_size_9 (pc' := 12) (by decide) rfl (fun _ => ?_) (fun q => absurd q (by decide))
    refine z_iconst C dX5_size_25 (pc' := 26) rfl (v := (-1)) (by decide) ?_
    exact z_iret C hM dX5_size_26 (by simp [f_size, g_size, *])
set_option maxRecDepth 100000 in
set_option maxHeartbeats 400000 in
theorem m_X4_wear (l : Launch) {cA cB : ClassId} {D : va_G} {ad : Nat → Nat} (hI : Inj 67 ad) (σ : St) (w v : Int32) : CI l yX4_wear cX4_wear 4 .int 2 42 D [(cA, .int), (cB, .object RX3)] 67 ad (cellC cA cB ad) σ [.ref (ad 0), .int w, .int v] (fun r u => r = f_wear σ w v ∧ u = g_wear σ w v) := by
  refine CI_of (by decide +kernel) (Nat.le_of_ble_eq_true rfl) (by simp [Value.category]) ?_
  intro p e s m below meth c C hM hK
  refine z_iload_n C dX4_wear_0 (pc' := 1) rfl rfl rfl ?_
  refine z_callS C (m_X4_isWheel l _) stabP aw_177 aw_178 aw_27 aw_179 (nA := 1) (by decide +kernel) rfl ⟨Nat.le_of_ble_eq_true rfl, Nat.le_of_ble_eq_true rfl⟩ (rest := []) rfl (Nat.le_of_ble_eq_true rfl) ⟨Nat.zero_le _, Nat.zero_le _⟩ dX4_wear_1 (pc' := 4) rfl (fun r_1 h_1 => ?_)
  rcases h_1 with ⟨rfl, h_1⟩ | ⟨rfl, h_1⟩
  ·
    obtain ⟨k, hk, rfl⟩ := isW_of h_1
    refine z_if_eq (tgt := 17) C dX4_wear_4 (pc' := 7) (by decide) rfl (fun q => absurd q (by decide)) (fun _ => ?_)
    refine z_iload_n C dX4_wear_7 (pc' := 8) rfl rfl rfl ?_
    refine z_iconst C dX4_wear_8 (pc' := 9) rfl (v := 0) (by decide) ?_
    refine z_bipush C dX4_wear_9 (pc' := 11) rfl (v := 20) (by decide) ?_
    refine z_callS C (m_X4_within l _ _ _) stabP aw_180 aw_181 aw_27 aw_182 (nA := 3) (by decide +kernel) rfl ⟨Nat.le_of_ble_eq_true rfl, Nat.le_of_ble_eq_true rfl⟩ (rest := []) rfl (Nat.le_of_ble_eq_true rfl) ⟨Nat.zero_le _, Nat.zero_le _⟩ dX4_wear_11 (pc' := 14) rfl (fun r_11 h_11 => ?_)
    rcases h_11 with ⟨rfl, h_11⟩ | ⟨rfl, h_11⟩
    ·
      refine z_if_ne (tgt := 19) C dX4_wear_14 (pc' := 17) (by decide) rfl (fun _ => ?_) (fun q => absurd q (by decide))
      refine z_aload_n C dX4_wear_19 (pc' := 20) rfl rfl rfl ?_
      refine z_get C hK (by decide) kC_0 rfl inAX4 (k := 0) (by decide) aw_145 rfl dX4_wear_20 (pc' := 23) rfl ?_
      refine z_iload_n C dX4_wear_23 (pc' := 24) rfl rfl rfl ?_
      refine z_aald C hK (by decide) kC_1 (t0 := 1) rfl (j := k) rfl (by omega) (by decide) rfl dX4_wear_24 (pc' := 25) rfl ?_
      refine z_get C hK (pW_lt (by omega)) (kC_W k) rfl inAX3 (k := 2) (by decide) aw_123 rfl dX4_wear_25 (pc' := 28) rfl ?_
      refine z_istore_n (L' := [.ref _, .int _, .int _, .int _]) C dX4_wear_28 (pc' := 29) rfl rfl (by decide) (Nat.le_of_ble_eq_true rfl) rfl ?_
      refine z_aload_n C dX4_wear_29 (pc' := 30) rfl rfl rfl ?_
      refine z_get C hK (by decide) kC_0 rfl inAX4 (k := 0) (by decide) aw_145 rfl dX4_wear_30 (pc' := 33) rfl ?_
      refine z_iload_n C dX4_wear_33 (pc' := 34) rfl rfl rfl ?_
      refine z_aald C hK (by decide) kC_1 (t0 := 1) rfl (j := k) rfl (by omega) (by decide) rfl dX4_wear_34 (pc' := 35) rfl ?_
      refine z_iload_n C dX4_wear_35 (pc' := 36) rfl rfl rfl ?_
      refine z_put C hK hI AdS_in (pW_lt (by omega)) (kC_W k) (sC_W3 k _) (cellC_upW (by decide)) rfl inAX3 tyX3_ok nmX3 (k := 2) (by decide) aw_123 rfl (ty := .int) (by decide +kernel) rfl rfl (Nat.le_of_ble_eq_true rfl) dX4_wear_36 (pc' := 39) rfl ?_
      refine z_iload_n C dX4_wear_39 (pc' := 40) rfl rfl rfl ?_
      exact z_iret C hM dX4_wear_40 (by have ek := wn_nI (k := k) (by omega); have wk := isW_nI hk; simp [f_wear, g_wear, ek, wk, *])
    ·
      refine z_if_ne (tgt := 19) C dX4_wear_14 (pc' := 17) (by decide) rfl (fun q => absurd q (by decide)) (fun _ => ?_)
      refine z_iconst C dX4_wear_17 (pc' := 18) rfl (v := (-1)) (by decide) ?_
      exact z_iret C hM dX4_wear_18 (by simp [f_wear, g_wear, *])
  ·
    refine z_if_eq (tgt := 17) C dX4_wear_4 (pc' := 7) (by decide) rfl (fun _ => ?_) (fun q => absurd q (by decide))
    refine z_iconst C dX4_wear_17 (pc' := 18) rfl (v := (-1)) (by decide) ?_
    exact z_iret C hM dX4_wear_18 (by simp [f_wear, g_wear, *])
set_option maxRecDepth 100000 in
set_option maxHeartbeats 400000 in
theorem m_X5_wear (l : Launch) {cA : ClassId} {D : va_G} {ad : Nat → Nat} (hI : Inj 17 ad) (σ : St) (w v : Int32) : CI l yX5_wear cX5_wear 4 .int 2 42 D [(cA, .int)] 17 ad (cellR cA ad) σ [.ref (ad 0), .int w, .int v] (fun r u => r = f_wear σ w v ∧ u = g_wear σ w v) := by
  refine CI_of (by decide +kernel) (Nat.le_of_ble_eq_true rfl) (by simp [Value.category]) ?_
  intro p e s m below meth c C hM hK
  refine z_aload_n C dX5_wear_0 (pc' := 1) rfl rfl rfl ?_
  refine z_iconst C dX5_wear_1 (pc' := 2) rfl (v := 0) (by decide) ?_
  refine z_put C hK hI AdS_in (by decide) kR_0 sR_th oR_th rfl inAX5 tyX5_ok nmX5 (k := 0) (by decide) aw_452 rfl (ty := .int) (by decide +kernel) rfl rfl (Nat.le_of_ble_eq_true rfl) dX5_wear_2 (pc' := 5) rfl ?_
  refine z_iload_n C dX5_wear_5 (pc' := 6) rfl rfl rfl ?_
  refine z_callS C (m_X5_isWheel l _) stabP aw_526 aw_527 aw_32 aw_528 (nA := 1) (by decide +kernel) rfl ⟨Nat.le_of_ble_eq_true rfl, Nat.le_of_ble_eq_true rfl⟩ (rest := []) rfl (Nat.le_of_ble_eq_true rfl) ⟨Nat.zero_le _, Nat.zero_le _⟩ dX5_wear_6 (pc' := 9) rfl (fun r_6 h_6 => ?_)
  rcases h_6 with ⟨rfl, h_6⟩ | ⟨rfl, h_6⟩
  ·
    obtain ⟨k, hk, rfl⟩ := isW_of h_6
    refine z_if_eq (tgt := 22) C dX5_wear_9 (pc' := 12) (by decide) rfl (fun q => absurd q (by decide)) (fun _ => ?_)
    refine z_iload_n C dX5_wear_12 (pc' := 13) rfl rfl rfl ?_
    refine z_iconst C dX5_wear_13 (pc' := 14) rfl (v := 0) (by decide) ?_
    refine z_bipush C dX5_wear_14 (pc' := 16) rfl (v := 20) (by decide) ?_
    refine z_callS C (m_X5_in l _ _ _) stabP aw_529 aw_530 aw_32 aw_531 (nA := 3) (by decide +kernel) rfl ⟨Nat.le_of_ble_eq_true rfl, Nat.le_of_ble_eq_true rfl⟩ (rest := []) rfl (Nat.le_of_ble_eq_true rfl) ⟨Nat.zero_le _, Nat.zero_le _⟩ dX5_wear_16 (pc' := 19) rfl (fun r_16 h_16 => ?_)
    rcases h_16 with ⟨rfl, h_16⟩ | ⟨rfl, h_16⟩
    ·
      refine z_if_ne (tgt := 24) C dX5_wear_19 (pc' := 22) (by decide) rfl (fun _ => ?_) (fun q => absurd q (by decide))
      refine z_aload_n C dX5_wear_24 (pc' := 25) rfl rfl rfl ?_
      refine z_get C hK (by decide) kR_0 rfl inAX5 (k := 4) (by decide) aw_456 rfl dX5_wear_25 (pc' := 28) rfl ?_
      refine z_iload_n C dX5_wear_28 (pc' := 29) rfl rfl rfl ?_
      refine z_iald C hK (by decide) kR_3 (t0 := 0) rfl (j := k) rfl (by omega) (by decide) rfl dX5_wear_29 (pc' := 30) rfl ?_
      refine z_istore_n (L' := [.ref _, .int _, .int _, .int _]) C dX5_wear_30 (pc' := 31) rfl rfl (by decide) (Nat.le_of_ble_eq_true rfl) rfl ?_
      refine z_aload_n C dX5_wear_31 (pc' := 32) rfl rfl rfl ?_
      refine z_get C hK (by decide) kR_0 rfl inAX5 (k := 4) (by decide) aw_456 rfl dX5_wear_32 (pc' := 35) rfl ?_
      refine z_iload_n C dX5_wear_35 (pc' := 36) rfl rfl rfl ?_
      refine z_iload_n C dX5_wear_36 (pc' := 37) rfl rfl rfl ?_
      refine z_iast C hK hI AdS_in (by decide) kR_3 sR_a3 oR_a3 (t0 := 0) rfl (j := k) rfl (by omega) (by decide) dX5_wear_37 (pc' := 38) rfl ?_
      refine z_iload_n C dX5_wear_38 (pc' := 39) rfl rfl rfl ?_
      exact z_iret C hM dX5_wear_39 (by have ek := wn_nI (k := k) (by omega); have wk := isW_nI hk; simp [f_wear, g_wear, ek, wk, *])
    ·
      refine z_if_ne (tgt := 24) C dX5_wear_19 (pc' := 22) (by decide) rfl (fun q => absurd q (by decide)) (fun _ => ?_)
      refine z_iconst C dX5_wear_22 (pc' := 23) rfl (v := (-1)) (by decide) ?_
      exact z_iret C hM dX5_wear_23 (by simp [f_wear, g_wear, *])
  ·
    refine z_if_eq (tgt := 22) C dX5_wear_9 (pc' := 12) (by decide) rfl (fun _ => ?_) (fun q => absurd q (by decide))
    refine z_iconst C dX5_wear_22 (pc' := 23) rfl (v := (-1)) (by decide) ?_
    exact z_iret C hM dX5_wear_23 (by simp [f_wear, g_wear, *])
set_option maxRecDepth 100000 in
set_option maxHeartbeats 400000 in
theorem m_X4_depth (l : Launch) {cA cB : ClassId} {D : va_G} {ad : Nat → Nat} (hI : Inj 67 ad) (σ : St) (w i v : Int32) : CI l yX4_depth cX4_depth 5 .int 2 42 D [(cA, .int), (cB, .object RX3)] 67 ad (cellC cA cB ad) σ [.ref (ad 0), .int w, .int i, .int v] (fun r u => r = f_depth σ w i v ∧ u = g_depth σ w i v) := by
  refine CI_of (by decide +kernel) (Nat.le_of_ble_eq_true rfl) (by simp [Value.category]) ?_
  intro p e s m below meth c C hM hK
  refine z_iload_n C dX4_depth_0 (pc' := 1) rfl rfl rfl ?_
  refine z_callS C (m_X4_isWheel l _) stabP aw_177 aw_178 aw_27 aw_179 (nA := 1) (by decide +kernel) rfl ⟨Nat.le_of_ble_eq_true rfl, Nat.le_of_ble_eq_true rfl⟩ (rest := []) rfl (Nat.le_of_ble_eq_true rfl) ⟨Nat.zero_le _, Nat.zero_le _⟩ dX4_depth_1 (pc' := 4) rfl (fun r_1 h_1 => ?_)
  rcases h_1 with ⟨rfl, h_1⟩ | ⟨rfl, h_1⟩
  ·
    obtain ⟨k, hk, rfl⟩ := isW_of h_1
    refine z_if_eq (tgt := 26) C dX4_depth_4 (pc' := 7) (by decide) rfl (fun q => absurd q (by decide)) (fun _ => ?_)
    refine z_iload_n C dX4_depth_7 (pc' := 8) rfl rfl rfl ?_
    refine z_iconst C dX4_depth_8 (pc' := 9) rfl (v := 0) (by decide) ?_
    refine z_iconst C dX4_depth_9 (pc' := 10) rfl (v := 4) (by decide) ?_
    refine z_callS C (m_X4_within l _ _ _) stabP aw_180 aw_181 aw_27 aw_182 (nA := 3) (by decide +kernel) rfl ⟨Nat.le_of_ble_eq_true rfl, Nat.le_of_ble_eq_true rfl⟩ (rest := []) rfl (Nat.le_of_ble_eq_true rfl) ⟨Nat.zero_le _, Nat.zero_le _⟩ dX4_depth_10 (pc' := 13) rfl (fun r_10 h_10 => ?_)
    rcases h_10 with ⟨rfl, h_10⟩ | ⟨rfl, h_10⟩
    ·
      obtain ⟨j, hj, rfl⟩ := inR_of (n := 4) (by omega) h_10
      refine z_if_eq (tgt := 26) C dX4_depth_13 (pc' := 16) (by decide) rfl (fun q => absurd q (by decide)) (fun _ => ?_)
      refine z_iload_n C dX4_depth_16 (pc' := 17) rfl rfl rfl ?_
      refine z_iconst C dX4_depth_17 (pc' := 18) rfl (v := 0) (by decide) ?_
      refine z_bipush C dX4_depth_18 (pc' := 20) rfl (v := 99) (by decide) ?_
      refine z_callS C (m_X4_within l _ _ _) stabP aw_180 aw_181 aw_27 aw_182 (nA := 3) (by decide +kernel) rfl ⟨Nat.le_of_ble_eq_true rfl, Nat.le_of_ble_eq_true rfl⟩ (rest := []) rfl (Nat.le_of_ble_eq_true rfl) ⟨Nat.zero_le _, Nat.zero_le _⟩ dX4_depth_20 (pc' := 23) rfl (fun r_20 h_20 => ?_)
      rcases h_20 with ⟨rfl, h_20⟩ | ⟨rfl, h_20⟩
      ·
        refine z_if_ne (tgt := 28) C dX4_depth_23 (pc' := 26) (by decide) rfl (fun _ => ?_) (fun q => absurd q (by decide))
        refine z_aload_n C dX4_depth_28 (pc' := 29) rfl rfl rfl ?_
        refine z_get C hK (by decide) kC_0 rfl inAX4 (k := 0) (by decide) aw_145 rfl dX4_depth_29 (pc' := 32) rfl ?_
        refine z_iload_n C dX4_depth_32 (pc' := 33) rfl rfl rfl ?_
        refine z_aald C hK (by decide) kC_1 (t0 := 1) rfl (j := k) rfl (by omega) (by decide) rfl dX4_depth_33 (pc' := 34) rfl ?_
        refine z_get C hK (pW_lt (by omega)) (kC_W k) rfl inAX3 (k := 0) (by decide) aw_120 rfl dX4_depth_34 (pc' := 37) rfl ?_
        refine z_iload_n C dX4_depth_37 (pc' := 38) rfl rfl rfl ?_
        refine z_iald C hK (pD_lt (by omega)) (kC_D k) (t0 := 0) rfl (j := j) rfl (by omega) (by decide) rfl dX4_depth_38 (pc' := 39) rfl ?_
        refine z_istore (L' := [.ref _, .int _, .int _, .int _, .int _]) C dX4_depth_39 (pc' := 41) rfl (by decide) (Nat.le_of_ble_eq_true rfl) rfl ?_
        refine z_aload_n C dX4_depth_41 (pc' := 42) rfl rfl rfl ?_
        refine z_get C hK (by decide) kC_0 rfl inAX4 (k := 0) (by decide) aw_145 rfl dX4_depth_42 (pc' := 45) rfl ?_
        refine z_iload_n C dX4_depth_45 (pc' := 46) rfl rfl rfl ?_
        refine z_aald C hK (by decide) kC_1 (t0 := 1) rfl (j := k) rfl (by omega) (by decide) rfl dX4_depth_46 (pc' := 47) rfl ?_
        refine z_get C hK (pW_lt (by omega)) (kC_W k) rfl inAX3 (k := 0) (by decide) aw_120 rfl dX4_depth_47 (pc' := 50) rfl ?_
        refine z_iload_n C dX4_depth_50 (pc' := 51) rfl rfl rfl ?_
        refine z_iload_n C dX4_depth_51 (pc' := 52) rfl rfl rfl ?_
        refine z_iast C hK hI AdS_in (pD_lt (by omega)) (kC_D k) (sC_D k _ _) (cellC_upD (by omega)) (t0 := 0) rfl (j := j) rfl (by omega) (by decide) dX4_depth_52 (pc' := 53) rfl ?_
        refine z_iload C dX4_depth_53 (pc' := 55) rfl rfl ?_
        exact z_iret C hM dX4_depth_55 (by have ek := wn_nI (k := k) (by omega); have wk := isW_nI hk; have ej := wn_nI (k := j) (by omega); have wj := inR_nI (n := 4) hj (by omega); simp [f_depth, g_depth, ek, wk, ej, wj, *])
      ·
        refine z_if_ne (tgt := 28) C dX4_depth_23 (pc' := 26) (by decide) rfl (fun q => absurd q (by decide)) (fun _ => ?_)
        refine z_iconst C dX4_depth_26 (pc' := 27) rfl (v := (-1)) (by decide) ?_
        exact z_iret C hM dX4_depth_27 (by simp [f_depth, g_depth, *])
    ·
      refine z_if_eq (tgt := 26) C dX4_depth_13 (pc' := 16) (by decide) rfl (fun _ => ?_) (fun q => absurd q (by decide))
      refine z_iconst C dX4_depth_26 (pc' := 27) rfl (v := (-1)) (by decide) ?_
      exact z_iret C hM dX4_depth_27 (by simp [f_depth, g_depth, *])
  ·
    refine z_if_eq (tgt := 26) C dX4_depth_4 (pc' := 7) (by decide) rfl (fun _ => ?_) (fun q => absurd q (by decide))
    refine z_iconst C dX4_depth_26 (pc' := 27) rfl (v := (-1)) (by decide) ?_
    exact z_iret C hM dX4_depth_27 (by simp [f_depth, g_depth, *])
set_option maxRecDepth 100000 in
set_option maxHeartbeats 400000 in
theorem m_X5_depth (l : Launch) {cA : ClassId} {D : va_G} {ad : Nat → Nat} (hI : Inj 17 ad) (σ : St) (w i v : Int32) : CI l yX5_depth cX5_depth 5 .int 2 42 D [(cA, .int)] 17 ad (cellR cA ad) σ [.ref (ad 0), .int w, .int i, .int v] (fun r u => r = f_depth σ w i v ∧ u = g_depth σ w i v) := by
  refine CI_of (by decide +kernel) (Nat.le_of_ble_eq_true rfl) (by simp [Value.category]) ?_
  intro p e s m below meth c C hM hK
  refine z_aload_n C dX5_depth_0 (pc' := 1) rfl rfl rfl ?_
  refine z_iconst C dX5_depth_1 (pc' := 2) rfl (v := 0) (by decide) ?_
  refine z_put C hK hI AdS_in (by decide) kR_0 sR_th oR_th rfl inAX5 tyX5_ok nmX5 (k := 0) (by decide) aw_452 rfl (ty := .int) (by decide +kernel) rfl rfl (Nat.le_of_ble_eq_true rfl) dX5_depth_2 (pc' := 5) rfl ?_
  refine z_iload_n C dX5_depth_5 (pc' := 6) rfl rfl rfl ?_
  refine z_callS C (m_X5_isWheel l _) stabP aw_526 aw_527 aw_32 aw_528 (nA := 1) (by decide +kernel) rfl ⟨Nat.le_of_ble_eq_true rfl, Nat.le_of_ble_eq_true rfl⟩ (rest := []) rfl (Nat.le_of_ble_eq_true rfl) ⟨Nat.zero_le _, Nat.zero_le _⟩ dX5_depth_6 (pc' := 9) rfl (fun r_6 h_6 => ?_)
  rcases h_6 with ⟨rfl, h_6⟩ | ⟨rfl, h_6⟩
  ·
    obtain ⟨k, hk, rfl⟩ := isW_of h_6
    refine z_if_eq (tgt := 31) C dX5_depth_9 (pc' := 12) (by decide) rfl (fun q => absurd q (by decide)) (fun _ => ?_)
    refine z_iload_n C dX5_depth_12 (pc' := 13) rfl rfl rfl ?_
    refine z_iconst C dX5_depth_13 (pc' := 14) rfl (v := 0) (by decide) ?_
    refine z_iconst C dX5_depth_14 (pc' := 15) rfl (v := 4) (by decide) ?_
    refine z_callS C (m_X5_in l _ _ _) stabP aw_529 aw_530 aw_32 aw_531 (nA := 3) (by decide +kernel) rfl ⟨Nat.le_of_ble_eq_true rfl, Nat.le_of_ble_eq_true rfl⟩ (rest := []) rfl (Nat.le_of_ble_eq_true rfl) ⟨Nat.zero_le _, Nat.zero_le _⟩ dX5_depth_15 (pc' := 18) rfl (fun r_15 h_15 => ?_)
    rcases h_15 with ⟨rfl, h_15⟩ | ⟨rfl, h_15⟩
    ·
      obtain ⟨j, hj, rfl⟩ := inR_of (n := 4) (by omega) h_15
      refine z_if_eq (tgt := 31) C dX5_depth_18 (pc' := 21) (by decide) rfl (fun q => absurd q (by decide)) (fun _ => ?_)
      refine z_iload_n C dX5_depth_21 (pc' := 22) rfl rfl rfl ?_
      refine z_iconst C dX5_depth_22 (pc' := 23) rfl (v := 0) (by decide) ?_
      refine z_bipush C dX5_depth_23 (pc' := 25) rfl (v := 99) (by decide) ?_
      refine z_callS C (m_X5_in l _ _ _) stabP aw_529 aw_530 aw_32 aw_531 (nA := 3) (by decide +kernel) rfl ⟨Nat.le_of_ble_eq_true rfl, Nat.le_of_ble_eq_true rfl⟩ (rest := []) rfl (Nat.le_of_ble_eq_true rfl) ⟨Nat.zero_le _, Nat.zero_le _⟩ dX5_depth_25 (pc' := 28) rfl (fun r_25 h_25 => ?_)
      rcases h_25 with ⟨rfl, h_25⟩ | ⟨rfl, h_25⟩
      ·
        refine z_if_ne (tgt := 33) C dX5_depth_28 (pc' := 31) (by decide) rfl (fun _ => ?_) (fun q => absurd q (by decide))
        refine z_aload_n C dX5_depth_33 (pc' := 34) rfl rfl rfl ?_
        refine z_get C hK (by decide) kR_0 rfl inAX5 (k := 3) (by decide) aw_455 rfl dX5_depth_34 (pc' := 37) rfl ?_
        refine z_iconst C dX5_depth_37 (pc' := 38) rfl (v := 5) (by decide) ?_
        refine z_iload_n C dX5_depth_38 (pc' := 39) rfl rfl rfl ?_
        refine z_imul C dX5_depth_39 (pc' := 40) rfl (pk_mul (5) (k)) ?_
        refine z_iload_n C dX5_depth_40 (pc' := 41) rfl rfl rfl ?_
        refine z_iadd C dX5_depth_41 (pc' := 42) rfl (nI_add ((5 * k)) (j)) ?_
        refine z_iald C hK (by decide) kR_2 (t0 := 0) rfl (j := ((5 * k) + j)) rfl (by omega) (by decide) (rDB _ (by omega)) dX5_depth_42 (pc' := 43) rfl ?_
        refine z_istore (L' := [.ref _, .int _, .int _, .int _, .int _]) C dX5_depth_43 (pc' := 45) rfl (by decide) (Nat.le_of_ble_eq_true rfl) rfl ?_
        refine z_aload_n C dX5_depth_45 (pc' := 46) rfl rfl rfl ?_
        refine z_get C hK (by decide) kR_0 rfl inAX5 (k := 3) (by decide) aw_455 rfl dX5_depth_46 (pc' := 49) rfl ?_
        refine z_iconst C dX5_depth_49 (pc' := 50) rfl (v := 5) (by decide) ?_
        refine z_iload_n C dX5_depth_50 (pc' := 51) rfl rfl rfl ?_
        refine z_imul C dX5_depth_51 (pc' := 52) rfl (pk_mul (5) (k)) ?_
        refine z_iload_n C dX5_depth_52 (pc' := 53) rfl rfl rfl ?_
        refine z_iadd C dX5_depth_53 (pc' := 54) rfl (nI_add ((5 * k)) (j)) ?_
        refine z_iload_n C dX5_depth_54 (pc' := 55) rfl rfl rfl ?_
        refine z_iast C hK hI AdS_in (by decide) kR_2 (kR_D (by omega)) (cellR_upD (by omega)) (t0 := 0) rfl (j := ((5 * k) + j)) rfl (by omega) (by decide) dX5_depth_55 (pc' := 56) rfl ?_
        refine z_iload C dX5_depth_56 (pc' := 58) rfl rfl ?_
        exact z_iret C hM dX5_depth_58 (by have ek := wn_nI (k := k) (by omega); have wk := isW_nI hk; have ej := wn_nI (k := j) (by omega); have wj := inR_nI (n := 4) hj (by omega); simp [f_depth, g_depth, ek, wk, ej, wj, *])
      ·
        refine z_if_ne (tgt := 33) C dX5_depth_28 (pc' := 31) (by decide) rfl (fun q => absurd q (by decide)) (fun _ => ?_)
        refine z_iconst C dX5_depth_31 (pc' := 32) rfl (v := (-1)) (by decide) ?_
        exact z_iret C hM dX5_depth_32 (by simp [f_depth, g_depth, *])
    ·
      refine z_if_eq (tgt := 31) C dX5_depth_18 (pc' := 21) (by decide) rfl (fun _ => ?_) (fun q => absurd q (by decide))
      refine z_iconst C dX5_depth_31 (pc' := 32) rfl (v := (-1)) (by decide) ?_
      exact z_iret C hM dX5_depth_32 (by simp [f_depth, g_depth, *])
  ·
    refine z_if_eq (tgt := 31) C dX5_depth_9 (pc' := 12) (by decide) rfl (fun _ => ?_) (fun q => absurd q (by decide))
    refine z_iconst C dX5_depth_31 (pc' := 32) rfl (v := (-1)) (by decide) ?_
    exact z_iret C hM dX5_depth_32 (by simp [f_depth, g_depth, *])
set_option maxRecDepth 100000 in
set_option maxHeartbeats 400000 in
theorem m_X4_thinning (l : Launch) {cA cB : ClassId} {D : va_G} {ad : Nat → Nat} (hI : Inj 67 ad) (σ : St) (v : Int32) : CI l yX4_thinning cX4_thinning 3 .int 1 22 D [(cA, .int), (cB, .object RX3)] 67 ad (cellC cA cB ad) σ [.ref (ad 0), .int v] (fun r u => r = f_thinning σ v ∧ u = g_thinning σ v) := by
  refine CI_of (by decide +kernel) (Nat.le_of_ble_eq_true rfl) (by simp [Value.category]) ?_
  intro p e s m below meth c C hM hK
  refine z_iload_n C dX4_thinning_0 (pc' := 1) rfl rfl rfl ?_
  refine z_iconst C dX4_thinning_1 (pc' := 2) rfl (v := 0) (by decide) ?_
  refine z_bipush C dX4_thinning_2 (pc' := 4) rfl (v := 30) (by decide) ?_
  refine z_callS C (m_X4_within l _ _ _) stabP aw_180 aw_181 aw_27 aw_182 (nA := 3) (by decide +kernel) rfl ⟨Nat.le_of_ble_eq_true rfl, Nat.le_of_ble_eq_true rfl⟩ (rest := []) rfl (Nat.le_of_ble_eq_true rfl) ⟨Nat.zero_le _, Nat.zero_le _⟩ dX4_thinning_4 (pc' := 7) rfl (fun r_4 h_4 => ?_)
  rcases h_4 with ⟨rfl, h_4⟩ | ⟨rfl, h_4⟩
  ·
    refine z_if_ne (tgt := 12) C dX4_thinning_7 (pc' := 10) (by decide) rfl (fun _ => ?_) (fun q => absurd q (by decide))
    refine z_aload_n C dX4_thinning_12 (pc' := 13) rfl rfl rfl ?_
    refine z_get C hK (by decide) kC_0 rfl inAX4 (k := 5) (by decide) aw_150 rfl dX4_thinning_13 (pc' := 16) rfl ?_
    refine z_istore_n (L' := [.ref _, .int _, .int _]) C dX4_thinning_16 (pc' := 17) rfl rfl (by decide) (Nat.le_of_ble_eq_true rfl) rfl ?_
    refine z_aload_n C dX4_thinning_17 (pc' := 18) rfl rfl rfl ?_
    refine z_iload_n C dX4_thinning_18 (pc' := 19) rfl rfl rfl ?_
    refine z_put C hK hI AdS_in (by decide) kC_0 sC_00 oC_00 rfl inAX4 tyX4_ok nmX4 (k := 5) (by decide) aw_150 rfl (ty := .int) (by decide +kernel) rfl rfl (Nat.le_of_ble_eq_true rfl) dX4_thinning_19 (pc' := 22) rfl ?_
    refine z_iload_n C dX4_thinning_22 (pc' := 23) rfl rfl rfl ?_
    exact z_iret C hM dX4_thinning_23 (by simp [f_thinning, g_thinning, *])
  ·
    refine z_if_ne (tgt := 12) C dX4_thinning_7 (pc' := 10) (by decide) rfl (fun q => absurd q (by decide)) (fun _ => ?_)
    refine z_iconst C dX4_thinning_10 (pc' := 11) rfl (v := (-1)) (by decide) ?_
    exact z_iret C hM dX4_thinning_11 (by simp [f_thinning, g_thinning, *])
set_option maxRecDepth 100000 in
set_option maxHeartbeats 400000 in
theorem m_X5_thinning (l : Launch) {cA : ClassId} {D : va_G} {ad : Nat → Nat} (hI : Inj 17 ad) (σ : St) (v : Int32) : CI l yX5_thinning cX5_thinning 3 .int 1 22 D [(cA, .int)] 17 ad (cellR cA ad) σ [.ref (ad 0), .int v] (fun r u => r = f_thinning σ v ∧ u = g_thinning σ v) := by
  refine CI_of (by decide +kernel) (Nat.le_of_ble_eq_true rfl) (by simp [Value.category]) ?_
  intro p e s m below meth c C hM hK
  refine z_aload_n C dX5_thinning_0 (pc' := 1) rfl rfl rfl ?_
  refine z_iconst C dX5_thinning_1 (pc' := 2) rfl (v := 0) (by decide) ?_
  refine z_put C hK hI AdS_in (by decide) kR_0 sR_th oR_th rfl inAX5 tyX5_ok nmX5 (k := 0) (by decide) aw_452 rfl (ty := .int) (by decide +kernel) rfl rfl (Nat.le_of_ble_eq_true rfl) dX5_thinning_2 (pc' := 5) rfl ?_
  refine z_iload_n C dX5_thinning_5 (pc' := 6) rfl rfl rfl ?_
  refine z_iconst C dX5_thinning_6 (pc' := 7) rfl (v := 0) (by decide) ?_
  refine z_bipush C dX5_thinning_7 (pc' := 9) rfl (v := 30) (by decide) ?_
  refine z_callS C (m_X5_in l _ _ _) stabP aw_529 aw_530 aw_32 aw_531 (nA := 3) (by decide +kernel) rfl ⟨Nat.le_of_ble_eq_true rfl, Nat.le_of_ble_eq_true rfl⟩ (rest := []) rfl (Nat.le_of_ble_eq_true rfl) ⟨Nat.zero_le _, Nat.zero_le _⟩ dX5_thinning_9 (pc' := 12) rfl (fun r_9 h_9 => ?_)
  rcases h_9 with ⟨rfl, h_9⟩ | ⟨rfl, h_9⟩
  ·
    refine z_if_ne (tgt := 17) C dX5_thinning_12 (pc' := 15) (by decide) rfl (fun _ => ?_) (fun q => absurd q (by decide))
    refine z_aload_n C dX5_thinning_17 (pc' := 18) rfl rfl rfl ?_
    refine z_get C hK (by decide) kR_0 rfl inAX5 (k := 6) (by decide) aw_458 rfl dX5_thinning_18 (pc' := 21) rfl ?_
    refine z_istore_n (L' := [.ref _, .int _, .int _]) C dX5_thinning_21 (pc' := 22) rfl rfl (by decide) (Nat.le_of_ble_eq_true rfl) rfl ?_
    refine z_aload_n C dX5_thinning_22 (pc' := 23) rfl rfl rfl ?_
    refine z_iload_n C dX5_thinning_23 (pc' := 24) rfl rfl rfl ?_
    refine z_put C hK hI AdS_in (by decide) kR_0 sR_00 oR_00 rfl inAX5 tyX5_ok nmX5 (k := 6) (by decide) aw_458 rfl (ty := .int) (by decide +kernel) rfl rfl (Nat.le_of_ble_eq_true rfl) dX5_thinning_24 (pc' := 27) rfl ?_
    refine z_iload_n C dX5_thinning_27 (pc' := 28) rfl rfl rfl ?_
    exact z_iret C hM dX5_thinning_28 (by simp [f_thinning, g_thinning, *])
  ·
    refine z_if_ne (tgt := 17) C dX5_thinning_12 (pc' := 15) (by decide) rfl (fun q => absurd q (by decide)) (fun _ => ?_)
    refine z_iconst C dX5_thinning_15 (pc' := 16) rfl (v := (-1)) (by decide) ?_
    exact z_iret C hM dX5_thinning_16 (by simp [f_thinning, g_thinning, *])
set_option maxRecDepth 100000 in
set_option maxHeartbeats 400000 in
theorem m_X4_bar (l : Launch) {cA cB : ClassId} {D : va_G} {ad : Nat → Nat} (hI : Inj 67 ad) (σ : St) (v : Int32) : CI l yX4_bar cX4_bar 3 .int 1 22 D [(cA, .int), (cB, .object RX3)] 67 ad (cellC cA cB ad) σ [.ref (ad 0), .int v] (fun r u => r = f_bar σ v ∧ u = g_bar σ v) := by
  refine CI_of (by decide +kernel) (Nat.le_of_ble_eq_true rfl) (by simp [Value.category]) ?_
  intro p e s m below meth c C hM hK
  refine z_iload_n C dX4_bar_0 (pc' := 1) rfl rfl rfl ?_
  refine z_iconst C dX4_bar_1 (pc' := 2) rfl (v := 0) (by decide) ?_
  refine z_sipush C dX4_bar_2 (pc' := 5) rfl (v := 999) (by decide) ?_
  refine z_callS C (m_X4_within l _ _ _) stabP aw_180 aw_181 aw_27 aw_182 (nA := 3) (by decide +kernel) rfl ⟨Nat.le_of_ble_eq_true rfl, Nat.le_of_ble_eq_true rfl⟩ (rest := []) rfl (Nat.le_of_ble_eq_true rfl) ⟨Nat.zero_le _, Nat.zero_le _⟩ dX4_bar_5 (pc' := 8) rfl (fun r_5 h_5 => ?_)
  rcases h_5 with ⟨rfl, h_5⟩ | ⟨rfl, h_5⟩
  ·
    refine z_if_ne (tgt := 13) C dX4_bar_8 (pc' := 11) (by decide) rfl (fun _ => ?_) (fun q => absurd q (by decide))
    refine z_aload_n C dX4_bar_13 (pc' := 14) rfl rfl rfl ?_
    refine z_get C hK (by decide) kC_0 rfl inAX4 (k := 6) (by decide) aw_151 rfl dX4_bar_14 (pc' := 17) rfl ?_
    refine z_istore_n (L' := [.ref _, .int _, .int _]) C dX4_bar_17 (pc' := 18) rfl rfl (by decide) (Nat.le_of_ble_eq_true rfl) rfl ?_
    refine z_aload_n C dX4_bar_18 (pc' := 19) rfl rfl rfl ?_
    refine z_iload_n C dX4_bar_19 (pc' := 20) rfl rfl rfl ?_
    refine z_put C hK hI AdS_in (by decide) kC_0 sC_01 oC_01 rfl inAX4 tyX4_ok nmX4 (k := 6) (by decide) aw_151 rfl (ty := .int) (by decide +kernel) rfl rfl (Nat.le_of_ble_eq_true rfl) dX4_bar_20 (pc' := 23) rfl ?_
    refine z_iload_n C dX4_bar_23 (pc' := 24) rfl rfl rfl ?_
    exact z_iret C hM dX4_bar_24 (by simp [f_bar, g_bar, *])
  ·
    refine z_if_ne (tgt := 13) C dX4_bar_8 (pc' := 11) (by decide) rfl (fun q => absurd q (by decide)) (fun _ => ?_)
    refine z_iconst C dX4_bar_11 (pc' := 12) rfl (v := (-1)) (by decide) ?_
    exact z_iret C hM dX4_bar_12 (by simp [f_bar, g_bar, *])
set_option maxRecDepth 100000 in
set_option maxHeartbeats 400000 in
theorem m_X5_bar (l : Launch) {cA : ClassId} {D : va_G} {ad : Nat → Nat} (hI : Inj 17 ad) (σ : St) (v : Int32) : CI l yX5_bar cX5_bar 3 .int 1 22 D [(cA, .int)] 17 ad (cellR cA ad) σ [.ref (ad 0), .int v] (fun r u => r = f_bar σ v ∧ u = g_bar σ v) := by
  refine CI_of (by decide +kernel) (Nat.le_of_ble_eq_true rfl) (by simp [Value.category]) ?_
  intro p e s m below meth c C hM hK
  refine z_aload_n C dX5_bar_0 (pc' := 1) rfl rfl rfl ?_
  refine z_iconst C dX5_bar_1 (pc' := 2) rfl (v := 0) (by decide) ?_
  refine z_put C hK hI AdS_in (by decide) kR_0 sR_th oR_th rfl inAX5 tyX5_ok nmX5 (k := 0) (by decide) aw_452 rfl (ty := .int) (by decide +kernel) rfl rfl (Nat.le_of_ble_eq_true rfl) dX5_bar_2 (pc' := 5) rfl ?_
  refine z_iload_n C dX5_bar_5 (pc' := 6) rfl rfl rfl ?_
  refine z_iconst C dX5_bar_6 (pc' := 7) rfl (v := 0) (by decide) ?_
  refine z_sipush C dX5_bar_7 (pc' := 10) rfl (v := 999) (by decide) ?_
  refine z_callS C (m_X5_in l _ _ _) stabP aw_529 aw_530 aw_32 aw_531 (nA := 3) (by decide +kernel) rfl ⟨Nat.le_of_ble_eq_true rfl, Nat.le_of_ble_eq_true rfl⟩ (rest := []) rfl (Nat.le_of_ble_eq_true rfl) ⟨Nat.zero_le _, Nat.zero_le _⟩ dX5_bar_10 (pc' := 13) rfl (fun r_10 h_10 => ?_)
  rcases h_10 with ⟨rfl, h_10⟩ | ⟨rfl, h_10⟩
  ·
    refine z_if_ne (tgt := 18) C dX5_bar_13 (pc' := 16) (by decide) rfl (fun _ => ?_) (fun q => absurd q (by decide))
    refine z_aload_n C dX5_bar_18 (pc' := 19) rfl rfl rfl ?_
    refine z_get C hK (by decide) kR_0 rfl inAX5 (k := 22) (by decide) aw_474 rfl dX5_bar_19 (pc' := 22) rfl ?_
    refine z_istore_n (L' := [.ref _, .int _, .int _]) C dX5_bar_22 (pc' := 23) rfl rfl (by decide) (Nat.le_of_ble_eq_true rfl) rfl ?_
    refine z_aload_n C dX5_bar_23 (pc' := 24) rfl rfl rfl ?_
    refine z_iload_n C dX5_bar_24 (pc' := 25) rfl rfl rfl ?_
    refine z_put C hK hI AdS_in (by decide) kR_0 sR_01 oR_01 rfl inAX5 tyX5_ok nmX5 (k := 22) (by decide) aw_474 rfl (ty := .int) (by decide +kernel) rfl rfl (Nat.le_of_ble_eq_true rfl) dX5_bar_25 (pc' := 28) rfl ?_
    refine z_iload_n C dX5_bar_28 (pc' := 29) rfl rfl rfl ?_
    exact z_iret C hM dX5_bar_29 (by simp [f_bar, g_bar, *])
  ·
    refine z_if_ne (tgt := 18) C dX5_bar_13 (pc' := 16) (by decide) rfl (fun q => absurd q (by decide)) (fun _ => ?_)
    refine z_iconst C dX5_bar_16 (pc' := 17) rfl (v := (-1)) (by decide) ?_
    exact z_iret C hM dX5_bar_17 (by simp [f_bar, g_bar, *])
set_option maxRecDepth 100000 in
set_option maxHeartbeats 400000 in
theorem m_X4_law (l : Launch) {cA cB : ClassId} {D : va_G} {ad : Nat → Nat} (hI : Inj 67 ad) (σ : St) (w v : Int32) : CI l yX4_law cX4_law 4 .int 1 22 D [(cA, .int), (cB, .object RX3)] 67 ad (cellC cA cB ad) σ [.ref (ad 0), .int w, .int v] (fun r u => r = f_law σ w v ∧ u = g_law σ w v) := by
  refine CI_of (by decide +kernel) (Nat.le_of_ble_eq_true rfl) (by simp [Value.category]) ?_
  intro p e s m below meth c C hM hK
  refine z_iload_n C dX4_law_0 (pc' := 1) rfl rfl rfl ?_
  refine z_iconst C dX4_law_1 (pc' := 2) rfl (v := 0) (by decide) ?_
  refine z_iconst C dX4_law_2 (pc' := 3) rfl (v := 3) (by decide) ?_
  refine z_callS C (m_X4_within l _ _ _) stabP aw_180 aw_181 aw_27 aw_182 (nA := 3) (by decide +kernel) rfl ⟨Nat.le_of_ble_eq_true rfl, Nat.le_of_ble_eq_true rfl⟩ (rest := []) rfl (Nat.le_of_ble_eq_true rfl) ⟨Nat.zero_le _, Nat.zero_le _⟩ dX4_law_3 (pc' := 6) rfl (fun r_3 h_3 => ?_)
  rcases h_3 with ⟨rfl, h_3⟩ | ⟨rfl, h_3⟩
  ·
    obtain ⟨j, hj, rfl⟩ := inR_of (n := 3) (by omega) h_3
    refine z_if_eq (tgt := 20) C dX4_law_6 (pc' := 9) (by decide) rfl (fun q => absurd q (by decide)) (fun _ => ?_)
    refine z_iload_n C dX4_law_9 (pc' := 10) rfl rfl rfl ?_
    refine z_iconst C dX4_law_10 (pc' := 11) rfl (v := 0) (by decide) ?_
    refine z_sipush C dX4_law_11 (pc' := 14) rfl (v := 4000) (by decide) ?_
    refine z_callS C (m_X4_within l _ _ _) stabP aw_180 aw_181 aw_27 aw_182 (nA := 3) (by decide +kernel) rfl ⟨Nat.le_of_ble_eq_true rfl, Nat.le_of_ble_eq_true rfl⟩ (rest := []) rfl (Nat.le_of_ble_eq_true rfl) ⟨Nat.zero_le _, Nat.zero_le _⟩ dX4_law_14 (pc' := 17) rfl (fun r_14 h_14 => ?_)
    rcases h_14 with ⟨rfl, h_14⟩ | ⟨rfl, h_14⟩
    ·
      refine z_if_ne (tgt := 22) C dX4_law_17 (pc' := 20) (by decide) rfl (fun _ => ?_) (fun q => absurd q (by decide))
      refine z_aload_n C dX4_law_22 (pc' := 23) rfl rfl rfl ?_
      refine z_get C hK (by decide) kC_0 rfl inAX4 (k := 1) (by decide) aw_146 rfl dX4_law_23 (pc' := 26) rfl ?_
      refine z_get C hK (by decide) kC_3 rfl inAX0 (k := 0) (by decide) aw_51 rfl dX4_law_26 (pc' := 29) rfl ?_
      refine z_iload_n C dX4_law_29 (pc' := 30) rfl rfl rfl ?_
      refine z_iald C hK (by decide) kC_4 (t0 := 0) rfl (j := j) rfl (by omega) (by decide) rfl dX4_law_30 (pc' := 31) rfl ?_
      refine z_istore_n (L' := [.ref _, .int _, .int _, .int _]) C dX4_law_31 (pc' := 32) rfl rfl (by decide) (Nat.le_of_ble_eq_true rfl) rfl ?_
      refine z_aload_n C dX4_law_32 (pc' := 33) rfl rfl rfl ?_
      refine z_get C hK (by decide) kC_0 rfl inAX4 (k := 1) (by decide) aw_146 rfl dX4_law_33 (pc' := 36) rfl ?_
      refine z_get C hK (by decide) kC_3 rfl inAX0 (k := 0) (by decide) aw_51 rfl dX4_law_36 (pc' := 39) rfl ?_
      refine z_iload_n C dX4_law_39 (pc' := 40) rfl rfl rfl ?_
      refine z_iload_n C dX4_law_40 (pc' := 41) rfl rfl rfl ?_
      refine z_iast C hK hI AdS_in (by decide) kC_4 sC_a4 oC_a4 (t0 := 0) rfl (j := j) rfl (by omega) (by decide) dX4_law_41 (pc' := 42) rfl ?_
      refine z_iload_n C dX4_law_42 (pc' := 43) rfl rfl rfl ?_
      exact z_iret C hM dX4_law_43 (by have ej := wn_nI (k := j) (by omega); have wj := inR_nI (n := 3) hj (by omega); simp [f_law, g_law, ej, wj, *])
    ·
      refine z_if_ne (tgt := 22) C dX4_law_17 (pc' := 20) (by decide) rfl (fun q => absurd q (by decide)) (fun _ => ?_)
      refine z_iconst C dX4_law_20 (pc' := 21) rfl (v := (-1)) (by decide) ?_
      exact z_iret C hM dX4_law_21 (by simp [f_law, g_law, *])
  ·
    refine z_if_eq (tgt := 20) C dX4_law_6 (pc' := 9) (by decide) rfl (fun _ => ?_) (fun q => absurd q (by decide))
    refine z_iconst C dX4_law_20 (pc' := 21) rfl (v := (-1)) (by decide) ?_
    exact z_iret C hM dX4_law_21 (by simp [f_law, g_law, *])
set_option maxRecDepth 100000 in
set_option maxHeartbeats 400000 in
theorem m_X5_law (l : Launch) {cA : ClassId} {D : va_G} {ad : Nat → Nat} (hI : Inj 17 ad) (σ : St) (w v : Int32) : CI l yX5_law cX5_law 4 .int 1 22 D [(cA, .int)] 17 ad (cellR cA ad) σ [.ref (ad 0), .int w, .int v] (fun r u => r = f_law σ w v ∧ u = g_law σ w v) := by
  refine CI_of (by decide +kernel) (Nat.le_of_ble_eq_true rfl) (by simp [Value.category]) ?_
  intro p e s m below meth c C hM hK
  refine z_aload_n C dX5_law_0 (pc' := 1) rfl rfl rfl ?_
  refine z_iconst C dX5_law_1 (pc' := 2) rfl (v := 0) (by decide) ?_
  refine z_put C hK hI AdS_in (by decide) kR_0 sR_th oR_th rfl inAX5 tyX5_ok nmX5 (k := 0) (by decide) aw_452 rfl (ty := .int) (by decide +kernel) rfl rfl (Nat.le_of_ble_eq_true rfl) dX5_law_2 (pc' := 5) rfl ?_
  refine z_iload_n C dX5_law_5 (pc' := 6) rfl rfl rfl ?_
  refine z_iconst C dX5_law_6 (pc' := 7) rfl (v := 0) (by decide) ?_
  refine z_iconst C dX5_law_7 (pc' := 8) rfl (v := 3) (by decide) ?_
  refine z_callS C (m_X5_in l _ _ _) stabP aw_529 aw_530 aw_32 aw_531 (nA := 3) (by decide +kernel) rfl ⟨Nat.le_of_ble_eq_true rfl, Nat.le_of_ble_eq_true rfl⟩ (rest := []) rfl (Nat.le_of_ble_eq_true rfl) ⟨Nat.zero_le _, Nat.zero_le _⟩ dX5_law_8 (pc' := 11) rfl (fun r_8 h_8 => ?_)
  rcases h_8 with ⟨rfl, h_8⟩ | ⟨rfl, h_8⟩
  ·
    obtain ⟨j, hj, rfl⟩ := inR_of (n := 3) (by omega) h_8
    refine z_if_eq (tgt := 25) C dX5_law_11 (pc' := 14) (by decide) rfl (fun q => absurd q (by decide)) (fun _ => ?_)
    refine z_iload_n C dX5_law_14 (pc' := 15) rfl rfl rfl ?_
    refine z_iconst C dX5_law_15 (pc' := 16) rfl (v := 0) (by decide) ?_
    refine z_sipush C dX5_law_16 (pc' := 19) rfl (v := 4000) (by decide) ?_
    refine z_callS C (m_X5_in l _ _ _) stabP aw_529 aw_530 aw_32 aw_531 (nA := 3) (by decide +kernel) rfl ⟨Nat.le_of_ble_eq_true rfl, Nat.le_of_ble_eq_true rfl⟩ (rest := []) rfl (Nat.le_of_ble_eq_true rfl) ⟨Nat.zero_le _, Nat.zero_le _⟩ dX5_law_19 (pc' := 22) rfl (fun r_19 h_19 => ?_)
    rcases h_19 with ⟨rfl, h_19⟩ | ⟨rfl, h_19⟩
    ·
      refine z_if_ne (tgt := 27) C dX5_law_22 (pc' := 25) (by decide) rfl (fun _ => ?_) (fun q => absurd q (by decide))
      refine z_aload_n C dX5_law_27 (pc' := 28) rfl rfl rfl ?_
      refine z_get C hK (by decide) kR_0 rfl inAX5 (k := 8) (by decide) aw_460 rfl dX5_law_28 (pc' := 31) rfl ?_
      refine z_iload_n C dX5_law_31 (pc' := 32) rfl rfl rfl ?_
      refine z_iald C hK (by decide) kR_5 (t0 := 0) rfl (j := j) rfl (by omega) (by decide) rfl dX5_law_32 (pc' := 33) rfl ?_
      refine z_istore_n (L' := [.ref _, .int _, .int _, .int _]) C dX5_law_33 (pc' := 34) rfl rfl (by decide) (Nat.le_of_ble_eq_true rfl) rfl ?_
      refine z_aload_n C dX5_law_34 (pc' := 35) rfl rfl rfl ?_
      refine z_get C hK (by decide) kR_0 rfl inAX5 (k := 8) (by decide) aw_460 rfl dX5_law_35 (pc' := 38) rfl ?_
      refine z_iload_n C dX5_law_38 (pc' := 39) rfl rfl rfl ?_
      refine z_iload_n C dX5_law_39 (pc' := 40) rfl rfl rfl ?_
      refine z_iast C hK hI AdS_in (by decide) kR_5 sR_a5 oR_a5 (t0 := 0) rfl (j := j) rfl (by omega) (by decide) dX5_law_40 (pc' := 41) rfl ?_
      refine z_iload_n C dX5_law_41 (pc' := 42) rfl rfl rfl ?_
      exact z_iret C hM dX5_law_42 (by have ej := wn_nI (k := j) (by omega); have wj := inR_nI (n := 3) hj (by omega); simp [f_law, g_law, ej, wj, *])
    ·
      refine z_if_ne (tgt := 27) C dX5_law_22 (pc' := 25) (by decide) rfl (fun q => absurd q (by decide)) (fun _ => ?_)
      refine z_iconst C dX5_law_25 (pc' := 26) rfl (v := (-1)) (by decide) ?_
      exact z_iret C hM dX5_law_26 (by simp [f_law, g_law, *])
  ·
    refine z_if_eq (tgt := 25) C dX5_law_11 (pc' := 14) (by decide) rfl (fun _ => ?_) (fun q => absurd q (by decide))
    refine z_iconst C dX5_law_25 (pc' := 26) rfl (v := (-1)) (by decide) ?_
    exact z_iret C hM dX5_law_26 (by simp [f_law, g_law, *])
set_option maxRecDepth 100000 in
set_option maxHeartbeats 400000 in
theorem m_X4_sell (l : Launch) {cA cB : ClassId} {D : va_G} {ad : Nat → Nat} (hI : Inj 67 ad) (σ : St)  : CI l yX4_sell cX4_sell 1 .int 0 0 D [(cA, .int), (cB, .object RX3)] 67 ad (cellC cA cB ad) σ [.ref (ad 0)] (fun r u => r = f_sell σ  ∧ u = g_sell σ ) := by
  refine CI_of (by decide +kernel) (Nat.le_of_ble_eq_true rfl) (by simp [Value.category]) ?_
  intro p e s m below meth c C hM hK
  refine z_aload_n C dX4_sell_0 (pc' := 1) rfl rfl rfl ?_
  refine z_get C hK (by decide) kC_0 rfl inAX4 (k := 2) (by decide) aw_147 rfl dX4_sell_1 (pc' := 4) rfl ?_
  refine z_get C hK (by decide) kC_5 rfl inAX2 (k := 0) (by decide) aw_63 rfl dX4_sell_4 (pc' := 7) rfl ?_
  refine z_if_ne (tgt := 13) C dX4_sell_7 (pc' := 10) (by decide) rfl (fun c_7 => ?_) (fun c_7 => ?_)
  ·
    refine z_aload_n C dX4_sell_13 (pc' := 14) rfl rfl rfl ?_
    refine z_get C hK (by decide) kC_0 rfl inAX4 (k := 2) (by decide) aw_147 rfl dX4_sell_14 (pc' := 17) rfl ?_
    refine z_dup C dX4_sell_17 (pc' := 18) rfl rfl ?_
    refine z_get C hK (by decide) kC_5 rfl inAX2 (k := 0) (by decide) aw_63 rfl dX4_sell_18 (pc' := 21) rfl ?_
    refine z_iconst C dX4_sell_21 (pc' := 22) rfl (v := 1) (by decide) ?_
    refine z_isub C dX4_sell_22 (pc' := 23) rfl rfl ?_
    refine z_put C hK hI AdS_in (by decide) kC_5 sC_04 oC_04 rfl inAX2 tyX2_ok nmX2 (k := 0) (by decide) aw_63 rfl (ty := .int) (by decide +kernel) rfl rfl (Nat.le_of_ble_eq_true rfl) dX4_sell_23 (pc' := 26) rfl ?_
    refine z_aload_n C dX4_sell_26 (pc' := 27) rfl rfl rfl ?_
    refine z_get C hK (by decide) kC_0 rfl inAX4 (k := 2) (by decide) aw_147 rfl dX4_sell_27 (pc' := 30) rfl ?_
    refine z_get C hK (by decide) kC_5 rfl inAX2 (k := 0) (by decide) aw_63 rfl dX4_sell_30 (pc' := 33) rfl ?_
    exact z_iret C hM dX4_sell_33 (by simp [f_sell, g_sell, up2, *])
  ·
    refine z_bipush C dX4_sell_10 (pc' := 12) rfl (v := (-2)) (by decide) ?_
    exact z_iret C hM dX4_sell_12 (by simp [f_sell, g_sell, *])
set_option maxRecDepth 100000 in
set_option maxHeartbeats 400000 in
theorem m_X5_sell (l : Launch) {cA : ClassId} {D : va_G} {ad : Nat → Nat} (hI : Inj 17 ad) (σ : St)  : CI l yX5_sell cX5_sell 1 .int 0 0 D [(cA, .int)] 17 ad (cellR cA ad) σ [.ref (ad 0)] (fun r u => r = f_sell σ  ∧ u = g_sell σ ) := by
  refine CI_of (by decide +kernel) (Nat.le_of_ble_eq_true rfl) (by simp [Value.category]) ?_
  intro p e s m below meth c C hM hK
  refine z_aload_n C dX5_sell_0 (pc' := 1) rfl rfl rfl ?_
  refine z_iconst C dX5_sell_1 (pc' := 2) rfl (v := 0) (by decide) ?_
  refine z_put C hK hI AdS_in (by decide) kR_0 sR_th oR_th rfl inAX5 tyX5_ok nmX5 (k := 0) (by decide) aw_452 rfl (ty := .int) (by decide +kernel) rfl rfl (Nat.le_of_ble_eq_true rfl) dX5_sell_2 (pc' := 5) rfl ?_
  refine z_aload_n C dX5_sell_5 (pc' := 6) rfl rfl rfl ?_
  refine z_get C hK (by decide) kR_0 rfl inAX5 (k := 10) (by decide) aw_462 rfl dX5_sell_6 (pc' := 9) rfl ?_
  refine z_if_ne (tgt := 15) C dX5_sell_9 (pc' := 12) (by decide) rfl (fun c_9 => ?_) (fun c_9 => ?_)
  ·
    refine z_aload_n C dX5_sell_15 (pc' := 16) rfl rfl rfl ?_
    refine z_dup C dX5_sell_16 (pc' := 17) rfl rfl ?_
    refine z_get C hK (by decide) kR_0 rfl inAX5 (k := 10) (by decide) aw_462 rfl dX5_sell_17 (pc' := 20) rfl ?_
    refine z_iconst C dX5_sell_20 (pc' := 21) rfl (v := 1) (by decide) ?_
    refine z_isub C dX5_sell_21 (pc' := 22) rfl rfl ?_
    refine z_put C hK hI AdS_in (by decide) kR_0 sR_04 oR_04 rfl inAX5 tyX5_ok nmX5 (k := 10) (by decide) aw_462 rfl (ty := .int) (by decide +kernel) rfl rfl (Nat.le_of_ble_eq_true rfl) dX5_sell_22 (pc' := 25) rfl ?_
    refine z_aload_n C dX5_sell_25 (pc' := 26) rfl rfl rfl ?_
    refine z_get C hK (by decide) kR_0 rfl inAX5 (k := 10) (by decide) aw_462 rfl dX5_sell_26 (pc' := 29) rfl ?_
    exact z_iret C hM dX5_sell_29 (by simp [f_sell, g_sell, up2, *])
  ·
    refine z_bipush C dX5_sell_12 (pc' := 14) rfl (v := (-2)) (by decide) ?_
    exact z_iret C hM dX5_sell_14 (by simp [f_sell, g_sell, *])
set_option maxRecDepth 100000 in
set_option maxHeartbeats 400000 in
theorem m_X4_forget (l : Launch) {cA cB : ClassId} {D : va_G} {ad : Nat → Nat} (hI : Inj 67 ad) (σ : St)  : CI l yX4_forget cX4_forget 1 .int 0 0 D [(cA, .int), (cB, .object RX3)] 67 ad (cellC cA cB ad) σ [.ref (ad 0)] (fun r u => r = f_forget σ  ∧ u = g_forget σ ) := by
  refine CI_of (by decide +kernel) (Nat.le_of_ble_eq_true rfl) (by simp [Value.category]) ?_
  intro p e s m below meth c C hM hK
  refine z_aload_n C dX4_forget_0 (pc' := 1) rfl rfl rfl ?_
  refine z_get C hK (by decide) kC_0 rfl inAX4 (k := 3) (by decide) aw_148 rfl dX4_forget_1 (pc' := 4) rfl ?_
  refine z_get C hK (by decide) kC_10 rfl inAX1 (k := 0) (by decide) aw_86 rfl dX4_forget_4 (pc' := 7) rfl ?_
  refine z_if_ne (tgt := 13) C dX4_forget_7 (pc' := 10) (by decide) rfl (fun c_7 => ?_) (fun c_7 => ?_)
  ·
    refine z_aload_n C dX4_forget_13 (pc' := 14) rfl rfl rfl ?_
    refine z_get C hK (by decide) kC_0 rfl inAX4 (k := 3) (by decide) aw_148 rfl dX4_forget_14 (pc' := 17) rfl ?_
    refine z_dup C dX4_forget_17 (pc' := 18) rfl rfl ?_
    refine z_get C hK (by decide) kC_10 rfl inAX1 (k := 0) (by decide) aw_86 rfl dX4_forget_18 (pc' := 21) rfl ?_
    refine z_iconst C dX4_forget_21 (pc' := 22) rfl (v := 1) (by decide) ?_
    refine z_isub C dX4_forget_22 (pc' := 23) rfl rfl ?_
    refine z_put C hK hI AdS_in (by decide) kC_10 sC_05 oC_05 rfl inAX1 tyX1_ok nmX1 (k := 0) (by decide) aw_86 rfl (ty := .int) (by decide +kernel) rfl rfl (Nat.le_of_ble_eq_true rfl) dX4_forget_23 (pc' := 26) rfl ?_
    refine z_aload_n C dX4_forget_26 (pc' := 27) rfl rfl rfl ?_
    refine z_get C hK (by decide) kC_0 rfl inAX4 (k := 3) (by decide) aw_148 rfl dX4_forget_27 (pc' := 30) rfl ?_
    refine z_get C hK (by decide) kC_10 rfl inAX1 (k := 0) (by decide) aw_86 rfl dX4_forget_30 (pc' := 33) rfl ?_
    exact z_iret C hM dX4_forget_33 (by simp [f_forget, g_forget, up2, *])
  ·
    refine z_bipush C dX4_forget_10 (pc' := 12) rfl (v := (-2)) (by decide) ?_
    exact z_iret C hM dX4_forget_12 (by simp [f_forget, g_forget, *])
set_option maxRecDepth 100000 in
set_option maxHeartbeats 400000 in
theorem m_X5_forget (l : Launch) {cA : ClassId} {D : va_G} {ad : Nat → Nat} (hI : Inj 17 ad) (σ : St)  : CI l yX5_forget cX5_forget 1 .int 0 0 D [(cA, .int)] 17 ad (cellR cA ad) σ [.ref (ad 0)] (fun r u => r = f_forget σ  ∧ u = g_forget σ ) := by
  refine CI_of (by decide +kernel) (Nat.le_of_ble_eq_true rfl) (by simp [Value.category]) ?_
  intro p e s m below meth c C hM hK
  refine z_aload_n C dX5_forget_0 (pc' := 1) rfl rfl rfl ?_
  refine z_iconst C dX5_forget_1 (pc' := 2) rfl (v := 0) (by decide) ?_
  refine z_put C hK hI AdS_in (by decide) kR_0 sR_th oR_th rfl inAX5 tyX5_ok nmX5 (k := 0) (by decide) aw_452 rfl (ty := .int) (by decide +kernel) rfl rfl (Nat.le_of_ble_eq_true rfl) dX5_forget_2 (pc' := 5) rfl ?_
  refine z_aload_n C dX5_forget_5 (pc' := 6) rfl rfl rfl ?_
  refine z_get C hK (by decide) kR_0 rfl inAX5 (k := 14) (by decide) aw_466 rfl dX5_forget_6 (pc' := 9) rfl ?_
  refine z_if_ne (tgt := 15) C dX5_forget_9 (pc' := 12) (by decide) rfl (fun c_9 => ?_) (fun c_9 => ?_)
  ·
    refine z_aload_n C dX5_forget_15 (pc' := 16) rfl rfl rfl ?_
    refine z_dup C dX5_forget_16 (pc' := 17) rfl rfl ?_
    refine z_get C hK (by decide) kR_0 rfl inAX5 (k := 14) (by decide) aw_466 rfl dX5_forget_17 (pc' := 20) rfl ?_
    refine z_iconst C dX5_forget_20 (pc' := 21) rfl (v := 1) (by decide) ?_
    refine z_isub C dX5_forget_21 (pc' := 22) rfl rfl ?_
    refine z_put C hK hI AdS_in (by decide) kR_0 sR_05 oR_05 rfl inAX5 tyX5_ok nmX5 (k := 14) (by decide) aw_466 rfl (ty := .int) (by decide +kernel) rfl rfl (Nat.le_of_ble_eq_true rfl) dX5_forget_22 (pc' := 25) rfl ?_
    refine z_aload_n C dX5_forget_25 (pc' := 26) rfl rfl rfl ?_
    refine z_get C hK (by decide) kR_0 rfl inAX5 (k := 14) (by decide) aw_466 rfl dX5_forget_26 (pc' := 29) rfl ?_
    exact z_iret C hM dX5_forget_29 (by simp [f_forget, g_forget, up2, *])
  ·
    refine z_bipush C dX5_forget_12 (pc' := 14) rfl (v := (-2)) (by decide) ?_
    exact z_iret C hM dX5_forget_14 (by simp [f_forget, g_forget, *])
set_option maxRecDepth 100000 in
set_option maxHeartbeats 400000 in
theorem m_X4_due (l : Launch) {cA cB : ClassId} {D : va_G} {ad : Nat → Nat} (hI : Inj 67 ad) (σ : St) (w : Int32) : CI l yX4_due cX4_due 2 .int 2 42 D [(cA, .int), (cB, .object RX3)] 67 ad (cellC cA cB ad) σ [.ref (ad 0), .int w] (fun r u => r = f_due σ w ∧ u = σ) := by
  refine CI_of (by decide +kernel) (Nat.le_of_ble_eq_true rfl) (by simp [Value.category]) ?_
  intro p e s m below meth c C hM hK
  refine z_iload_n C dX4_due_0 (pc' := 1) rfl rfl rfl ?_
  refine z_callS C (m_X4_isWheel l _) stabP aw_177 aw_178 aw_27 aw_179 (nA := 1) (by decide +kernel) rfl ⟨Nat.le_of_ble_eq_true rfl, Nat.le_of_ble_eq_true rfl⟩ (rest := []) rfl (Nat.le_of_ble_eq_true rfl) ⟨Nat.zero_le _, Nat.zero_le _⟩ dX4_due_1 (pc' := 4) rfl (fun r_1 h_1 => ?_)
  rcases h_1 with ⟨rfl, h_1⟩ | ⟨rfl, h_1⟩
  ·
    obtain ⟨k, hk, rfl⟩ := isW_of h_1
    refine z_if_ne (tgt := 10) C dX4_due_4 (pc' := 7) (by decide) rfl (fun _ => ?_) (fun q => absurd q (by decide))
    refine z_aload_n C dX4_due_10 (pc' := 11) rfl rfl rfl ?_
    refine z_get C hK (by decide) kC_0 rfl inAX4 (k := 0) (by decide) aw_145 rfl dX4_due_11 (pc' := 14) rfl ?_
    refine z_iload_n C dX4_due_14 (pc' := 15) rfl rfl rfl ?_
    refine z_aald C hK (by decide) kC_1 (t0 := 1) rfl (j := k) rfl (by omega) (by decide) rfl dX4_due_15 (pc' := 16) rfl ?_
    refine z_callI C hK (m_X3_milesLeft l hI _ (k := k) (by omega)) AdS_in aw_254 aw_255 aw_256 aw_31 aw_257 (pW_lt (by omega)) (kC_W k) rfl (nA := 0) (by decide +kernel) rfl ⟨Nat.le_of_ble_eq_true rfl, Nat.le_of_ble_eq_true rfl⟩ (rest := []) rfl (Nat.le_of_ble_eq_true rfl) ⟨Nat.zero_le _, Nat.zero_le _⟩ dX4_due_16 (pc' := 19) rfl (fun r_16 u_16 h_16 => ?_)
    obtain ⟨hr_16, hu_16⟩ := h_16
    rw [hr_16, hu_16]
    exact z_iret C hM dX4_due_19 (by have ek := wn_nI (k := k) (by omega); have wk := isW_nI hk; simp [f_due, ek, wk, *])
  ·
    refine z_if_ne (tgt := 10) C dX4_due_4 (pc' := 7) (by decide) rfl (fun q => absurd q (by decide)) (fun _ => ?_)
    refine z_ldc C dX4_due_7 (pc' := 9) rfl aw_399 ?_
    exact z_iret C hM dX4_due_9 (by simp [f_due, *])
set_option maxRecDepth 100000 in
set_option maxHeartbeats 400000 in
theorem m_X5_due (l : Launch) {cA : ClassId} {D : va_G} {ad : Nat → Nat} (hI : Inj 17 ad) (σ : St) (w : Int32) : CI l yX5_due cX5_due 2 .int 2 42 D [(cA, .int)] 17 ad (cellR cA ad) σ [.ref (ad 0), .int w] (fun r u => r = f_due σ w ∧ u = σ) := by
  refine CI_of (by decide +kernel) (Nat.le_of_ble_eq_true rfl) (by simp [Value.category]) ?_
  intro p e s m below meth c C hM hK
  refine z_aload_n C dX5_due_0 (pc' := 1) rfl rfl rfl ?_
  refine z_iconst C dX5_due_1 (pc' := 2) rfl (v := 0) (by decide) ?_
  refine z_put C hK hI AdS_in (by decide) kR_0 sR_th oR_th rfl inAX5 tyX5_ok nmX5 (k := 0) (by decide) aw_452 rfl (ty := .int) (by decide +kernel) rfl rfl (Nat.le_of_ble_eq_true rfl) dX5_due_2 (pc' := 5) rfl ?_
  refine z_iload_n C dX5_due_5 (pc' := 6) rfl rfl rfl ?_
  refine z_callS C (m_X5_isWheel l _) stabP aw_526 aw_527 aw_32 aw_528 (nA := 1) (by decide +kernel) rfl ⟨Nat.le_of_ble_eq_true rfl, Nat.le_of_ble_eq_true rfl⟩ (rest := []) rfl (Nat.le_of_ble_eq_true rfl) ⟨Nat.zero_le _, Nat.zero_le _⟩ dX5_due_6 (pc' := 9) rfl (fun r_6 h_6 => ?_)
  rcases h_6 with ⟨rfl, h_6⟩ | ⟨rfl, h_6⟩
  ·
    obtain ⟨k, hk, rfl⟩ := isW_of h_6
    refine z_if_eq (tgt := 25) C dX5_due_9 (pc' := 12) (by decide) rfl (fun q => absurd q (by decide)) (fun _ => ?_)
    refine z_sipush C dX5_due_12 (pc' := 15) rfl (v := 1000) (by decide) ?_
    refine z_aload_n C dX5_due_15 (pc' := 16) rfl rfl rfl ?_
    refine z_get C hK (by decide) kR_0 rfl inAX5 (k := 5) (by decide) aw_457 rfl dX5_due_16 (pc' := 19) rfl ?_
    refine z_iload_n C dX5_due_19 (pc' := 20) rfl rfl rfl ?_
    refine z_iald C hK (by decide) kR_4 (t0 := 0) rfl (j := k) rfl (by omega) (by decide) rfl dX5_due_20 (pc' := 21) rfl ?_
    refine z_isub C dX5_due_21 (pc' := 22) rfl rfl ?_
    refine z_goto C dX5_due_22 (pc' := 27) (by decide) ?_
    exact z_iret C hM dX5_due_27 (by have ek := wn_nI (k := k) (by omega); have wk := isW_nI hk; simp [f_due, ek, wk, *])
  ·
    refine z_if_eq (tgt := 25) C dX5_due_9 (pc' := 12) (by decide) rfl (fun _ => ?_) (fun q => absurd q (by decide))
    refine z_ldc C dX5_due_25 (pc' := 27) rfl aw_633 ?_
    exact z_iret C hM dX5_due_27 (by simp [f_due, *])
set_option maxRecDepth 100000 in
set_option maxHeartbeats 400000 in
theorem m_X4_look (l : Launch) {cA cB : ClassId} {D : va_G} {ad : Nat → Nat} (hI : Inj 67 ad) (σ : St) (w : Int32) : CI l yX4_look cX4_look 3 .int 2 42 D [(cA, .int), (cB, .object RX3)] 67 ad (cellC cA cB ad) σ [.ref (ad 0), .int w] (fun r u => r = f_look σ w ∧ u = g_look σ w) := by
  refine CI_of (by decide +kernel) (Nat.le_of_ble_eq_true rfl) (by simp [Value.category]) ?_
  intro p e s m below meth c C hM hK
  refine z_iload_n C dX4_look_0 (pc' := 1) rfl rfl rfl ?_
  refine z_callS C (m_X4_isWheel l _) stabP aw_177 aw_178 aw_27 aw_179 (nA := 1) (by decide +kernel) rfl ⟨Nat.le_of_ble_eq_true rfl, Nat.le_of_ble_eq_true rfl⟩ (rest := []) rfl (Nat.le_of_ble_eq_true rfl) ⟨Nat.zero_le _, Nat.zero_le _⟩ dX4_look_1 (pc' := 4) rfl (fun r_1 h_1 => ?_)
  rcases h_1 with ⟨rfl, h_1⟩ | ⟨rfl, h_1⟩
  ·
    obtain ⟨k, hk, rfl⟩ := isW_of h_1
    refine z_if_ne (tgt := 10) C dX4_look_4 (pc' := 7) (by decide) rfl (fun _ => ?_) (fun q => absurd q (by decide))
    refine z_aload_n C dX4_look_10 (pc' := 11) rfl rfl rfl ?_
    refine z_get C hK (by decide) kC_0 rfl inAX4 (k := 0) (by decide) aw_145 rfl dX4_look_11 (pc' := 14) rfl ?_
    refine z_iload_n C dX4_look_14 (pc' := 15) rfl rfl rfl ?_
    refine z_aald C hK (by decide) kC_1 (t0 := 1) rfl (j := k) rfl (by omega) (by decide) rfl dX4_look_15 (pc' := 16) rfl ?_
    refine z_callI C hK (m_X3_milesLeft l hI _ (k := k) (by omega)) AdS_in aw_254 aw_255 aw_256 aw_31 aw_257 (pW_lt (by omega)) (kC_W k) rfl (nA := 0) (by decide +kernel) rfl ⟨Nat.le_of_ble_eq_true rfl, Nat.le_of_ble_eq_true rfl⟩ (rest := []) rfl (Nat.le_of_ble_eq_true rfl) ⟨Nat.zero_le _, Nat.zero_le _⟩ dX4_look_16 (pc' := 19) rfl (fun r_16 u_16 h_16 => ?_)
    obtain ⟨hr_16, hu_16⟩ := h_16
    rw [hr_16, hu_16]
    refine z_istore_n (L' := [.ref _, .int _, .int _]) C dX4_look_19 (pc' := 20) rfl rfl (by decide) (Nat.le_of_ble_eq_true rfl) rfl ?_
    refine z_aload_n C dX4_look_20 (pc' := 21) rfl rfl rfl ?_
    refine z_get C hK (by decide) kC_0 rfl inAX4 (k := 0) (by decide) aw_145 rfl dX4_look_21 (pc' := 24) rfl ?_
    refine z_iload_n C dX4_look_24 (pc' := 25) rfl rfl rfl ?_
    refine z_aald C hK (by decide) kC_1 (t0 := 1) rfl (j := k) rfl (by omega) (by decide) rfl dX4_look_25 (pc' := 26) rfl ?_
    refine z_iconst C dX4_look_26 (pc' := 27) rfl (v := 0) (by decide) ?_
    refine z_put C hK hI AdS_in (pW_lt (by omega)) (kC_W k) (sC_W4 k _) (cellC_upW (by decide)) rfl inAX3 tyX3_ok nmX3 (k := 3) (by decide) aw_125 rfl (ty := .int) (by decide +kernel) rfl rfl (Nat.le_of_ble_eq_true rfl) dX4_look_27 (pc' := 30) rfl ?_
    refine z_iload_n C dX4_look_30 (pc' := 31) rfl rfl rfl ?_
    exact z_iret C hM dX4_look_31 (by have ek := wn_nI (k := k) (by omega); have wk := isW_nI hk; simp [f_look, g_look, ek, wk, *])
  ·
    refine z_if_ne (tgt := 10) C dX4_look_4 (pc' := 7) (by decide) rfl (fun q => absurd q (by decide)) (fun _ => ?_)
    refine z_ldc C dX4_look_7 (pc' := 9) rfl aw_399 ?_
    exact z_iret C hM dX4_look_9 (by simp [f_look, g_look, *])
set_option maxRecDepth 100000 in
set_option maxHeartbeats 400000 in
theorem m_X5_look (l : Launch) {cA : ClassId} {D : va_G} {ad : Nat → Nat} (hI : Inj 17 ad) (σ : St) (w : Int32) : CI l yX5_look cX5_look 3 .int 2 42 D [(cA, .int)] 17 ad (cellR cA ad) σ [.ref (ad 0), .int w] (fun r u => r = f_look σ w ∧ u = g_look σ w) := by
  refine CI_of (by decide +kernel) (Nat.le_of_ble_eq_true rfl) (by simp [Value.category]) ?_
  intro p e s m below meth c C hM hK
  refine z_aload_n C dX5_look_0 (pc' := 1) rfl rfl rfl ?_
  refine z_iconst C dX5_look_1 (pc' := 2) rfl (v := 0) (by decide) ?_
  refine z_put C hK hI AdS_in (by decide) kR_0 sR_th oR_th rfl inAX5 tyX5_ok nmX5 (k := 0) (by decide) aw_452 rfl (ty := .int) (by decide +kernel) rfl rfl (Nat.le_of_ble_eq_true rfl) dX5_look_2 (pc' := 5) rfl ?_
  refine z_iload_n C dX5_look_5 (pc' := 6) rfl rfl rfl ?_
  refine z_callS C (m_X5_isWheel l _) stabP aw_526 aw_527 aw_32 aw_528 (nA := 1) (by decide +kernel) rfl ⟨Nat.le_of_ble_eq_true rfl, Nat.le_of_ble_eq_true rfl⟩ (rest := []) rfl (Nat.le_of_ble_eq_true rfl) ⟨Nat.zero_le _, Nat.zero_le _⟩ dX5_look_6 (pc' := 9) rfl (fun r_6 h_6 => ?_)
  rcases h_6 with ⟨rfl, h_6⟩ | ⟨rfl, h_6⟩
  ·
    obtain ⟨k, hk, rfl⟩ := isW_of h_6
    refine z_if_ne (tgt := 15) C dX5_look_9 (pc' := 12) (by decide) rfl (fun _ => ?_) (fun q => absurd q (by decide))
    refine z_sipush C dX5_look_15 (pc' := 18) rfl (v := 1000) (by decide) ?_
    refine z_aload_n C dX5_look_18 (pc' := 19) rfl rfl rfl ?_
    refine z_get C hK (by decide) kR_0 rfl inAX5 (k := 5) (by decide) aw_457 rfl dX5_look_19 (pc' := 22) rfl ?_
    refine z_iload_n C dX5_look_22 (pc' := 23) rfl rfl rfl ?_
    refine z_iald C hK (by decide) kR_4 (t0 := 0) rfl (j := k) rfl (by omega) (by decide) rfl dX5_look_23 (pc' := 24) rfl ?_
    refine z_isub C dX5_look_24 (pc' := 25) rfl rfl ?_
    refine z_istore_n (L' := [.ref _, .int _, .int _]) C dX5_look_25 (pc' := 26) rfl rfl (by decide) (Nat.le_of_ble_eq_true rfl) rfl ?_
    refine z_aload_n C dX5_look_26 (pc' := 27) rfl rfl rfl ?_
    refine z_get C hK (by decide) kR_0 rfl inAX5 (k := 5) (by decide) aw_457 rfl dX5_look_27 (pc' := 30) rfl ?_
    refine z_iload_n C dX5_look_30 (pc' := 31) rfl rfl rfl ?_
    refine z_iconst C dX5_look_31 (pc' := 32) rfl (v := 0) (by decide) ?_
    refine z_iast C hK hI AdS_in (by decide) kR_4 sR_a4 oR_a4 (t0 := 0) rfl (j := k) rfl (by omega) (by decide) dX5_look_32 (pc' := 33) rfl ?_
    refine z_iload_n C dX5_look_33 (pc' := 34) rfl rfl rfl ?_
    exact z_iret C hM dX5_look_34 (by have ek := wn_nI (k := k) (by omega); have wk := isW_nI hk; simp [f_look, g_look, ek, wk, *])
  ·
    refine z_if_ne (tgt := 15) C dX5_look_9 (pc' := 12) (by decide) rfl (fun q => absurd q (by decide)) (fun _ => ?_)
    refine z_ldc C dX5_look_12 (pc' := 14) rfl aw_633 ?_
    exact z_iret C hM dX5_look_14 (by simp [f_look, g_look, *])
set_option maxRecDepth 100000 in
set_option maxHeartbeats 400000 in
theorem m_X4_about (l : Launch) {cA cB : ClassId} {D : va_G} {ad : Nat → Nat} (hI : Inj 67 ad) (σ : St) (w q : Int32) : CI l yX4_about cX4_about 4 .int 2 42 D [(cA, .int), (cB, .object RX3)] 67 ad (cellC cA cB ad) σ [.ref (ad 0), .int w, .int q] (fun r u => r = f_about σ w q ∧ u = σ) := by
  refine CI_of (by decide +kernel) (Nat.le_of_ble_eq_true rfl) (by simp [Value.category]) ?_
  intro p e s m below meth c C hM hK
  refine z_iload_n C dX4_about_0 (pc' := 1) rfl rfl rfl ?_
  refine z_callS C (m_X4_isWheel l _) stabP aw_177 aw_178 aw_27 aw_179 (nA := 1) (by decide +kernel) rfl ⟨Nat.le_of_ble_eq_true rfl, Nat.le_of_ble_eq_true rfl⟩ (rest := []) rfl (Nat.le_of_ble_eq_true rfl) ⟨Nat.zero_le _, Nat.zero_le _⟩ dX4_about_1 (pc' := 4) rfl (fun r_1 h_1 => ?_)
  rcases h_1 with ⟨rfl, h_1⟩ | ⟨rfl, h_1⟩
  ·
    obtain ⟨k, hk, rfl⟩ := isW_of h_1
    refine z_if_ne (tgt := 9) C dX4_about_4 (pc' := 7) (by decide) rfl (fun _ => ?_) (fun q => absurd q (by decide))
    refine z_aload_n C dX4_about_9 (pc' := 10) rfl rfl rfl ?_
    refine z_get C hK (by decide) kC_0 rfl inAX4 (k := 0) (by decide) aw_145 rfl dX4_about_10 (pc' := 13) rfl ?_
    refine z_iload_n C dX4_about_13 (pc' := 14) rfl rfl rfl ?_
    refine z_aald C hK (by decide) kC_1 (t0 := 1) rfl (j := k) rfl (by omega) (by decide) rfl dX4_about_14 (pc' := 15) rfl ?_
    refine z_astore_n (L' := [.ref _, .int _, .int _, .ref _]) C dX4_about_15 (pc' := 16) rfl rfl (by decide) (Nat.le_of_ble_eq_true rfl) rfl ?_
    refine z_iload_n C dX4_about_16 (pc' := 17) rfl rfl rfl ?_
    rcases sw_cases (n := 7) (by omega) q with ⟨j, hj, rfl⟩ | hj
    ·
      rcases (show j = 0 ∨ j = 1 ∨ j = 2 ∨ j = 3 ∨ j = 4 ∨ j = 5 ∨ j = 6 ∨ j = 7 by omega) with rfl | rfl | rfl | rfl | rfl | rfl | rfl | rfl
      ·
        refine z_tin C dX4_about_17 (by decide) (by decide) (off := 47) (by decide) (pc' := 64) (by decide) ?_
        refine z_aload_n C dX4_about_64 (pc' := 65) rfl rfl rfl ?_
        refine z_get C hK (pW_lt (by omega)) (kC_W k) rfl inAX3 (k := 1) (by decide) aw_122 rfl dX4_about_65 (pc' := 68) rfl ?_
        exact z_iret C hM dX4_about_68 (by have w := isW_nI hk; exact ⟨by rw [f_about, if_pos ⟨w, by decide⟩, wn_nI (show k < 2 ^ 31 by omega)]; rfl, rfl⟩)
      ·
        refine z_tin C dX4_about_17 (by decide) (by decide) (off := 52) (by decide) (pc' := 69) (by decide) ?_
        refine z_aload_n C dX4_about_69 (pc' := 70) rfl rfl rfl ?_
        refine z_get C hK (pW_lt (by omega)) (kC_W k) rfl inAX3 (k := 0) (by decide) aw_120 rfl dX4_about_70 (pc' := 73) rfl ?_
        refine z_iload_n C dX4_about_73 (pc' := 74) rfl rfl rfl ?_
        refine z_iconst C dX4_about_74 (pc' := 75) rfl (v := 1) (by decide) ?_
        refine z_isub C dX4_about_75 (pc' := 76) rfl (z := 0) (by decide) ?_
        refine z_iald C hK (pD_lt (by omega)) (kC_D k) (t0 := 0) rfl (j := 0) rfl (by decide) (by decide) rfl dX4_about_76 (pc' := 77) rfl ?_
        exact z_iret C hM dX4_about_77 (by have w := isW_nI hk; exact ⟨by rw [f_about, if_pos ⟨w, by decide⟩, wn_nI (show k < 2 ^ 31 by omega)]; rfl, rfl⟩)
      ·
        refine z_tin C dX4_about_17 (by decide) (by decide) (off := 52) (by decide) (pc' := 69) (by decide) ?_
        refine z_aload_n C dX4_about_69 (pc' := 70) rfl rfl rfl ?_
        refine z_get C hK (pW_lt (by omega)) (kC_W k) rfl inAX3 (k := 0) (by decide) aw_120 rfl dX4_about_70 (pc' := 73) rfl ?_
        refine z_iload_n C dX4_about_73 (pc' := 74) rfl rfl rfl ?_
        refine z_iconst C dX4_about_74 (pc' := 75) rfl (v := 1) (by decide) ?_
        refine z_isub C dX4_about_75 (pc' := 76) rfl (z := 1) (by decide) ?_
        refine z_iald C hK (pD_lt (by omega)) (kC_D k) (t0 := 0) rfl (j := 1) rfl (by decide) (by decide) rfl dX4_about_76 (pc' := 77) rfl ?_
        exact z_iret C hM dX4_about_77 (by have w := isW_nI hk; exact ⟨by rw [f_about, if_pos ⟨w, by decide⟩, wn_nI (show k < 2 ^ 31 by omega)]; rfl, rfl⟩)
      ·
        refine z_tin C dX4_about_17 (by decide) (by decide) (off := 52) (by decide) (pc' := 69) (by decide) ?_
        refine z_aload_n C dX4_about_69 (pc' := 70) rfl rfl rfl ?_
        refine z_get C hK (pW_lt (by omega)) (kC_W k) rfl inAX3 (k := 0) (by decide) aw_120 rfl dX4_about_70 (pc' := 73) rfl ?_
        refine z_iload_n C dX4_about_73 (pc' := 74) rfl rfl rfl ?_
        refine z_iconst C dX4_about_74 (pc' := 75) rfl (v := 1) (by decide) ?_
        refine z_isub C dX4_about_75 (pc' := 76) rfl (z := 2) (by decide) ?_
        refine z_iald C hK (pD_lt (by omega)) (kC_D k) (t0 := 0) rfl (j := 2) rfl (by decide) (by decide) rfl dX4_about_76 (pc' := 77) rfl ?_
        exact z_iret C hM dX4_about_77 (by have w := isW_nI hk; exact ⟨by rw [f_about, if_pos ⟨w, by decide⟩, wn_nI (show k < 2 ^ 31 by omega)]; rfl, rfl⟩)
      ·
        refine z_tin C dX4_about_17 (by decide) (by decide) (off := 52) (by decide) (pc' := 69) (by decide) ?_
        refine z_aload_n C dX4_about_69 (pc' := 70) rfl rfl rfl ?_
        refine z_get C hK (pW_lt (by omega)) (kC_W k) rfl inAX3 (k := 0) (by decide) aw_120 rfl dX4_about_70 (pc' := 73) rfl ?_
        refine z_iload_n C dX4_about_73 (pc' := 74) rfl rfl rfl ?_
        refine z_iconst C dX4_about_74 (pc' := 75) rfl (v := 1) (by decide) ?_
        refine z_isub C dX4_about_75 (pc' := 76) rfl (z := 3) (by decide) ?_
        refine z_iald C hK (pD_lt (by omega)) (kC_D k) (t0 := 0) rfl (j := 3) rfl (by decide) (by decide) rfl dX4_about_76 (pc' := 77) rfl ?_
        exact z_iret C hM dX4_about_77 (by have w := isW_nI hk; exact ⟨by rw [f_about, if_pos ⟨w, by decide⟩, wn_nI (show k < 2 ^ 31 by omega)]; rfl, rfl⟩)
      ·
        refine z_tin C dX4_about_17 (by decide) (by decide) (off := 52) (by decide) (pc' := 69) (by decide) ?_
        refine z_aload_n C dX4_about_69 (pc' := 70) rfl rfl rfl ?_
        refine z_get C hK (pW_lt (by omega)) (kC_W k) rfl inAX3 (k := 0) (by decide) aw_120 rfl dX4_about_70 (pc' := 73) rfl ?_
        refine z_iload_n C dX4_about_73 (pc' := 74) rfl rfl rfl ?_
        refine z_iconst C dX4_about_74 (pc' := 75) rfl (v := 1) (by decide) ?_
        refine z_isub C dX4_about_75 (pc' := 76) rfl (z := 4) (by decide) ?_
        refine z_iald C hK (pD_lt (by omega)) (kC_D k) (t0 := 0) rfl (j := 4) rfl (by decide) (by decide) rfl dX4_about_76 (pc' := 77) rfl ?_
        exact z_iret C hM dX4_about_77 (by have w := isW_nI hk; exact ⟨by rw [f_about, if_pos ⟨w, by decide⟩, wn_nI (show k < 2 ^ 31 by omega)]; rfl, rfl⟩)
      ·
        refine z_tin C dX4_about_17 (by decide) (by decide) (off := 61) (by decide) (pc' := 78) (by decide) ?_
        refine z_aload_n C dX4_about_78 (pc' := 79) rfl rfl rfl ?_
        refine z_get C hK (pW_lt (by omega)) (kC_W k) rfl inAX3 (k := 2) (by decide) aw_123 rfl dX4_about_79 (pc' := 82) rfl ?_
        exact z_iret C hM dX4_about_82 (by have w := isW_nI hk; exact ⟨by rw [f_about, if_pos ⟨w, by decide⟩, wn_nI (show k < 2 ^ 31 by omega)]; rfl, rfl⟩)
      ·
        refine z_tin C dX4_about_17 (by decide) (by decide) (off := 66) (by decide) (pc' := 83) (by decide) ?_
        refine z_aload_n C dX4_about_83 (pc' := 84) rfl rfl rfl ?_
        refine z_get C hK (pW_lt (by omega)) (kC_W k) rfl inAX3 (k := 3) (by decide) aw_125 rfl dX4_about_84 (pc' := 87) rfl ?_
        exact z_iret C hM dX4_about_87 (by have w := isW_nI hk; exact ⟨by rw [f_about, if_pos ⟨w, by decide⟩, wn_nI (show k < 2 ^ 31 by omega)]; rfl, rfl⟩)
    ·
      refine z_tout C dX4_about_17 hj (pc' := 88) (by decide) ?_
      refine z_iconst C dX4_about_88 (pc' := 89) rfl (v := (-1)) (by decide) ?_
      exact z_iret C hM dX4_about_89 (by refine ⟨(if_neg fun z => ?_).symm, rfl⟩; have z2 := z.2; simp only [inR, i32_le] at z2; have e0 : (0 : Int32).toInt = 0 := rfl; have e7 : (7 : Int32).toInt = 7 := rfl; omega)
  ·
    refine z_if_ne (tgt := 9) C dX4_about_4 (pc' := 7) (by decide) rfl (fun q => absurd q (by decide)) (fun _ => ?_)
    refine z_iconst C dX4_about_7 (pc' := 8) rfl (v := (-1)) (by decide) ?_
    exact z_iret C hM dX4_about_8 (by simp [f_about, *])
set_option maxRecDepth 100000 in
set_option maxHeartbeats 400000 in
theorem m_X5_about (l : Launch) {cA : ClassId} {D : va_G} {ad : Nat → Nat} (hI : Inj 17 ad) (σ : St) (w q : Int32) : CI l yX5_about cX5_about 3 .int 2 42 D [(cA, .int)] 17 ad (cellR cA ad) σ [.ref (ad 0), .int w, .int q] (fun r u => r = f_about σ w q ∧ u = σ) := by
  refine CI_of (by decide +kernel) (Nat.le_of_ble_eq_true rfl) (by simp [Value.category]) ?_
  intro p e s m below meth c C hM hK
  refine z_aload_n C dX5_about_0 (pc' := 1) rfl rfl rfl ?_
  refine z_iconst C dX5_about_1 (pc' := 2) rfl (v := 0) (by decide) ?_
  refine z_put C hK hI AdS_in (by decide) kR_0 sR_th oR_th rfl inAX5 tyX5_ok nmX5 (k := 0) (by decide) aw_452 rfl (ty := .int) (by decide +kernel) rfl rfl (Nat.le_of_ble_eq_true rfl) dX5_about_2 (pc' := 5) rfl ?_
  refine z_iload_n C dX5_about_5 (pc' := 6) rfl rfl rfl ?_
  refine z_callS C (m_X5_isWheel l _) stabP aw_526 aw_527 aw_32 aw_528 (nA := 1) (by decide +kernel) rfl ⟨Nat.le_of_ble_eq_true rfl, Nat.le_of_ble_eq_true rfl⟩ (rest := []) rfl (Nat.le_of_ble_eq_true rfl) ⟨Nat.zero_le _, Nat.zero_le _⟩ dX5_about_6 (pc' := 9) rfl (fun r_6 h_6 => ?_)
  rcases h_6 with ⟨rfl, h_6⟩ | ⟨rfl, h_6⟩
  ·
    obtain ⟨k, hk, rfl⟩ := isW_of h_6
    refine z_if_eq (tgt := 22) C dX5_about_9 (pc' := 12) (by decide) rfl (fun q => absurd q (by decide)) (fun _ => ?_)
    refine z_iload_n C dX5_about_12 (pc' := 13) rfl rfl rfl ?_
    refine z_iconst C dX5_about_13 (pc' := 14) rfl (v := 0) (by decide) ?_
    refine z_bipush C dX5_about_14 (pc' := 16) rfl (v := 7) (by decide) ?_
    refine z_callS C (m_X5_in l _ _ _) stabP aw_529 aw_530 aw_32 aw_531 (nA := 3) (by decide +kernel) rfl ⟨Nat.le_of_ble_eq_true rfl, Nat.le_of_ble_eq_true rfl⟩ (rest := []) rfl (Nat.le_of_ble_eq_true rfl) ⟨Nat.zero_le _, Nat.zero_le _⟩ dX5_about_16 (pc' := 19) rfl (fun r_16 h_16 => ?_)
    rcases h_16 with ⟨rfl, h_16⟩ | ⟨rfl, h_16⟩
    ·
      obtain ⟨j, hj, rfl⟩ := inR_of (n := 7) (by omega) h_16
      refine z_if_ne (tgt := 24) C dX5_about_19 (pc' := 22) (by decide) rfl (fun _ => ?_) (fun q => absurd q (by decide))
      refine z_iload_n C dX5_about_24 (pc' := 25) rfl rfl rfl ?_
      refine z_if_ne (tgt := 37) C dX5_about_25 (pc' := 28) (by decide) rfl (fun c_25 => ?_) (fun c_25 => ?_)
      ·
        have n_25 : ¬ j = 0 := fun z9 => c_25 ((nI_eq0 (by omega)).mpr z9)
        refine z_iload_n C dX5_about_37 (pc' := 38) rfl rfl rfl ?_
        refine z_bipush C dX5_about_38 (pc' := 40) rfl (v := 6) (by decide) ?_
        refine z_icmp_ge (tgt := 58) C dX5_about_40 (pc' := 43) (by decide) rfl (fun c_40 => ?_) (fun c_40 => ?_)
        ·
          have n_40 : 6 ≤ j := ge_of_le (N := 6) (k := j) c_40 (by omega) (by omega)
          refine z_iload_n C dX5_about_58 (pc' := 59) rfl rfl rfl ?_
          refine z_bipush C dX5_about_59 (pc' := 61) rfl (v := 6) (by decide) ?_
          refine z_icmp_ne (tgt := 73) C dX5_about_61 (pc' := 64) (by decide) rfl (fun c_61 => ?_) (fun c_61 => ?_)
          ·
            have n_61 : ¬ j = 6 := fun z9 => c_61 ((nI_eq (a := j) (b := 6) (by omega) (by omega)).mpr z9)
            refine z_aload_n C dX5_about_73 (pc' := 74) rfl rfl rfl ?_
            refine z_get C hK (by decide) kR_0 rfl inAX5 (k := 5) (by decide) aw_457 rfl dX5_about_74 (pc' := 77) rfl ?_
            refine z_iload_n C dX5_about_77 (pc' := 78) rfl rfl rfl ?_
            refine z_iald C hK (by decide) kR_4 (t0 := 0) rfl (j := k) rfl (by omega) (by decide) rfl dX5_about_78 (pc' := 79) rfl ?_
            exact z_iret C hM dX5_about_79 (by have e := wn_nI (k := k) (by omega); have e2 := wn_nI (k := j) (by omega); have w := isW_nI hk; have w2 := inR_nI (n := 7) hj (by omega); refine ⟨?_, rfl⟩; rw [f_about, if_pos ⟨w, w2⟩, e, e2]; first | (simp [aboutN, *]; done) | (simp [aboutN, *]; intros; omega))
          ·
            have n_61 : j = 6 := (nI_eq (a := j) (b := 6) (by omega) (by omega)).mp c_61
            refine z_aload_n C dX5_about_64 (pc' := 65) rfl rfl rfl ?_
            refine z_get C hK (by decide) kR_0 rfl inAX5 (k := 4) (by decide) aw_456 rfl dX5_about_65 (pc' := 68) rfl ?_
            refine z_iload_n C dX5_about_68 (pc' := 69) rfl rfl rfl ?_
            refine z_iald C hK (by decide) kR_3 (t0 := 0) rfl (j := k) rfl (by omega) (by decide) rfl dX5_about_69 (pc' := 70) rfl ?_
            refine z_goto C dX5_about_70 (pc' := 79) (by decide) ?_
            exact z_iret C hM dX5_about_79 (by have e := wn_nI (k := k) (by omega); have e2 := wn_nI (k := j) (by omega); have w := isW_nI hk; have w2 := inR_nI (n := 7) hj (by omega); refine ⟨?_, rfl⟩; rw [f_about, if_pos ⟨w, w2⟩, e, e2]; first | (simp [aboutN, *]; done) | (simp [aboutN, *]; intros; omega))
        ·
          have n_40 : j < 6 := lt_of_nle (N := 6) (k := j) c_40 (by omega) (by omega)
          refine z_aload_n C dX5_about_43 (pc' := 44) rfl rfl rfl ?_
          refine z_get C hK (by decide) kR_0 rfl inAX5 (k := 3) (by decide) aw_455 rfl dX5_about_44 (pc' := 47) rfl ?_
          refine z_iconst C dX5_about_47 (pc' := 48) rfl (v := 5) (by decide) ?_
          refine z_iload_n C dX5_about_48 (pc' := 49) rfl rfl rfl ?_
          refine z_imul C dX5_about_49 (pc' := 50) rfl (pk_mul (5) (k)) ?_
          refine z_iload_n C dX5_about_50 (pc' := 51) rfl rfl rfl ?_
          refine z_iadd C dX5_about_51 (pc' := 52) rfl (nI_add ((5 * k)) (j)) ?_
          refine z_iconst C dX5_about_52 (pc' := 53) rfl (v := 1) (by decide) ?_
          refine z_isub C dX5_about_53 (pc' := 54) rfl (z := nI (5 * k + (j - 1))) (by rw [show (1 : Int32) = nI 1 from rfl, pk_sub (by omega)]; congr 1; omega) ?_
          refine z_iald C hK (by decide) kR_2 (t0 := 0) rfl (j := (5 * k + (j - 1))) rfl (by omega) (by decide) (rDB _ (by omega)) dX5_about_54 (pc' := 55) rfl ?_
          refine z_goto C dX5_about_55 (pc' := 79) (by decide) ?_
          exact z_iret C hM dX5_about_79 (by have e := wn_nI (k := k) (by omega); have e2 := wn_nI (k := j) (by omega); have w := isW_nI hk; have w2 := inR_nI (n := 7) hj (by omega); refine ⟨?_, rfl⟩; rw [f_about, if_pos ⟨w, w2⟩, e, e2]; first | (simp [aboutN, *]; done) | (simp [aboutN, *]; intros; omega))
      ·
        have n_25 : j = 0 := (nI_eq0 (by omega)).mp c_25
        refine z_aload_n C dX5_about_28 (pc' := 29) rfl rfl rfl ?_
        refine z_get C hK (by decide) kR_0 rfl inAX5 (k := 2) (by decide) aw_454 rfl dX5_about_29 (pc' := 32) rfl ?_
        refine z_iload_n C dX5_about_32 (pc' := 33) rfl rfl rfl ?_
        refine z_iald C hK (by decide) kR_1 (t0 := 0) rfl (j := k) rfl (by omega) (by decide) rfl dX5_about_33 (pc' := 34) rfl ?_
        refine z_goto C dX5_about_34 (pc' := 79) (by decide) ?_
        exact z_iret C hM dX5_about_79 (by have e := wn_nI (k := k) (by omega); have e2 := wn_nI (k := j) (by omega); have w := isW_nI hk; have w2 := inR_nI (n := 7) hj (by omega); refine ⟨?_, rfl⟩; rw [f_about, if_pos ⟨w, w2⟩, e, e2]; first | (simp [aboutN, *]; done) | (simp [aboutN, *]; intros; omega))
    ·
      refine z_if_ne (tgt := 24) C dX5_about_19 (pc' := 22) (by decide) rfl (fun q => absurd q (by decide)) (fun _ => ?_)
      refine z_iconst C dX5_about_22 (pc' := 23) rfl (v := (-1)) (by decide) ?_
      exact z_iret C hM dX5_about_23 (by simp [f_about, *])
  ·
    refine z_if_eq (tgt := 22) C dX5_about_9 (pc' := 12) (by decide) rfl (fun _ => ?_) (fun q => absurd q (by decide))
    refine z_iconst C dX5_about_22 (pc' := 23) rfl (v := (-1)) (by decide) ?_
    exact z_iret C hM dX5_about_23 (by simp [f_about, *])
set_option maxRecDepth 100000 in
set_option maxHeartbeats 400000 in
theorem m_X4_trace (l : Launch) {cA cB : ClassId} {D : va_G} {ad : Nat → Nat} (hI : Inj 67 ad) (σ : St)  : CL l yX4_trace cX4_trace 1 0 0 D [(cA, .int), (cB, .object RX3)] 67 ad (cellC cA cB ad) σ [.ref (ad 0)] (fun r u => r = (σ 0 3).toInt64 ∧ u = σ) := by
  refine CL_of (by decide +kernel) (Nat.le_of_ble_eq_true rfl) (by simp [Value.category]) ?_
  intro p e s m below meth c C hM hK
  refine z_aload_n C dX4_trace_0 (pc' := 1) rfl rfl rfl ?_
  refine z_get C hK (by decide) kC_0 rfl inAX4 (k := 8) (by decide) aw_153 rfl dX4_trace_1 (pc' := 4) rfl ?_
  exact z_lret C hM dX4_trace_4 ⟨rfl, rfl⟩
set_option maxRecDepth 100000 in
set_option maxHeartbeats 400000 in
theorem m_X5_trace (l : Launch) {cA : ClassId} {D : va_G} {ad : Nat → Nat} (hI : Inj 17 ad) (σ : St)  : CL l yX5_trace cX5_trace 1 0 0 D [(cA, .int)] 17 ad (cellR cA ad) σ [.ref (ad 0)] (fun r u => r = (σ 0 3).toInt64 ∧ u = σ) := by
  refine CL_of (by decide +kernel) (Nat.le_of_ble_eq_true rfl) (by simp [Value.category]) ?_
  intro p e s m below meth c C hM hK
  refine z_aload_n C dX5_trace_0 (pc' := 1) rfl rfl rfl ?_
  refine z_iconst C dX5_trace_1 (pc' := 2) rfl (v := 0) (by decide) ?_
  refine z_put C hK hI AdS_in (by decide) kR_0 sR_th oR_th rfl inAX5 tyX5_ok nmX5 (k := 0) (by decide) aw_452 rfl (ty := .int) (by decide +kernel) rfl rfl (Nat.le_of_ble_eq_true rfl) dX5_trace_2 (pc' := 5) rfl ?_
  refine z_aload_n C dX5_trace_5 (pc' := 6) rfl rfl rfl ?_
  refine z_get C hK (by decide) kR_0 rfl inAX5 (k := 1) (by decide) aw_453 rfl dX5_trace_6 (pc' := 9) rfl ?_
  exact z_lret C hM dX5_trace_9 ⟨rfl, rfl⟩
end
section
/-! cuts, turnings, miles, passes -/
def mx (x y : Int32) : Int32 := if x < y then y else x
def mn (x y : Int32) : Int32 := if y < x then y else x
def gdC (f : Nat → Int32) : Nat → Int32
  | 0 => f 0
  | n + 1 => mx (gdC f n) (f (n + 1))
def ldC (f : Nat → Int32) : Nat → Int32
  | 0 => f 0
  | n + 1 => mn (ldC f n) (f (n + 1))
def fullN (f : Nat → Int32) : Int32 := gdC f 4 - ldC f 4
def thinN (f : Nat → Int32) (th : Int32) : Int32 := if f 0 = gdC f 4 then mx 0 (fullN f - th) else fullN f
def evenN (f : Nat → Int32) (th : Int32) : Int32 := thinN f th + (thinN f th - thinN f th / 2 * 2)
def needN (f : Nat → Int32) (kd : Nat) (th : Int32) : Int32 := if kd = 0 then fullN f else if kd = 1 then thinN f th else evenN f th
def tkL (σ : St) (c : Nat) (gone : Int32) : Nat → St
  | 0 => σ
  | n + 1 => up2 (tkL σ c gone n) c n (mx 0 (tkL σ c gone n c n - gone))
def g_take (σ : St) (k : Nat) (cut lst : Int32) : St := up2 (up2 (tkL σ (100 + 2 * k) (lst + cut) 5) 1 k (tkL σ (100 + 2 * k) (lst + cut) 5 1 k - 2 * cut)) 4 k 0
def g_turn (σ : St) (k : Nat) (cut lst : Int32) : St := up2 (g_take σ k cut lst) 0 2 (g_take σ k cut lst 0 2 + 1)
def rnL (σ : St) (c : Nat) (x : Int32) : Nat → St
  | 0 => σ
  | n + 1 => up2 (rnL σ c x n) c n (mn 99 (rnL σ c x n c n + (if n = 0 ∨ n = 4 then x / 2 else x)))
def wornF (σ : St) (k : Nat) (n : Int32) : Int32 := σ 3 k * n / 100
def rn1 (σ : St) (k : Nat) (n : Int32) : St := rnL σ (100 + 2 * k) (wornF σ k n) 5
def rn2 (σ : St) (k : Nat) (n : Int32) : St := up2 (rn1 σ k n) 1 k (mx 6000 (rn1 σ k n 1 k - wornF σ k n))
def runS (σ : St) (k : Nat) (n : Int32) : St := up2 (rn2 σ k n) 4 k (rn2 σ k n 4 k + n)
def mlS (σ : St) (n : Int32) : Nat → St
  | 0 => σ
  | k + 1 => runS (mlS σ n k) k n
def dueC (σ : St) (n : Int32) : Nat → Int32
  | 0 => 0
  | k + 1 => if 0 < 1000 - mlS σ n (k + 1) 4 k then dueC σ n k else dueC σ n k + 1
def cntB (σ : St) (k : Nat) (bar : Int32) : Nat → Int32
  | 0 => 0
  | i + 1 => if σ (101 + 2 * k) i < bar then cntB σ k bar i else cntB σ k bar i + 1
def fl (σ : St) (k b : Nat) : Int32 := if cntB σ k (σ 0 1) b < 3 then 0 else 1
def sumF (g : Nat → Int32) : Nat → Int32
  | 0 => 0
  | k + 1 => sumF g k + g k
def flC (σ : St) (k : Nat) : Int32 := fl σ k (wn (σ 21 k))
def flR (σ : St) (k : Nat) : Int32 := fl σ k (min 5 (wn (σ 11 k)))
def okB (σ : St) : Prop := ∀ k : Nat, k < 16 → ∃ b : Nat, b ≤ 5 ∧ σ 21 k = nI b
def okP (σ : St) : Prop := ∀ k : Nat, k < 16 → ∃ b : Nat, b < 1000000 ∧ σ 11 k = nI b
def cntN (σ : St) (tot : Int32) (j : Nat) : Int32 := if j = 0 then σ 0 4 else if j = 1 then σ 0 5 else if j = 2 then tot else if j = 3 then σ 0 0 else if j = 4 then σ 0 1 else σ 0 2
def f_count (σ : St) (tot q : Int32) : Int32 := if inR q 0 5 then cntN σ tot (wn q) else -1
def g_feel (σ : St) (k o : Nat) (v : Int32) : St := up2 (up2 (up2 σ (101 + 2 * k) o v) 22 k (if o = 4 then 0 else nI (o + 1))) 21 k (mn 5 (σ 21 k + 1))
theorem flC_of {σ : St} {k b : Nat} (h : σ 21 k = nI b) (hb : b ≤ 5) : flC σ k = fl σ k b := by unfold flC; rw [h, wn_nI (by omega)]
theorem flR_of {σ : St} {k b : Nat} (h : σ 11 k = nI b) (hb : b < 1000000) : flR σ k = fl σ k (min 5 b) := by unfold flR; rw [h, wn_nI (by omega)]
set_option maxRecDepth 100000 in
set_option maxHeartbeats 400000 in
theorem m_X2_store (l : Launch) {cA cB : ClassId} {D : va_G} {ad : Nat → Nat} (hI : Inj 67 ad) (σ : St) {n : Nat} (hn : n < 8) (e4 : σ 0 4 = nI n) (v : Int32) : CI l yX2_store cX2_store 2 .int 0 0 D [(cA, .int), (cB, .object RX3)] 67 ad (cellC cA cB ad) σ [.ref (ad 5), .int v] (fun r u => r = nI n ∧ u = up2 (up2 σ 6 n v) 0 4 (nI n + 1)) := by
  refine CI_of (by decide +kernel) (Nat.le_of_ble_eq_true rfl) (by simp [Value.category]) ?_
  intro p e s m below meth c C hM hK
  refine z_aload_n C dX2_store_0 (pc' := 1) rfl rfl rfl ?_
  refine z_get C hK (by decide) kC_5 rfl inAX2 (k := 1) (by decide) aw_64 rfl dX2_store_1 (pc' := 4) rfl ?_
  refine z_aload_n C dX2_store_4 (pc' := 5) rfl rfl rfl ?_
  refine z_get C hK (by decide) kC_5 rfl inAX2 (k := 0) (by decide) aw_62 rfl dX2_store_5 (pc' := 8) rfl ?_
  refine z_top (y := nI n) (by simp [up2, e4]) ?_
  refine z_iload_n C dX2_store_8 (pc' := 9) rfl rfl rfl ?_
  refine z_iast C hK hI AdS_in (by decide) kC_6 sC_a6 oC_a6 (t0 := 0) rfl (j := n) rfl (by omega) (by decide) dX2_store_9 (pc' := 10) rfl ?_
  refine z_aload_n C dX2_store_10 (pc' := 11) rfl rfl rfl ?_
  refine z_dup C dX2_store_11 (pc' := 12) rfl rfl ?_
  refine z_get C hK (by decide) kC_5 rfl inAX2 (k := 0) (by decide) aw_62 rfl dX2_store_12 (pc' := 15) rfl ?_
  refine z_top (y := nI n) (by simp [up2, e4]) ?_
  refine z_iconst C dX2_store_15 (pc' := 16) rfl (v := 1) (by decide) ?_
  refine z_iadd C dX2_store_16 (pc' := 17) rfl (nI_add (n) (1)) ?_
  refine z_put C hK hI AdS_in (by decide) kC_5 sC_04 oC_04 rfl inAX2 tyX2_ok nmX2 (k := 0) (by decide) aw_62 rfl (ty := .int) (by decide +kernel) rfl rfl (Nat.le_of_ble_eq_true rfl) dX2_store_17 (pc' := 20) rfl ?_
  refine z_aload_n C dX2_store_20 (pc' := 21) rfl rfl rfl ?_
  refine z_get C hK (by decide) kC_5 rfl inAX2 (k := 0) (by decide) aw_62 rfl dX2_store_21 (pc' := 24) rfl ?_
  refine z_top (y := nI (n + 1)) (by simp [up2]) ?_
  refine z_iconst C dX2_store_24 (pc' := 25) rfl (v := 1) (by decide) ?_
  refine z_isub C dX2_store_25 (pc' := 26) rfl (z := nI n) (nI_pred n) ?_
  exact z_iret C hM dX2_store_26 (by simp [nI_1, up2])
set_option maxRecDepth 100000 in
set_option maxHeartbeats 400000 in
theorem m_X4_spare (l : Launch) {cA cB : ClassId} {D : va_G} {ad : Nat → Nat} (hI : Inj 67 ad) (σ : St) {n : Nat} (hn : n ≤ 8) (e4 : σ 0 4 = nI n) (v : Int32) : CI l yX4_spare cX4_spare 2 .int 1 22 D [(cA, .int), (cB, .object RX3)] 67 ad (cellC cA cB ad) σ [.ref (ad 0), .int v] (fun r u => r = f_spare σ v ∧ u = g_spare σ v) := by
  refine CI_of (by decide +kernel) (Nat.le_of_ble_eq_true rfl) (by simp [Value.category]) ?_
  intro p e s m below meth c C hM hK
  refine z_iload_n C dX4_spare_0 (pc' := 1) rfl rfl rfl ?_
  refine z_sipush C dX4_spare_1 (pc' := 4) rfl (v := 6000) (by decide) ?_
  refine z_sipush C dX4_spare_4 (pc' := 7) rfl (v := 9200) (by decide) ?_
  refine z_callS C (m_X4_within l _ _ _) stabP aw_180 aw_181 aw_27 aw_182 (nA := 3) (by decide +kernel) rfl ⟨Nat.le_of_ble_eq_true rfl, Nat.le_of_ble_eq_true rfl⟩ (rest := []) rfl (Nat.le_of_ble_eq_true rfl) ⟨Nat.zero_le _, Nat.zero_le _⟩ dX4_spare_7 (pc' := 10) rfl (fun r_7 h_7 => ?_)
  rcases h_7 with ⟨rfl, h_7⟩ | ⟨rfl, h_7⟩
  ·
    refine z_if_ne (tgt := 15) C dX4_spare_10 (pc' := 13) (by decide) rfl (fun _ => ?_) (fun q => absurd q (by decide))
    refine z_aload_n C dX4_spare_15 (pc' := 16) rfl rfl rfl ?_
    refine z_get C hK (by decide) kC_0 rfl inAX4 (k := 2) (by decide) aw_147 rfl dX4_spare_16 (pc' := 19) rfl ?_
    refine z_get C hK (by decide) kC_5 rfl inAX2 (k := 0) (by decide) aw_63 rfl dX4_spare_19 (pc' := 22) rfl ?_
    refine z_top (y := nI n) (by simp [up2, e4]) ?_
    refine z_bipush C dX4_spare_22 (pc' := 24) rfl (v := 8) (by decide) ?_
    refine z_icmp_ne (tgt := 30) C dX4_spare_24 (pc' := 27) (by decide) rfl (fun c_24 => ?_) (fun c_24 => ?_)
    ·
      have n_24 : ¬ n = 8 := fun z9 => c_24 ((nI_eq (a := n) (b := 8) (by omega) (by omega)).mpr z9)
      refine z_aload_n C dX4_spare_30 (pc' := 31) rfl rfl rfl ?_
      refine z_get C hK (by decide) kC_0 rfl inAX4 (k := 2) (by decide) aw_147 rfl dX4_spare_31 (pc' := 34) rfl ?_
      refine z_iload_n C dX4_spare_34 (pc' := 35) rfl rfl rfl ?_
      refine z_callI C hK (m_X2_store l hI _ (n := n) (by omega) e4 _) AdS_in aw_309 aw_310 aw_311 aw_29 aw_312 (by decide) kC_5 rfl (nA := 1) (by decide +kernel) rfl ⟨Nat.le_of_ble_eq_true rfl, Nat.le_of_ble_eq_true rfl⟩ (rest := []) rfl (Nat.le_of_ble_eq_true rfl) ⟨Nat.zero_le _, Nat.zero_le _⟩ dX4_spare_35 (pc' := 38) rfl (fun r_35 u_35 h_35 => ?_)
      obtain ⟨rfl, rfl⟩ := h_35
      exact z_iret C hM dX4_spare_38 (by have e := wn_nI (k := n) (by omega); simp [f_spare, g_spare, e, nI_1, *])
    ·
      have n_24 : n = 8 := (nI_eq (a := n) (b := 8) (by omega) (by omega)).mp c_24
      refine z_bipush C dX4_spare_27 (pc' := 29) rfl (v := (-3)) (by decide) ?_
      exact z_iret C hM dX4_spare_29 (by clear n_24; simp [f_spare, g_spare, *])
  ·
    refine z_if_ne (tgt := 15) C dX4_spare_10 (pc' := 13) (by decide) rfl (fun q => absurd q (by decide)) (fun _ => ?_)
    refine z_iconst C dX4_spare_13 (pc' := 14) rfl (v := (-1)) (by decide) ?_
    exact z_iret C hM dX4_spare_14 (by simp [f_spare, g_spare, *])
set_option maxRecDepth 100000 in
set_option maxHeartbeats 400000 in
theorem m_X5_spare (l : Launch) {cA : ClassId} {D : va_G} {ad : Nat → Nat} (hI : Inj 17 ad) (σ : St) {n : Nat} (hn : n ≤ 8) (e4 : σ 0 4 = nI n) (v : Int32) : CI l yX5_spare cX5_spare 2 .int 1 22 D [(cA, .int)] 17 ad (cellR cA ad) σ [.ref (ad 0), .int v] (fun r u => r = f_spare σ v ∧ u = g_spare σ v) := by
  refine CI_of (by decide +kernel) (Nat.le_of_ble_eq_true rfl) (by simp [Value.category]) ?_
  intro p e s m below meth c C hM hK
  refine z_aload_n C dX5_spare_0 (pc' := 1) rfl rfl rfl ?_
  refine z_iconst C dX5_spare_1 (pc' := 2) rfl (v := 0) (by decide) ?_
  refine z_put C hK hI AdS_in (by decide) kR_0 sR_th oR_th rfl inAX5 tyX5_ok nmX5 (k := 0) (by decide) aw_452 rfl (ty := .int) (by decide +kernel) rfl rfl (Nat.le_of_ble_eq_true rfl) dX5_spare_2 (pc' := 5) rfl ?_
  refine z_iload_n C dX5_spare_5 (pc' := 6) rfl rfl rfl ?_
  refine z_sipush C dX5_spare_6 (pc' := 9) rfl (v := 6000) (by decide) ?_
  refine z_sipush C dX5_spare_9 (pc' := 12) rfl (v := 9200) (by decide) ?_
  refine z_callS C (m_X5_in l _ _ _) stabP aw_529 aw_530 aw_32 aw_531 (nA := 3) (by decide +kernel) rfl ⟨Nat.le_of_ble_eq_true rfl, Nat.le_of_ble_eq_true rfl⟩ (rest := []) rfl (Nat.le_of_ble_eq_true rfl) ⟨Nat.zero_le _, Nat.zero_le _⟩ dX5_spare_12 (pc' := 15) rfl (fun r_12 h_12 => ?_)
  rcases h_12 with ⟨rfl, h_12⟩ | ⟨rfl, h_12⟩
  ·
    refine z_if_ne (tgt := 20) C dX5_spare_15 (pc' := 18) (by decide) rfl (fun _ => ?_) (fun q => absurd q (by decide))
    refine z_aload_n C dX5_spare_20 (pc' := 21) rfl rfl rfl ?_
    refine z_get C hK (by decide) kR_0 rfl inAX5 (k := 10) (by decide) aw_462 rfl dX5_spare_21 (pc' := 24) rfl ?_
    refine z_top (y := nI n) (by simp [up2, e4]) ?_
    refine z_bipush C dX5_spare_24 (pc' := 26) rfl (v := 8) (by decide) ?_
    refine z_icmp_ne (tgt := 32) C dX5_spare_26 (pc' := 29) (by decide) rfl (fun c_26 => ?_) (fun c_26 => ?_)
    ·
      have n_26 : ¬ n = 8 := fun z9 => c_26 ((nI_eq (a := n) (b := 8) (by omega) (by omega)).mpr z9)
      refine z_aload_n C dX5_spare_32 (pc' := 33) rfl rfl rfl ?_
      refine z_get C hK (by decide) kR_0 rfl inAX5 (k := 11) (by decide) aw_463 rfl dX5_spare_33 (pc' := 36) rfl ?_
      refine z_aload_n C dX5_spare_36 (pc' := 37) rfl rfl rfl ?_
      refine z_get C hK (by decide) kR_0 rfl inAX5 (k := 10) (by decide) aw_462 rfl dX5_spare_37 (pc' := 40) rfl ?_
      refine z_top (y := nI n) (by simp [up2, e4]) ?_
      refine z_iload_n C dX5_spare_40 (pc' := 41) rfl rfl rfl ?_
      refine z_iast C hK hI AdS_in (by decide) kR_7 sR_a7 oR_a7 (t0 := 0) rfl (j := n) rfl (by omega) (by decide) dX5_spare_41 (pc' := 42) rfl ?_
      refine z_aload_n C dX5_spare_42 (pc' := 43) rfl rfl rfl ?_
      refine z_dup C dX5_spare_43 (pc' := 44) rfl rfl ?_
      refine z_get C hK (by decide) kR_0 rfl inAX5 (k := 10) (by decide) aw_462 rfl dX5_spare_44 (pc' := 47) rfl ?_
      refine z_top (y := nI n) (by simp [up2, e4]) ?_
      refine z_iconst C dX5_spare_47 (pc' := 48) rfl (v := 1) (by decide) ?_
      refine z_iadd C dX5_spare_48 (pc' := 49) rfl (nI_add (n) (1)) ?_
      refine z_put C hK hI AdS_in (by decide) kR_0 sR_04 oR_04 rfl inAX5 tyX5_ok nmX5 (k := 10) (by decide) aw_462 rfl (ty := .int) (by decide +kernel) rfl rfl (Nat.le_of_ble_eq_true rfl) dX5_spare_49 (pc' := 52) rfl ?_
      refine z_aload_n C dX5_spare_52 (pc' := 53) rfl rfl rfl ?_
      refine z_get C hK (by decide) kR_0 rfl inAX5 (k := 10) (by decide) aw_462 rfl dX5_spare_53 (pc' := 56) rfl ?_
      refine z_top (y := nI (n + 1)) (by simp [up2]) ?_
      refine z_iconst C dX5_spare_56 (pc' := 57) rfl (v := 1) (by decide) ?_
      refine z_isub C dX5_spare_57 (pc' := 58) rfl (z := nI n) (nI_pred n) ?_
      exact z_iret C hM dX5_spare_58 (by have e := wn_nI (k := n) (by omega); simp [f_spare, g_spare, e, nI_1, *])
    ·
      have n_26 : n = 8 := (nI_eq (a := n) (b := 8) (by omega) (by omega)).mp c_26
      refine z_bipush C dX5_spare_29 (pc' := 31) rfl (v := (-3)) (by decide) ?_
      exact z_iret C hM dX5_spare_31 (by clear n_26; simp [f_spare, g_spare, *])
  ·
    refine z_if_ne (tgt := 20) C dX5_spare_15 (pc' := 18) (by decide) rfl (fun q => absurd q (by decide)) (fun _ => ?_)
    refine z_iconst C dX5_spare_18 (pc' := 19) rfl (v := (-1)) (by decide) ?_
    exact z_iret C hM dX5_spare_19 (by simp [f_spare, g_spare, *])
set_option maxRecDepth 100000 in
set_option maxHeartbeats 400000 in
theorem m_X1_tell (l : Launch) {cA cB : ClassId} {D : va_G} {ad : Nat → Nat} (hI : Inj 67 ad) (σ : St) {n : Nat} (hn : n < 20) (e5 : σ 0 5 = nI n) (w b v : Int32) : CV l yX1_tell cX1_tell 4 0 0 D [(cA, .int), (cB, .object RX3)] 67 ad (cellC cA cB ad) σ [.ref (ad 10), .int w, .int b, .int v] (fun u => u = up2 (up2 (up2 (up2 σ 7 n w) 8 n b) 9 n v) 0 5 (nI n + 1)) := by
  refine CV_of (by decide +kernel) (Nat.le_of_ble_eq_true rfl) (by simp [Value.category]) ?_
  intro p e s m below meth c C hM hK
  refine z_aload_n C dX1_tell_0 (pc' := 1) rfl rfl rfl ?_
  refine z_get C hK (by decide) kC_10 rfl inAX1 (k := 1) (by decide) aw_87 rfl dX1_tell_1 (pc' := 4) rfl ?_
  refine z_aload_n C dX1_tell_4 (pc' := 5) rfl rfl rfl ?_
  refine z_get C hK (by decide) kC_10 rfl inAX1 (k := 0) (by decide) aw_85 rfl dX1_tell_5 (pc' := 8) rfl ?_
  refine z_top (y := nI n) (by simp [up2, e5]) ?_
  refine z_iload_n C dX1_tell_8 (pc' := 9) rfl rfl rfl ?_
  refine z_iast C hK hI AdS_in (by decide) kC_11 sC_a11 oC_a11 (t0 := 0) rfl (j := n) rfl (by omega) (by decide) dX1_tell_9 (pc' := 10) rfl ?_
  refine z_aload_n C dX1_tell_10 (pc' := 11) rfl rfl rfl ?_
  refine z_get C hK (by decide) kC_10 rfl inAX1 (k := 2) (by decide) aw_88 rfl dX1_tell_11 (pc' := 14) rfl ?_
  refine z_aload_n C dX1_tell_14 (pc' := 15) rfl rfl rfl ?_
  refine z_get C hK (by decide) kC_10 rfl inAX1 (k := 0) (by decide) aw_85 rfl dX1_tell_15 (pc' := 18) rfl ?_
  refine z_top (y := nI n) (by simp [up2, e5]) ?_
  refine z_iload_n C dX1_tell_18 (pc' := 19) rfl rfl rfl ?_
  refine z_iast C hK hI AdS_in (by decide) kC_12 sC_a12 oC_a12 (t0 := 0) rfl (j := n) rfl (by omega) (by decide) dX1_tell_19 (pc' := 20) rfl ?_
  refine z_aload_n C dX1_tell_20 (pc' := 21) rfl rfl rfl ?_
  refine z_get C hK (by decide) kC_10 rfl inAX1 (k := 3) (by decide) aw_89 rfl dX1_tell_21 (pc' := 24) rfl ?_
  refine z_aload_n C dX1_tell_24 (pc' := 25) rfl rfl rfl ?_
  refine z_get C hK (by decide) kC_10 rfl inAX1 (k := 0) (by decide) aw_85 rfl dX1_tell_25 (pc' := 28) rfl ?_
  refine z_top (y := nI n) (by simp [up2, e5]) ?_
  refine z_iload_n C dX1_tell_28 (pc' := 29) rfl rfl rfl ?_
  refine z_iast C hK hI AdS_in (by decide) kC_13 sC_a13 oC_a13 (t0 := 0) rfl (j := n) rfl (by omega) (by decide) dX1_tell_29 (pc' := 30) rfl ?_
  refine z_aload_n C dX1_tell_30 (pc' := 31) rfl rfl rfl ?_
  refine z_dup C dX1_tell_31 (pc' := 32) rfl rfl ?_
  refine z_get C hK (by decide) kC_10 rfl inAX1 (k := 0) (by decide) aw_85 rfl dX1_tell_32 (pc' := 35) rfl ?_
  refine z_top (y := nI n) (by simp [up2, e5]) ?_
  refine z_iconst C dX1_tell_35 (pc' := 36) rfl (v := 1) (by decide) ?_
  refine z_iadd C dX1_tell_36 (pc' := 37) rfl (nI_add (n) (1)) ?_
  refine z_put C hK hI AdS_in (by decide) kC_10 sC_05 oC_05 rfl inAX1 tyX1_ok nmX1 (k := 0) (by decide) aw_85 rfl (ty := .int) (by decide +kernel) rfl rfl (Nat.le_of_ble_eq_true rfl) dX1_tell_37 (pc' := 40) rfl ?_
  exact z_vret C hM dX1_tell_40 (by simp [nI_1])
set_option maxRecDepth 100000 in
set_option maxHeartbeats 400000 in
theorem m_X4_read (l : Launch) {cA cB : ClassId} {D : va_G} {ad : Nat → Nat} (hI : Inj 67 ad) (σ : St) {n : Nat} (hn : n ≤ 20) (e5 : σ 0 5 = nI n) (w b v : Int32) : CI l yX4_read cX4_read 4 .int 2 42 D [(cA, .int), (cB, .object RX3)] 67 ad (cellC cA cB ad) σ [.ref (ad 0), .int w, .int b, .int v] (fun r u => r = f_read σ w b v ∧ u = g_read σ w b v) := by
  refine CI_of (by decide +kernel) (Nat.le_of_ble_eq_true rfl) (by simp [Value.category]) ?_
  intro p e s m below meth c C hM hK
  refine z_iload_n C dX4_read_0 (pc' := 1) rfl rfl rfl ?_
  refine z_callS C (m_X4_isWheel l _) stabP aw_177 aw_178 aw_27 aw_179 (nA := 1) (by decide +kernel) rfl ⟨Nat.le_of_ble_eq_true rfl, Nat.le_of_ble_eq_true rfl⟩ (rest := []) rfl (Nat.le_of_ble_eq_true rfl) ⟨Nat.zero_le _, Nat.zero_le _⟩ dX4_read_1 (pc' := 4) rfl (fun r_1 h_1 => ?_)
  rcases h_1 with ⟨rfl, h_1⟩ | ⟨rfl, h_1⟩
  ·
    obtain ⟨k, hk, rfl⟩ := isW_of h_1
    refine z_if_eq (tgt := 29) C dX4_read_4 (pc' := 7) (by decide) rfl (fun q => absurd q (by decide)) (fun _ => ?_)
    refine z_iload_n C dX4_read_7 (pc' := 8) rfl rfl rfl ?_
    refine z_iconst C dX4_read_8 (pc' := 9) rfl (v := 0) (by decide) ?_
    refine z_iconst C dX4_read_9 (pc' := 10) rfl (v := 1) (by decide) ?_
    refine z_callS C (m_X4_within l _ _ _) stabP aw_180 aw_181 aw_27 aw_182 (nA := 3) (by decide +kernel) rfl ⟨Nat.le_of_ble_eq_true rfl, Nat.le_of_ble_eq_true rfl⟩ (rest := []) rfl (Nat.le_of_ble_eq_true rfl) ⟨Nat.zero_le _, Nat.zero_le _⟩ dX4_read_10 (pc' := 13) rfl (fun r_10 h_10 => ?_)
    rcases h_10 with ⟨rfl, h_10⟩ | ⟨rfl, h_10⟩
    ·
      obtain ⟨j, hj, rfl⟩ := inR_of (n := 1) (by omega) h_10
      refine z_if_eq (tgt := 29) C dX4_read_13 (pc' := 16) (by decide) rfl (fun q => absurd q (by decide)) (fun _ => ?_)
      refine z_iload_n C dX4_read_16 (pc' := 17) rfl rfl rfl ?_
      refine z_sipush C dX4_read_17 (pc' := 20) rfl (v := 5000) (by decide) ?_
      refine z_sipush C dX4_read_20 (pc' := 23) rfl (v := 10000) (by decide) ?_
      refine z_callS C (m_X4_within l _ _ _) stabP aw_180 aw_181 aw_27 aw_182 (nA := 3) (by decide +kernel) rfl ⟨Nat.le_of_ble_eq_true rfl, Nat.le_of_ble_eq_true rfl⟩ (rest := []) rfl (Nat.le_of_ble_eq_true rfl) ⟨Nat.zero_le _, Nat.zero_le _⟩ dX4_read_23 (pc' := 26) rfl (fun r_23 h_23 => ?_)
      rcases h_23 with ⟨rfl, h_23⟩ | ⟨rfl, h_23⟩
      ·
        refine z_if_ne (tgt := 31) C dX4_read_26 (pc' := 29) (by decide) rfl (fun _ => ?_) (fun q => absurd q (by decide))
        refine z_aload_n C dX4_read_31 (pc' := 32) rfl rfl rfl ?_
        refine z_get C hK (by decide) kC_0 rfl inAX4 (k := 3) (by decide) aw_148 rfl dX4_read_32 (pc' := 35) rfl ?_
        refine z_get C hK (by decide) kC_10 rfl inAX1 (k := 0) (by decide) aw_86 rfl dX4_read_35 (pc' := 38) rfl ?_
        refine z_top (y := nI n) (by simp [up2, e5]) ?_
        refine z_bipush C dX4_read_38 (pc' := 40) rfl (v := 20) (by decide) ?_
        refine z_icmp_ne (tgt := 46) C dX4_read_40 (pc' := 43) (by decide) rfl (fun c_40 => ?_) (fun c_40 => ?_)
        ·
          have n_40 : ¬ n = 20 := fun z9 => c_40 ((nI_eq (a := n) (b := 20) (by omega) (by omega)).mpr z9)
          refine z_aload_n C dX4_read_46 (pc' := 47) rfl rfl rfl ?_
          refine z_get C hK (by decide) kC_0 rfl inAX4 (k := 3) (by decide) aw_148 rfl dX4_read_47 (pc' := 50) rfl ?_
          refine z_iload_n C dX4_read_50 (pc' := 51) rfl rfl rfl ?_
          refine z_iload_n C dX4_read_51 (pc' := 52) rfl rfl rfl ?_
          refine z_iload_n C dX4_read_52 (pc' := 53) rfl rfl rfl ?_
          refine z_callV C hK (m_X1_tell l hI _ (n := n) (by omega) e5 _ _ _) AdS_in aw_345 aw_346 aw_347 aw_30 aw_348 (by decide) kC_10 rfl (nA := 3) (by decide +kernel) rfl ⟨Nat.le_of_ble_eq_true rfl, Nat.le_of_ble_eq_true rfl⟩ (rest := []) rfl (Nat.le_of_ble_eq_true rfl) ⟨Nat.zero_le _, Nat.zero_le _⟩ dX4_read_53 (pc' := 56) rfl (fun u_53 h_53 => ?_)
          rw [h_53]
          refine z_aload_n C dX4_read_56 (pc' := 57) rfl rfl rfl ?_
          refine z_get C hK (by decide) kC_0 rfl inAX4 (k := 3) (by decide) aw_148 rfl dX4_read_57 (pc' := 60) rfl ?_
          refine z_get C hK (by decide) kC_10 rfl inAX1 (k := 0) (by decide) aw_86 rfl dX4_read_60 (pc' := 63) rfl ?_
          refine z_top (y := nI (n + 1)) (by simp [up2, nI_1]) ?_
          exact z_iret C hM dX4_read_63 (by have e := wn_nI (k := n) (by omega); have e2 := isW_nI hk; simp [f_read, g_read, e, e2, nI_1, up2, *])
        ·
          have n_40 : n = 20 := (nI_eq (a := n) (b := 20) (by omega) (by omega)).mp c_40
          refine z_bipush C dX4_read_43 (pc' := 45) rfl (v := (-3)) (by decide) ?_
          exact z_iret C hM dX4_read_45 (by clear n_40; simp [f_read, g_read, *])
      ·
        refine z_if_ne (tgt := 31) C dX4_read_26 (pc' := 29) (by decide) rfl (fun q => absurd q (by decide)) (fun _ => ?_)
        refine z_iconst C dX4_read_29 (pc' := 30) rfl (v := (-1)) (by decide) ?_
        exact z_iret C hM dX4_read_30 (by simp [f_read, g_read, *])
    ·
      refine z_if_eq (tgt := 29) C dX4_read_13 (pc' := 16) (by decide) rfl (fun _ => ?_) (fun q => absurd q (by decide))
      refine z_iconst C dX4_read_29 (pc' := 30) rfl (v := (-1)) (by decide) ?_
      exact z_iret C hM dX4_read_30 (by simp [f_read, g_read, *])
  ·
    refine z_if_eq (tgt := 29) C dX4_read_4 (pc' := 7) (by decide) rfl (fun _ => ?_) (fun q => absurd q (by decide))
    refine z_iconst C dX4_read_29 (pc' := 30) rfl (v := (-1)) (by decide) ?_
    exact z_iret C hM dX4_read_30 (by simp [f_read, g_read, *])
set_option maxRecDepth 100000 in
set_option maxHeartbeats 400000 in
theorem m_X5_read (l : Launch) {cA : ClassId} {D : va_G} {ad : Nat → Nat} (hI : Inj 17 ad) (σ : St) {n : Nat} (hn : n ≤ 20) (e5 : σ 0 5 = nI n) (w b v : Int32) : CI l yX5_read cX5_read 4 .int 2 42 D [(cA, .int)] 17 ad (cellR cA ad) σ [.ref (ad 0), .int w, .int b, .int v] (fun r u => r = f_read σ w b v ∧ u = g_read σ w b v) := by
  refine CI_of (by decide +kernel) (Nat.le_of_ble_eq_true rfl) (by simp [Value.category]) ?_
  intro p e s m below meth c C hM hK
  refine z_aload_n C dX5_read_0 (pc' := 1) rfl rfl rfl ?_
  refine z_iconst C dX5_read_1 (pc' := 2) rfl (v := 0) (by decide) ?_
  refine z_put C hK hI AdS_in (by decide) kR_0 sR_th oR_th rfl inAX5 tyX5_ok nmX5 (k := 0) (by decide) aw_452 rfl (ty := .int) (by decide +kernel) rfl rfl (Nat.le_of_ble_eq_true rfl) dX5_read_2 (pc' := 5) rfl ?_
  refine z_iload_n C dX5_read_5 (pc' := 6) rfl rfl rfl ?_
  refine z_callS C (m_X5_isWheel l _) stabP aw_526 aw_527 aw_32 aw_528 (nA := 1) (by decide +kernel) rfl ⟨Nat.le_of_ble_eq_true rfl, Nat.le_of_ble_eq_true rfl⟩ (rest := []) rfl (Nat.le_of_ble_eq_true rfl) ⟨Nat.zero_le _, Nat.zero_le _⟩ dX5_read_6 (pc' := 9) rfl (fun r_6 h_6 => ?_)
  rcases h_6 with ⟨rfl, h_6⟩ | ⟨rfl, h_6⟩
  ·
    obtain ⟨k, hk, rfl⟩ := isW_of h_6
    refine z_if_eq (tgt := 34) C dX5_read_9 (pc' := 12) (by decide) rfl (fun q => absurd q (by decide)) (fun _ => ?_)
    refine z_iload_n C dX5_read_12 (pc' := 13) rfl rfl rfl ?_
    refine z_iconst C dX5_read_13 (pc' := 14) rfl (v := 0) (by decide) ?_
    refine z_iconst C dX5_read_14 (pc' := 15) rfl (v := 1) (by decide) ?_
    refine z_callS C (m_X5_in l _ _ _) stabP aw_529 aw_530 aw_32 aw_531 (nA := 3) (by decide +kernel) rfl ⟨Nat.le_of_ble_eq_true rfl, Nat.le_of_ble_eq_true rfl⟩ (rest := []) rfl (Nat.le_of_ble_eq_true rfl) ⟨Nat.zero_le _, Nat.zero_le _⟩ dX5_read_15 (pc' := 18) rfl (fun r_15 h_15 => ?_)
    rcases h_15 with ⟨rfl, h_15⟩ | ⟨rfl, h_15⟩
    ·
      obtain ⟨j, hj, rfl⟩ := inR_of (n := 1) (by omega) h_15
      refine z_if_eq (tgt := 34) C dX5_read_18 (pc' := 21) (by decide) rfl (fun q => absurd q (by decide)) (fun _ => ?_)
      refine z_iload_n C dX5_read_21 (pc' := 22) rfl rfl rfl ?_
      refine z_sipush C dX5_read_22 (pc' := 25) rfl (v := 5000) (by decide) ?_
      refine z_sipush C dX5_read_25 (pc' := 28) rfl (v := 10000) (by decide) ?_
      refine z_callS C (m_X5_in l _ _ _) stabP aw_529 aw_530 aw_32 aw_531 (nA := 3) (by decide +kernel) rfl ⟨Nat.le_of_ble_eq_true rfl, Nat.le_of_ble_eq_true rfl⟩ (rest := []) rfl (Nat.le_of_ble_eq_true rfl) ⟨Nat.zero_le _, Nat.zero_le _⟩ dX5_read_28 (pc' := 31) rfl (fun r_28 h_28 => ?_)
      rcases h_28 with ⟨rfl, h_28⟩ | ⟨rfl, h_28⟩
      ·
        refine z_if_ne (tgt := 36) C dX5_read_31 (pc' := 34) (by decide) rfl (fun _ => ?_) (fun q => absurd q (by decide))
        refine z_aload_n C dX5_read_36 (pc' := 37) rfl rfl rfl ?_
        refine z_get C hK (by decide) kR_0 rfl inAX5 (k := 14) (by decide) aw_466 rfl dX5_read_37 (pc' := 40) rfl ?_
        refine z_top (y := nI n) (by simp [up2, e5]) ?_
        refine z_bipush C dX5_read_40 (pc' := 42) rfl (v := 20) (by decide) ?_
        refine z_icmp_ne (tgt := 48) C dX5_read_42 (pc' := 45) (by decide) rfl (fun c_42 => ?_) (fun c_42 => ?_)
        ·
          have n_42 : ¬ n = 20 := fun z9 => c_42 ((nI_eq (a := n) (b := 20) (by omega) (by omega)).mpr z9)
          refine z_aload_n C dX5_read_48 (pc' := 49) rfl rfl rfl ?_
          refine z_get C hK (by decide) kR_0 rfl inAX5 (k := 15) (by decide) aw_467 rfl dX5_read_49 (pc' := 52) rfl ?_
          refine z_aload_n C dX5_read_52 (pc' := 53) rfl rfl rfl ?_
          refine z_get C hK (by decide) kR_0 rfl inAX5 (k := 14) (by decide) aw_466 rfl dX5_read_53 (pc' := 56) rfl ?_
          refine z_top (y := nI n) (by simp [up2, e5]) ?_
          refine z_iload_n C dX5_read_56 (pc' := 57) rfl rfl rfl ?_
          refine z_iast C hK hI AdS_in (by decide) kR_10 sR_a10 oR_a10 (t0 := 0) rfl (j := n) rfl (by omega) (by decide) dX5_read_57 (pc' := 58) rfl ?_
          refine z_aload_n C dX5_read_58 (pc' := 59) rfl rfl rfl ?_
          refine z_get C hK (by decide) kR_0 rfl inAX5 (k := 16) (by decide) aw_468 rfl dX5_read_59 (pc' := 62) rfl ?_
          refine z_aload_n C dX5_read_62 (pc' := 63) rfl rfl rfl ?_
          refine z_get C hK (by decide) kR_0 rfl inAX5 (k := 14) (by decide) aw_466 rfl dX5_read_63 (pc' := 66) rfl ?_
          refine z_top (y := nI n) (by simp [up2, e5]) ?_
          refine z_iload_n C dX5_read_66 (pc' := 67) rfl rfl rfl ?_
          refine z_iast C hK hI AdS_in (by decide) kR_11 sR_a11 oR_a11 (t0 := 0) rfl (j := n) rfl (by omega) (by decide) dX5_read_67 (pc' := 68) rfl ?_
          refine z_aload_n C dX5_read_68 (pc' := 69) rfl rfl rfl ?_
          refine z_get C hK (by decide) kR_0 rfl inAX5 (k := 17) (by decide) aw_469 rfl dX5_read_69 (pc' := 72) rfl ?_
          refine z_aload_n C dX5_read_72 (pc' := 73) rfl rfl rfl ?_
          refine z_get C hK (by decide) kR_0 rfl inAX5 (k := 14) (by decide) aw_466 rfl dX5_read_73 (pc' := 76) rfl ?_
          refine z_top (y := nI n) (by simp [up2, e5]) ?_
          refine z_iload_n C dX5_read_76 (pc' := 77) rfl rfl rfl ?_
          refine z_iast C hK hI AdS_in (by decide) kR_12 sR_a12 oR_a12 (t0 := 0) rfl (j := n) rfl (by omega) (by decide) dX5_read_77 (pc' := 78) rfl ?_
          refine z_aload_n C dX5_read_78 (pc' := 79) rfl rfl rfl ?_
          refine z_dup C dX5_read_79 (pc' := 80) rfl rfl ?_
          refine z_get C hK (by decide) kR_0 rfl inAX5 (k := 14) (by decide) aw_466 rfl dX5_read_80 (pc' := 83) rfl ?_
          refine z_top (y := nI n) (by simp [up2, e5]) ?_
          refine z_iconst C dX5_read_83 (pc' := 84) rfl (v := 1) (by decide) ?_
          refine z_iadd C dX5_read_84 (pc' := 85) rfl (nI_add (n) (1)) ?_
          refine z_put C hK hI AdS_in (by decide) kR_0 sR_05 oR_05 rfl inAX5 tyX5_ok nmX5 (k := 14) (by decide) aw_466 rfl (ty := .int) (by decide +kernel) rfl rfl (Nat.le_of_ble_eq_true rfl) dX5_read_85 (pc' := 88) rfl ?_
          refine z_aload_n C dX5_read_88 (pc' := 89) rfl rfl rfl ?_
          refine z_get C hK (by decide) kR_0 rfl inAX5 (k := 14) (by decide) aw_466 rfl dX5_read_89 (pc' := 92) rfl ?_
          refine z_top (y := nI (n + 1)) (by simp [up2]) ?_
          exact z_iret C hM dX5_read_92 (by have e := wn_nI (k := n) (by omega); have e2 := isW_nI hk; simp [f_read, g_read, e, e2, nI_1, up2, *])
        ·
          have n_42 : n = 20 := (nI_eq (a := n) (b := 20) (by omega) (by omega)).mp c_42
          refine z_bipush C dX5_read_45 (pc' := 47) rfl (v := (-3)) (by decide) ?_
          exact z_iret C hM dX5_read_47 (by clear n_42; simp [f_read, g_read, *])
      ·
        refine z_if_ne (tgt := 36) C dX5_read_31 (pc' := 34) (by decide) rfl (fun q => absurd q (by decide)) (fun _ => ?_)
        refine z_iconst C dX5_read_34 (pc' := 35) rfl (v := (-1)) (by decide) ?_
        exact z_iret C hM dX5_read_35 (by simp [f_read, g_read, *])
    ·
      refine z_if_eq (tgt := 34) C dX5_read_18 (pc' := 21) (by decide) rfl (fun _ => ?_) (fun q => absurd q (by decide))
      refine z_iconst C dX5_read_34 (pc' := 35) rfl (v := (-1)) (by decide) ?_
      exact z_iret C hM dX5_read_35 (by simp [f_read, g_read, *])
  ·
    refine z_if_eq (tgt := 34) C dX5_read_9 (pc' := 12) (by decide) rfl (fun _ => ?_) (fun q => absurd q (by decide))
    refine z_iconst C dX5_read_34 (pc' := 35) rfl (v := (-1)) (by decide) ?_
    exact z_iret C hM dX5_read_35 (by simp [f_read, g_read, *])
set_option maxRecDepth 100000 in
set_option maxHeartbeats 400000 in
theorem m_X3_greatestDepth (l : Launch) {cA cB : ClassId} {D : va_G} {ad : Nat → Nat} (hI : Inj 67 ad) (σ : St) {k : Nat} (hk : k < 16) : CI l yX3_greatestDepth cX3_greatestDepth 3 .int 1 13 D [(cA, .int), (cB, .object RX3)] 67 ad (cellC cA cB ad) σ [.ref (ad (pW k))] (fun r u => r = gdC (σ (100 + 2 * k)) 4 ∧ u = σ) := by
  refine CI_of (by decide +kernel) (Nat.le_of_ble_eq_true rfl) (by simp [Value.category]) ?_
  intro p e s m below meth c C hM hK
  refine z_aload_n C dX3_greatestDepth_0 (pc' := 1) rfl rfl rfl ?_
  refine z_get C hK (pW_lt (by omega)) (kC_W k) rfl inAX3 (k := 0) (by decide) aw_119 rfl dX3_greatestDepth_1 (pc' := 4) rfl ?_
  refine z_iconst C dX3_greatestDepth_4 (pc' := 5) rfl (v := 0) (by decide) ?_
  refine z_iald C hK (pD_lt (by omega)) (kC_D k) (t0 := 0) rfl (j := 0) rfl (by decide) (by decide) rfl dX3_greatestDepth_5 (pc' := 6) rfl ?_
  refine z_istore_n (L' := [.ref _, .int _]) C dX3_greatestDepth_6 (pc' := 7) rfl rfl (by decide) (Nat.le_of_ble_eq_true rfl) rfl ?_
  refine z_iconst C dX3_greatestDepth_7 (pc' := 8) rfl (v := 1) (by decide) ?_
  refine z_istore_n (L' := [.ref _, .int _, .int _]) C dX3_greatestDepth_8 (pc' := 9) rfl rfl (by decide) (Nat.le_of_ble_eq_true rfl) rfl ?_
  refine z_loop (τ := Nat) (fun i => 4 - i) (fun i => i ≤ 4) (fun i => σ) (fun i => [.ref (ad (pW k)), .int (gdC (σ (100 + 2 * k)) i), .int (nI (i + 1))]) 0 (by omega) rfl ⟨_, rfl⟩ ?_
  intro i hi ih9
  try dsimp only at hi ih9 ⊢
  refine z_iload_n C dX3_greatestDepth_9 (pc' := 10) rfl rfl rfl ?_
  refine z_iconst C dX3_greatestDepth_10 (pc' := 11) rfl (v := 5) (by decide) ?_
  refine z_icmp_ge (tgt := 31) C dX3_greatestDepth_11 (pc' := 14) (by decide) rfl (fun c_11 => ?_) (fun c_11 => ?_)
  ·
    have n_11 : 5 ≤ (i + 1) := ge_of_le (N := 5) (k := (i + 1)) c_11 (by omega) (by omega)
    refine z_iload_n C dX3_greatestDepth_31 (pc' := 32) rfl rfl rfl ?_
    exact z_iret C hM dX3_greatestDepth_32 (by obtain rfl : i = 4 := (by omega); exact ⟨rfl, rfl⟩)
  ·
    have n_11 : (i + 1) < 5 := lt_of_nle (N := 5) (k := (i + 1)) c_11 (by omega) (by omega)
    refine z_iload_n C dX3_greatestDepth_14 (pc' := 15) rfl rfl rfl ?_
    refine z_aload_n C dX3_greatestDepth_15 (pc' := 16) rfl rfl rfl ?_
    refine z_get C hK (pW_lt (by omega)) (kC_W k) rfl inAX3 (k := 0) (by decide) aw_119 rfl dX3_greatestDepth_16 (pc' := 19) rfl ?_
    refine z_iload_n C dX3_greatestDepth_19 (pc' := 20) rfl rfl rfl ?_
    refine z_iald C hK (pD_lt (by omega)) (kC_D k) (t0 := 0) rfl (j := (i + 1)) rfl (by omega) (by decide) rfl dX3_greatestDepth_20 (pc' := 21) rfl ?_
    refine z_max C aw_220 aw_221 aw_33 aw_222 ⟨Nat.le_of_ble_eq_true rfl, Nat.le_of_ble_eq_true rfl⟩ ⟨Nat.zero_le _, Nat.zero_le _⟩ dX3_greatestDepth_21 (pc' := 24) rfl ?_
    refine z_istore_n (L' := [.ref _, .int _, .int _]) C dX3_greatestDepth_24 (pc' := 25) rfl rfl (by decide) (Nat.le_of_ble_eq_true rfl) rfl ?_
    refine z_iinc (L' := [.ref _, .int _, .int _]) C dX3_greatestDepth_25 (pc' := 28) rfl rfl (iinc1 _) (by decide) (Nat.le_of_ble_eq_true rfl) rfl ?_
    refine z_goto C dX3_greatestDepth_28 (pc' := 9) (by decide) ?_
    exact z_back 3 (ih9 (i + 1) (by omega) (by omega)) rfl rfl
set_option maxRecDepth 100000 in
set_option maxHeartbeats 400000 in
theorem m_X3_leastDepth (l : Launch) {cA cB : ClassId} {D : va_G} {ad : Nat → Nat} (hI : Inj 67 ad) (σ : St) {k : Nat} (hk : k < 16) : CI l yX3_leastDepth cX3_leastDepth 3 .int 1 13 D [(cA, .int), (cB, .object RX3)] 67 ad (cellC cA cB ad) σ [.ref (ad (pW k))] (fun r u => r = ldC (σ (100 + 2 * k)) 4 ∧ u = σ) := by
  refine CI_of (by decide +kernel) (Nat.le_of_ble_eq_true rfl) (by simp [Value.category]) ?_
  intro p e s m below meth c C hM hK
  refine z_aload_n C dX3_leastDepth_0 (pc' := 1) rfl rfl rfl ?_
  refine z_get C hK (pW_lt (by omega)) (kC_W k) rfl inAX3 (k := 0) (by decide) aw_119 rfl dX3_leastDepth_1 (pc' := 4) rfl ?_
  refine z_iconst C dX3_leastDepth_4 (pc' := 5) rfl (v := 0) (by decide) ?_
  refine z_iald C hK (pD_lt (by omega)) (kC_D k) (t0 := 0) rfl (j := 0) rfl (by decide) (by decide) rfl dX3_leastDepth_5 (pc' := 6) rfl ?_
  refine z_istore_n (L' := [.ref _, .int _]) C dX3_leastDepth_6 (pc' := 7) rfl rfl (by decide) (Nat.le_of_ble_eq_true rfl) rfl ?_
  refine z_iconst C dX3_leastDepth_7 (pc' := 8) rfl (v := 1) (by decide) ?_
  refine z_istore_n (L' := [.ref _, .int _, .int _]) C dX3_leastDepth_8 (pc' := 9) rfl rfl (by decide) (Nat.le_of_ble_eq_true rfl) rfl ?_
  refine z_loop (τ := Nat) (fun i => 4 - i) (fun i => i ≤ 4) (fun i => σ) (fun i => [.ref (ad (pW k)), .int (ldC (σ (100 + 2 * k)) i), .int (nI (i + 1))]) 0 (by omega) rfl ⟨_, rfl⟩ ?_
  intro i hi ih9
  try dsimp only at hi ih9 ⊢
  refine z_iload_n C dX3_leastDepth_9 (pc' := 10) rfl rfl rfl ?_
  refine z_iconst C dX3_leastDepth_10 (pc' := 11) rfl (v := 5) (by decide) ?_
  refine z_icmp_ge (tgt := 31) C dX3_leastDepth_11 (pc' := 14) (by decide) rfl (fun c_11 => ?_) (fun c_11 => ?_)
  ·
    have n_11 : 5 ≤ (i + 1) := ge_of_le (N := 5) (k := (i + 1)) c_11 (by omega) (by omega)
    refine z_iload_n C dX3_leastDepth_31 (pc' := 32) rfl rfl rfl ?_
    exact z_iret C hM dX3_leastDepth_32 (by obtain rfl : i = 4 := (by omega); exact ⟨rfl, rfl⟩)
  ·
    have n_11 : (i + 1) < 5 := lt_of_nle (N := 5) (k := (i + 1)) c_11 (by omega) (by omega)
    refine z_iload_n C dX3_leastDepth_14 (pc' := 15) rfl rfl rfl ?_
    refine z_aload_n C dX3_leastDepth_15 (pc' := 16) rfl rfl rfl ?_
    refine z_get C hK (pW_lt (by omega)) (kC_W k) rfl inAX3 (k := 0) (by decide) aw_119 rfl dX3_leastDepth_16 (pc' := 19) rfl ?_
    refine z_iload_n C dX3_leastDepth_19 (pc' := 20) rfl rfl rfl ?_
    refine z_iald C hK (pD_lt (by omega)) (kC_D k) (t0 := 0) rfl (j := (i + 1)) rfl (by omega) (by decide) rfl dX3_leastDepth_20 (pc' := 21) rfl ?_
    refine z_min C aw_227 aw_228 aw_33 aw_229 ⟨Nat.le_of_ble_eq_true rfl, Nat.le_of_ble_eq_true rfl⟩ ⟨Nat.zero_le _, Nat.zero_le _⟩ dX3_leastDepth_21 (pc' := 24) rfl ?_
    refine z_istore_n (L' := [.ref _, .int _, .int _]) C dX3_leastDepth_24 (pc' := 25) rfl rfl (by decide) (Nat.le_of_ble_eq_true rfl) rfl ?_
    refine z_iinc (L' := [.ref _, .int _, .int _]) C dX3_leastDepth_25 (pc' := 28) rfl rfl (iinc1 _) (by decide) (Nat.le_of_ble_eq_true rfl) rfl ?_
    refine z_goto C dX3_leastDepth_28 (pc' := 9) (by decide) ?_
    exact z_back 3 (ih9 (i + 1) (by omega) (by omega)) rfl rfl
set_option maxRecDepth 100000 in
set_option maxHeartbeats 400000 in
theorem m_X3_fullCut (l : Launch) {cA cB : ClassId} {D : va_G} {ad : Nat → Nat} (hI : Inj 67 ad) (σ : St) {k : Nat} (hk : k < 16) : CI l yX3_fullCut cX3_fullCut 1 .int 2 35 D [(cA, .int), (cB, .object RX3)] 67 ad (cellC cA cB ad) σ [.ref (ad (pW k))] (fun r u => r = fullN (σ (100 + 2 * k)) ∧ u = σ) := by
  refine CI_of (by decide +kernel) (Nat.le_of_ble_eq_true rfl) (by simp [Value.category]) ?_
  intro p e s m below meth c C hM hK
  refine z_aload_n C dX3_fullCut_0 (pc' := 1) rfl rfl rfl ?_
  refine z_callI C hK (m_X3_greatestDepth l hI _ (k := k) (by omega)) AdS_in aw_216 aw_218 aw_1 aw_31 aw_219 (pW_lt (by omega)) (kC_W k) rfl (nA := 0) (by decide +kernel) rfl ⟨Nat.le_of_ble_eq_true rfl, Nat.le_of_ble_eq_true rfl⟩ (rest := []) rfl (Nat.le_of_ble_eq_true rfl) ⟨Nat.zero_le _, Nat.zero_le _⟩ dX3_fullCut_1 (pc' := 4) rfl (fun r_1 u_1 h_1 => ?_)
  obtain ⟨hr_1, hu_1⟩ := h_1
  rw [hr_1, hu_1]
  refine z_aload_n C dX3_fullCut_4 (pc' := 5) rfl rfl rfl ?_
  refine z_callI C hK (m_X3_leastDepth l hI _ (k := k) (by omega)) AdS_in aw_223 aw_225 aw_2 aw_31 aw_226 (pW_lt (by omega)) (kC_W k) rfl (nA := 0) (by decide +kernel) rfl ⟨Nat.le_of_ble_eq_true rfl, Nat.le_of_ble_eq_true rfl⟩ (rest := [_]) rfl (Nat.le_of_ble_eq_true rfl) ⟨Nat.zero_le _, Nat.zero_le _⟩ dX3_fullCut_5 (pc' := 8) rfl (fun r_5 u_5 h_5 => ?_)
  obtain ⟨hr_5, hu_5⟩ := h_5
  rw [hr_5, hu_5]
  refine z_isub C dX3_fullCut_8 (pc' := 9) rfl rfl ?_
  exact z_iret C hM dX3_fullCut_9 ⟨rfl, rfl⟩
set_option maxRecDepth 100000 in
set_option maxHeartbeats 400000 in
theorem m_X3_thinCut (l : Launch) {cA cB : ClassId} {D : va_G} {ad : Nat → Nat} (hI : Inj 67 ad) (σ : St) {k : Nat} (hk : k < 16) (th : Int32) : CI l yX3_thinCut cX3_thinCut 3 .int 3 55 D [(cA, .int), (cB, .object RX3)] 67 ad (cellC cA cB ad) σ [.ref (ad (pW k)), .int th] (fun r u => r = thinN (σ (100 + 2 * k)) th ∧ u = σ) := by
  refine CI_of (by decide +kernel) (Nat.le_of_ble_eq_true rfl) (by simp [Value.category]) ?_
  intro p e s m below meth c C hM hK
  refine z_aload_n C dX3_thinCut_0 (pc' := 1) rfl rfl rfl ?_
  refine z_callI C hK (m_X3_fullCut l hI _ (k := k) (by omega)) AdS_in aw_212 aw_214 aw_0 aw_31 aw_215 (pW_lt (by omega)) (kC_W k) rfl (nA := 0) (by decide +kernel) rfl ⟨Nat.le_of_ble_eq_true rfl, Nat.le_of_ble_eq_true rfl⟩ (rest := []) rfl (Nat.le_of_ble_eq_true rfl) ⟨Nat.zero_le _, Nat.zero_le _⟩ dX3_thinCut_1 (pc' := 4) rfl (fun r_1 u_1 h_1 => ?_)
  obtain ⟨hr_1, hu_1⟩ := h_1
  rw [hr_1, hu_1]
  refine z_istore_n (L' := [.ref _, .int _, .int _]) C dX3_thinCut_4 (pc' := 5) rfl rfl (by decide) (Nat.le_of_ble_eq_true rfl) rfl ?_
  refine z_aload_n C dX3_thinCut_5 (pc' := 6) rfl rfl rfl ?_
  refine z_get C hK (pW_lt (by omega)) (kC_W k) rfl inAX3 (k := 0) (by decide) aw_119 rfl dX3_thinCut_6 (pc' := 9) rfl ?_
  refine z_iconst C dX3_thinCut_9 (pc' := 10) rfl (v := 0) (by decide) ?_
  refine z_iald C hK (pD_lt (by omega)) (kC_D k) (t0 := 0) rfl (j := 0) rfl (by decide) (by decide) rfl dX3_thinCut_10 (pc' := 11) rfl ?_
  refine z_aload_n C dX3_thinCut_11 (pc' := 12) rfl rfl rfl ?_
  refine z_callI C hK (m_X3_greatestDepth l hI _ (k := k) (by omega)) AdS_in aw_216 aw_218 aw_1 aw_31 aw_219 (pW_lt (by omega)) (kC_W k) rfl (nA := 0) (by decide +kernel) rfl ⟨Nat.le_of_ble_eq_true rfl, Nat.le_of_ble_eq_true rfl⟩ (rest := [_]) rfl (Nat.le_of_ble_eq_true rfl) ⟨Nat.zero_le _, Nat.zero_le _⟩ dX3_thinCut_12 (pc' := 15) rfl (fun r_12 u_12 h_12 => ?_)
  obtain ⟨hr_12, hu_12⟩ := h_12
  rw [hr_12, hu_12]
  refine z_icmp_ne (tgt := 28) C dX3_thinCut_15 (pc' := 18) (by decide) rfl (fun c_15 => ?_) (fun c_15 => ?_)
  ·
    refine z_iload_n C dX3_thinCut_28 (pc' := 29) rfl rfl rfl ?_
    exact z_iret C hM dX3_thinCut_29 (by simp [thinN, mx, *])
  ·
    refine z_iconst C dX3_thinCut_18 (pc' := 19) rfl (v := 0) (by decide) ?_
    refine z_iload_n C dX3_thinCut_19 (pc' := 20) rfl rfl rfl ?_
    refine z_iload_n C dX3_thinCut_20 (pc' := 21) rfl rfl rfl ?_
    refine z_isub C dX3_thinCut_21 (pc' := 22) rfl rfl ?_
    refine z_max C aw_220 aw_221 aw_33 aw_222 ⟨Nat.le_of_ble_eq_true rfl, Nat.le_of_ble_eq_true rfl⟩ ⟨Nat.zero_le _, Nat.zero_le _⟩ dX3_thinCut_22 (pc' := 25) rfl ?_
    refine z_goto C dX3_thinCut_25 (pc' := 29) (by decide) ?_
    exact z_iret C hM dX3_thinCut_29 (by simp [thinN, mx, *])
set_option maxRecDepth 100000 in
set_option maxHeartbeats 400000 in
theorem m_X3_evenCut (l : Launch) {cA cB : ClassId} {D : va_G} {ad : Nat → Nat} (hI : Inj 67 ad) (σ : St) {k : Nat} (hk : k < 16) (th : Int32) : CI l yX3_evenCut cX3_evenCut 3 .int 4 77 D [(cA, .int), (cB, .object RX3)] 67 ad (cellC cA cB ad) σ [.ref (ad (pW k)), .int th] (fun r u => r = evenN (σ (100 + 2 * k)) th ∧ u = σ) := by
  refine CI_of (by decide +kernel) (Nat.le_of_ble_eq_true rfl) (by simp [Value.category]) ?_
  intro p e s m below meth c C hM hK
  refine z_aload_n C dX3_evenCut_0 (pc' := 1) rfl rfl rfl ?_
  refine z_iload_n C dX3_evenCut_1 (pc' := 2) rfl rfl rfl ?_
  refine z_callI C hK (m_X3_thinCut l hI _ (k := k) (by omega) _) AdS_in aw_230 aw_232 aw_3 aw_31 aw_233 (pW_lt (by omega)) (kC_W k) rfl (nA := 1) (by decide +kernel) rfl ⟨Nat.le_of_ble_eq_true rfl, Nat.le_of_ble_eq_true rfl⟩ (rest := []) rfl (Nat.le_of_ble_eq_true rfl) ⟨Nat.zero_le _, Nat.zero_le _⟩ dX3_evenCut_2 (pc' := 5) rfl (fun r_2 u_2 h_2 => ?_)
  obtain ⟨hr_2, hu_2⟩ := h_2
  rw [hr_2, hu_2]
  refine z_istore_n (L' := [.ref _, .int _, .int _]) C dX3_evenCut_5 (pc' := 6) rfl rfl (by decide) (Nat.le_of_ble_eq_true rfl) rfl ?_
  refine z_iload_n C dX3_evenCut_6 (pc' := 7) rfl rfl rfl ?_
  refine z_iload_n C dX3_evenCut_7 (pc' := 8) rfl rfl rfl ?_
  refine z_iconst C dX3_evenCut_8 (pc' := 9) rfl (v := 2) (by decide) ?_
  refine z_irem C dX3_evenCut_9 (pc' := 10) rfl (by decide) rfl ?_
  refine z_iadd C dX3_evenCut_10 (pc' := 11) rfl rfl ?_
  exact z_iret C hM dX3_evenCut_11 ⟨rfl, rfl⟩
set_option maxRecDepth 100000 in
set_option maxHeartbeats 400000 in
theorem m_X3_neededCut (l : Launch) {cA cB : ClassId} {D : va_G} {ad : Nat → Nat} (hI : Inj 67 ad) (σ : St) {k : Nat} (hk : k < 16) {kd : Nat} (hkd : kd ≤ 2) (th : Int32) : CI l yX3_neededCut cX3_neededCut 3 .int 5 99 D [(cA, .int), (cB, .object RX3)] 67 ad (cellC cA cB ad) σ [.ref (ad (pW k)), .int (nI kd), .int th] (fun r u => r = needN (σ (100 + 2 * k)) kd th ∧ u = σ) := by
  refine CI_of (by decide +kernel) (Nat.le_of_ble_eq_true rfl) (by simp [Value.category]) ?_
  intro p e s m below meth c C hM hK
  refine z_iload_n C dX3_neededCut_0 (pc' := 1) rfl rfl rfl ?_
  rcases (show kd = 0 ∨ kd = 1 ∨ kd = 2 by omega) with rfl | rfl | rfl
  ·
    refine z_lkp C dX3_neededCut_1 (by decide) (off := 27) (by decide) (pc' := 28) (by decide) ?_
    refine z_aload_n C dX3_neededCut_28 (pc' := 29) rfl rfl rfl ?_
    refine z_callI C hK (m_X3_fullCut l hI _ (k := k) (by omega)) AdS_in aw_212 aw_214 aw_0 aw_31 aw_215 (pW_lt (by omega)) (kC_W k) rfl (nA := 0) (by decide +kernel) rfl ⟨Nat.le_of_ble_eq_true rfl, Nat.le_of_ble_eq_true rfl⟩ (rest := []) rfl (Nat.le_of_ble_eq_true rfl) ⟨Nat.zero_le _, Nat.zero_le _⟩ dX3_neededCut_29 (pc' := 32) rfl (fun r_29 u_29 h_29 => ?_)
    obtain ⟨hr_29, hu_29⟩ := h_29
    rw [hr_29, hu_29]
    exact z_iret C hM dX3_neededCut_32 ⟨rfl, rfl⟩
  ·
    refine z_lkp C dX3_neededCut_1 (by decide) (off := 32) (by decide) (pc' := 33) (by decide) ?_
    refine z_aload_n C dX3_neededCut_33 (pc' := 34) rfl rfl rfl ?_
    refine z_iload_n C dX3_neededCut_34 (pc' := 35) rfl rfl rfl ?_
    refine z_callI C hK (m_X3_thinCut l hI _ (k := k) (by omega) _) AdS_in aw_230 aw_232 aw_3 aw_31 aw_233 (pW_lt (by omega)) (kC_W k) rfl (nA := 1) (by decide +kernel) rfl ⟨Nat.le_of_ble_eq_true rfl, Nat.le_of_ble_eq_true rfl⟩ (rest := []) rfl (Nat.le_of_ble_eq_true rfl) ⟨Nat.zero_le _, Nat.zero_le _⟩ dX3_neededCut_35 (pc' := 38) rfl (fun r_35 u_35 h_35 => ?_)
    obtain ⟨hr_35, hu_35⟩ := h_35
    rw [hr_35, hu_35]
    exact z_iret C hM dX3_neededCut_38 ⟨rfl, rfl⟩
  ·
    refine z_lkp C dX3_neededCut_1 (by decide) (off := 38) (by decide) (pc' := 39) (by decide) ?_
    refine z_aload_n C dX3_neededCut_39 (pc' := 40) rfl rfl rfl ?_
    refine z_iload_n C dX3_neededCut_40 (pc' := 41) rfl rfl rfl ?_
    refine z_callI C hK (m_X3_evenCut l hI _ (k := k) (by omega) _) AdS_in aw_234 aw_236 aw_4 aw_31 aw_237 (pW_lt (by omega)) (kC_W k) rfl (nA := 1) (by decide +kernel) rfl ⟨Nat.le_of_ble_eq_true rfl, Nat.le_of_ble_eq_true rfl⟩ (rest := []) rfl (Nat.le_of_ble_eq_true rfl) ⟨Nat.zero_le _, Nat.zero_le _⟩ dX3_neededCut_41 (pc' := 44) rfl (fun r_41 u_41 h_41 => ?_)
    obtain ⟨hr_41, hu_41⟩ := h_41
    rw [hr_41, hu_41]
    exact z_iret C hM dX3_neededCut_44 ⟨rfl, rfl⟩
set_option maxRecDepth 100000 in
set_option maxHeartbeats 400000 in
theorem m_X3_takeOff (l : Launch) {cA cB : ClassId} {D : va_G} {ad : Nat → Nat} (hI : Inj 67 ad) (σ : St) {k : Nat} (hk : k < 16) (cut : Int32) : CV l yX3_takeOff cX3_takeOff 4 2 35 D [(cA, .int), (cB, .object RX3)] 67 ad (cellC cA cB ad) σ [.ref (ad (pW k)), .int cut] (fun u => u = g_take σ k cut (ldC (σ (100 + 2 * k)) 4)) := by
  refine CV_of (by decide +kernel) (Nat.le_of_ble_eq_true rfl) (by simp [Value.category]) ?_
  intro p e s m below meth c C hM hK
  refine z_aload_n C dX3_takeOff_0 (pc' := 1) rfl rfl rfl ?_
  refine z_callI C hK (m_X3_leastDepth l hI _ (k := k) (by omega)) AdS_in aw_223 aw_225 aw_2 aw_31 aw_226 (pW_lt (by omega)) (kC_W k) rfl (nA := 0) (by decide +kernel) rfl ⟨Nat.le_of_ble_eq_true rfl, Nat.le_of_ble_eq_true rfl⟩ (rest := []) rfl (Nat.le_of_ble_eq_true rfl) ⟨Nat.zero_le _, Nat.zero_le _⟩ dX3_takeOff_1 (pc' := 4) rfl (fun r_1 u_1 h_1 => ?_)
  obtain ⟨hr_1, hu_1⟩ := h_1
  rw [hr_1, hu_1]
  refine z_iload_n C dX3_takeOff_4 (pc' := 5) rfl rfl rfl ?_
  refine z_iadd C dX3_takeOff_5 (pc' := 6) rfl rfl ?_
  refine z_istore_n (L' := [.ref _, .int _, .int _]) C dX3_takeOff_6 (pc' := 7) rfl rfl (by decide) (Nat.le_of_ble_eq_true rfl) rfl ?_
  refine z_iconst C dX3_takeOff_7 (pc' := 8) rfl (v := 0) (by decide) ?_
  refine z_istore_n (L' := [.ref _, .int _, .int _, .int _]) C dX3_takeOff_8 (pc' := 9) rfl rfl (by decide) (Nat.le_of_ble_eq_true rfl) rfl ?_
  refine z_loop (τ := Nat) (fun i => 5 - i) (fun i => i ≤ 5) (fun i => tkL σ (100 + 2 * k) (ldC (σ (100 + 2 * k)) 4 + cut) i) (fun i => [.ref (ad (pW k)), .int cut, .int (ldC (σ (100 + 2 * k)) 4 + cut), .int (nI i)]) 0 (by omega) rfl ⟨_, rfl⟩ ?_
  intro i hi ih9
  try dsimp only at hi ih9 ⊢
  refine z_iload_n C dX3_takeOff_9 (pc' := 10) rfl rfl rfl ?_
  refine z_iconst C dX3_takeOff_10 (pc' := 11) rfl (v := 5) (by decide) ?_
  refine z_icmp_ge (tgt := 38) C dX3_takeOff_11 (pc' := 14) (by decide) rfl (fun c_11 => ?_) (fun c_11 => ?_)
  ·
    have n_11 : 5 ≤ i := ge_of_le (N := 5) (k := i) c_11 (by omega) (by omega)
    obtain rfl : i = 5 := (by omega)
    refine z_aload_n C dX3_takeOff_38 (pc' := 39) rfl rfl rfl ?_
    refine z_dup C dX3_takeOff_39 (pc' := 40) rfl rfl ?_
    refine z_get C hK (pW_lt (by omega)) (kC_W k) rfl inAX3 (k := 1) (by decide) aw_121 rfl dX3_takeOff_40 (pc' := 43) rfl ?_
    refine z_iconst C dX3_takeOff_43 (pc' := 44) rfl (v := 2) (by decide) ?_
    refine z_iload_n C dX3_takeOff_44 (pc' := 45) rfl rfl rfl ?_
    refine z_imul C dX3_takeOff_45 (pc' := 46) rfl rfl ?_
    refine z_isub C dX3_takeOff_46 (pc' := 47) rfl rfl ?_
    refine z_put C hK hI AdS_in (pW_lt (by omega)) (kC_W k) (sC_W1 k _) (cellC_upW (by decide)) rfl inAX3 tyX3_ok nmX3 (k := 1) (by decide) aw_121 rfl (ty := .int) (by decide +kernel) rfl rfl (Nat.le_of_ble_eq_true rfl) dX3_takeOff_47 (pc' := 50) rfl ?_
    refine z_aload_n C dX3_takeOff_50 (pc' := 51) rfl rfl rfl ?_
    refine z_iconst C dX3_takeOff_51 (pc' := 52) rfl (v := 0) (by decide) ?_
    refine z_put C hK hI AdS_in (pW_lt (by omega)) (kC_W k) (sC_W4 k _) (cellC_upW (by decide)) rfl inAX3 tyX3_ok nmX3 (k := 3) (by decide) aw_126 rfl (ty := .int) (by decide +kernel) rfl rfl (Nat.le_of_ble_eq_true rfl) dX3_takeOff_52 (pc' := 55) rfl ?_
    exact z_vret C hM dX3_takeOff_55 rfl
  ·
    have n_11 : i < 5 := lt_of_nle (N := 5) (k := i) c_11 (by omega) (by omega)
    refine z_aload_n C dX3_takeOff_14 (pc' := 15) rfl rfl rfl ?_
    refine z_get C hK (pW_lt (by omega)) (kC_W k) rfl inAX3 (k := 0) (by decide) aw_119 rfl dX3_takeOff_15 (pc' := 18) rfl ?_
    refine z_iload_n C dX3_takeOff_18 (pc' := 19) rfl rfl rfl ?_
    refine z_iconst C dX3_takeOff_19 (pc' := 20) rfl (v := 0) (by decide) ?_
    refine z_aload_n C dX3_takeOff_20 (pc' := 21) rfl rfl rfl ?_
    refine z_get C hK (pW_lt (by omega)) (kC_W k) rfl inAX3 (k := 0) (by decide) aw_119 rfl dX3_takeOff_21 (pc' := 24) rfl ?_
    refine z_iload_n C dX3_takeOff_24 (pc' := 25) rfl rfl rfl ?_
    refine z_iald C hK (pD_lt (by omega)) (kC_D k) (t0 := 0) rfl (j := i) rfl (by omega) (by decide) rfl dX3_takeOff_25 (pc' := 26) rfl ?_
    refine z_iload_n C dX3_takeOff_26 (pc' := 27) rfl rfl rfl ?_
    refine z_isub C dX3_takeOff_27 (pc' := 28) rfl rfl ?_
    refine z_max C aw_220 aw_221 aw_33 aw_222 ⟨Nat.le_of_ble_eq_true rfl, Nat.le_of_ble_eq_true rfl⟩ ⟨Nat.zero_le _, Nat.zero_le _⟩ dX3_takeOff_28 (pc' := 31) rfl ?_
    refine z_iast C hK hI AdS_in (pD_lt (by omega)) (kC_D k) (sC_D k _ _) (cellC_upD (by omega)) (t0 := 0) rfl (j := i) rfl (by omega) (by decide) dX3_takeOff_31 (pc' := 32) rfl ?_
    refine z_iinc (L' := [.ref _, .int _, .int _, .int _]) C dX3_takeOff_32 (pc' := 35) rfl rfl (iinc1 _) (by decide) (Nat.le_of_ble_eq_true rfl) rfl ?_
    refine z_goto C dX3_takeOff_35 (pc' := 9) (by decide) ?_
    exact z_back 4 (ih9 (i + 1) (by omega) (by omega)) rfl rfl
set_option maxRecDepth 100000 in
set_option maxHeartbeats 400000 in
theorem m_X4_turn (l : Launch) {cA cB : ClassId} {D : va_G} {ad : Nat → Nat} (hI : Inj 67 ad) (σ : St) (w q : Int32) : CI l yX4_turn cX4_turn 4 .int 6 121 D [(cA, .int), (cB, .object RX3)] 67 ad (cellC cA cB ad) σ [.ref (ad 0), .int w, .int q] (fun r u => (¬ (isW w ∧ inR q 0 2) ∧ r = -1 ∧ u = σ) ∨ (∃ k kd : Nat, k < 16 ∧ kd ≤ 2 ∧ w = nI k ∧ q = nI kd ∧ ((σ 1 k - 2 * needN (σ (100 + 2 * k)) kd (σ 0 0) < 6000 ∧ r = -2 ∧ u = σ) ∨ (¬ σ 1 k - 2 * needN (σ (100 + 2 * k)) kd (σ 0 0) < 6000 ∧ u = g_turn σ k (needN (σ (100 + 2 * k)) kd (σ 0 0)) (ldC (σ (100 + 2 * k)) 4) ∧ r = u 1 k)))) := by
  refine CI_of (by decide +kernel) (Nat.le_of_ble_eq_true rfl) (by simp [Value.category]) ?_
  intro p e s m below meth c C hM hK
  refine z_iload_n C dX4_turn_0 (pc' := 1) rfl rfl rfl ?_
  refine z_callS C (m_X4_isWheel l _) stabP aw_177 aw_178 aw_27 aw_179 (nA := 1) (by decide +kernel) rfl ⟨Nat.le_of_ble_eq_true rfl, Nat.le_of_ble_eq_true rfl⟩ (rest := []) rfl (Nat.le_of_ble_eq_true rfl) ⟨Nat.zero_le _, Nat.zero_le _⟩ dX4_turn_1 (pc' := 4) rfl (fun r_1 h_1 => ?_)
  rcases h_1 with ⟨rfl, h_1⟩ | ⟨rfl, h_1⟩
  ·
    obtain ⟨k, hk, rfl⟩ := isW_of h_1
    refine z_if_eq (tgt := 14) C dX4_turn_4 (pc' := 7) (by decide) rfl (fun q => absurd q (by decide)) (fun _ => ?_)
    refine z_iload_n C dX4_turn_7 (pc' := 8) rfl rfl rfl ?_
    refine z_callS C (m_X4_isKind l _) stabP aw_203 aw_204 aw_27 aw_205 (nA := 1) (by decide +kernel) rfl ⟨Nat.le_of_ble_eq_true rfl, Nat.le_of_ble_eq_true rfl⟩ (rest := []) rfl (Nat.le_of_ble_eq_true rfl) ⟨Nat.zero_le _, Nat.zero_le _⟩ dX4_turn_8 (pc' := 11) rfl (fun r_8 h_8 => ?_)
    rcases h_8 with ⟨rfl, h_8⟩ | ⟨rfl, h_8⟩
    ·
      obtain ⟨kd, hkd, rfl⟩ := inR_of (n := 2) (by omega) h_8
      refine z_if_ne (tgt := 16) C dX4_turn_11 (pc' := 14) (by decide) rfl (fun _ => ?_) (fun q => absurd q (by decide))
      refine z_aload_n C dX4_turn_16 (pc' := 17) rfl rfl rfl ?_
      refine z_get C hK (by decide) kC_0 rfl inAX4 (k := 0) (by decide) aw_145 rfl dX4_turn_17 (pc' := 20) rfl ?_
      refine z_iload_n C dX4_turn_20 (pc' := 21) rfl rfl rfl ?_
      refine z_aald C hK (by decide) kC_1 (t0 := 1) rfl (j := k) rfl (by omega) (by decide) rfl dX4_turn_21 (pc' := 22) rfl ?_
      refine z_iload_n C dX4_turn_22 (pc' := 23) rfl rfl rfl ?_
      refine z_aload_n C dX4_turn_23 (pc' := 24) rfl rfl rfl ?_
      refine z_get C hK (by decide) kC_0 rfl inAX4 (k := 5) (by decide) aw_150 rfl dX4_turn_24 (pc' := 27) rfl ?_
      refine z_callI C hK (m_X3_neededCut l hI _ (k := k) (by omega) (kd := kd) (by omega) _) AdS_in aw_208 aw_209 aw_210 aw_31 aw_211 (pW_lt (by omega)) (kC_W k) rfl (nA := 2) (by decide +kernel) rfl ⟨Nat.le_of_ble_eq_true rfl, Nat.le_of_ble_eq_true rfl⟩ (rest := []) rfl (Nat.le_of_ble_eq_true rfl) ⟨Nat.zero_le _, Nat.zero_le _⟩ dX4_turn_27 (pc' := 30) rfl (fun r_27 u_27 h_27 => ?_)
      obtain ⟨hr_27, hu_27⟩ := h_27
      rw [hr_27, hu_27]
      refine z_istore_n (L' := [.ref _, .int _, .int _, .int _]) C dX4_turn_30 (pc' := 31) rfl rfl (by decide) (Nat.le_of_ble_eq_true rfl) rfl ?_
      refine z_aload_n C dX4_turn_31 (pc' := 32) rfl rfl rfl ?_
      refine z_get C hK (by decide) kC_0 rfl inAX4 (k := 0) (by decide) aw_145 rfl dX4_turn_32 (pc' := 35) rfl ?_
      refine z_iload_n C dX4_turn_35 (pc' := 36) rfl rfl rfl ?_
      refine z_aald C hK (by decide) kC_1 (t0 := 1) rfl (j := k) rfl (by omega) (by decide) rfl dX4_turn_36 (pc' := 37) rfl ?_
      refine z_get C hK (pW_lt (by omega)) (kC_W k) rfl inAX3 (k := 1) (by decide) aw_122 rfl dX4_turn_37 (pc' := 40) rfl ?_
      refine z_iconst C dX4_turn_40 (pc' := 41) rfl (v := 2) (by decide) ?_
      refine z_iload_n C dX4_turn_41 (pc' := 42) rfl rfl rfl ?_
      refine z_imul C dX4_turn_42 (pc' := 43) rfl rfl ?_
      refine z_isub C dX4_turn_43 (pc' := 44) rfl rfl ?_
      refine z_sipush C dX4_turn_44 (pc' := 47) rfl (v := 6000) (by decide) ?_
      refine z_icmp_ge (tgt := 53) C dX4_turn_47 (pc' := 50) (by decide) rfl (fun c_47 => ?_) (fun c_47 => ?_)
      ·
        refine z_aload_n C dX4_turn_53 (pc' := 54) rfl rfl rfl ?_
        refine z_get C hK (by decide) kC_0 rfl inAX4 (k := 0) (by decide) aw_145 rfl dX4_turn_54 (pc' := 57) rfl ?_
        refine z_iload_n C dX4_turn_57 (pc' := 58) rfl rfl rfl ?_
        refine z_aald C hK (by decide) kC_1 (t0 := 1) rfl (j := k) rfl (by omega) (by decide) rfl dX4_turn_58 (pc' := 59) rfl ?_
        refine z_iload_n C dX4_turn_59 (pc' := 60) rfl rfl rfl ?_
        refine z_callV C hK (m_X3_takeOff l hI _ (k := k) (by omega) _) AdS_in aw_242 aw_243 aw_244 aw_31 aw_245 (pW_lt (by omega)) (kC_W k) rfl (nA := 1) (by decide +kernel) rfl ⟨Nat.le_of_ble_eq_true rfl, Nat.le_of_ble_eq_true rfl⟩ (rest := []) rfl (Nat.le_of_ble_eq_true rfl) ⟨Nat.zero_le _, Nat.zero_le _⟩ dX4_turn_60 (pc' := 63) rfl (fun u_60 h_60 => ?_)
        rw [h_60]
        refine z_aload_n C dX4_turn_63 (pc' := 64) rfl rfl rfl ?_
        refine z_dup C dX4_turn_64 (pc' := 65) rfl rfl ?_
        refine z_get C hK (by decide) kC_0 rfl inAX4 (k := 7) (by decide) aw_152 rfl dX4_turn_65 (pc' := 68) rfl ?_
        refine z_iconst C dX4_turn_68 (pc' := 69) rfl (v := 1) (by decide) ?_
        refine z_iadd C dX4_turn_69 (pc' := 70) rfl rfl ?_
        refine z_put C hK hI AdS_in (by decide) kC_0 sC_02 oC_02 rfl inAX4 tyX4_ok nmX4 (k := 7) (by decide) aw_152 rfl (ty := .int) (by decide +kernel) rfl rfl (Nat.le_of_ble_eq_true rfl) dX4_turn_70 (pc' := 73) rfl ?_
        refine z_aload_n C dX4_turn_73 (pc' := 74) rfl rfl rfl ?_
        refine z_get C hK (by decide) kC_0 rfl inAX4 (k := 0) (by decide) aw_145 rfl dX4_turn_74 (pc' := 77) rfl ?_
        refine z_iload_n C dX4_turn_77 (pc' := 78) rfl rfl rfl ?_
        refine z_aald C hK (by decide) kC_1 (t0 := 1) rfl (j := k) rfl (by omega) (by decide) rfl dX4_turn_78 (pc' := 79) rfl ?_
        refine z_get C hK (pW_lt (by omega)) (kC_W k) rfl inAX3 (k := 1) (by decide) aw_122 rfl dX4_turn_79 (pc' := 82) rfl ?_
        exact z_iret C hM dX4_turn_82 (Or.inr ⟨k, kd, hk, by omega, rfl, rfl, Or.inr ⟨by simp only [i32_le, i32_lt] at *; omega, rfl, rfl⟩⟩)
      ·
        refine z_bipush C dX4_turn_50 (pc' := 52) rfl (v := (-2)) (by decide) ?_
        exact z_iret C hM dX4_turn_52 (Or.inr ⟨k, kd, hk, by omega, rfl, rfl, Or.inl ⟨by simp only [i32_le, i32_lt] at *; omega, rfl, rfl⟩⟩)
    ·
      refine z_if_ne (tgt := 16) C dX4_turn_11 (pc' := 14) (by decide) rfl (fun q => absurd q (by decide)) (fun _ => ?_)
      refine z_iconst C dX4_turn_14 (pc' := 15) rfl (v := (-1)) (by decide) ?_
      exact z_iret C hM dX4_turn_15 (Or.inl ⟨fun z => absurd z (by simp [*]), rfl, rfl⟩)
  ·
    refine z_if_eq (tgt := 14) C dX4_turn_4 (pc' := 7) (by decide) rfl (fun _ => ?_) (fun q => absurd q (by decide))
    refine z_iconst C dX4_turn_14 (pc' := 15) rfl (v := (-1)) (by decide) ?_
    exact z_iret C hM dX4_turn_15 (Or.inl ⟨fun z => absurd z (by simp [*]), rfl, rfl⟩)
set_option maxRecDepth 100000 in
set_option maxHeartbeats 400000 in
theorem m_X3_run (l : Launch) {cA cB : ClassId} {D : va_G} {ad : Nat → Nat} (hI : Inj 67 ad) (σ : St) {k : Nat} (hk : k < 16) (n : Int32) : CV l yX3_run cX3_run 5 1 15 D [(cA, .int), (cB, .object RX3)] 67 ad (cellC cA cB ad) σ [.ref (ad (pW k)), .int n] (fun u => u = runS σ k n) := by
  refine CV_of (by decide +kernel) (Nat.le_of_ble_eq_true rfl) (by simp [Value.category]) ?_
  intro p e s m below meth c C hM hK
  refine z_aload_n C dX3_run_0 (pc' := 1) rfl rfl rfl ?_
  refine z_get C hK (pW_lt (by omega)) (kC_W k) rfl inAX3 (k := 2) (by decide) aw_124 rfl dX3_run_1 (pc' := 4) rfl ?_
  refine z_iload_n C dX3_run_4 (pc' := 5) rfl rfl rfl ?_
  refine z_imul C dX3_run_5 (pc' := 6) rfl rfl ?_
  refine z_bipush C dX3_run_6 (pc' := 8) rfl (v := 100) (by decide) ?_
  refine z_idiv C dX3_run_8 (pc' := 9) rfl (by decide) rfl ?_
  refine z_istore_n (L' := [.ref _, .int _, .int _]) C dX3_run_9 (pc' := 10) rfl rfl (by decide) (Nat.le_of_ble_eq_true rfl) rfl ?_
  refine z_iconst C dX3_run_10 (pc' := 11) rfl (v := 0) (by decide) ?_
  refine z_istore_n (L' := [.ref _, .int _, .int _, .int _]) C dX3_run_11 (pc' := 12) rfl rfl (by decide) (Nat.le_of_ble_eq_true rfl) rfl ?_
  refine z_loop (τ := Nat) (fun i => 5 - i) (fun i => i ≤ 5) (fun i => rnL σ (100 + 2 * k) (wornF σ k n) i) (fun i => [.ref (ad (pW k)), .int n, .int (wornF σ k n), .int (nI i)]) 0 (by omega) rfl ⟨_, rfl⟩ ?_
  intro i hi ih12
  try dsimp only at hi ih12 ⊢
  refine z_iload_n C dX3_run_12 (pc' := 13) rfl rfl rfl ?_
  refine z_iconst C dX3_run_13 (pc' := 14) rfl (v := 5) (by decide) ?_
  refine z_icmp_ge (tgt := 69) C dX3_run_14 (pc' := 17) (by decide) rfl (fun c_14 => ?_) (fun c_14 => ?_)
  ·
    have n_14 : 5 ≤ i := ge_of_le (N := 5) (k := i) c_14 (by omega) (by omega)
    obtain rfl : i = 5 := (by omega)
    refine z_aload_n C dX3_run_69 (pc' := 70) rfl rfl rfl ?_
    refine z_sipush C dX3_run_70 (pc' := 73) rfl (v := 6000) (by decide) ?_
    refine z_aload_n C dX3_run_73 (pc' := 74) rfl rfl rfl ?_
    refine z_get C hK (pW_lt (by omega)) (kC_W k) rfl inAX3 (k := 1) (by decide) aw_121 rfl dX3_run_74 (pc' := 77) rfl ?_
    refine z_iload_n C dX3_run_77 (pc' := 78) rfl rfl rfl ?_
    refine z_isub C dX3_run_78 (pc' := 79) rfl rfl ?_
    refine z_max C aw_220 aw_221 aw_33 aw_222 ⟨Nat.le_of_ble_eq_true rfl, Nat.le_of_ble_eq_true rfl⟩ ⟨Nat.zero_le _, Nat.zero_le _⟩ dX3_run_79 (pc' := 82) rfl ?_
    refine z_put C hK hI AdS_in (pW_lt (by omega)) (kC_W k) (sC_W1 k _) (cellC_upW (by decide)) rfl inAX3 tyX3_ok nmX3 (k := 1) (by decide) aw_121 rfl (ty := .int) (by decide +kernel) rfl rfl (Nat.le_of_ble_eq_true rfl) dX3_run_82 (pc' := 85) rfl ?_
    refine z_aload_n C dX3_run_85 (pc' := 86) rfl rfl rfl ?_
    refine z_dup C dX3_run_86 (pc' := 87) rfl rfl ?_
    refine z_get C hK (pW_lt (by omega)) (kC_W k) rfl inAX3 (k := 3) (by decide) aw_126 rfl dX3_run_87 (pc' := 90) rfl ?_
    refine z_iload_n C dX3_run_90 (pc' := 91) rfl rfl rfl ?_
    refine z_iadd C dX3_run_91 (pc' := 92) rfl rfl ?_
    refine z_put C hK hI AdS_in (pW_lt (by omega)) (kC_W k) (sC_W4 k _) (cellC_upW (by decide)) rfl inAX3 tyX3_ok nmX3 (k := 3) (by decide) aw_126 rfl (ty := .int) (by decide +kernel) rfl rfl (Nat.le_of_ble_eq_true rfl) dX3_run_92 (pc' := 95) rfl ?_
    exact z_vret C hM dX3_run_95 rfl
  ·
    have n_14 : i < 5 := lt_of_nle (N := 5) (k := i) c_14 (by omega) (by omega)
    refine z_iload_n C dX3_run_17 (pc' := 18) rfl rfl rfl ?_
    refine z_tern (J := 31) (P := fun v => v = if i = 0 ∨ i = 4 then 1 else 0) 1 ?_ ?_
    · intro b hb
      try dsimp only [List.drop]
      refine z_istore (L' := [.ref _, .int _, .int _, .int _, .int _]) C dX3_run_31 (pc' := 33) rfl (by decide) (Nat.le_of_ble_eq_true rfl) rfl ?_
      refine z_aload_n C dX3_run_33 (pc' := 34) rfl rfl rfl ?_
      refine z_get C hK (pW_lt (by omega)) (kC_W k) rfl inAX3 (k := 0) (by decide) aw_119 rfl dX3_run_34 (pc' := 37) rfl ?_
      refine z_iload_n C dX3_run_37 (pc' := 38) rfl rfl rfl ?_
      refine z_bipush C dX3_run_38 (pc' := 40) rfl (v := 99) (by decide) ?_
      refine z_aload_n C dX3_run_40 (pc' := 41) rfl rfl rfl ?_
      refine z_get C hK (pW_lt (by omega)) (kC_W k) rfl inAX3 (k := 0) (by decide) aw_119 rfl dX3_run_41 (pc' := 44) rfl ?_
      refine z_iload_n C dX3_run_44 (pc' := 45) rfl rfl rfl ?_
      refine z_iald C hK (pD_lt (by omega)) (kC_D k) (t0 := 0) rfl (j := i) rfl (by omega) (by decide) rfl dX3_run_45 (pc' := 46) rfl ?_
      refine z_iload C dX3_run_46 (pc' := 48) rfl rfl ?_
      refine z_tern (J := 58) (P := fun v => v = if i = 0 ∨ i = 4 then wornF σ k n / 2 else wornF σ k n) 1 ?_ ?_
      · intro x hx
        try dsimp only [List.drop]
        refine z_iadd C dX3_run_58 (pc' := 59) rfl rfl ?_
        refine z_min C aw_227 aw_228 aw_33 aw_229 ⟨Nat.le_of_ble_eq_true rfl, Nat.le_of_ble_eq_true rfl⟩ ⟨Nat.zero_le _, Nat.zero_le _⟩ dX3_run_59 (pc' := 62) rfl ?_
        refine z_iast C hK hI AdS_in (pD_lt (by omega)) (kC_D k) (sC_D k _ _) (cellC_upD (by omega)) (t0 := 0) rfl (j := i) rfl (by omega) (by decide) dX3_run_62 (pc' := 63) rfl ?_
        refine z_iinc (L' := [.ref _, .int _, .int _, .int _, .int _]) C dX3_run_63 (pc' := 66) rfl rfl (iinc1 _) (by decide) (Nat.le_of_ble_eq_true rfl) rfl ?_
        refine z_goto C dX3_run_66 (pc' := 12) (by decide) ?_
        exact z_back 4 (ih12 (i + 1) (by omega) (by omega)) (by simp only [rnL, mn, hx]) rfl
      · intro hj_58
        refine z_if_eq (tgt := 57) C dX3_run_48 (pc' := 51) (by decide) rfl (fun c_48 => ?_) (fun c_48 => ?_)
        ·
          refine z_iload_n C dX3_run_57 (pc' := 58) rfl rfl rfl ?_
          exact hj_58 _ (by subst hb; by_cases q : i = 0 ∨ i = 4 <;> simp_all)
        ·
          refine z_iload_n C dX3_run_51 (pc' := 52) rfl rfl rfl ?_
          refine z_iconst C dX3_run_52 (pc' := 53) rfl (v := 2) (by decide) ?_
          refine z_idiv C dX3_run_53 (pc' := 54) rfl (by decide) rfl ?_
          refine z_goto C dX3_run_54 (pc' := 58) (by decide) ?_
          exact hj_58 _ (by subst hb; by_cases q : i = 0 ∨ i = 4 <;> simp_all)
    · intro hj_31
      refine z_if_eq (tgt := 26) C dX3_run_18 (pc' := 21) (by decide) rfl (fun c_18 => ?_) (fun c_18 => ?_)
      ·
        have n_18 : i = 0 := (nI_eq0 (by omega)).mp c_18
        refine z_iconst C dX3_run_26 (pc' := 27) rfl (v := 1) (by decide) ?_
        refine z_goto C dX3_run_27 (pc' := 31) (by decide) ?_
        exact hj_31 _ (by simp [*])
      ·
        have n_18 : ¬ i = 0 := fun z9 => c_18 ((nI_eq0 (by omega)).mpr z9)
        refine z_iload_n C dX3_run_21 (pc' := 22) rfl rfl rfl ?_
        refine z_iconst C dX3_run_22 (pc' := 23) rfl (v := 4) (by decide) ?_
        refine z_icmp_ne (tgt := 30) C dX3_run_23 (pc' := 26) (by decide) rfl (fun c_23 => ?_) (fun c_23 => ?_)
        ·
          have n_23 : ¬ i = 4 := fun z9 => c_23 ((nI_eq (a := i) (b := 4) (by omega) (by omega)).mpr z9)
          refine z_iconst C dX3_run_30 (pc' := 31) rfl (v := 0) (by decide) ?_
          exact hj_31 _ (by simp [*])
        ·
          have n_23 : i = 4 := (nI_eq (a := i) (b := 4) (by omega) (by omega)).mp c_23
          refine z_iconst C dX3_run_26 (pc' := 27) rfl (v := 1) (by decide) ?_
          refine z_goto C dX3_run_27 (pc' := 31) (by decide) ?_
          exact hj_31 _ (by simp [*])
set_option maxRecDepth 100000 in
set_option maxHeartbeats 400000 in
theorem m_X4_miles (l : Launch) {cA cB : ClassId} {D : va_G} {ad : Nat → Nat} (hI : Inj 67 ad) (σ : St) (n : Int32) : CI l yX4_miles cX4_miles 4 .int 2 39 D [(cA, .int), (cB, .object RX3)] 67 ad (cellC cA cB ad) σ [.ref (ad 0), .int n] (fun r u => (¬ inR n 1 500 ∧ r = -1 ∧ u = σ) ∨ (inR n 1 500 ∧ r = dueC σ n 16 ∧ u = mlS σ n 16)) := by
  refine CI_of (by decide +kernel) (Nat.le_of_ble_eq_true rfl) (by simp [Value.category]) ?_
  intro p e s m below meth c C hM hK
  refine z_iload_n C dX4_miles_0 (pc' := 1) rfl rfl rfl ?_
  refine z_iconst C dX4_miles_1 (pc' := 2) rfl (v := 1) (by decide) ?_
  refine z_sipush C dX4_miles_2 (pc' := 5) rfl (v := 500) (by decide) ?_
  refine z_callS C (m_X4_within l _ _ _) stabP aw_180 aw_181 aw_27 aw_182 (nA := 3) (by decide +kernel) rfl ⟨Nat.le_of_ble_eq_true rfl, Nat.le_of_ble_eq_true rfl⟩ (rest := []) rfl (Nat.le_of_ble_eq_true rfl) ⟨Nat.zero_le _, Nat.zero_le _⟩ dX4_miles_5 (pc' := 8) rfl (fun r_5 h_5 => ?_)
  rcases h_5 with ⟨rfl, h_5⟩ | ⟨rfl, h_5⟩
  ·
    refine z_if_ne (tgt := 13) C dX4_miles_8 (pc' := 11) (by decide) rfl (fun _ => ?_) (fun q => absurd q (by decide))
    refine z_iconst C dX4_miles_13 (pc' := 14) rfl (v := 0) (by decide) ?_
    refine z_istore_n (L' := [.ref _, .int _, .int _]) C dX4_miles_14 (pc' := 15) rfl rfl (by decide) (Nat.le_of_ble_eq_true rfl) rfl ?_
    refine z_iconst C dX4_miles_15 (pc' := 16) rfl (v := 0) (by decide) ?_
    refine z_istore_n (L' := [.ref _, .int _, .int _, .int _]) C dX4_miles_16 (pc' := 17) rfl rfl (by decide) (Nat.le_of_ble_eq_true rfl) rfl ?_
    refine z_loop (τ := Nat) (fun i => 16 - i) (fun i => i ≤ 16) (fun i => mlS σ n i) (fun i => [.ref (ad 0), .int n, .int (dueC σ n i), .int (nI i)]) 0 (by omega) rfl ⟨_, rfl⟩ ?_
    intro i hi ih17
    try dsimp only at hi ih17 ⊢
    refine z_iload_n C dX4_miles_17 (pc' := 18) rfl rfl rfl ?_
    refine z_bipush C dX4_miles_18 (pc' := 20) rfl (v := 16) (by decide) ?_
    refine z_icmp_ge (tgt := 54) C dX4_miles_20 (pc' := 23) (by decide) rfl (fun c_20 => ?_) (fun c_20 => ?_)
    ·
      have n_20 : 16 ≤ i := ge_of_le (N := 16) (k := i) c_20 (by omega) (by omega)
      refine z_iload_n C dX4_miles_54 (pc' := 55) rfl rfl rfl ?_
      exact z_iret C hM dX4_miles_55 (by obtain rfl : i = 16 := (by omega); exact Or.inr ⟨by assumption, rfl, rfl⟩)
    ·
      have n_20 : i < 16 := lt_of_nle (N := 16) (k := i) c_20 (by omega) (by omega)
      refine z_aload_n C dX4_miles_23 (pc' := 24) rfl rfl rfl ?_
      refine z_get C hK (by decide) kC_0 rfl inAX4 (k := 0) (by decide) aw_145 rfl dX4_miles_24 (pc' := 27) rfl ?_
      refine z_iload_n C dX4_miles_27 (pc' := 28) rfl rfl rfl ?_
      refine z_aald C hK (by decide) kC_1 (t0 := 1) rfl (j := i) rfl (by omega) (by decide) rfl dX4_miles_28 (pc' := 29) rfl ?_
      refine z_iload_n C dX4_miles_29 (pc' := 30) rfl rfl rfl ?_
      refine z_callV C hK (m_X3_run l hI _ (k := i) (by omega) _) AdS_in aw_250 aw_251 aw_252 aw_31 aw_253 (pW_lt (by omega)) (kC_W i) rfl (nA := 1) (by decide +kernel) rfl ⟨Nat.le_of_ble_eq_true rfl, Nat.le_of_ble_eq_true rfl⟩ (rest := []) rfl (Nat.le_of_ble_eq_true rfl) ⟨Nat.zero_le _, Nat.zero_le _⟩ dX4_miles_30 (pc' := 33) rfl (fun u_30 h_30 => ?_)
      rw [h_30]
      refine z_aload_n C dX4_miles_33 (pc' := 34) rfl rfl rfl ?_
      refine z_get C hK (by decide) kC_0 rfl inAX4 (k := 0) (by decide) aw_145 rfl dX4_miles_34 (pc' := 37) rfl ?_
      refine z_iload_n C dX4_miles_37 (pc' := 38) rfl rfl rfl ?_
      refine z_aald C hK (by decide) kC_1 (t0 := 1) rfl (j := i) rfl (by omega) (by decide) rfl dX4_miles_38 (pc' := 39) rfl ?_
      refine z_callI C hK (m_X3_milesLeft l hI _ (k := i) (by omega)) AdS_in aw_254 aw_255 aw_256 aw_31 aw_257 (pW_lt (by omega)) (kC_W i) rfl (nA := 0) (by decide +kernel) rfl ⟨Nat.le_of_ble_eq_true rfl, Nat.le_of_ble_eq_true rfl⟩ (rest := []) rfl (Nat.le_of_ble_eq_true rfl) ⟨Nat.zero_le _, Nat.zero_le _⟩ dX4_miles_39 (pc' := 42) rfl (fun r_39 u_39 h_39 => ?_)
      obtain ⟨hr_39, hu_39⟩ := h_39
      rw [hr_39, hu_39]
      refine z_if_gt (tgt := 48) C dX4_miles_42 (pc' := 45) (by decide) rfl (fun c_42 => ?_) (fun c_42 => ?_)
      ·
        refine z_iinc (L' := [.ref _, .int _, .int _, .int _]) C dX4_miles_48 (pc' := 51) rfl rfl (iinc1 _) (by decide) (Nat.le_of_ble_eq_true rfl) rfl ?_
        refine z_goto C dX4_miles_51 (pc' := 17) (by decide) ?_
        exact z_back 4 (ih17 (i + 1) (by omega) (by omega)) rfl (by simp [dueC, mlS, *])
      ·
        refine z_iinc (L' := [.ref _, .int _, .int _, .int _]) C dX4_miles_45 (pc' := 48) rfl rfl (iincx _) (by decide) (Nat.le_of_ble_eq_true rfl) rfl ?_
        refine z_iinc (L' := [.ref _, .int _, .int _, .int _]) C dX4_miles_48 (pc' := 51) rfl rfl (iinc1 _) (by decide) (Nat.le_of_ble_eq_true rfl) rfl ?_
        refine z_goto C dX4_miles_51 (pc' := 17) (by decide) ?_
        exact z_back 4 (ih17 (i + 1) (by omega) (by omega)) rfl (by simp [dueC, mlS, *])
  ·
    refine z_if_ne (tgt := 13) C dX4_miles_8 (pc' := 11) (by decide) rfl (fun q => absurd q (by decide)) (fun _ => ?_)
    refine z_iconst C dX4_miles_11 (pc' := 12) rfl (v := (-1)) (by decide) ?_
    exact z_iret C hM dX4_miles_12 (Or.inl ⟨by assumption, rfl, rfl⟩)
set_option maxRecDepth 100000 in
set_option maxHeartbeats 400000 in
theorem m_X3_feel (l : Launch) {cA cB : ClassId} {D : va_G} {ad : Nat → Nat} (hI : Inj 67 ad) (σ : St) {k : Nat} (hk : k < 16) {o : Nat} (ho : o < 5) (eo : σ 22 k = nI o) (v : Int32) : CV l yX3_feel cX3_feel 2 1 14 D [(cA, .int), (cB, .object RX3)] 67 ad (cellC cA cB ad) σ [.ref (ad (pW k)), .int v] (fun u => u = g_feel σ k o v) := by
  refine CV_of (by decide +kernel) (Nat.le_of_ble_eq_true rfl) (by simp [Value.category]) ?_
  intro p e s m below meth c C hM hK
  refine z_aload_n C dX3_feel_0 (pc' := 1) rfl rfl rfl ?_
  refine z_get C hK (pW_lt (by omega)) (kC_W k) rfl inAX3 (k := 4) (by decide) aw_127 rfl dX3_feel_1 (pc' := 4) rfl ?_
  refine z_aload_n C dX3_feel_4 (pc' := 5) rfl rfl rfl ?_
  refine z_get C hK (pW_lt (by omega)) (kC_W k) rfl inAX3 (k := 6) (by decide) aw_129 rfl dX3_feel_5 (pc' := 8) rfl ?_
  refine z_top (y := nI o) (by simp only [up2_c _ _ _ _ (show 22 ≠ 101 + 2 * k by omega), eo]) ?_
  refine z_iload_n C dX3_feel_8 (pc' := 9) rfl rfl rfl ?_
  refine z_iast C hK hI AdS_in (pB_lt (by omega)) (kC_B k) (sC_B k _ _) (cellC_upB (by omega)) (t0 := 0) rfl (j := o) rfl (by omega) (by decide) dX3_feel_9 (pc' := 10) rfl ?_
  refine z_aload_n C dX3_feel_10 (pc' := 11) rfl rfl rfl ?_
  refine z_aload_n C dX3_feel_11 (pc' := 12) rfl rfl rfl ?_
  refine z_get C hK (pW_lt (by omega)) (kC_W k) rfl inAX3 (k := 6) (by decide) aw_129 rfl dX3_feel_12 (pc' := 15) rfl ?_
  refine z_top (y := nI o) (by simp only [up2_c _ _ _ _ (show 22 ≠ 101 + 2 * k by omega), eo]) ?_
  refine z_iconst C dX3_feel_15 (pc' := 16) rfl (v := 4) (by decide) ?_
  refine z_tern (J := 29) (P := fun v => v = if o = 4 then 0 else nI (o + 1)) 2 ?_ ?_
  · intro x hx
    try dsimp only [List.drop]
    refine z_put C hK hI AdS_in (pW_lt (by omega)) (kC_W k) (sC_W22 k _) (cellC_upW (by decide)) rfl inAX3 tyX3_ok nmX3 (k := 6) (by decide) aw_129 rfl (ty := .int) (by decide +kernel) rfl rfl (Nat.le_of_ble_eq_true rfl) dX3_feel_29 (pc' := 32) rfl ?_
    refine z_aload_n C dX3_feel_32 (pc' := 33) rfl rfl rfl ?_
    refine z_iconst C dX3_feel_33 (pc' := 34) rfl (v := 5) (by decide) ?_
    refine z_aload_n C dX3_feel_34 (pc' := 35) rfl rfl rfl ?_
    refine z_get C hK (pW_lt (by omega)) (kC_W k) rfl inAX3 (k := 5) (by decide) aw_128 rfl dX3_feel_35 (pc' := 38) rfl ?_
    refine z_iconst C dX3_feel_38 (pc' := 39) rfl (v := 1) (by decide) ?_
    refine z_iadd C dX3_feel_39 (pc' := 40) rfl rfl ?_
    refine z_min C aw_227 aw_228 aw_33 aw_229 ⟨Nat.le_of_ble_eq_true rfl, Nat.le_of_ble_eq_true rfl⟩ ⟨Nat.zero_le _, Nat.zero_le _⟩ dX3_feel_40 (pc' := 43) rfl ?_
    refine z_put C hK hI AdS_in (pW_lt (by omega)) (kC_W k) (sC_W21 k _) (cellC_upW (by decide)) rfl inAX3 tyX3_ok nmX3 (k := 5) (by decide) aw_128 rfl (ty := .int) (by decide +kernel) rfl rfl (Nat.le_of_ble_eq_true rfl) dX3_feel_43 (pc' := 46) rfl ?_
    exact z_vret C hM dX3_feel_46 (by simp only [g_feel, mn, hx]; rw [up2_c _ _ _ _ (show 21 ≠ 22 by decide), up2_c _ _ _ _ (show 21 ≠ 101 + 2 * k by omega)])
  · intro hj_29
    refine z_icmp_ne (tgt := 23) C dX3_feel_16 (pc' := 19) (by decide) rfl (fun c_16 => ?_) (fun c_16 => ?_)
    ·
      have n_16 : ¬ o = 4 := fun z9 => c_16 ((nI_eq (a := o) (b := 4) (by omega) (by omega)).mpr z9)
      refine z_aload_n C dX3_feel_23 (pc' := 24) rfl rfl rfl ?_
      refine z_get C hK (pW_lt (by omega)) (kC_W k) rfl inAX3 (k := 6) (by decide) aw_129 rfl dX3_feel_24 (pc' := 27) rfl ?_
      refine z_top (y := nI o) (by simp only [up2_c _ _ _ _ (show 22 ≠ 101 + 2 * k by omega), eo]) ?_
      refine z_iconst C dX3_feel_27 (pc' := 28) rfl (v := 1) (by decide) ?_
      refine z_iadd C dX3_feel_28 (pc' := 29) rfl (nI_add (o) (1)) ?_
      exact hj_29 _ (by simp [*])
    ·
      have n_16 : o = 4 := (nI_eq (a := o) (b := 4) (by omega) (by omega)).mp c_16
      refine z_iconst C dX3_feel_19 (pc' := 20) rfl (v := 0) (by decide) ?_
      refine z_goto C dX3_feel_20 (pc' := 29) (by decide) ?_
      exact hj_29 _ (by simp [*])
set_option maxRecDepth 100000 in
set_option maxHeartbeats 400000 in
theorem m_X3_isFlat (l : Launch) {cA cB : ClassId} {D : va_G} {ad : Nat → Nat} (hI : Inj 67 ad) (σ : St) {k : Nat} (hk : k < 16) {b : Nat} (hb5 : b ≤ 5) (eb : σ 21 k = nI b) (v : Int32) : CI l yX3_isFlat cX3_isFlat 4 .boolean 0 0 D [(cA, .int), (cB, .object RX3)] 67 ad (cellC cA cB ad) σ [.ref (ad (pW k)), .int v] (fun r u => u = σ ∧ ((r = 1 ∧ ¬ cntB σ k v b < 3) ∨ (r = 0 ∧ cntB σ k v b < 3))) := by
  refine CI_of (by decide +kernel) (Nat.le_of_ble_eq_true rfl) (by simp [Value.category]) ?_
  intro p e s m below meth c C hM hK
  refine z_iconst C dX3_isFlat_0 (pc' := 1) rfl (v := 0) (by decide) ?_
  refine z_istore_n (L' := [.ref _, .int _, .int _]) C dX3_isFlat_1 (pc' := 2) rfl rfl (by decide) (Nat.le_of_ble_eq_true rfl) rfl ?_
  refine z_iconst C dX3_isFlat_2 (pc' := 3) rfl (v := 0) (by decide) ?_
  refine z_istore_n (L' := [.ref _, .int _, .int _, .int _]) C dX3_isFlat_3 (pc' := 4) rfl rfl (by decide) (Nat.le_of_ble_eq_true rfl) rfl ?_
  refine z_loop (τ := Nat) (fun i => b - i) (fun i => i ≤ b) (fun i => σ) (fun i => [.ref (ad (pW k)), .int v, .int (cntB σ k v i), .int (nI i)]) 0 (by omega) rfl ⟨_, rfl⟩ ?_
  intro i hi ih4
  try dsimp only at hi ih4 ⊢
  refine z_iload_n C dX3_isFlat_4 (pc' := 5) rfl rfl rfl ?_
  refine z_aload_n C dX3_isFlat_5 (pc' := 6) rfl rfl rfl ?_
  refine z_get C hK (pW_lt (by omega)) (kC_W k) rfl inAX3 (k := 5) (by decide) aw_128 rfl dX3_isFlat_6 (pc' := 9) rfl ?_
  refine z_top (y := nI b) eb ?_
  refine z_icmp_ge (tgt := 31) C dX3_isFlat_9 (pc' := 12) (by decide) rfl (fun c_9 => ?_) (fun c_9 => ?_)
  ·
    have n_9 : b ≤ i := ge_of_le (N := b) (k := i) c_9 (by omega) (by omega)
    obtain rfl : i = b := (by omega)
    refine z_iload_n C dX3_isFlat_31 (pc' := 32) rfl rfl rfl ?_
    refine z_iconst C dX3_isFlat_32 (pc' := 33) rfl (v := 3) (by decide) ?_
    refine z_icmp_lt (tgt := 40) C dX3_isFlat_33 (pc' := 36) (by decide) rfl (fun c_33 => ?_) (fun c_33 => ?_)
    ·
      refine z_iconst C dX3_isFlat_40 (pc' := 41) rfl (v := 0) (by decide) ?_
      exact z_zret C hM dX3_isFlat_41 (by decide) ⟨rfl, Or.inr ⟨rfl, by assumption⟩⟩
    ·
      refine z_iconst C dX3_isFlat_36 (pc' := 37) rfl (v := 1) (by decide) ?_
      refine z_goto C dX3_isFlat_37 (pc' := 41) (by decide) ?_
      exact z_zret C hM dX3_isFlat_41 (by decide) ⟨rfl, Or.inl ⟨rfl, by assumption⟩⟩
  ·
    have n_9 : i < b := lt_of_nle (N := b) (k := i) c_9 (by omega) (by omega)
    refine z_aload_n C dX3_isFlat_12 (pc' := 13) rfl rfl rfl ?_
    refine z_get C hK (pW_lt (by omega)) (kC_W k) rfl inAX3 (k := 4) (by decide) aw_127 rfl dX3_isFlat_13 (pc' := 16) rfl ?_
    refine z_iload_n C dX3_isFlat_16 (pc' := 17) rfl rfl rfl ?_
    refine z_iald C hK (pB_lt (by omega)) (kC_B k) (t0 := 0) rfl (j := i) rfl (by omega) (by decide) rfl dX3_isFlat_17 (pc' := 18) rfl ?_
    refine z_iload_n C dX3_isFlat_18 (pc' := 19) rfl rfl rfl ?_
    refine z_icmp_lt (tgt := 25) C dX3_isFlat_19 (pc' := 22) (by decide) rfl (fun c_19 => ?_) (fun c_19 => ?_)
    ·
      refine z_iinc (L' := [.ref _, .int _, .int _, .int _]) C dX3_isFlat_25 (pc' := 28) rfl rfl (iinc1 _) (by decide) (Nat.le_of_ble_eq_true rfl) rfl ?_
      refine z_goto C dX3_isFlat_28 (pc' := 4) (by decide) ?_
      exact z_back 4 (ih4 (i + 1) (by omega) (by omega)) rfl (by simp [cntB, *])
    ·
      refine z_iinc (L' := [.ref _, .int _, .int _, .int _]) C dX3_isFlat_22 (pc' := 25) rfl rfl (iincx _) (by decide) (Nat.le_of_ble_eq_true rfl) rfl ?_
      refine z_iinc (L' := [.ref _, .int _, .int _, .int _]) C dX3_isFlat_25 (pc' := 28) rfl rfl (iinc1 _) (by decide) (Nat.le_of_ble_eq_true rfl) rfl ?_
      refine z_goto C dX3_isFlat_28 (pc' := 4) (by decide) ?_
      exact z_back 4 (ih4 (i + 1) (by omega) (by omega)) rfl (by simp [cntB, *])
end
section
/-! the reference's wheels -/
def gdR (f : Nat → Int32) : Nat → Int32
  | 0 => 0
  | n + 1 => if f n ≤ gdR f n then gdR f n else f n
def ldR (f : Nat → Int32) : Nat → Int32
  | 0 => 99
  | n + 1 => if ldR f n ≤ f n then ldR f n else f n
def cut1 (f : Nat → Int32) : Int32 := gdR f 5 - ldR f 5
def cut2 (f : Nat → Int32) (kd : Nat) (th : Int32) : Int32 := if kd = 0 then cut1 f else if f 0 = gdR f 5 then (if th ≤ cut1 f then cut1 f - th else 0) else cut1 f
def cutV (f : Nat → Int32) (kd : Nat) (th : Int32) : Int32 := if kd = 2 then cut2 f kd th + (cut2 f kd th - cut2 f kd th / 2 * 2) else cut2 f kd th
theorem mx_ge {a d : Int32} (h : a ≤ d) : d = mx a d := by
  unfold mx
  by_cases q : a < d
  · rw [if_pos q]
  · rw [if_neg q]
    rw [i32_le] at h; rw [i32_lt] at q
    exact Int32.toInt_inj.mp (by omega)
theorem mx_lt {a d : Int32} (h : ¬ a ≤ d) : a = mx a d := by
  unfold mx
  rw [if_neg]
  rw [i32_le] at h; rw [i32_lt]; omega
theorem mn_le {a d : Int32} (h : d ≤ a) : d = mn a d := by
  unfold mn
  by_cases q : d < a
  · rw [if_pos q]
  · rw [if_neg q]
    rw [i32_le] at h; rw [i32_lt] at q
    exact Int32.toInt_inj.mp (by omega)
theorem mn_gt {a d : Int32} (h : ¬ d ≤ a) : a = mn a d := by
  unfold mn
  rw [if_neg]
  rw [i32_le] at h; rw [i32_lt]; omega
def dueR (σ : St) (n : Int32) : Nat → Int32
  | 0 => 0
  | k + 1 => dueR σ n k + if mlS σ n (k + 1) 4 k < 1000 then 0 else 1
theorem mn5 {b : Nat} (h : b ≤ 5) : mn 5 (nI b + 1) = nI (min 5 (b + 1)) := by
  rw [nI_1]
  show mn (nI 5) (nI (b + 1)) = _
  by_cases q : b + 1 ≤ 5
  · rw [← mn_le (nI_le (b := 5) q (by omega)), Nat.min_eq_right q]
  · rw [← mn_gt (nI_ge (a := 5) (b := b + 1) (by omega) (by omega)), Nat.min_eq_left (by omega)]
theorem i32_nge {x y : Int32} (h : x ≤ y) : ¬ y < x := by rw [i32_le] at h; rw [i32_lt]; omega
set_option maxRecDepth 100000 in
set_option maxHeartbeats 400000 in
theorem m_X5_least (l : Launch) {cA : ClassId} {D : va_G} {ad : Nat → Nat} (hI : Inj 17 ad) (σ : St) {k : Nat} (hk : k < 16) : CI l yX5_least cX5_least 4 .int 0 0 D [(cA, .int)] 17 ad (cellR cA ad) σ [.ref (ad 0), .int (nI k)] (fun r u => r = ldR (σ (100 + 2 * k)) 5 ∧ u = σ) := by
  refine CI_of (by decide +kernel) (Nat.le_of_ble_eq_true rfl) (by simp [Value.category]) ?_
  intro p e s m below meth c C hM hK
  refine z_bipush C dX5_least_0 (pc' := 2) rfl (v := 99) (by decide) ?_
  refine z_istore_n (L' := [.ref _, .int _, .int _]) C dX5_least_2 (pc' := 3) rfl rfl (by decide) (Nat.le_of_ble_eq_true rfl) rfl ?_
  refine z_iconst C dX5_least_3 (pc' := 4) rfl (v := 0) (by decide) ?_
  refine z_istore_n (L' := [.ref _, .int _, .int _, .int _]) C dX5_least_4 (pc' := 5) rfl rfl (by decide) (Nat.le_of_ble_eq_true rfl) rfl ?_
  refine z_loop (τ := Nat) (fun i => 5 - i) (fun i => i ≤ 5) (fun i => σ) (fun i => [.ref (ad 0), .int (nI k), .int (ldR (σ (100 + 2 * k)) i), .int (nI i)]) 0 (by omega) rfl ⟨_, rfl⟩ ?_
  intro i hi ih5
  try dsimp only at hi ih5 ⊢
  refine z_iload_n C dX5_least_5 (pc' := 6) rfl rfl rfl ?_
  refine z_iconst C dX5_least_6 (pc' := 7) rfl (v := 5) (by decide) ?_
  refine z_icmp_ge (tgt := 45) C dX5_least_7 (pc' := 10) (by decide) rfl (fun c_7 => ?_) (fun c_7 => ?_)
  ·
    have n_7 : 5 ≤ i := ge_of_le (N := 5) (k := i) c_7 (by omega) (by omega)
    obtain rfl : i = 5 := (by omega)
    refine z_iload_n C dX5_least_45 (pc' := 46) rfl rfl rfl ?_
    exact z_iret C hM dX5_least_46 ⟨rfl, rfl⟩
  ·
    have n_7 : i < 5 := lt_of_nle (N := 5) (k := i) c_7 (by omega) (by omega)
    refine z_aload_n C dX5_least_10 (pc' := 11) rfl rfl rfl ?_
    refine z_get C hK (by decide) kR_0 rfl inAX5 (k := 3) (by decide) aw_455 rfl dX5_least_11 (pc' := 14) rfl ?_
    refine z_iconst C dX5_least_14 (pc' := 15) rfl (v := 5) (by decide) ?_
    refine z_iload_n C dX5_least_15 (pc' := 16) rfl rfl rfl ?_
    refine z_imul C dX5_least_16 (pc' := 17) rfl (pk_mul (5) (k)) ?_
    refine z_iload_n C dX5_least_17 (pc' := 18) rfl rfl rfl ?_
    refine z_iadd C dX5_least_18 (pc' := 19) rfl (nI_add ((5 * k)) (i)) ?_
    refine z_iald C hK (by decide) kR_2 (t0 := 0) rfl (j := ((5 * k) + i)) rfl (by omega) (by decide) (rDB _ (by omega)) dX5_least_19 (pc' := 20) rfl ?_
    refine z_iload_n C dX5_least_20 (pc' := 21) rfl rfl rfl ?_
    refine z_ternE (J := 38) (ldR (σ (100 + 2 * k)) (i + 1)) 2 ?_ ?_
    ·
      try dsimp only [List.drop]
      refine z_istore_n (L' := [.ref _, .int _, .int _, .int _]) C dX5_least_38 (pc' := 39) rfl rfl (by decide) (Nat.le_of_ble_eq_true rfl) rfl ?_
      refine z_iinc (L' := [.ref _, .int _, .int _, .int _]) C dX5_least_39 (pc' := 42) rfl rfl (iinc1 _) (by decide) (Nat.le_of_ble_eq_true rfl) rfl ?_
      refine z_goto C dX5_least_42 (pc' := 5) (by decide) ?_
      exact z_back 4 (ih5 (i + 1) (by omega) (by omega)) rfl rfl
    · intro hj_38
      refine z_icmp_ge (tgt := 37) C dX5_least_21 (pc' := 24) (by decide) rfl (fun c_21 => ?_) (fun c_21 => ?_)
      ·
        refine z_iload_n C dX5_least_37 (pc' := 38) rfl rfl rfl ?_
        exact hj_38 _ (by simp [ldR, *])
      ·
        refine z_aload_n C dX5_least_24 (pc' := 25) rfl rfl rfl ?_
        refine z_get C hK (by decide) kR_0 rfl inAX5 (k := 3) (by decide) aw_455 rfl dX5_least_25 (pc' := 28) rfl ?_
        refine z_iconst C dX5_least_28 (pc' := 29) rfl (v := 5) (by decide) ?_
        refine z_iload_n C dX5_least_29 (pc' := 30) rfl rfl rfl ?_
        refine z_imul C dX5_least_30 (pc' := 31) rfl (pk_mul (5) (k)) ?_
        refine z_iload_n C dX5_least_31 (pc' := 32) rfl rfl rfl ?_
        refine z_iadd C dX5_least_32 (pc' := 33) rfl (nI_add ((5 * k)) (i)) ?_
        refine z_iald C hK (by decide) kR_2 (t0 := 0) rfl (j := ((5 * k) + i)) rfl (by omega) (by decide) (rDB _ (by omega)) dX5_least_33 (pc' := 34) rfl ?_
        refine z_goto C dX5_least_34 (pc' := 38) (by decide) ?_
        exact hj_38 _ (by simp [ldR, *])
set_option maxRecDepth 100000 in
set_option maxHeartbeats 400000 in
theorem m_X5_most (l : Launch) {cA : ClassId} {D : va_G} {ad : Nat → Nat} (hI : Inj 17 ad) (σ : St) {k : Nat} (hk : k < 16) : CI l yX5_most cX5_most 4 .int 0 0 D [(cA, .int)] 17 ad (cellR cA ad) σ [.ref (ad 0), .int (nI k)] (fun r u => r = gdR (σ (100 + 2 * k)) 5 ∧ u = σ) := by
  refine CI_of (by decide +kernel) (Nat.le_of_ble_eq_true rfl) (by simp [Value.category]) ?_
  intro p e s m below meth c C hM hK
  refine z_iconst C dX5_most_0 (pc' := 1) rfl (v := 0) (by decide) ?_
  refine z_istore_n (L' := [.ref _, .int _, .int _]) C dX5_most_1 (pc' := 2) rfl rfl (by decide) (Nat.le_of_ble_eq_true rfl) rfl ?_
  refine z_iconst C dX5_most_2 (pc' := 3) rfl (v := 0) (by decide) ?_
  refine z_istore_n (L' := [.ref _, .int _, .int _, .int _]) C dX5_most_3 (pc' := 4) rfl rfl (by decide) (Nat.le_of_ble_eq_true rfl) rfl ?_
  refine z_loop (τ := Nat) (fun i => 5 - i) (fun i => i ≤ 5) (fun i => σ) (fun i => [.ref (ad 0), .int (nI k), .int (gdR (σ (100 + 2 * k)) i), .int (nI i)]) 0 (by omega) rfl ⟨_, rfl⟩ ?_
  intro i hi ih4
  try dsimp only at hi ih4 ⊢
  refine z_iload_n C dX5_most_4 (pc' := 5) rfl rfl rfl ?_
  refine z_iconst C dX5_most_5 (pc' := 6) rfl (v := 5) (by decide) ?_
  refine z_icmp_ge (tgt := 44) C dX5_most_6 (pc' := 9) (by decide) rfl (fun c_6 => ?_) (fun c_6 => ?_)
  ·
    have n_6 : 5 ≤ i := ge_of_le (N := 5) (k := i) c_6 (by omega) (by omega)
    obtain rfl : i = 5 := (by omega)
    refine z_iload_n C dX5_most_44 (pc' := 45) rfl rfl rfl ?_
    exact z_iret C hM dX5_most_45 ⟨rfl, rfl⟩
  ·
    have n_6 : i < 5 := lt_of_nle (N := 5) (k := i) c_6 (by omega) (by omega)
    refine z_aload_n C dX5_most_9 (pc' := 10) rfl rfl rfl ?_
    refine z_get C hK (by decide) kR_0 rfl inAX5 (k := 3) (by decide) aw_455 rfl dX5_most_10 (pc' := 13) rfl ?_
    refine z_iconst C dX5_most_13 (pc' := 14) rfl (v := 5) (by decide) ?_
    refine z_iload_n C dX5_most_14 (pc' := 15) rfl rfl rfl ?_
    refine z_imul C dX5_most_15 (pc' := 16) rfl (pk_mul (5) (k)) ?_
    refine z_iload_n C dX5_most_16 (pc' := 17) rfl rfl rfl ?_
    refine z_iadd C dX5_most_17 (pc' := 18) rfl (nI_add ((5 * k)) (i)) ?_
    refine z_iald C hK (by decide) kR_2 (t0 := 0) rfl (j := ((5 * k) + i)) rfl (by omega) (by decide) (rDB _ (by omega)) dX5_most_18 (pc' := 19) rfl ?_
    refine z_iload_n C dX5_most_19 (pc' := 20) rfl rfl rfl ?_
    refine z_ternE (J := 37) (gdR (σ (100 + 2 * k)) (i + 1)) 2 ?_ ?_
    ·
      try dsimp only [List.drop]
      refine z_istore_n (L' := [.ref _, .int _, .int _, .int _]) C dX5_most_37 (pc' := 38) rfl rfl (by decide) (Nat.le_of_ble_eq_true rfl) rfl ?_
      refine z_iinc (L' := [.ref _, .int _, .int _, .int _]) C dX5_most_38 (pc' := 41) rfl rfl (iinc1 _) (by decide) (Nat.le_of_ble_eq_true rfl) rfl ?_
      refine z_goto C dX5_most_41 (pc' := 4) (by decide) ?_
      exact z_back 4 (ih4 (i + 1) (by omega) (by omega)) rfl rfl
    · intro hj_37
      refine z_icmp_le (tgt := 36) C dX5_most_20 (pc' := 23) (by decide) rfl (fun c_20 => ?_) (fun c_20 => ?_)
      ·
        refine z_iload_n C dX5_most_36 (pc' := 37) rfl rfl rfl ?_
        exact hj_37 _ (by simp [gdR, *])
      ·
        refine z_aload_n C dX5_most_23 (pc' := 24) rfl rfl rfl ?_
        refine z_get C hK (by decide) kR_0 rfl inAX5 (k := 3) (by decide) aw_455 rfl dX5_most_24 (pc' := 27) rfl ?_
        refine z_iconst C dX5_most_27 (pc' := 28) rfl (v := 5) (by decide) ?_
        refine z_iload_n C dX5_most_28 (pc' := 29) rfl rfl rfl ?_
        refine z_imul C dX5_most_29 (pc' := 30) rfl (pk_mul (5) (k)) ?_
        refine z_iload_n C dX5_most_30 (pc' := 31) rfl rfl rfl ?_
        refine z_iadd C dX5_most_31 (pc' := 32) rfl (nI_add ((5 * k)) (i)) ?_
        refine z_iald C hK (by decide) kR_2 (t0 := 0) rfl (j := ((5 * k) + i)) rfl (by omega) (by decide) (rDB _ (by omega)) dX5_most_32 (pc' := 33) rfl ?_
        refine z_goto C dX5_most_33 (pc' := 37) (by decide) ?_
        exact hj_37 _ (by simp [gdR, *])
set_option maxRecDepth 100000 in
set_option maxHeartbeats 400000 in
theorem m_X5_cutOf (l : Launch) {cA : ClassId} {D : va_G} {ad : Nat → Nat} (hI : Inj 17 ad) (σ : St) {kd k : Nat} (hkd : kd ≤ 2) (hk : k < 16) : CI l yX5_cutOf cX5_cutOf 4 .int 1 23 D [(cA, .int)] 17 ad (cellR cA ad) σ [.ref (ad 0), .int (nI kd), .int (nI k)] (fun r u => r = cutV (σ (100 + 2 * k)) kd (σ 0 0) ∧ u = σ) := by
  refine CI_of (by decide +kernel) (Nat.le_of_ble_eq_true rfl) (by simp [Value.category]) ?_
  intro p e s m below meth c C hM hK
  refine z_aload_n C dX5_cutOf_0 (pc' := 1) rfl rfl rfl ?_
  refine z_iload_n C dX5_cutOf_1 (pc' := 2) rfl rfl rfl ?_
  refine z_callI C hK (m_X5_most l hI _ (k := k) (by omega)) AdS_in aw_558 aw_560 aw_18 aw_32 aw_561 (by decide) kR_0 rfl (nA := 1) (by decide +kernel) rfl ⟨Nat.le_of_ble_eq_true rfl, Nat.le_of_ble_eq_true rfl⟩ (rest := []) rfl (Nat.le_of_ble_eq_true rfl) ⟨Nat.zero_le _, Nat.zero_le _⟩ dX5_cutOf_2 (pc' := 5) rfl (fun r_2 u_2 h_2 => ?_)
  obtain ⟨hr_2, hu_2⟩ := h_2
  rw [hr_2, hu_2]
  refine z_aload_n C dX5_cutOf_5 (pc' := 6) rfl rfl rfl ?_
  refine z_iload_n C dX5_cutOf_6 (pc' := 7) rfl rfl rfl ?_
  refine z_callI C hK (m_X5_least l hI _ (k := k) (by omega)) AdS_in aw_562 aw_564 aw_19 aw_32 aw_565 (by decide) kR_0 rfl (nA := 1) (by decide +kernel) rfl ⟨Nat.le_of_ble_eq_true rfl, Nat.le_of_ble_eq_true rfl⟩ (rest := [_]) rfl (Nat.le_of_ble_eq_true rfl) ⟨Nat.zero_le _, Nat.zero_le _⟩ dX5_cutOf_7 (pc' := 10) rfl (fun r_7 u_7 h_7 => ?_)
  obtain ⟨hr_7, hu_7⟩ := h_7
  rw [hr_7, hu_7]
  refine z_isub C dX5_cutOf_10 (pc' := 11) rfl rfl ?_
  refine z_istore_n (L' := [.ref _, .int _, .int _, .int _]) C dX5_cutOf_11 (pc' := 12) rfl rfl (by decide) (Nat.le_of_ble_eq_true rfl) rfl ?_
  refine z_iload_n C dX5_cutOf_12 (pc' := 13) rfl rfl rfl ?_
  refine z_if_le (tgt := 51) C dX5_cutOf_13 (pc' := 16) (by decide) rfl (fun c_13 => ?_) (fun c_13 => ?_)
  ·
    have n_13 : kd = 0 := (nI_le0 (by omega)).mp c_13
    refine z_iload_n C dX5_cutOf_51 (pc' := 52) rfl rfl rfl ?_
    refine z_iconst C dX5_cutOf_52 (pc' := 53) rfl (v := 2) (by decide) ?_
    refine z_icmp_ne (tgt := 64) C dX5_cutOf_53 (pc' := 56) (by decide) rfl (fun c_53 => ?_) (fun c_53 => ?_)
    ·
      have n_53 : ¬ kd = 2 := fun z9 => c_53 ((nI_eq (a := kd) (b := 2) (by omega) (by omega)).mpr z9)
      refine z_iload_n C dX5_cutOf_64 (pc' := 65) rfl rfl rfl ?_
      exact z_iret C hM dX5_cutOf_65 (by first | (exfalso; omega) | (simp [cutV, cut2, cut1, *]; done) | (simp [cutV, cut2, cut1, *]; rfl) | (simp [cutV, cut2, cut1, *]; congr))
    ·
      have n_53 : kd = 2 := (nI_eq (a := kd) (b := 2) (by omega) (by omega)).mp c_53
      refine z_iload_n C dX5_cutOf_56 (pc' := 57) rfl rfl rfl ?_
      refine z_iload_n C dX5_cutOf_57 (pc' := 58) rfl rfl rfl ?_
      refine z_iconst C dX5_cutOf_58 (pc' := 59) rfl (v := 2) (by decide) ?_
      refine z_irem C dX5_cutOf_59 (pc' := 60) rfl (by decide) rfl ?_
      refine z_iadd C dX5_cutOf_60 (pc' := 61) rfl rfl ?_
      refine z_goto C dX5_cutOf_61 (pc' := 65) (by decide) ?_
      exact z_iret C hM dX5_cutOf_65 (by first | (exfalso; omega) | (simp [cutV, cut2, cut1, *]; done) | (simp [cutV, cut2, cut1, *]; rfl) | (simp [cutV, cut2, cut1, *]; congr))
  ·
    have n_13 : ¬ kd = 0 := fun z9 => c_13 ((nI_le0 (by omega)).mpr z9)
    refine z_aload_n C dX5_cutOf_16 (pc' := 17) rfl rfl rfl ?_
    refine z_get C hK (by decide) kR_0 rfl inAX5 (k := 3) (by decide) aw_455 rfl dX5_cutOf_17 (pc' := 20) rfl ?_
    refine z_iconst C dX5_cutOf_20 (pc' := 21) rfl (v := 5) (by decide) ?_
    refine z_iload_n C dX5_cutOf_21 (pc' := 22) rfl rfl rfl ?_
    refine z_imul C dX5_cutOf_22 (pc' := 23) rfl (pk_mul (5) (k)) ?_
    refine z_iald C hK (by decide) kR_2 (t0 := 0) rfl (j := (5 * k + 0)) rfl (by omega) (by decide) (rDB _ (by omega)) dX5_cutOf_23 (pc' := 24) rfl ?_
    refine z_aload_n C dX5_cutOf_24 (pc' := 25) rfl rfl rfl ?_
    refine z_iload_n C dX5_cutOf_25 (pc' := 26) rfl rfl rfl ?_
    refine z_callI C hK (m_X5_most l hI _ (k := k) (by omega)) AdS_in aw_558 aw_560 aw_18 aw_32 aw_561 (by decide) kR_0 rfl (nA := 1) (by decide +kernel) rfl ⟨Nat.le_of_ble_eq_true rfl, Nat.le_of_ble_eq_true rfl⟩ (rest := [_]) rfl (Nat.le_of_ble_eq_true rfl) ⟨Nat.zero_le _, Nat.zero_le _⟩ dX5_cutOf_26 (pc' := 29) rfl (fun r_26 u_26 h_26 => ?_)
    obtain ⟨hr_26, hu_26⟩ := h_26
    rw [hr_26, hu_26]
    refine z_icmp_ne (tgt := 51) C dX5_cutOf_29 (pc' := 32) (by decide) rfl (fun c_29 => ?_) (fun c_29 => ?_)
    ·
      refine z_iload_n C dX5_cutOf_51 (pc' := 52) rfl rfl rfl ?_
      refine z_iconst C dX5_cutOf_52 (pc' := 53) rfl (v := 2) (by decide) ?_
      refine z_icmp_ne (tgt := 64) C dX5_cutOf_53 (pc' := 56) (by decide) rfl (fun c_53 => ?_) (fun c_53 => ?_)
      ·
        have n_53 : ¬ kd = 2 := fun z9 => c_53 ((nI_eq (a := kd) (b := 2) (by omega) (by omega)).mpr z9)
        refine z_iload_n C dX5_cutOf_64 (pc' := 65) rfl rfl rfl ?_
        exact z_iret C hM dX5_cutOf_65 (by first | (exfalso; omega) | (simp [cutV, cut2, cut1, *]; done) | (simp [cutV, cut2, cut1, *]; rfl) | (simp [cutV, cut2, cut1, *]; congr))
      ·
        have n_53 : kd = 2 := (nI_eq (a := kd) (b := 2) (by omega) (by omega)).mp c_53
        refine z_iload_n C dX5_cutOf_56 (pc' := 57) rfl rfl rfl ?_
        refine z_iload_n C dX5_cutOf_57 (pc' := 58) rfl rfl rfl ?_
        refine z_iconst C dX5_cutOf_58 (pc' := 59) rfl (v := 2) (by decide) ?_
        refine z_irem C dX5_cutOf_59 (pc' := 60) rfl (by decide) rfl ?_
        refine z_iadd C dX5_cutOf_60 (pc' := 61) rfl rfl ?_
        refine z_goto C dX5_cutOf_61 (pc' := 65) (by decide) ?_
        exact z_iret C hM dX5_cutOf_65 (by first | (exfalso; omega) | (simp [cutV, cut2, cut1, *]; done) | (simp [cutV, cut2, cut1, *]; rfl) | (simp [cutV, cut2, cut1, *]; congr))
    ·
      refine z_iload_n C dX5_cutOf_32 (pc' := 33) rfl rfl rfl ?_
      refine z_aload_n C dX5_cutOf_33 (pc' := 34) rfl rfl rfl ?_
      refine z_get C hK (by decide) kR_0 rfl inAX5 (k := 6) (by decide) aw_458 rfl dX5_cutOf_34 (pc' := 37) rfl ?_
      refine z_ternE (J := 50) (if σ 0 0 ≤ gdR (σ (100 + 2 * k)) 5 - ldR (σ (100 + 2 * k)) 5 then gdR (σ (100 + 2 * k)) 5 - ldR (σ (100 + 2 * k)) 5 - σ 0 0 else 0) 2 ?_ ?_
      ·
        try dsimp only [List.drop]
        refine z_istore_n (L' := [.ref _, .int _, .int _, .int _]) C dX5_cutOf_50 (pc' := 51) rfl rfl (by decide) (Nat.le_of_ble_eq_true rfl) rfl ?_
        refine z_iload_n C dX5_cutOf_51 (pc' := 52) rfl rfl rfl ?_
        refine z_iconst C dX5_cutOf_52 (pc' := 53) rfl (v := 2) (by decide) ?_
        refine z_icmp_ne (tgt := 64) C dX5_cutOf_53 (pc' := 56) (by decide) rfl (fun c_53 => ?_) (fun c_53 => ?_)
        ·
          have n_53 : ¬ kd = 2 := fun z9 => c_53 ((nI_eq (a := kd) (b := 2) (by omega) (by omega)).mpr z9)
          refine z_iload_n C dX5_cutOf_64 (pc' := 65) rfl rfl rfl ?_
          exact z_iret C hM dX5_cutOf_65 (by first | (exfalso; omega) | (simp [cutV, cut2, cut1, *]; done) | (simp [cutV, cut2, cut1, *]; rfl) | (simp [cutV, cut2, cut1, *]; congr))
        ·
          have n_53 : kd = 2 := (nI_eq (a := kd) (b := 2) (by omega) (by omega)).mp c_53
          refine z_iload_n C dX5_cutOf_56 (pc' := 57) rfl rfl rfl ?_
          refine z_iload_n C dX5_cutOf_57 (pc' := 58) rfl rfl rfl ?_
          refine z_iconst C dX5_cutOf_58 (pc' := 59) rfl (v := 2) (by decide) ?_
          refine z_irem C dX5_cutOf_59 (pc' := 60) rfl (by decide) rfl ?_
          refine z_iadd C dX5_cutOf_60 (pc' := 61) rfl rfl ?_
          refine z_goto C dX5_cutOf_61 (pc' := 65) (by decide) ?_
          exact z_iret C hM dX5_cutOf_65 (by first | (exfalso; omega) | (simp [cutV, cut2, cut1, *]; done) | (simp [cutV, cut2, cut1, *]; rfl) | (simp [cutV, cut2, cut1, *]; congr))
      · intro hj_50
        refine z_icmp_ge (tgt := 44) C dX5_cutOf_37 (pc' := 40) (by decide) rfl (fun c_37 => ?_) (fun c_37 => ?_)
        ·
          refine z_iload_n C dX5_cutOf_44 (pc' := 45) rfl rfl rfl ?_
          refine z_aload_n C dX5_cutOf_45 (pc' := 46) rfl rfl rfl ?_
          refine z_get C hK (by decide) kR_0 rfl inAX5 (k := 6) (by decide) aw_458 rfl dX5_cutOf_46 (pc' := 49) rfl ?_
          refine z_isub C dX5_cutOf_49 (pc' := 50) rfl rfl ?_
          exact hj_50 _ (by simp [*])
        ·
          refine z_iconst C dX5_cutOf_40 (pc' := 41) rfl (v := 0) (by decide) ?_
          refine z_goto C dX5_cutOf_41 (pc' := 50) (by decide) ?_
          exact hj_50 _ (by simp [*])
set_option maxRecDepth 100000 in
set_option maxHeartbeats 400000 in
theorem m_X5_turn (l : Launch) {cA : ClassId} {D : va_G} {ad : Nat → Nat} (hI : Inj 17 ad) (σ : St) (w q : Int32) : CI l yX5_turn cX5_turn 7 .int 2 46 D [(cA, .int)] 17 ad (cellR cA ad) σ [.ref (ad 0), .int w, .int q] (fun r u => (¬ (isW w ∧ inR q 0 2) ∧ r = -1 ∧ u = σ) ∨ (∃ k kd : Nat, k < 16 ∧ kd ≤ 2 ∧ w = nI k ∧ q = nI kd ∧ ((σ 1 k - 2 * cutV (σ (100 + 2 * k)) kd (σ 0 0) < 6000 ∧ r = -2 ∧ u = σ) ∨ (¬ σ 1 k - 2 * cutV (σ (100 + 2 * k)) kd (σ 0 0) < 6000 ∧ u = g_turn σ k (cutV (σ (100 + 2 * k)) kd (σ 0 0)) (ldR (σ (100 + 2 * k)) 5) ∧ r = u 1 k)))) := by
  refine CI_of (by decide +kernel) (Nat.le_of_ble_eq_true rfl) (by simp [Value.category]) ?_
  intro p e s m below meth c C hM hK
  refine z_aload_n C dX5_turn_0 (pc' := 1) rfl rfl rfl ?_
  refine z_iconst C dX5_turn_1 (pc' := 2) rfl (v := 0) (by decide) ?_
  refine z_put C hK hI AdS_in (by decide) kR_0 sR_th oR_th rfl inAX5 tyX5_ok nmX5 (k := 0) (by decide) aw_452 rfl (ty := .int) (by decide +kernel) rfl rfl (Nat.le_of_ble_eq_true rfl) dX5_turn_2 (pc' := 5) rfl ?_
  refine z_iload_n C dX5_turn_5 (pc' := 6) rfl rfl rfl ?_
  refine z_callS C (m_X5_isWheel l _) stabP aw_526 aw_527 aw_32 aw_528 (nA := 1) (by decide +kernel) rfl ⟨Nat.le_of_ble_eq_true rfl, Nat.le_of_ble_eq_true rfl⟩ (rest := []) rfl (Nat.le_of_ble_eq_true rfl) ⟨Nat.zero_le _, Nat.zero_le _⟩ dX5_turn_6 (pc' := 9) rfl (fun r_6 h_6 => ?_)
  rcases h_6 with ⟨rfl, h_6⟩ | ⟨rfl, h_6⟩
  ·
    obtain ⟨k, hk, rfl⟩ := isW_of h_6
    refine z_if_eq (tgt := 21) C dX5_turn_9 (pc' := 12) (by decide) rfl (fun q => absurd q (by decide)) (fun _ => ?_)
    refine z_iload_n C dX5_turn_12 (pc' := 13) rfl rfl rfl ?_
    refine z_iconst C dX5_turn_13 (pc' := 14) rfl (v := 0) (by decide) ?_
    refine z_iconst C dX5_turn_14 (pc' := 15) rfl (v := 2) (by decide) ?_
    refine z_callS C (m_X5_in l _ _ _) stabP aw_529 aw_530 aw_32 aw_531 (nA := 3) (by decide +kernel) rfl ⟨Nat.le_of_ble_eq_true rfl, Nat.le_of_ble_eq_true rfl⟩ (rest := []) rfl (Nat.le_of_ble_eq_true rfl) ⟨Nat.zero_le _, Nat.zero_le _⟩ dX5_turn_15 (pc' := 18) rfl (fun r_15 h_15 => ?_)
    rcases h_15 with ⟨rfl, h_15⟩ | ⟨rfl, h_15⟩
    ·
      obtain ⟨kd, hkd, rfl⟩ := inR_of (n := 2) (by omega) h_15
      refine z_if_ne (tgt := 23) C dX5_turn_18 (pc' := 21) (by decide) rfl (fun _ => ?_) (fun q => absurd q (by decide))
      refine z_aload_n C dX5_turn_23 (pc' := 24) rfl rfl rfl ?_
      refine z_iload_n C dX5_turn_24 (pc' := 25) rfl rfl rfl ?_
      refine z_iload_n C dX5_turn_25 (pc' := 26) rfl rfl rfl ?_
      refine z_callI C hK (m_X5_cutOf l hI _ (kd := kd) (k := k) (by omega) (by omega)) AdS_in aw_554 aw_556 aw_17 aw_32 aw_557 (by decide) kR_0 rfl (nA := 2) (by decide +kernel) rfl ⟨Nat.le_of_ble_eq_true rfl, Nat.le_of_ble_eq_true rfl⟩ (rest := []) rfl (Nat.le_of_ble_eq_true rfl) ⟨Nat.zero_le _, Nat.zero_le _⟩ dX5_turn_26 (pc' := 29) rfl (fun r_26 u_26 h_26 => ?_)
      obtain ⟨hr_26, hu_26⟩ := h_26
      rw [hr_26, hu_26]
      refine z_istore_n (L' := [.ref _, .int _, .int _, .int _]) C dX5_turn_29 (pc' := 30) rfl rfl (by decide) (Nat.le_of_ble_eq_true rfl) rfl ?_
      refine z_aload_n C dX5_turn_30 (pc' := 31) rfl rfl rfl ?_
      refine z_get C hK (by decide) kR_0 rfl inAX5 (k := 2) (by decide) aw_454 rfl dX5_turn_31 (pc' := 34) rfl ?_
      refine z_iload_n C dX5_turn_34 (pc' := 35) rfl rfl rfl ?_
      refine z_iald C hK (by decide) kR_1 (t0 := 0) rfl (j := k) rfl (by omega) (by decide) rfl dX5_turn_35 (pc' := 36) rfl ?_
      refine z_iconst C dX5_turn_36 (pc' := 37) rfl (v := 2) (by decide) ?_
      refine z_iload_n C dX5_turn_37 (pc' := 38) rfl rfl rfl ?_
      refine z_imul C dX5_turn_38 (pc' := 39) rfl rfl ?_
      refine z_isub C dX5_turn_39 (pc' := 40) rfl rfl ?_
      refine z_sipush C dX5_turn_40 (pc' := 43) rfl (v := 6000) (by decide) ?_
      refine z_icmp_ge (tgt := 49) C dX5_turn_43 (pc' := 46) (by decide) rfl (fun c_43 => ?_) (fun c_43 => ?_)
      ·
        refine z_aload_n C dX5_turn_49 (pc' := 50) rfl rfl rfl ?_
        refine z_iload_n C dX5_turn_50 (pc' := 51) rfl rfl rfl ?_
        refine z_callI C hK (m_X5_least l hI _ (k := k) (by omega)) AdS_in aw_562 aw_564 aw_19 aw_32 aw_565 (by decide) kR_0 rfl (nA := 1) (by decide +kernel) rfl ⟨Nat.le_of_ble_eq_true rfl, Nat.le_of_ble_eq_true rfl⟩ (rest := []) rfl (Nat.le_of_ble_eq_true rfl) ⟨Nat.zero_le _, Nat.zero_le _⟩ dX5_turn_51 (pc' := 54) rfl (fun r_51 u_51 h_51 => ?_)
        obtain ⟨hr_51, hu_51⟩ := h_51
        rw [hr_51, hu_51]
        refine z_iload_n C dX5_turn_54 (pc' := 55) rfl rfl rfl ?_
        refine z_iadd C dX5_turn_55 (pc' := 56) rfl rfl ?_
        refine z_istore (L' := [.ref _, .int _, .int _, .int _, .int _]) C dX5_turn_56 (pc' := 58) rfl (by decide) (Nat.le_of_ble_eq_true rfl) rfl ?_
        refine z_iconst C dX5_turn_58 (pc' := 59) rfl (v := 0) (by decide) ?_
        refine z_istore (L' := [.ref _, .int _, .int _, .int _, .int _, .int _]) C dX5_turn_59 (pc' := 61) rfl (by decide) (Nat.le_of_ble_eq_true rfl) rfl ?_
        refine z_loop (τ := Nat) (fun i => 5 - i) (fun i => i ≤ 5) (fun i => tkL σ (100 + 2 * k) (ldR (σ (100 + 2 * k)) 5 + cutV (σ (100 + 2 * k)) kd (σ 0 0)) i) (fun i => [.ref (ad 0), .int (nI k), .int (nI kd), .int (cutV (σ (100 + 2 * k)) kd (σ 0 0)), .int (ldR (σ (100 + 2 * k)) 5 + cutV (σ (100 + 2 * k)) kd (σ 0 0)), .int (nI i)]) 0 (by omega) rfl ⟨_, rfl⟩ ?_
        intro i hi ih61
        try dsimp only at hi ih61 ⊢
        refine z_iload C dX5_turn_61 (pc' := 63) rfl rfl ?_
        refine z_iconst C dX5_turn_63 (pc' := 64) rfl (v := 5) (by decide) ?_
        refine z_icmp_ge (tgt := 111) C dX5_turn_64 (pc' := 67) (by decide) rfl (fun c_64 => ?_) (fun c_64 => ?_)
        ·
          have n_64 : 5 ≤ i := ge_of_le (N := 5) (k := i) c_64 (by omega) (by omega)
          obtain rfl : i = 5 := (by omega)
          refine z_aload_n C dX5_turn_111 (pc' := 112) rfl rfl rfl ?_
          refine z_get C hK (by decide) kR_0 rfl inAX5 (k := 2) (by decide) aw_454 rfl dX5_turn_112 (pc' := 115) rfl ?_
          refine z_iload_n C dX5_turn_115 (pc' := 116) rfl rfl rfl ?_
          refine z_dup2 C dX5_turn_116 (pc' := 117) rfl rfl rfl ?_
          refine z_iald C hK (by decide) kR_1 (t0 := 0) rfl (j := k) rfl (by omega) (by decide) rfl dX5_turn_117 (pc' := 118) rfl ?_
          refine z_iconst C dX5_turn_118 (pc' := 119) rfl (v := 2) (by decide) ?_
          refine z_iload_n C dX5_turn_119 (pc' := 120) rfl rfl rfl ?_
          refine z_imul C dX5_turn_120 (pc' := 121) rfl rfl ?_
          refine z_isub C dX5_turn_121 (pc' := 122) rfl rfl ?_
          refine z_iast C hK hI AdS_in (by decide) kR_1 sR_a1 oR_a1 (t0 := 0) rfl (j := k) rfl (by omega) (by decide) dX5_turn_122 (pc' := 123) rfl ?_
          refine z_aload_n C dX5_turn_123 (pc' := 124) rfl rfl rfl ?_
          refine z_get C hK (by decide) kR_0 rfl inAX5 (k := 5) (by decide) aw_457 rfl dX5_turn_124 (pc' := 127) rfl ?_
          refine z_iload_n C dX5_turn_127 (pc' := 128) rfl rfl rfl ?_
          refine z_iconst C dX5_turn_128 (pc' := 129) rfl (v := 0) (by decide) ?_
          refine z_iast C hK hI AdS_in (by decide) kR_4 sR_a4 oR_a4 (t0 := 0) rfl (j := k) rfl (by omega) (by decide) dX5_turn_129 (pc' := 130) rfl ?_
          refine z_aload_n C dX5_turn_130 (pc' := 131) rfl rfl rfl ?_
          refine z_dup C dX5_turn_131 (pc' := 132) rfl rfl ?_
          refine z_get C hK (by decide) kR_0 rfl inAX5 (k := 7) (by decide) aw_459 rfl dX5_turn_132 (pc' := 135) rfl ?_
          refine z_iconst C dX5_turn_135 (pc' := 136) rfl (v := 1) (by decide) ?_
          refine z_iadd C dX5_turn_136 (pc' := 137) rfl rfl ?_
          refine z_put C hK hI AdS_in (by decide) kR_0 sR_02 oR_02 rfl inAX5 tyX5_ok nmX5 (k := 7) (by decide) aw_459 rfl (ty := .int) (by decide +kernel) rfl rfl (Nat.le_of_ble_eq_true rfl) dX5_turn_137 (pc' := 140) rfl ?_
          refine z_aload_n C dX5_turn_140 (pc' := 141) rfl rfl rfl ?_
          refine z_get C hK (by decide) kR_0 rfl inAX5 (k := 2) (by decide) aw_454 rfl dX5_turn_141 (pc' := 144) rfl ?_
          refine z_iload_n C dX5_turn_144 (pc' := 145) rfl rfl rfl ?_
          refine z_iald C hK (by decide) kR_1 (t0 := 0) rfl (j := k) rfl (by omega) (by decide) rfl dX5_turn_145 (pc' := 146) rfl ?_
          exact z_iret C hM dX5_turn_146 (Or.inr ⟨k, kd, hk, by omega, rfl, rfl, Or.inr ⟨i32_nge c_43, rfl, rfl⟩⟩)
        ·
          have n_64 : i < 5 := lt_of_nle (N := 5) (k := i) c_64 (by omega) (by omega)
          refine z_aload_n C dX5_turn_67 (pc' := 68) rfl rfl rfl ?_
          refine z_get C hK (by decide) kR_0 rfl inAX5 (k := 3) (by decide) aw_455 rfl dX5_turn_68 (pc' := 71) rfl ?_
          refine z_iconst C dX5_turn_71 (pc' := 72) rfl (v := 5) (by decide) ?_
          refine z_iload_n C dX5_turn_72 (pc' := 73) rfl rfl rfl ?_
          refine z_imul C dX5_turn_73 (pc' := 74) rfl (pk_mul (5) (k)) ?_
          refine z_iload C dX5_turn_74 (pc' := 76) rfl rfl ?_
          refine z_iadd C dX5_turn_76 (pc' := 77) rfl (nI_add ((5 * k)) (i)) ?_
          refine z_iald C hK (by decide) kR_2 (t0 := 0) rfl (j := ((5 * k) + i)) rfl (by omega) (by decide) (rDB _ (by omega)) dX5_turn_77 (pc' := 78) rfl ?_
          refine z_iload C dX5_turn_78 (pc' := 80) rfl rfl ?_
          refine z_isub C dX5_turn_80 (pc' := 81) rfl rfl ?_
          refine z_istore (L' := [.ref _, .int _, .int _, .int _, .int _, .int _, .int _]) C dX5_turn_81 (pc' := 83) rfl (by decide) (Nat.le_of_ble_eq_true rfl) rfl ?_
          refine z_aload_n C dX5_turn_83 (pc' := 84) rfl rfl rfl ?_
          refine z_get C hK (by decide) kR_0 rfl inAX5 (k := 3) (by decide) aw_455 rfl dX5_turn_84 (pc' := 87) rfl ?_
          refine z_iconst C dX5_turn_87 (pc' := 88) rfl (v := 5) (by decide) ?_
          refine z_iload_n C dX5_turn_88 (pc' := 89) rfl rfl rfl ?_
          refine z_imul C dX5_turn_89 (pc' := 90) rfl (pk_mul (5) (k)) ?_
          refine z_iload C dX5_turn_90 (pc' := 92) rfl rfl ?_
          refine z_iadd C dX5_turn_92 (pc' := 93) rfl (nI_add ((5 * k)) (i)) ?_
          refine z_iload C dX5_turn_93 (pc' := 95) rfl rfl ?_
          refine z_ternE (J := 104) (mx 0 (tkL σ (100 + 2 * k) (ldR (σ (100 + 2 * k)) 5 + cutV (σ (100 + 2 * k)) kd (σ 0 0)) i (100 + 2 * k) i - (ldR (σ (100 + 2 * k)) 5 + cutV (σ (100 + 2 * k)) kd (σ 0 0)))) 1 ?_ ?_
          ·
            try dsimp only [List.drop]
            refine z_iast C hK hI AdS_in (by decide) kR_2 (kR_D (by omega)) (cellR_upD (by omega)) (t0 := 0) rfl (j := ((5 * k) + i)) rfl (by omega) (by decide) dX5_turn_104 (pc' := 105) rfl ?_
            refine z_iinc (L' := [.ref _, .int _, .int _, .int _, .int _, .int _, .int _]) C dX5_turn_105 (pc' := 108) rfl rfl (iinc1 _) (by decide) (Nat.le_of_ble_eq_true rfl) rfl ?_
            refine z_goto C dX5_turn_108 (pc' := 61) (by decide) ?_
            exact z_back 6 (ih61 (i + 1) (by omega) (by omega)) rfl rfl
          · intro hj_104
            refine z_if_ge (tgt := 102) C dX5_turn_95 (pc' := 98) (by decide) rfl (fun c_95 => ?_) (fun c_95 => ?_)
            ·
              refine z_iload C dX5_turn_102 (pc' := 104) rfl rfl ?_
              exact hj_104 _ (by first | exact mx_ge c_95 | exact mx_lt c_95)
            ·
              refine z_iconst C dX5_turn_98 (pc' := 99) rfl (v := 0) (by decide) ?_
              refine z_goto C dX5_turn_99 (pc' := 104) (by decide) ?_
              exact hj_104 _ (by first | exact mx_ge c_95 | exact mx_lt c_95)
      ·
        refine z_bipush C dX5_turn_46 (pc' := 48) rfl (v := (-2)) (by decide) ?_
        exact z_iret C hM dX5_turn_48 (Or.inr ⟨k, kd, hk, by omega, rfl, rfl, Or.inl ⟨by clear C hM hK; simp only [i32_le, i32_lt] at *; omega, rfl, rfl⟩⟩)
    ·
      refine z_if_ne (tgt := 23) C dX5_turn_18 (pc' := 21) (by decide) rfl (fun q => absurd q (by decide)) (fun _ => ?_)
      refine z_iconst C dX5_turn_21 (pc' := 22) rfl (v := (-1)) (by decide) ?_
      exact z_iret C hM dX5_turn_22 (Or.inl ⟨fun z => absurd z (by simp [*]), rfl, rfl⟩)
  ·
    refine z_if_eq (tgt := 21) C dX5_turn_9 (pc' := 12) (by decide) rfl (fun _ => ?_) (fun q => absurd q (by decide))
    refine z_iconst C dX5_turn_21 (pc' := 22) rfl (v := (-1)) (by decide) ?_
    exact z_iret C hM dX5_turn_22 (Or.inl ⟨fun z => absurd z (by simp [*]), rfl, rfl⟩)
set_option maxRecDepth 100000 in
set_option maxHeartbeats 400000 in
theorem m_X5_miles (l : Launch) {cA : ClassId} {D : va_G} {ad : Nat → Nat} (hI : Inj 17 ad) (σ : St) (n : Int32) : CI l yX5_miles cX5_miles 7 .int 1 22 D [(cA, .int)] 17 ad (cellR cA ad) σ [.ref (ad 0), .int n] (fun r u => (¬ inR n 1 500 ∧ r = -1 ∧ u = σ) ∨ (inR n 1 500 ∧ r = dueR σ n 16 ∧ u = mlS σ n 16)) := by
  refine CI_of (by decide +kernel) (Nat.le_of_ble_eq_true rfl) (by simp [Value.category]) ?_
  intro p e s m below meth c C hM hK
  refine z_aload_n C dX5_miles_0 (pc' := 1) rfl rfl rfl ?_
  refine z_iconst C dX5_miles_1 (pc' := 2) rfl (v := 0) (by decide) ?_
  refine z_put C hK hI AdS_in (by decide) kR_0 sR_th oR_th rfl inAX5 tyX5_ok nmX5 (k := 0) (by decide) aw_452 rfl (ty := .int) (by decide +kernel) rfl rfl (Nat.le_of_ble_eq_true rfl) dX5_miles_2 (pc' := 5) rfl ?_
  refine z_iload_n C dX5_miles_5 (pc' := 6) rfl rfl rfl ?_
  refine z_iconst C dX5_miles_6 (pc' := 7) rfl (v := 1) (by decide) ?_
  refine z_sipush C dX5_miles_7 (pc' := 10) rfl (v := 500) (by decide) ?_
  refine z_callS C (m_X5_in l _ _ _) stabP aw_529 aw_530 aw_32 aw_531 (nA := 3) (by decide +kernel) rfl ⟨Nat.le_of_ble_eq_true rfl, Nat.le_of_ble_eq_true rfl⟩ (rest := []) rfl (Nat.le_of_ble_eq_true rfl) ⟨Nat.zero_le _, Nat.zero_le _⟩ dX5_miles_10 (pc' := 13) rfl (fun r_10 h_10 => ?_)
  rcases h_10 with ⟨rfl, h_10⟩ | ⟨rfl, h_10⟩
  ·
    refine z_if_ne (tgt := 18) C dX5_miles_13 (pc' := 16) (by decide) rfl (fun _ => ?_) (fun q => absurd q (by decide))
    refine z_iconst C dX5_miles_18 (pc' := 19) rfl (v := 0) (by decide) ?_
    refine z_istore_n (L' := [.ref _, .int _, .int _]) C dX5_miles_19 (pc' := 20) rfl rfl (by decide) (Nat.le_of_ble_eq_true rfl) rfl ?_
    refine z_iconst C dX5_miles_20 (pc' := 21) rfl (v := 0) (by decide) ?_
    refine z_istore_n (L' := [.ref _, .int _, .int _, .int _]) C dX5_miles_21 (pc' := 22) rfl rfl (by decide) (Nat.le_of_ble_eq_true rfl) rfl ?_
    refine z_loop (τ := Nat) (fun w => 16 - w) (fun w => w ≤ 16) (fun w => mlS σ n w) (fun w => [.ref (ad 0), .int n, .int (dueR σ n w), .int (nI w)]) 0 (by omega) rfl ⟨_, rfl⟩ ?_
    intro w hw ih22
    try dsimp only at hw ih22 ⊢
    refine z_iload_n C dX5_miles_22 (pc' := 23) rfl rfl rfl ?_
    refine z_bipush C dX5_miles_23 (pc' := 25) rfl (v := 16) (by decide) ?_
    refine z_icmp_ge (tgt := 187) C dX5_miles_25 (pc' := 28) (by decide) rfl (fun c_25 => ?_) (fun c_25 => ?_)
    ·
      have n_25 : 16 ≤ w := ge_of_le (N := 16) (k := w) c_25 (by omega) (by omega)
      obtain rfl : w = 16 := (by omega)
      refine z_iload_n C dX5_miles_187 (pc' := 188) rfl rfl rfl ?_
      exact z_iret C hM dX5_miles_188 (Or.inr ⟨by assumption, rfl, rfl⟩)
    ·
      have n_25 : w < 16 := lt_of_nle (N := 16) (k := w) c_25 (by omega) (by omega)
      refine z_aload_n C dX5_miles_28 (pc' := 29) rfl rfl rfl ?_
      refine z_get C hK (by decide) kR_0 rfl inAX5 (k := 4) (by decide) aw_456 rfl dX5_miles_29 (pc' := 32) rfl ?_
      refine z_iload_n C dX5_miles_32 (pc' := 33) rfl rfl rfl ?_
      refine z_iald C hK (by decide) kR_3 (t0 := 0) rfl (j := w) rfl (by omega) (by decide) rfl dX5_miles_33 (pc' := 34) rfl ?_
      refine z_iload_n C dX5_miles_34 (pc' := 35) rfl rfl rfl ?_
      refine z_imul C dX5_miles_35 (pc' := 36) rfl rfl ?_
      refine z_bipush C dX5_miles_36 (pc' := 38) rfl (v := 100) (by decide) ?_
      refine z_idiv C dX5_miles_38 (pc' := 39) rfl (by decide) rfl ?_
      refine z_istore (L' := [.ref _, .int _, .int _, .int _, .int _]) C dX5_miles_39 (pc' := 41) rfl (by decide) (Nat.le_of_ble_eq_true rfl) rfl ?_
      refine z_iconst C dX5_miles_41 (pc' := 42) rfl (v := 0) (by decide) ?_
      refine z_istore (L' := [.ref _, .int _, .int _, .int _, .int _, .int _]) C dX5_miles_42 (pc' := 44) rfl (by decide) (Nat.le_of_ble_eq_true rfl) rfl ?_
      refine z_loop (τ := Nat) (fun i => 5 - i) (fun i => i ≤ 5) (fun i => rnL (mlS σ n w) (100 + 2 * w) (wornF (mlS σ n w) w n) i) (fun i => [.ref (ad 0), .int n, .int (dueR σ n w), .int (nI w), .int (wornF (mlS σ n w) w n), .int (nI i)]) 0 (by omega) rfl ⟨_, rfl⟩ ?_
      intro i hi ih44
      try dsimp only at hi ih44 ⊢
      refine z_iload C dX5_miles_44 (pc' := 46) rfl rfl ?_
      refine z_iconst C dX5_miles_46 (pc' := 47) rfl (v := 5) (by decide) ?_
      refine z_icmp_ge (tgt := 115) C dX5_miles_47 (pc' := 50) (by decide) rfl (fun c_47 => ?_) (fun c_47 => ?_)
      ·
        have n_47 : 5 ≤ i := ge_of_le (N := 5) (k := i) c_47 (by omega) (by omega)
        obtain rfl : i = 5 := (by omega)
        refine z_aload_n C dX5_miles_115 (pc' := 116) rfl rfl rfl ?_
        refine z_get C hK (by decide) kR_0 rfl inAX5 (k := 2) (by decide) aw_454 rfl dX5_miles_116 (pc' := 119) rfl ?_
        refine z_iload_n C dX5_miles_119 (pc' := 120) rfl rfl rfl ?_
        refine z_aload_n C dX5_miles_120 (pc' := 121) rfl rfl rfl ?_
        refine z_get C hK (by decide) kR_0 rfl inAX5 (k := 2) (by decide) aw_454 rfl dX5_miles_121 (pc' := 124) rfl ?_
        refine z_iload_n C dX5_miles_124 (pc' := 125) rfl rfl rfl ?_
        refine z_iald C hK (by decide) kR_1 (t0 := 0) rfl (j := w) rfl (by omega) (by decide) rfl dX5_miles_125 (pc' := 126) rfl ?_
        refine z_iload C dX5_miles_126 (pc' := 128) rfl rfl ?_
        refine z_isub C dX5_miles_128 (pc' := 129) rfl rfl ?_
        refine z_sipush C dX5_miles_129 (pc' := 132) rfl (v := 6000) (by decide) ?_
        refine z_ternE (J := 150) (mx 6000 (rn1 (mlS σ n w) w n 1 w - wornF (mlS σ n w) w n)) 2 ?_ ?_
        ·
          try dsimp only [List.drop]
          refine z_iast C hK hI AdS_in (by decide) kR_1 sR_a1 oR_a1 (t0 := 0) rfl (j := w) rfl (by omega) (by decide) dX5_miles_150 (pc' := 151) rfl ?_
          refine z_aload_n C dX5_miles_151 (pc' := 152) rfl rfl rfl ?_
          refine z_get C hK (by decide) kR_0 rfl inAX5 (k := 5) (by decide) aw_457 rfl dX5_miles_152 (pc' := 155) rfl ?_
          refine z_iload_n C dX5_miles_155 (pc' := 156) rfl rfl rfl ?_
          refine z_dup2 C dX5_miles_156 (pc' := 157) rfl rfl rfl ?_
          refine z_iald C hK (by decide) kR_4 (t0 := 0) rfl (j := w) rfl (by omega) (by decide) rfl dX5_miles_157 (pc' := 158) rfl ?_
          refine z_iload_n C dX5_miles_158 (pc' := 159) rfl rfl rfl ?_
          refine z_iadd C dX5_miles_159 (pc' := 160) rfl rfl ?_
          refine z_iast C hK hI AdS_in (by decide) kR_4 sR_a4 oR_a4 (t0 := 0) rfl (j := w) rfl (by omega) (by decide) dX5_miles_160 (pc' := 161) rfl ?_
          refine z_iload_n C dX5_miles_161 (pc' := 162) rfl rfl rfl ?_
          refine z_aload_n C dX5_miles_162 (pc' := 163) rfl rfl rfl ?_
          refine z_get C hK (by decide) kR_0 rfl inAX5 (k := 5) (by decide) aw_457 rfl dX5_miles_163 (pc' := 166) rfl ?_
          refine z_iload_n C dX5_miles_166 (pc' := 167) rfl rfl rfl ?_
          refine z_iald C hK (by decide) kR_4 (t0 := 0) rfl (j := w) rfl (by omega) (by decide) rfl dX5_miles_167 (pc' := 168) rfl ?_
          refine z_sipush C dX5_miles_168 (pc' := 171) rfl (v := 1000) (by decide) ?_
          refine z_ternE (J := 179) (if runS (mlS σ n w) w n 4 w < 1000 then 0 else 1) 2 ?_ ?_
          ·
            try dsimp only [List.drop]
            refine z_iadd C dX5_miles_179 (pc' := 180) rfl rfl ?_
            refine z_istore_n (L' := [.ref _, .int _, .int _, .int _, .int _, .int _]) C dX5_miles_180 (pc' := 181) rfl rfl (by decide) (Nat.le_of_ble_eq_true rfl) rfl ?_
            refine z_iinc (L' := [.ref _, .int _, .int _, .int _, .int _, .int _]) C dX5_miles_181 (pc' := 184) rfl rfl (iinc1 _) (by decide) (Nat.le_of_ble_eq_true rfl) rfl ?_
            refine z_goto C dX5_miles_184 (pc' := 22) (by decide) ?_
            exact z_back 4 (ih22 (w + 1) (by omega) (by omega)) rfl rfl
          · intro hj_179
            refine z_icmp_lt (tgt := 178) C dX5_miles_171 (pc' := 174) (by decide) rfl (fun c_171 => ?_) (fun c_171 => ?_)
            ·
              refine z_iconst C dX5_miles_178 (pc' := 179) rfl (v := 0) (by decide) ?_
              exact hj_179 _ (by first | exact (if_pos c_171).symm | exact (if_neg c_171).symm)
            ·
              refine z_iconst C dX5_miles_174 (pc' := 175) rfl (v := 1) (by decide) ?_
              refine z_goto C dX5_miles_175 (pc' := 179) (by decide) ?_
              exact hj_179 _ (by first | exact (if_pos c_171).symm | exact (if_neg c_171).symm)
        · intro hj_150
          refine z_icmp_ge (tgt := 141) C dX5_miles_132 (pc' := 135) (by decide) rfl (fun c_132 => ?_) (fun c_132 => ?_)
          ·
            refine z_aload_n C dX5_miles_141 (pc' := 142) rfl rfl rfl ?_
            refine z_get C hK (by decide) kR_0 rfl inAX5 (k := 2) (by decide) aw_454 rfl dX5_miles_142 (pc' := 145) rfl ?_
            refine z_iload_n C dX5_miles_145 (pc' := 146) rfl rfl rfl ?_
            refine z_iald C hK (by decide) kR_1 (t0 := 0) rfl (j := w) rfl (by omega) (by decide) rfl dX5_miles_146 (pc' := 147) rfl ?_
            refine z_iload C dX5_miles_147 (pc' := 149) rfl rfl ?_
            refine z_isub C dX5_miles_149 (pc' := 150) rfl rfl ?_
            exact hj_150 _ (by first | exact mx_ge c_132 | exact mx_lt c_132)
          ·
            refine z_sipush C dX5_miles_135 (pc' := 138) rfl (v := 6000) (by decide) ?_
            refine z_goto C dX5_miles_138 (pc' := 150) (by decide) ?_
            exact hj_150 _ (by first | exact mx_ge c_132 | exact mx_lt c_132)
      ·
        have n_47 : i < 5 := lt_of_nle (N := 5) (k := i) c_47 (by omega) (by omega)
        refine z_aload_n C dX5_miles_50 (pc' := 51) rfl rfl rfl ?_
        refine z_get C hK (by decide) kR_0 rfl inAX5 (k := 3) (by decide) aw_455 rfl dX5_miles_51 (pc' := 54) rfl ?_
        refine z_iconst C dX5_miles_54 (pc' := 55) rfl (v := 5) (by decide) ?_
        refine z_iload_n C dX5_miles_55 (pc' := 56) rfl rfl rfl ?_
        refine z_imul C dX5_miles_56 (pc' := 57) rfl (pk_mul (5) (w)) ?_
        refine z_iload C dX5_miles_57 (pc' := 59) rfl rfl ?_
        refine z_iadd C dX5_miles_59 (pc' := 60) rfl (nI_add ((5 * w)) (i)) ?_
        refine z_iald C hK (by decide) kR_2 (t0 := 0) rfl (j := ((5 * w) + i)) rfl (by omega) (by decide) (rDB _ (by omega)) dX5_miles_60 (pc' := 61) rfl ?_
        refine z_iload C dX5_miles_61 (pc' := 63) rfl rfl ?_
        refine z_ternE (J := 81) (if i = 0 ∨ i = 4 then wornF (mlS σ n w) w n / 2 else wornF (mlS σ n w) w n) 1 ?_ ?_
        ·
          try dsimp only [List.drop]
          refine z_iadd C dX5_miles_81 (pc' := 82) rfl rfl ?_
          refine z_istore (L' := [.ref _, .int _, .int _, .int _, .int _, .int _, .int _]) C dX5_miles_82 (pc' := 84) rfl (by decide) (Nat.le_of_ble_eq_true rfl) rfl ?_
          refine z_aload_n C dX5_miles_84 (pc' := 85) rfl rfl rfl ?_
          refine z_get C hK (by decide) kR_0 rfl inAX5 (k := 3) (by decide) aw_455 rfl dX5_miles_85 (pc' := 88) rfl ?_
          refine z_iconst C dX5_miles_88 (pc' := 89) rfl (v := 5) (by decide) ?_
          refine z_iload_n C dX5_miles_89 (pc' := 90) rfl rfl rfl ?_
          refine z_imul C dX5_miles_90 (pc' := 91) rfl (pk_mul (5) (w)) ?_
          refine z_iload C dX5_miles_91 (pc' := 93) rfl rfl ?_
          refine z_iadd C dX5_miles_93 (pc' := 94) rfl (nI_add ((5 * w)) (i)) ?_
          refine z_iload C dX5_miles_94 (pc' := 96) rfl rfl ?_
          refine z_bipush C dX5_miles_96 (pc' := 98) rfl (v := 99) (by decide) ?_
          refine z_ternE (J := 108) (mn 99 (rnL (mlS σ n w) (100 + 2 * w) (wornF (mlS σ n w) w n) i (100 + 2 * w) i + if i = 0 ∨ i = 4 then wornF (mlS σ n w) w n / 2 else wornF (mlS σ n w) w n)) 2 ?_ ?_
          ·
            try dsimp only [List.drop]
            refine z_iast C hK hI AdS_in (by decide) kR_2 (kR_D (by omega)) (cellR_upD (by omega)) (t0 := 0) rfl (j := ((5 * w) + i)) rfl (by omega) (by decide) dX5_miles_108 (pc' := 109) rfl ?_
            refine z_iinc (L' := [.ref _, .int _, .int _, .int _, .int _, .int _, .int _]) C dX5_miles_109 (pc' := 112) rfl rfl (iinc1 _) (by decide) (Nat.le_of_ble_eq_true rfl) rfl ?_
            refine z_goto C dX5_miles_112 (pc' := 44) (by decide) ?_
            exact z_back 6 (ih44 (i + 1) (by omega) (by omega)) rfl rfl
          · intro hj_108
            refine z_icmp_le (tgt := 106) C dX5_miles_98 (pc' := 101) (by decide) rfl (fun c_98 => ?_) (fun c_98 => ?_)
            ·
              refine z_iload C dX5_miles_106 (pc' := 108) rfl rfl ?_
              exact hj_108 _ (by first | exact mn_le c_98 | exact mn_gt c_98)
            ·
              refine z_bipush C dX5_miles_101 (pc' := 103) rfl (v := 99) (by decide) ?_
              refine z_goto C dX5_miles_103 (pc' := 108) (by decide) ?_
              exact hj_108 _ (by first | exact mn_le c_98 | exact mn_gt c_98)
        · intro hj_81
          refine z_if_eq (tgt := 72) C dX5_miles_63 (pc' := 66) (by decide) rfl (fun c_63 => ?_) (fun c_63 => ?_)
          ·
            have n_63 : i = 0 := (nI_eq0 (by omega)).mp c_63
            refine z_iload C dX5_miles_72 (pc' := 74) rfl rfl ?_
            refine z_iconst C dX5_miles_74 (pc' := 75) rfl (v := 2) (by decide) ?_
            refine z_idiv C dX5_miles_75 (pc' := 76) rfl (by decide) rfl ?_
            refine z_goto C dX5_miles_76 (pc' := 81) (by decide) ?_
            exact hj_81 _ (by simp [*])
          ·
            have n_63 : ¬ i = 0 := fun z9 => c_63 ((nI_eq0 (by omega)).mpr z9)
            refine z_iload C dX5_miles_66 (pc' := 68) rfl rfl ?_
            refine z_iconst C dX5_miles_68 (pc' := 69) rfl (v := 4) (by decide) ?_
            refine z_icmp_ne (tgt := 79) C dX5_miles_69 (pc' := 72) (by decide) rfl (fun c_69 => ?_) (fun c_69 => ?_)
            ·
              have n_69 : ¬ i = 4 := fun z9 => c_69 ((nI_eq (a := i) (b := 4) (by omega) (by omega)).mpr z9)
              refine z_iload C dX5_miles_79 (pc' := 81) rfl rfl ?_
              exact hj_81 _ (by simp [*])
            ·
              have n_69 : i = 4 := (nI_eq (a := i) (b := 4) (by omega) (by omega)).mp c_69
              refine z_iload C dX5_miles_72 (pc' := 74) rfl rfl ?_
              refine z_iconst C dX5_miles_74 (pc' := 75) rfl (v := 2) (by decide) ?_
              refine z_idiv C dX5_miles_75 (pc' := 76) rfl (by decide) rfl ?_
              refine z_goto C dX5_miles_76 (pc' := 81) (by decide) ?_
              exact hj_81 _ (by simp [*])
  ·
    refine z_if_ne (tgt := 18) C dX5_miles_13 (pc' := 16) (by decide) rfl (fun q => absurd q (by decide)) (fun _ => ?_)
    refine z_iconst C dX5_miles_16 (pc' := 17) rfl (v := (-1)) (by decide) ?_
    exact z_iret C hM dX5_miles_17 (Or.inl ⟨by assumption, rfl, rfl⟩)
set_option maxRecDepth 100000 in
set_option maxHeartbeats 400000 in
theorem m_X5_isFlat (l : Launch) {cA : ClassId} {D : va_G} {ad : Nat → Nat} (hI : Inj 17 ad) (σ : St) {k : Nat} (hk : k < 16) {p9 : Nat} (hp : p9 < 2000000) (ep : σ 11 k = nI p9) : CI l yX5_isFlat cX5_isFlat 4 .boolean 0 0 D [(cA, .int)] 17 ad (cellR cA ad) σ [.ref (ad 0), .int (nI k)] (fun r u => u = σ ∧ ((r = 1 ∧ ¬ cntB σ k (σ 0 1) (min 5 p9) < 3) ∨ (r = 0 ∧ cntB σ k (σ 0 1) (min 5 p9) < 3))) := by
  refine CI_of (by decide +kernel) (Nat.le_of_ble_eq_true rfl) (by simp [Value.category]) ?_
  intro p e s m below meth c C hM hK
  refine z_iconst C dX5_isFlat_0 (pc' := 1) rfl (v := 0) (by decide) ?_
  refine z_istore_n (L' := [.ref _, .int _, .int _]) C dX5_isFlat_1 (pc' := 2) rfl rfl (by decide) (Nat.le_of_ble_eq_true rfl) rfl ?_
  refine z_iconst C dX5_isFlat_2 (pc' := 3) rfl (v := 0) (by decide) ?_
  refine z_istore_n (L' := [.ref _, .int _, .int _, .int _]) C dX5_isFlat_3 (pc' := 4) rfl rfl (by decide) (Nat.le_of_ble_eq_true rfl) rfl ?_
  refine z_loop (τ := Nat) (fun i => 5 - i) (fun i => i ≤ 5 ∧ i ≤ p9) (fun i => σ) (fun i => [.ref (ad 0), .int (nI k), .int (cntB σ k (σ 0 1) i), .int (nI i)]) 0 ⟨by omega, by omega⟩ rfl ⟨_, rfl⟩ ?_
  intro i hi ih4
  try dsimp only at hi ih4 ⊢
  refine z_iload_n C dX5_isFlat_4 (pc' := 5) rfl rfl rfl ?_
  refine z_iconst C dX5_isFlat_5 (pc' := 6) rfl (v := 5) (by decide) ?_
  refine z_icmp_ge (tgt := 50) C dX5_isFlat_6 (pc' := 9) (by decide) rfl (fun c_6 => ?_) (fun c_6 => ?_)
  ·
    have n_6 : 5 ≤ i := ge_of_le (N := 5) (k := i) c_6 (by omega) (by omega)
    refine z_iload_n C dX5_isFlat_50 (pc' := 51) rfl rfl rfl ?_
    refine z_iconst C dX5_isFlat_51 (pc' := 52) rfl (v := 3) (by decide) ?_
    refine z_icmp_lt (tgt := 59) C dX5_isFlat_52 (pc' := 55) (by decide) rfl (fun c_52 => ?_) (fun c_52 => ?_)
    ·
      refine z_iconst C dX5_isFlat_59 (pc' := 60) rfl (v := 0) (by decide) ?_
      exact z_zret C hM dX5_isFlat_60 (by decide) ⟨rfl, Or.inr ⟨rfl, by rw [show min 5 p9 = i by omega]; assumption⟩⟩
    ·
      refine z_iconst C dX5_isFlat_55 (pc' := 56) rfl (v := 1) (by decide) ?_
      refine z_goto C dX5_isFlat_56 (pc' := 60) (by decide) ?_
      exact z_zret C hM dX5_isFlat_60 (by decide) ⟨rfl, Or.inl ⟨rfl, by rw [show min 5 p9 = i by omega]; assumption⟩⟩
  ·
    have n_6 : i < 5 := lt_of_nle (N := 5) (k := i) c_6 (by omega) (by omega)
    refine z_iload_n C dX5_isFlat_9 (pc' := 10) rfl rfl rfl ?_
    refine z_aload_n C dX5_isFlat_10 (pc' := 11) rfl rfl rfl ?_
    refine z_get C hK (by decide) kR_0 rfl inAX5 (k := 20) (by decide) aw_472 rfl dX5_isFlat_11 (pc' := 14) rfl ?_
    refine z_iload_n C dX5_isFlat_14 (pc' := 15) rfl rfl rfl ?_
    refine z_iald C hK (by decide) kR_15 (t0 := 0) rfl (j := k) rfl (by omega) (by decide) rfl dX5_isFlat_15 (pc' := 16) rfl ?_
    refine z_top (y := nI p9) ep ?_
    refine z_icmp_ge (tgt := 50) C dX5_isFlat_16 (pc' := 19) (by decide) rfl (fun c_16 => ?_) (fun c_16 => ?_)
    ·
      have n_16 : p9 ≤ i := ge_of_le (N := p9) (k := i) c_16 (by omega) (by omega)
      refine z_iload_n C dX5_isFlat_50 (pc' := 51) rfl rfl rfl ?_
      refine z_iconst C dX5_isFlat_51 (pc' := 52) rfl (v := 3) (by decide) ?_
      refine z_icmp_lt (tgt := 59) C dX5_isFlat_52 (pc' := 55) (by decide) rfl (fun c_52 => ?_) (fun c_52 => ?_)
      ·
        refine z_iconst C dX5_isFlat_59 (pc' := 60) rfl (v := 0) (by decide) ?_
        exact z_zret C hM dX5_isFlat_60 (by decide) ⟨rfl, Or.inr ⟨rfl, by rw [show min 5 p9 = i by omega]; assumption⟩⟩
      ·
        refine z_iconst C dX5_isFlat_55 (pc' := 56) rfl (v := 1) (by decide) ?_
        refine z_goto C dX5_isFlat_56 (pc' := 60) (by decide) ?_
        exact z_zret C hM dX5_isFlat_60 (by decide) ⟨rfl, Or.inl ⟨rfl, by rw [show min 5 p9 = i by omega]; assumption⟩⟩
    ·
      have n_16 : i < p9 := lt_of_nle (N := p9) (k := i) c_16 (by omega) (by omega)
      refine z_iload_n C dX5_isFlat_19 (pc' := 20) rfl rfl rfl ?_
      refine z_aload_n C dX5_isFlat_20 (pc' := 21) rfl rfl rfl ?_
      refine z_get C hK (by decide) kR_0 rfl inAX5 (k := 21) (by decide) aw_473 rfl dX5_isFlat_21 (pc' := 24) rfl ?_
      refine z_iconst C dX5_isFlat_24 (pc' := 25) rfl (v := 5) (by decide) ?_
      refine z_iload_n C dX5_isFlat_25 (pc' := 26) rfl rfl rfl ?_
      refine z_imul C dX5_isFlat_26 (pc' := 27) rfl (pk_mul (5) (k)) ?_
      refine z_iload_n C dX5_isFlat_27 (pc' := 28) rfl rfl rfl ?_
      refine z_iadd C dX5_isFlat_28 (pc' := 29) rfl (nI_add ((5 * k)) (i)) ?_
      refine z_iald C hK (by decide) kR_16 (t0 := 0) rfl (j := ((5 * k) + i)) rfl (by omega) (by decide) (rDB _ (by omega)) dX5_isFlat_29 (pc' := 30) rfl ?_
      refine z_aload_n C dX5_isFlat_30 (pc' := 31) rfl rfl rfl ?_
      refine z_get C hK (by decide) kR_0 rfl inAX5 (k := 22) (by decide) aw_474 rfl dX5_isFlat_31 (pc' := 34) rfl ?_
      refine z_ternE (J := 42) (if σ (101 + 2 * k) i < σ 0 1 then 0 else 1) 2 ?_ ?_
      ·
        try dsimp only [List.drop]
        refine z_iadd C dX5_isFlat_42 (pc' := 43) rfl rfl ?_
        refine z_istore_n (L' := [.ref _, .int _, .int _, .int _]) C dX5_isFlat_43 (pc' := 44) rfl rfl (by decide) (Nat.le_of_ble_eq_true rfl) rfl ?_
        refine z_iinc (L' := [.ref _, .int _, .int _, .int _]) C dX5_isFlat_44 (pc' := 47) rfl rfl (iinc1 _) (by decide) (Nat.le_of_ble_eq_true rfl) rfl ?_
        refine z_goto C dX5_isFlat_47 (pc' := 4) (by decide) ?_
        exact z_back 4 (ih4 (i + 1) ⟨by omega, by omega⟩ (by omega)) rfl (by simp only [List.take, cntB]; split <;> simp)
      · intro hj_42
        refine z_icmp_lt (tgt := 41) C dX5_isFlat_34 (pc' := 37) (by decide) rfl (fun c_34 => ?_) (fun c_34 => ?_)
        ·
          refine z_iconst C dX5_isFlat_41 (pc' := 42) rfl (v := 0) (by decide) ?_
          exact hj_42 _ (by simp [*])
        ·
          refine z_iconst C dX5_isFlat_37 (pc' := 38) rfl (v := 1) (by decide) ?_
          refine z_goto C dX5_isFlat_38 (pc' := 42) (by decide) ?_
          exact hj_42 _ (by simp [*])
set_option maxRecDepth 100000 in
set_option maxHeartbeats 400000 in
theorem m_X4_flatness (l : Launch) {cA cB : ClassId} {D : va_G} {ad : Nat → Nat} (hI : Inj 67 ad) (σ : St) {k : Nat} (hk : k < 16) {b : Nat} (hb5 : b ≤ 5) (eb : σ 21 k = nI b) : CI l yX4_flatness cX4_flatness 2 .int 1 23 D [(cA, .int), (cB, .object RX3)] 67 ad (cellC cA cB ad) σ [.ref (ad 0), .ref (ad (pW k))] (fun r u => r = fl σ k b ∧ u = σ) := by
  refine CI_of (by decide +kernel) (Nat.le_of_ble_eq_true rfl) (by simp [Value.category]) ?_
  intro p e s m below meth c C hM hK
  refine z_aload_n C dX4_flatness_0 (pc' := 1) rfl rfl rfl ?_
  refine z_aload_n C dX4_flatness_1 (pc' := 2) rfl rfl rfl ?_
  refine z_get C hK (by decide) kC_0 rfl inAX4 (k := 6) (by decide) aw_151 rfl dX4_flatness_2 (pc' := 5) rfl ?_
  refine z_callI C hK (m_X3_isFlat l hI _ (k := k) (by omega) (b := b) hb5 eb _) AdS_in aw_414 aw_415 aw_416 aw_31 aw_417 (pW_lt (by omega)) (kC_W k) rfl (nA := 1) (by decide +kernel) rfl ⟨Nat.le_of_ble_eq_true rfl, Nat.le_of_ble_eq_true rfl⟩ (rest := []) rfl (Nat.le_of_ble_eq_true rfl) ⟨Nat.zero_le _, Nat.zero_le _⟩ dX4_flatness_5 (pc' := 8) rfl (fun r_5 u_5 h_5 => ?_)
  obtain ⟨hu_5, h_5⟩ := h_5
  rw [hu_5]
  rcases h_5 with ⟨rfl, h_5⟩ | ⟨rfl, h_5⟩
  ·
    refine z_if_eq (tgt := 15) C dX4_flatness_8 (pc' := 11) (by decide) rfl (fun q => absurd q (by decide)) (fun _ => ?_)
    refine z_iconst C dX4_flatness_11 (pc' := 12) rfl (v := 1) (by decide) ?_
    refine z_goto C dX4_flatness_12 (pc' := 16) (by decide) ?_
    exact z_iret C hM dX4_flatness_16 ⟨by simp [fl, *], rfl⟩
  ·
    refine z_if_eq (tgt := 15) C dX4_flatness_8 (pc' := 11) (by decide) rfl (fun _ => ?_) (fun q => absurd q (by decide))
    refine z_iconst C dX4_flatness_15 (pc' := 16) rfl (v := 0) (by decide) ?_
    exact z_iret C hM dX4_flatness_16 ⟨by simp [fl, *], rfl⟩
set_option maxRecDepth 100000 in
set_option maxHeartbeats 400000 in
theorem m_X4_flatWheels (l : Launch) {cA cB : ClassId} {D : va_G} {ad : Nat → Nat} (hI : Inj 67 ad) (σ : St) (hB : okB σ) : CI l yX4_flatWheels cX4_flatWheels 3 .int 2 44 D [(cA, .int), (cB, .object RX3)] 67 ad (cellC cA cB ad) σ [.ref (ad 0)] (fun r u => r = sumF (flC σ) 16 ∧ u = σ) := by
  refine CI_of (by decide +kernel) (Nat.le_of_ble_eq_true rfl) (by simp [Value.category]) ?_
  intro p e s m below meth c C hM hK
  refine z_iconst C dX4_flatWheels_0 (pc' := 1) rfl (v := 0) (by decide) ?_
  refine z_istore_n (L' := [.ref _, .int _]) C dX4_flatWheels_1 (pc' := 2) rfl rfl (by decide) (Nat.le_of_ble_eq_true rfl) rfl ?_
  refine z_iconst C dX4_flatWheels_2 (pc' := 3) rfl (v := 0) (by decide) ?_
  refine z_istore_n (L' := [.ref _, .int _, .int _]) C dX4_flatWheels_3 (pc' := 4) rfl rfl (by decide) (Nat.le_of_ble_eq_true rfl) rfl ?_
  refine z_loop (τ := Nat) (fun i => 16 - i) (fun i => i ≤ 16) (fun i => σ) (fun i => [.ref (ad 0), .int (sumF (flC σ) i), .int (nI i)]) 0 (by omega) rfl ⟨_, rfl⟩ ?_
  intro i hi ih4
  try dsimp only at hi ih4 ⊢
  refine z_iload_n C dX4_flatWheels_4 (pc' := 5) rfl rfl rfl ?_
  refine z_bipush C dX4_flatWheels_5 (pc' := 7) rfl (v := 16) (by decide) ?_
  refine z_icmp_ge (tgt := 29) C dX4_flatWheels_7 (pc' := 10) (by decide) rfl (fun c_7 => ?_) (fun c_7 => ?_)
  ·
    have n_7 : 16 ≤ i := ge_of_le (N := 16) (k := i) c_7 (by omega) (by omega)
    obtain rfl : i = 16 := (by omega)
    refine z_iload_n C dX4_flatWheels_29 (pc' := 30) rfl rfl rfl ?_
    exact z_iret C hM dX4_flatWheels_30 ⟨rfl, rfl⟩
  ·
    have n_7 : i < 16 := lt_of_nle (N := 16) (k := i) c_7 (by omega) (by omega)
    refine z_iload_n C dX4_flatWheels_10 (pc' := 11) rfl rfl rfl ?_
    refine z_aload_n C dX4_flatWheels_11 (pc' := 12) rfl rfl rfl ?_
    refine z_aload_n C dX4_flatWheels_12 (pc' := 13) rfl rfl rfl ?_
    refine z_get C hK (by decide) kC_0 rfl inAX4 (k := 0) (by decide) aw_145 rfl dX4_flatWheels_13 (pc' := 16) rfl ?_
    refine z_iload_n C dX4_flatWheels_16 (pc' := 17) rfl rfl rfl ?_
    refine z_aald C hK (by decide) kC_1 (t0 := 1) rfl (j := i) rfl (by omega) (by decide) rfl dX4_flatWheels_17 (pc' := 18) rfl ?_
    obtain ⟨b, hb5, eb⟩ := hB i (by omega)
    refine z_callI C hK (m_X4_flatness l hI _ (k := i) (by omega) (b := b) hb5 eb) AdS_in aw_410 aw_412 aw_15 aw_27 aw_413 (by decide) kC_0 rfl (nA := 1) (by decide +kernel) rfl ⟨Nat.le_of_ble_eq_true rfl, Nat.le_of_ble_eq_true rfl⟩ (rest := [_]) rfl (Nat.le_of_ble_eq_true rfl) ⟨Nat.zero_le _, Nat.zero_le _⟩ dX4_flatWheels_18 (pc' := 21) rfl (fun r_18 u_18 h_18 => ?_)
    obtain ⟨hr_18, hu_18⟩ := h_18
    rw [hr_18, hu_18]
    refine z_iadd C dX4_flatWheels_21 (pc' := 22) rfl rfl ?_
    refine z_istore_n (L' := [.ref _, .int _, .int _]) C dX4_flatWheels_22 (pc' := 23) rfl rfl (by decide) (Nat.le_of_ble_eq_true rfl) rfl ?_
    refine z_iinc (L' := [.ref _, .int _, .int _]) C dX4_flatWheels_23 (pc' := 26) rfl rfl (iinc1 _) (by decide) (Nat.le_of_ble_eq_true rfl) rfl ?_
    refine z_goto C dX4_flatWheels_26 (pc' := 4) (by decide) ?_
    exact z_back 3 (ih4 (i + 1) (by omega) (by omega)) rfl (by simp [sumF, flC_of eb hb5])
set_option maxRecDepth 100000 in
set_option maxHeartbeats 400000 in
theorem m_X4_pass (l : Launch) {cA cB : ClassId} {D : va_G} {ad : Nat → Nat} (hI : Inj 67 ad) (σ : St) (hB : okB σ) (hO : ∀ k : Nat, k < 16 → ∃ o : Nat, o < 5 ∧ σ 22 k = nI o) (w v : Int32) : CI l yX4_pass cX4_pass 3 .int 2 44 D [(cA, .int), (cB, .object RX3)] 67 ad (cellC cA cB ad) σ [.ref (ad 0), .int w, .int v] (fun r u => (¬ (isW w ∧ inR v 0 999) ∧ r = -1 ∧ u = σ) ∨ (∃ k b o : Nat, k < 16 ∧ w = nI k ∧ inR v 0 999 ∧ b ≤ 5 ∧ σ 21 k = nI b ∧ o < 5 ∧ σ 22 k = nI o ∧ u = g_feel σ k o v ∧ r = fl u k (min 5 (b + 1)))) := by
  refine CI_of (by decide +kernel) (Nat.le_of_ble_eq_true rfl) (by simp [Value.category]) ?_
  intro p e s m below meth c C hM hK
  refine z_iload_n C dX4_pass_0 (pc' := 1) rfl rfl rfl ?_
  refine z_callS C (m_X4_isWheel l _) stabP aw_177 aw_178 aw_27 aw_179 (nA := 1) (by decide +kernel) rfl ⟨Nat.le_of_ble_eq_true rfl, Nat.le_of_ble_eq_true rfl⟩ (rest := []) rfl (Nat.le_of_ble_eq_true rfl) ⟨Nat.zero_le _, Nat.zero_le _⟩ dX4_pass_1 (pc' := 4) rfl (fun r_1 h_1 => ?_)
  rcases h_1 with ⟨rfl, h_1⟩ | ⟨rfl, h_1⟩
  ·
    obtain ⟨k, hk, rfl⟩ := isW_of h_1
    refine z_if_eq (tgt := 18) C dX4_pass_4 (pc' := 7) (by decide) rfl (fun q => absurd q (by decide)) (fun _ => ?_)
    refine z_iload_n C dX4_pass_7 (pc' := 8) rfl rfl rfl ?_
    refine z_iconst C dX4_pass_8 (pc' := 9) rfl (v := 0) (by decide) ?_
    refine z_sipush C dX4_pass_9 (pc' := 12) rfl (v := 999) (by decide) ?_
    refine z_callS C (m_X4_within l _ _ _) stabP aw_180 aw_181 aw_27 aw_182 (nA := 3) (by decide +kernel) rfl ⟨Nat.le_of_ble_eq_true rfl, Nat.le_of_ble_eq_true rfl⟩ (rest := []) rfl (Nat.le_of_ble_eq_true rfl) ⟨Nat.zero_le _, Nat.zero_le _⟩ dX4_pass_12 (pc' := 15) rfl (fun r_12 h_12 => ?_)
    rcases h_12 with ⟨rfl, h_12⟩ | ⟨rfl, h_12⟩
    ·
      refine z_if_ne (tgt := 20) C dX4_pass_15 (pc' := 18) (by decide) rfl (fun _ => ?_) (fun q => absurd q (by decide))
      obtain ⟨b, hb5, eb⟩ := hB k hk
      obtain ⟨o, ho, eo⟩ := hO k hk
      have eb2 : g_feel σ k o v 21 k = nI (min 5 (b + 1)) := by rw [g_feel, up2_s, eb, mn5 hb5]
      refine z_aload_n C dX4_pass_20 (pc' := 21) rfl rfl rfl ?_
      refine z_get C hK (by decide) kC_0 rfl inAX4 (k := 0) (by decide) aw_145 rfl dX4_pass_21 (pc' := 24) rfl ?_
      refine z_iload_n C dX4_pass_24 (pc' := 25) rfl rfl rfl ?_
      refine z_aald C hK (by decide) kC_1 (t0 := 1) rfl (j := k) rfl (by omega) (by decide) rfl dX4_pass_25 (pc' := 26) rfl ?_
      refine z_iload_n C dX4_pass_26 (pc' := 27) rfl rfl rfl ?_
      refine z_callV C hK (m_X3_feel l hI _ (k := k) (by omega) (o := o) ho eo _) AdS_in aw_406 aw_407 aw_408 aw_31 aw_409 (pW_lt (by omega)) (kC_W k) rfl (nA := 1) (by decide +kernel) rfl ⟨Nat.le_of_ble_eq_true rfl, Nat.le_of_ble_eq_true rfl⟩ (rest := []) rfl (Nat.le_of_ble_eq_true rfl) ⟨Nat.zero_le _, Nat.zero_le _⟩ dX4_pass_27 (pc' := 30) rfl (fun u_27 h_27 => ?_)
      rw [h_27]
      refine z_aload_n C dX4_pass_30 (pc' := 31) rfl rfl rfl ?_
      refine z_aload_n C dX4_pass_31 (pc' := 32) rfl rfl rfl ?_
      refine z_get C hK (by decide) kC_0 rfl inAX4 (k := 0) (by decide) aw_145 rfl dX4_pass_32 (pc' := 35) rfl ?_
      refine z_iload_n C dX4_pass_35 (pc' := 36) rfl rfl rfl ?_
      refine z_aald C hK (by decide) kC_1 (t0 := 1) rfl (j := k) rfl (by omega) (by decide) rfl dX4_pass_36 (pc' := 37) rfl ?_
      refine z_callI C hK (m_X4_flatness l hI _ (k := k) (by omega) (b := min 5 (b + 1)) (by omega) eb2) AdS_in aw_410 aw_412 aw_15 aw_27 aw_413 (by decide) kC_0 rfl (nA := 1) (by decide +kernel) rfl ⟨Nat.le_of_ble_eq_true rfl, Nat.le_of_ble_eq_true rfl⟩ (rest := []) rfl (Nat.le_of_ble_eq_true rfl) ⟨Nat.zero_le _, Nat.zero_le _⟩ dX4_pass_37 (pc' := 40) rfl (fun r_37 u_37 h_37 => ?_)
      obtain ⟨hr_37, hu_37⟩ := h_37
      rw [hr_37, hu_37]
      exact z_iret C hM dX4_pass_40 (Or.inr ⟨k, b, o, hk, rfl, by assumption, hb5, eb, ho, eo, rfl, rfl⟩)
    ·
      refine z_if_ne (tgt := 20) C dX4_pass_15 (pc' := 18) (by decide) rfl (fun q => absurd q (by decide)) (fun _ => ?_)
      refine z_iconst C dX4_pass_18 (pc' := 19) rfl (v := (-1)) (by decide) ?_
      exact z_iret C hM dX4_pass_19 (Or.inl ⟨fun z => absurd z (by simp [*]), rfl, rfl⟩)
  ·
    refine z_if_eq (tgt := 18) C dX4_pass_4 (pc' := 7) (by decide) rfl (fun _ => ?_) (fun q => absurd q (by decide))
    refine z_iconst C dX4_pass_18 (pc' := 19) rfl (v := (-1)) (by decide) ?_
    exact z_iret C hM dX4_pass_19 (Or.inl ⟨fun z => absurd z (by simp [*]), rfl, rfl⟩)
set_option maxRecDepth 100000 in
set_option maxHeartbeats 400000 in
theorem m_X4_flat (l : Launch) {cA cB : ClassId} {D : va_G} {ad : Nat → Nat} (hI : Inj 67 ad) (σ : St) (hB : okB σ) (w : Int32) : CI l yX4_flat cX4_flat 2 .int 2 44 D [(cA, .int), (cB, .object RX3)] 67 ad (cellC cA cB ad) σ [.ref (ad 0), .int w] (fun r u => r = (if isW w then flC σ (wn w) else -1) ∧ u = σ) := by
  refine CI_of (by decide +kernel) (Nat.le_of_ble_eq_true rfl) (by simp [Value.category]) ?_
  intro p e s m below meth c C hM hK
  refine z_iload_n C dX4_flat_0 (pc' := 1) rfl rfl rfl ?_
  refine z_callS C (m_X4_isWheel l _) stabP aw_177 aw_178 aw_27 aw_179 (nA := 1) (by decide +kernel) rfl ⟨Nat.le_of_ble_eq_true rfl, Nat.le_of_ble_eq_true rfl⟩ (rest := []) rfl (Nat.le_of_ble_eq_true rfl) ⟨Nat.zero_le _, Nat.zero_le _⟩ dX4_flat_1 (pc' := 4) rfl (fun r_1 h_1 => ?_)
  rcases h_1 with ⟨rfl, h_1⟩ | ⟨rfl, h_1⟩
  ·
    obtain ⟨k, hk, rfl⟩ := isW_of h_1
    refine z_if_ne (tgt := 9) C dX4_flat_4 (pc' := 7) (by decide) rfl (fun _ => ?_) (fun q => absurd q (by decide))
    obtain ⟨b, hb5, eb⟩ := hB k hk
    refine z_aload_n C dX4_flat_9 (pc' := 10) rfl rfl rfl ?_
    refine z_aload_n C dX4_flat_10 (pc' := 11) rfl rfl rfl ?_
    refine z_get C hK (by decide) kC_0 rfl inAX4 (k := 0) (by decide) aw_145 rfl dX4_flat_11 (pc' := 14) rfl ?_
    refine z_iload_n C dX4_flat_14 (pc' := 15) rfl rfl rfl ?_
    refine z_aald C hK (by decide) kC_1 (t0 := 1) rfl (j := k) rfl (by omega) (by decide) rfl dX4_flat_15 (pc' := 16) rfl ?_
    refine z_callI C hK (m_X4_flatness l hI _ (k := k) (by omega) (b := b) hb5 eb) AdS_in aw_410 aw_412 aw_15 aw_27 aw_413 (by decide) kC_0 rfl (nA := 1) (by decide +kernel) rfl ⟨Nat.le_of_ble_eq_true rfl, Nat.le_of_ble_eq_true rfl⟩ (rest := []) rfl (Nat.le_of_ble_eq_true rfl) ⟨Nat.zero_le _, Nat.zero_le _⟩ dX4_flat_16 (pc' := 19) rfl (fun r_16 u_16 h_16 => ?_)
    obtain ⟨hr_16, hu_16⟩ := h_16
    rw [hr_16, hu_16]
    exact z_iret C hM dX4_flat_19 ⟨by rw [if_pos h_1, wn_nI (show k < 2 ^ 31 by omega), flC_of eb hb5], rfl⟩
  ·
    refine z_if_ne (tgt := 9) C dX4_flat_4 (pc' := 7) (by decide) rfl (fun q => absurd q (by decide)) (fun _ => ?_)
    refine z_iconst C dX4_flat_7 (pc' := 8) rfl (v := (-1)) (by decide) ?_
    exact z_iret C hM dX4_flat_8 ⟨(if_neg h_1).symm, rfl⟩
set_option maxRecDepth 100000 in
set_option maxHeartbeats 400000 in
theorem m_X4_count (l : Launch) {cA cB : ClassId} {D : va_G} {ad : Nat → Nat} (hI : Inj 67 ad) (σ : St) (hB : okB σ) (q : Int32) : CI l yX4_count cX4_count 2 .int 3 66 D [(cA, .int), (cB, .object RX3)] 67 ad (cellC cA cB ad) σ [.ref (ad 0), .int q] (fun r u => r = f_count σ (sumF (flC σ) 16) q ∧ u = σ) := by
  refine CI_of (by decide +kernel) (Nat.le_of_ble_eq_true rfl) (by simp [Value.category]) ?_
  intro p e s m below meth c C hM hK
  refine z_iload_n C dX4_count_0 (pc' := 1) rfl rfl rfl ?_
  rcases sw_cases (n := 5) (by omega) q with ⟨j, hj, rfl⟩ | hj
  ·
    rcases (show j = 0 ∨ j = 1 ∨ j = 2 ∨ j = 3 ∨ j = 4 ∨ j = 5 by omega) with rfl | rfl | rfl | rfl | rfl | rfl
    ·
      refine z_tin C dX4_count_1 (by decide) (by decide) (off := 39) (by decide) (pc' := 40) (by decide) ?_
      refine z_aload_n C dX4_count_40 (pc' := 41) rfl rfl rfl ?_
      refine z_get C hK (by decide) kC_0 rfl inAX4 (k := 2) (by decide) aw_147 rfl dX4_count_41 (pc' := 44) rfl ?_
      refine z_get C hK (by decide) kC_5 rfl inAX2 (k := 0) (by decide) aw_63 rfl dX4_count_44 (pc' := 47) rfl ?_
      exact z_iret C hM dX4_count_47 ⟨by rw [f_count, if_pos (by decide)]; rfl, rfl⟩
    ·
      refine z_tin C dX4_count_1 (by decide) (by decide) (off := 47) (by decide) (pc' := 48) (by decide) ?_
      refine z_aload_n C dX4_count_48 (pc' := 49) rfl rfl rfl ?_
      refine z_get C hK (by decide) kC_0 rfl inAX4 (k := 3) (by decide) aw_148 rfl dX4_count_49 (pc' := 52) rfl ?_
      refine z_get C hK (by decide) kC_10 rfl inAX1 (k := 0) (by decide) aw_86 rfl dX4_count_52 (pc' := 55) rfl ?_
      exact z_iret C hM dX4_count_55 ⟨by rw [f_count, if_pos (by decide)]; rfl, rfl⟩
    ·
      refine z_tin C dX4_count_1 (by decide) (by decide) (off := 55) (by decide) (pc' := 56) (by decide) ?_
      refine z_aload_n C dX4_count_56 (pc' := 57) rfl rfl rfl ?_
      refine z_callI C hK (m_X4_flatWheels l hI _ hB) AdS_in aw_438 aw_440 aw_16 aw_27 aw_441 (by decide) kC_0 rfl (nA := 0) (by decide +kernel) rfl ⟨Nat.le_of_ble_eq_true rfl, Nat.le_of_ble_eq_true rfl⟩ (rest := []) rfl (Nat.le_of_ble_eq_true rfl) ⟨Nat.zero_le _, Nat.zero_le _⟩ dX4_count_57 (pc' := 60) rfl (fun r_57 u_57 h_57 => ?_)
      obtain ⟨hr_57, hu_57⟩ := h_57
      rw [hr_57, hu_57]
      exact z_iret C hM dX4_count_60 ⟨by rw [f_count, if_pos (by decide)]; rfl, rfl⟩
    ·
      refine z_tin C dX4_count_1 (by decide) (by decide) (off := 60) (by decide) (pc' := 61) (by decide) ?_
      refine z_aload_n C dX4_count_61 (pc' := 62) rfl rfl rfl ?_
      refine z_get C hK (by decide) kC_0 rfl inAX4 (k := 5) (by decide) aw_150 rfl dX4_count_62 (pc' := 65) rfl ?_
      exact z_iret C hM dX4_count_65 ⟨by rw [f_count, if_pos (by decide)]; rfl, rfl⟩
    ·
      refine z_tin C dX4_count_1 (by decide) (by decide) (off := 65) (by decide) (pc' := 66) (by decide) ?_
      refine z_aload_n C dX4_count_66 (pc' := 67) rfl rfl rfl ?_
      refine z_get C hK (by decide) kC_0 rfl inAX4 (k := 6) (by decide) aw_151 rfl dX4_count_67 (pc' := 70) rfl ?_
      exact z_iret C hM dX4_count_70 ⟨by rw [f_count, if_pos (by decide)]; rfl, rfl⟩
    ·
      refine z_tin C dX4_count_1 (by decide) (by decide) (off := 70) (by decide) (pc' := 71) (by decide) ?_
      refine z_aload_n C dX4_count_71 (pc' := 72) rfl rfl rfl ?_
      refine z_get C hK (by decide) kC_0 rfl inAX4 (k := 7) (by decide) aw_152 rfl dX4_count_72 (pc' := 75) rfl ?_
      exact z_iret C hM dX4_count_75 ⟨by rw [f_count, if_pos (by decide)]; rfl, rfl⟩
  ·
    refine z_tout C dX4_count_1 hj (pc' := 76) (by decide) ?_
    refine z_iconst C dX4_count_76 (pc' := 77) rfl (v := (-1)) (by decide) ?_
    exact z_iret C hM dX4_count_77 ⟨by rw [f_count, if_neg]; simp only [inR, i32_le]; have e0 : (0 : Int32).toInt = 0 := rfl; have e5 : (5 : Int32).toInt = 5 := rfl; omega, rfl⟩
set_option maxRecDepth 100000 in
set_option maxHeartbeats 400000 in
theorem m_X5_pass (l : Launch) {cA : ClassId} {D : va_G} {ad : Nat → Nat} (hI : Inj 17 ad) (σ : St) (hP : okP σ) (w v : Int32) : CI l yX5_pass cX5_pass 3 .int 2 42 D [(cA, .int)] 17 ad (cellR cA ad) σ [.ref (ad 0), .int w, .int v] (fun r u => (¬ (isW w ∧ inR v 0 999) ∧ r = -1 ∧ u = σ) ∨ (∃ k p : Nat, k < 16 ∧ w = nI k ∧ inR v 0 999 ∧ p < 1000000 ∧ σ 11 k = nI p ∧ u = up2 (up2 σ (101 + 2 * k) (p % 5) v) 11 k (nI (p + 1)) ∧ r = fl u k (min 5 (p + 1)))) := by
  refine CI_of (by decide +kernel) (Nat.le_of_ble_eq_true rfl) (by simp [Value.category]) ?_
  intro p e s m below meth c C hM hK
  refine z_aload_n C dX5_pass_0 (pc' := 1) rfl rfl rfl ?_
  refine z_iconst C dX5_pass_1 (pc' := 2) rfl (v := 0) (by decide) ?_
  refine z_put C hK hI AdS_in (by decide) kR_0 sR_th oR_th rfl inAX5 tyX5_ok nmX5 (k := 0) (by decide) aw_452 rfl (ty := .int) (by decide +kernel) rfl rfl (Nat.le_of_ble_eq_true rfl) dX5_pass_2 (pc' := 5) rfl ?_
  refine z_iload_n C dX5_pass_5 (pc' := 6) rfl rfl rfl ?_
  refine z_callS C (m_X5_isWheel l _) stabP aw_526 aw_527 aw_32 aw_528 (nA := 1) (by decide +kernel) rfl ⟨Nat.le_of_ble_eq_true rfl, Nat.le_of_ble_eq_true rfl⟩ (rest := []) rfl (Nat.le_of_ble_eq_true rfl) ⟨Nat.zero_le _, Nat.zero_le _⟩ dX5_pass_6 (pc' := 9) rfl (fun r_6 h_6 => ?_)
  rcases h_6 with ⟨rfl, h_6⟩ | ⟨rfl, h_6⟩
  ·
    obtain ⟨k, hk, rfl⟩ := isW_of h_6
    refine z_if_eq (tgt := 23) C dX5_pass_9 (pc' := 12) (by decide) rfl (fun q => absurd q (by decide)) (fun _ => ?_)
    refine z_iload_n C dX5_pass_12 (pc' := 13) rfl rfl rfl ?_
    refine z_iconst C dX5_pass_13 (pc' := 14) rfl (v := 0) (by decide) ?_
    refine z_sipush C dX5_pass_14 (pc' := 17) rfl (v := 999) (by decide) ?_
    refine z_callS C (m_X5_in l _ _ _) stabP aw_529 aw_530 aw_32 aw_531 (nA := 3) (by decide +kernel) rfl ⟨Nat.le_of_ble_eq_true rfl, Nat.le_of_ble_eq_true rfl⟩ (rest := []) rfl (Nat.le_of_ble_eq_true rfl) ⟨Nat.zero_le _, Nat.zero_le _⟩ dX5_pass_17 (pc' := 20) rfl (fun r_17 h_17 => ?_)
    rcases h_17 with ⟨rfl, h_17⟩ | ⟨rfl, h_17⟩
    ·
      refine z_if_ne (tgt := 25) C dX5_pass_20 (pc' := 23) (by decide) rfl (fun _ => ?_) (fun q => absurd q (by decide))
      obtain ⟨p9, hp, ep⟩ := hP k hk
      refine z_aload_n C dX5_pass_25 (pc' := 26) rfl rfl rfl ?_
      refine z_get C hK (by decide) kR_0 rfl inAX5 (k := 21) (by decide) aw_473 rfl dX5_pass_26 (pc' := 29) rfl ?_
      refine z_iconst C dX5_pass_29 (pc' := 30) rfl (v := 5) (by decide) ?_
      refine z_iload_n C dX5_pass_30 (pc' := 31) rfl rfl rfl ?_
      refine z_imul C dX5_pass_31 (pc' := 32) rfl (pk_mul (5) (k)) ?_
      refine z_aload_n C dX5_pass_32 (pc' := 33) rfl rfl rfl ?_
      refine z_get C hK (by decide) kR_0 rfl inAX5 (k := 20) (by decide) aw_472 rfl dX5_pass_33 (pc' := 36) rfl ?_
      refine z_iload_n C dX5_pass_36 (pc' := 37) rfl rfl rfl ?_
      refine z_iald C hK (by decide) kR_15 (t0 := 0) rfl (j := k) rfl (by omega) (by decide) rfl dX5_pass_37 (pc' := 38) rfl ?_
      refine z_top (y := nI p9) ep ?_
      refine z_iconst C dX5_pass_38 (pc' := 39) rfl (v := 5) (by decide) ?_
      refine z_irem C dX5_pass_39 (pc' := 40) rfl (by decide) (z := nI (p9 % 5)) (pk_rem (a := p9) (d := 5) (by omega) (by omega) (by omega)) ?_
      refine z_iadd C dX5_pass_40 (pc' := 41) rfl (nI_add ((5 * k)) ((p9 % 5))) ?_
      refine z_iload_n C dX5_pass_41 (pc' := 42) rfl rfl rfl ?_
      refine z_iast C hK hI AdS_in (by decide) kR_16 (kR_B (by omega)) (cellR_upB (by omega)) (t0 := 0) rfl (j := ((5 * k) + (p9 % 5))) rfl (by omega) (by decide) dX5_pass_42 (pc' := 43) rfl ?_
      refine z_aload_n C dX5_pass_43 (pc' := 44) rfl rfl rfl ?_
      refine z_get C hK (by decide) kR_0 rfl inAX5 (k := 20) (by decide) aw_472 rfl dX5_pass_44 (pc' := 47) rfl ?_
      refine z_iload_n C dX5_pass_47 (pc' := 48) rfl rfl rfl ?_
      refine z_dup2 C dX5_pass_48 (pc' := 49) rfl rfl rfl ?_
      refine z_iald C hK (by decide) kR_15 (t0 := 0) rfl (j := k) rfl (by omega) (by decide) rfl dX5_pass_49 (pc' := 50) rfl ?_
      refine z_top (y := nI p9) (by rw [up2_c _ _ _ _ (show 11 ≠ 101 + 2 * k by omega), ep]) ?_
      refine z_iconst C dX5_pass_50 (pc' := 51) rfl (v := 1) (by decide) ?_
      refine z_iadd C dX5_pass_51 (pc' := 52) rfl (nI_add (p9) (1)) ?_
      refine z_iast C hK hI AdS_in (by decide) kR_15 sR_a15 oR_a15 (t0 := 0) rfl (j := k) rfl (by omega) (by decide) dX5_pass_52 (pc' := 53) rfl ?_
      refine z_aload_n C dX5_pass_53 (pc' := 54) rfl rfl rfl ?_
      refine z_iload_n C dX5_pass_54 (pc' := 55) rfl rfl rfl ?_
      refine z_callI C hK (m_X5_isFlat l hI _ (k := k) (by omega) (p9 := p9 + 1) (by omega) (by simp [up2])) AdS_in aw_646 aw_648 aw_25 aw_32 aw_649 (by decide) kR_0 rfl (nA := 1) (by decide +kernel) rfl ⟨Nat.le_of_ble_eq_true rfl, Nat.le_of_ble_eq_true rfl⟩ (rest := []) rfl (Nat.le_of_ble_eq_true rfl) ⟨Nat.zero_le _, Nat.zero_le _⟩ dX5_pass_55 (pc' := 58) rfl (fun r_55 u_55 h_55 => ?_)
      obtain ⟨hu_55, h_55⟩ := h_55
      rw [hu_55]
      rcases h_55 with ⟨rfl, h_55⟩ | ⟨rfl, h_55⟩
      ·
        refine z_if_eq (tgt := 65) C dX5_pass_58 (pc' := 61) (by decide) rfl (fun q => absurd q (by decide)) (fun _ => ?_)
        refine z_iconst C dX5_pass_61 (pc' := 62) rfl (v := 1) (by decide) ?_
        refine z_goto C dX5_pass_62 (pc' := 66) (by decide) ?_
        exact z_iret C hM dX5_pass_66 (Or.inr ⟨k, p9, hk, rfl, by assumption, hp, ep, rfl, by simp [fl, h_55]⟩)
      ·
        refine z_if_eq (tgt := 65) C dX5_pass_58 (pc' := 61) (by decide) rfl (fun _ => ?_) (fun q => absurd q (by decide))
        refine z_iconst C dX5_pass_65 (pc' := 66) rfl (v := 0) (by decide) ?_
        exact z_iret C hM dX5_pass_66 (Or.inr ⟨k, p9, hk, rfl, by assumption, hp, ep, rfl, by simp [fl, h_55]⟩)
    ·
      refine z_if_ne (tgt := 25) C dX5_pass_20 (pc' := 23) (by decide) rfl (fun q => absurd q (by decide)) (fun _ => ?_)
      refine z_iconst C dX5_pass_23 (pc' := 24) rfl (v := (-1)) (by decide) ?_
      exact z_iret C hM dX5_pass_24 (Or.inl ⟨fun z => absurd z (by simp [*]), rfl, rfl⟩)
  ·
    refine z_if_eq (tgt := 23) C dX5_pass_9 (pc' := 12) (by decide) rfl (fun _ => ?_) (fun q => absurd q (by decide))
    refine z_iconst C dX5_pass_23 (pc' := 24) rfl (v := (-1)) (by decide) ?_
    exact z_iret C hM dX5_pass_24 (Or.inl ⟨fun z => absurd z (by simp [*]), rfl, rfl⟩)
set_option maxRecDepth 100000 in
set_option maxHeartbeats 400000 in
theorem m_X5_flat (l : Launch) {cA : ClassId} {D : va_G} {ad : Nat → Nat} (hI : Inj 17 ad) (σ : St) (hP : okP σ) (w : Int32) : CI l yX5_flat cX5_flat 2 .int 2 42 D [(cA, .int)] 17 ad (cellR cA ad) σ [.ref (ad 0), .int w] (fun r u => r = (if isW w then flR σ (wn w) else -1) ∧ u = σ) := by
  refine CI_of (by decide +kernel) (Nat.le_of_ble_eq_true rfl) (by simp [Value.category]) ?_
  intro p e s m below meth c C hM hK
  refine z_aload_n C dX5_flat_0 (pc' := 1) rfl rfl rfl ?_
  refine z_iconst C dX5_flat_1 (pc' := 2) rfl (v := 0) (by decide) ?_
  refine z_put C hK hI AdS_in (by decide) kR_0 sR_th oR_th rfl inAX5 tyX5_ok nmX5 (k := 0) (by decide) aw_452 rfl (ty := .int) (by decide +kernel) rfl rfl (Nat.le_of_ble_eq_true rfl) dX5_flat_2 (pc' := 5) rfl ?_
  refine z_iload_n C dX5_flat_5 (pc' := 6) rfl rfl rfl ?_
  refine z_callS C (m_X5_isWheel l _) stabP aw_526 aw_527 aw_32 aw_528 (nA := 1) (by decide +kernel) rfl ⟨Nat.le_of_ble_eq_true rfl, Nat.le_of_ble_eq_true rfl⟩ (rest := []) rfl (Nat.le_of_ble_eq_true rfl) ⟨Nat.zero_le _, Nat.zero_le _⟩ dX5_flat_6 (pc' := 9) rfl (fun r_6 h_6 => ?_)
  rcases h_6 with ⟨rfl, h_6⟩ | ⟨rfl, h_6⟩
  ·
    obtain ⟨k, hk, rfl⟩ := isW_of h_6
    refine z_if_ne (tgt := 16) C dX5_flat_9 (pc' := 12) (by decide) rfl (fun _ => ?_) (fun q => absurd q (by decide))
    obtain ⟨p9, hp, ep⟩ := hP k hk
    refine z_aload_n C dX5_flat_16 (pc' := 17) rfl rfl rfl ?_
    refine z_iload_n C dX5_flat_17 (pc' := 18) rfl rfl rfl ?_
    refine z_callI C hK (m_X5_isFlat l hI _ (k := k) (by omega) (p9 := p9) (by omega) ep) AdS_in aw_646 aw_648 aw_25 aw_32 aw_649 (by decide) kR_0 rfl (nA := 1) (by decide +kernel) rfl ⟨Nat.le_of_ble_eq_true rfl, Nat.le_of_ble_eq_true rfl⟩ (rest := []) rfl (Nat.le_of_ble_eq_true rfl) ⟨Nat.zero_le _, Nat.zero_le _⟩ dX5_flat_18 (pc' := 21) rfl (fun r_18 u_18 h_18 => ?_)
    obtain ⟨hu_18, h_18⟩ := h_18
    rw [hu_18]
    rcases h_18 with ⟨rfl, h_18⟩ | ⟨rfl, h_18⟩
    ·
      refine z_if_eq (tgt := 28) C dX5_flat_21 (pc' := 24) (by decide) rfl (fun q => absurd q (by decide)) (fun _ => ?_)
      refine z_iconst C dX5_flat_24 (pc' := 25) rfl (v := 1) (by decide) ?_
      refine z_goto C dX5_flat_25 (pc' := 29) (by decide) ?_
      exact z_iret C hM dX5_flat_29 ⟨by rw [if_pos h_6, wn_nI (show k < 2 ^ 31 by omega), flR_of ep hp]; simp [fl, h_18], rfl⟩
    ·
      refine z_if_eq (tgt := 28) C dX5_flat_21 (pc' := 24) (by decide) rfl (fun _ => ?_) (fun q => absurd q (by decide))
      refine z_iconst C dX5_flat_28 (pc' := 29) rfl (v := 0) (by decide) ?_
      exact z_iret C hM dX5_flat_29 ⟨by rw [if_pos h_6, wn_nI (show k < 2 ^ 31 by omega), flR_of ep hp]; simp [fl, h_18], rfl⟩
  ·
    refine z_if_ne (tgt := 16) C dX5_flat_9 (pc' := 12) (by decide) rfl (fun q => absurd q (by decide)) (fun _ => ?_)
    refine z_iconst C dX5_flat_12 (pc' := 13) rfl (v := (-1)) (by decide) ?_
    refine z_goto C dX5_flat_13 (pc' := 29) (by decide) ?_
    exact z_iret C hM dX5_flat_29 ⟨(if_neg h_6).symm, rfl⟩
set_option maxRecDepth 100000 in
set_option maxHeartbeats 400000 in
theorem m_X5_count (l : Launch) {cA : ClassId} {D : va_G} {ad : Nat → Nat} (hI : Inj 17 ad) (σ : St) (hP : okP σ) (q : Int32) : CI l yX5_count cX5_count 4 .int 1 23 D [(cA, .int)] 17 ad (cellR cA ad) σ [.ref (ad 0), .int q] (fun r u => r = f_count σ (sumF (flR σ) 16) q ∧ u = σ) := by
  refine CI_of (by decide +kernel) (Nat.le_of_ble_eq_true rfl) (by simp [Value.category]) ?_
  intro p e s m below meth c C hM hK
  refine z_aload_n C dX5_count_0 (pc' := 1) rfl rfl rfl ?_
  refine z_iconst C dX5_count_1 (pc' := 2) rfl (v := 0) (by decide) ?_
  refine z_put C hK hI AdS_in (by decide) kR_0 sR_th oR_th rfl inAX5 tyX5_ok nmX5 (k := 0) (by decide) aw_452 rfl (ty := .int) (by decide +kernel) rfl rfl (Nat.le_of_ble_eq_true rfl) dX5_count_2 (pc' := 5) rfl ?_
  refine z_iconst C dX5_count_5 (pc' := 6) rfl (v := 0) (by decide) ?_
  refine z_istore_n (L' := [.ref _, .int _, .int _]) C dX5_count_6 (pc' := 7) rfl rfl (by decide) (Nat.le_of_ble_eq_true rfl) rfl ?_
  refine z_iconst C dX5_count_7 (pc' := 8) rfl (v := 0) (by decide) ?_
  refine z_istore_n (L' := [.ref _, .int _, .int _, .int _]) C dX5_count_8 (pc' := 9) rfl rfl (by decide) (Nat.le_of_ble_eq_true rfl) rfl ?_
  refine z_loop (τ := Nat) (fun i => 16 - i) (fun i => i ≤ 16) (fun i => σ) (fun i => [.ref (ad 0), .int q, .int (sumF (flR σ) i), .int (nI i)]) 0 (by omega) rfl ⟨_, rfl⟩ ?_
  intro i hi ih9
  try dsimp only at hi ih9 ⊢
  refine z_iload_n C dX5_count_9 (pc' := 10) rfl rfl rfl ?_
  refine z_bipush C dX5_count_10 (pc' := 12) rfl (v := 16) (by decide) ?_
  refine z_icmp_ge (tgt := 37) C dX5_count_12 (pc' := 15) (by decide) rfl (fun c_12 => ?_) (fun c_12 => ?_)
  ·
    have n_12 : 16 ≤ i := ge_of_le (N := 16) (k := i) c_12 (by omega) (by omega)
    obtain rfl : i = 16 := (by omega)
    refine z_iload_n C dX5_count_37 (pc' := 38) rfl rfl rfl ?_
    rcases sw_cases (n := 5) (by omega) q with ⟨j, hj, rfl⟩ | hj
    ·
      rcases (show j = 0 ∨ j = 1 ∨ j = 2 ∨ j = 3 ∨ j = 4 ∨ j = 5 by omega) with rfl | rfl | rfl | rfl | rfl | rfl
      ·
        refine z_tin C dX5_count_38 (by decide) (by decide) (off := 38) (by decide) (pc' := 76) (by decide) ?_
        refine z_aload_n C dX5_count_76 (pc' := 77) rfl rfl rfl ?_
        refine z_get C hK (by decide) kR_0 rfl inAX5 (k := 10) (by decide) aw_462 rfl dX5_count_77 (pc' := 80) rfl ?_
        exact z_iret C hM dX5_count_80 ⟨by rw [f_count, if_pos (by decide)]; rfl, rfl⟩
      ·
        refine z_tin C dX5_count_38 (by decide) (by decide) (off := 43) (by decide) (pc' := 81) (by decide) ?_
        refine z_aload_n C dX5_count_81 (pc' := 82) rfl rfl rfl ?_
        refine z_get C hK (by decide) kR_0 rfl inAX5 (k := 14) (by decide) aw_466 rfl dX5_count_82 (pc' := 85) rfl ?_
        exact z_iret C hM dX5_count_85 ⟨by rw [f_count, if_pos (by decide)]; rfl, rfl⟩
      ·
        refine z_tin C dX5_count_38 (by decide) (by decide) (off := 48) (by decide) (pc' := 86) (by decide) ?_
        refine z_iload_n C dX5_count_86 (pc' := 87) rfl rfl rfl ?_
        exact z_iret C hM dX5_count_87 ⟨by rw [f_count, if_pos (by decide)]; rfl, rfl⟩
      ·
        refine z_tin C dX5_count_38 (by decide) (by decide) (off := 50) (by decide) (pc' := 88) (by decide) ?_
        refine z_aload_n C dX5_count_88 (pc' := 89) rfl rfl rfl ?_
        refine z_get C hK (by decide) kR_0 rfl inAX5 (k := 6) (by decide) aw_458 rfl dX5_count_89 (pc' := 92) rfl ?_
        exact z_iret C hM dX5_count_92 ⟨by rw [f_count, if_pos (by decide)]; rfl, rfl⟩
      ·
        refine z_tin C dX5_count_38 (by decide) (by decide) (off := 55) (by decide) (pc' := 93) (by decide) ?_
        refine z_aload_n C dX5_count_93 (pc' := 94) rfl rfl rfl ?_
        refine z_get C hK (by decide) kR_0 rfl inAX5 (k := 22) (by decide) aw_474 rfl dX5_count_94 (pc' := 97) rfl ?_
        exact z_iret C hM dX5_count_97 ⟨by rw [f_count, if_pos (by decide)]; rfl, rfl⟩
      ·
        refine z_tin C dX5_count_38 (by decide) (by decide) (off := 60) (by decide) (pc' := 98) (by decide) ?_
        refine z_aload_n C dX5_count_98 (pc' := 99) rfl rfl rfl ?_
        refine z_get C hK (by decide) kR_0 rfl inAX5 (k := 7) (by decide) aw_459 rfl dX5_count_99 (pc' := 102) rfl ?_
        exact z_iret C hM dX5_count_102 ⟨by rw [f_count, if_pos (by decide)]; rfl, rfl⟩
    ·
      refine z_tout C dX5_count_38 hj (pc' := 103) (by decide) ?_
      refine z_iconst C dX5_count_103 (pc' := 104) rfl (v := (-1)) (by decide) ?_
      exact z_iret C hM dX5_count_104 ⟨by rw [f_count, if_neg]; simp only [inR, i32_le]; have e0 : (0 : Int32).toInt = 0 := rfl; have e5 : (5 : Int32).toInt = 5 := rfl; omega, rfl⟩
  ·
    have n_12 : i < 16 := lt_of_nle (N := 16) (k := i) c_12 (by omega) (by omega)
    refine z_iload_n C dX5_count_15 (pc' := 16) rfl rfl rfl ?_
    refine z_aload_n C dX5_count_16 (pc' := 17) rfl rfl rfl ?_
    refine z_iload_n C dX5_count_17 (pc' := 18) rfl rfl rfl ?_
    obtain ⟨p9, hp, ep⟩ := hP i (by omega)
    refine z_callI C hK (m_X5_isFlat l hI _ (k := i) (by omega) (p9 := p9) (by omega) ep) AdS_in aw_646 aw_648 aw_25 aw_32 aw_649 (by decide) kR_0 rfl (nA := 1) (by decide +kernel) rfl ⟨Nat.le_of_ble_eq_true rfl, Nat.le_of_ble_eq_true rfl⟩ (rest := [_]) rfl (Nat.le_of_ble_eq_true rfl) ⟨Nat.zero_le _, Nat.zero_le _⟩ dX5_count_18 (pc' := 21) rfl (fun r_18 u_18 h_18 => ?_)
    obtain ⟨hu_18, h_18⟩ := h_18
    rw [hu_18]
    rcases h_18 with ⟨rfl, h_18⟩ | ⟨rfl, h_18⟩
    ·
      refine z_if_eq (tgt := 28) C dX5_count_21 (pc' := 24) (by decide) rfl (fun q => absurd q (by decide)) (fun _ => ?_)
      refine z_iconst C dX5_count_24 (pc' := 25) rfl (v := 1) (by decide) ?_
      refine z_goto C dX5_count_25 (pc' := 29) (by decide) ?_
      refine z_iadd C dX5_count_29 (pc' := 30) rfl rfl ?_
      refine z_istore_n (L' := [.ref _, .int _, .int _, .int _]) C dX5_count_30 (pc' := 31) rfl rfl (by decide) (Nat.le_of_ble_eq_true rfl) rfl ?_
      refine z_iinc (L' := [.ref _, .int _, .int _, .int _]) C dX5_count_31 (pc' := 34) rfl rfl (iinc1 _) (by decide) (Nat.le_of_ble_eq_true rfl) rfl ?_
      refine z_goto C dX5_count_34 (pc' := 9) (by decide) ?_
      exact z_back 4 (ih9 (i + 1) (by omega) (by omega)) rfl (by simp [sumF, flR_of ep hp, fl, h_18])
    ·
      refine z_if_eq (tgt := 28) C dX5_count_21 (pc' := 24) (by decide) rfl (fun _ => ?_) (fun q => absurd q (by decide))
      refine z_iconst C dX5_count_28 (pc' := 29) rfl (v := 0) (by decide) ?_
      refine z_iadd C dX5_count_29 (pc' := 30) rfl rfl ?_
      refine z_istore_n (L' := [.ref _, .int _, .int _, .int _]) C dX5_count_30 (pc' := 31) rfl rfl (by decide) (Nat.le_of_ble_eq_true rfl) rfl ?_
      refine z_iinc (L' := [.ref _, .int _, .int _, .int _]) C dX5_count_31 (pc' := 34) rfl rfl (iinc1 _) (by decide) (Nat.le_of_ble_eq_true rfl) rfl ?_
      refine z_goto C dX5_count_34 (pc' := 9) (by decide) ?_
      exact z_back 4 (ih9 (i + 1) (by omega) (by omega)) rfl (by simp [sumF, flR_of ep hp, fl, h_18])
end
section
/-! laws: pairs, what is kept -/
def lawF (g : Nat → Int32) (a b : Nat) : Int32 := if a / 2 = b / 2 then g 0 else if a / 4 = b / 4 then g 1 else if a / 8 = b / 8 then g 2 else g 3
def ab (x : Int32) : Int32 := if 0 ≤ x then x else 0 - x
def brI (f g : Nat → Int32) (a : Nat) (acc : Int32) : Nat → Int32
  | 0 => acc
  | n + 1 => if ab (f a - f (a + 1 + n)) ≤ lawF g a (a + 1 + n) then brI f g a acc n else brI f g a acc n + 1
def brO (f g : Nat → Int32) : Nat → Int32
  | 0 => 0
  | a + 1 => brI f g a (brO f g a) (15 - a)
def rbI (f g : Nat → Int32) (a : Nat) (acc : Int32) : Nat → Int32
  | 0 => acc
  | b + 1 => rbI f g a acc b + if f a - f b ≤ lawF g a b ∨ a = b then 0 else 1
def rbO (f g : Nat → Int32) : Nat → Int32
  | 0 => 0
  | a + 1 => rbI f g a (rbO f g a) 16
def lst (c : Nat) (z : Bool) (a b : Nat) (x : St × Int32) : St × Int32 := if (z = true ∧ a = b) ∨ x.1 c a ≤ x.1 c b + lawF (x.1 5) a b then x else (up2 x.1 c a (x.1 c b + lawF (x.1 5) a b), 1)
def loB (c : Nat) (z : Bool) (a : Nat) (x : St × Int32) : Nat → St × Int32
  | 0 => x
  | b + 1 => lst c z a b (loB c z a x b)
def loA (c : Nat) (z : Bool) (x : St × Int32) : Nat → St × Int32
  | 0 => x
  | a + 1 => loB c z a (loA c z x a) 16
def lwS (c : Nat) (z : Bool) (σ : St) : Nat → St × Int32
  | 0 => (σ, 1)
  | i + 1 => loA c z ((lwS c z σ i).1, 0) 16
theorem lst01 {c : Nat} {z : Bool} {a b : Nat} {x : St × Int32} (h : x.2 = 0 ∨ x.2 = 1) : (lst c z a b x).2 = 0 ∨ (lst c z a b x).2 = 1 := by
  unfold lst
  split
  · exact h
  · exact Or.inr rfl
theorem loB01 {c : Nat} {z : Bool} {a : Nat} {x : St × Int32} (h : x.2 = 0 ∨ x.2 = 1) : ∀ b, (loB c z a x b).2 = 0 ∨ (loB c z a x b).2 = 1
  | 0 => h
  | b + 1 => lst01 (loB01 h b)
theorem loA01 {c : Nat} {z : Bool} {x : St × Int32} (h : x.2 = 0 ∨ x.2 = 1) : ∀ a, (loA c z x a).2 = 0 ∨ (loA c z x a).2 = 1
  | 0 => h
  | a + 1 => loB01 (loA01 h a) 16
def cpL (σ : St) (c : Nat) : Nat → St
  | 0 => σ
  | i + 1 => up2 (cpL σ c i) c i (cpL σ c i 1 i)
def KC (σ u : St) : Prop := ∃ i, i ≤ 16 ∧ u = (lwS 23 false (cpL σ 23 16) i).1 ∧ ((lwS 23 false (cpL σ 23 16) i).2 = 0 ∨ i = 16)
def KR (σ u : St) : Prop := ∃ i, u = (lwS 12 true (cpL σ 12 16) i).1 ∧ (lwS 12 true (cpL σ 12 16) i).2 = 0
def stL (u : St) (c : Nat) : Nat → Int32
  | 0 => 0
  | k + 1 => stL u c k + (u 1 k - u c k)
def evL (u : St) (c : Nat) : Nat → St
  | 0 => u
  | k + 1 => up2 (evL u c k) 1 k (evL u c k c k)
def ecC (u : St) (c : Nat) : Nat → Int32
  | 0 => 0
  | k + 1 => if evL u c k 1 k ≤ evL u c k c k then ecC u c k else ecC u c k + 1
def ecR (u : St) (c : Nat) : Nat → Int32
  | 0 => 0
  | k + 1 => ecR u c k + if evL u c k 1 k ≤ evL u c k c k then 0 else 1
set_option maxRecDepth 100000 in
set_option maxHeartbeats 400000 in
theorem m_X0_between (l : Launch) {cA cB : ClassId} {D : va_G} {ad : Nat → Nat} (hI : Inj 67 ad) (σ : St) {a b : Nat} (ha : a < 16) (hb : b < 16) : CI l yX0_between cX0_between 3 .int 0 0 D [(cA, .int), (cB, .object RX3)] 67 ad (cellC cA cB ad) σ [.ref (ad 3), .int (nI a), .int (nI b)] (fun r u => r = lawF (σ 5) a b ∧ u = σ) := by
  refine CI_of (by decide +kernel) (Nat.le_of_ble_eq_true rfl) (by simp [Value.category]) ?_
  intro p e s m below meth c C hM hK
  refine z_iload_n C dX0_between_0 (pc' := 1) rfl rfl rfl ?_
  refine z_iconst C dX0_between_1 (pc' := 2) rfl (v := 2) (by decide) ?_
  refine z_idiv C dX0_between_2 (pc' := 3) rfl (by decide) (z := nI (a / 2)) (pk_div (a := a) (d := 2) (by omega) (by omega) (by omega)) ?_
  refine z_iload_n C dX0_between_3 (pc' := 4) rfl rfl rfl ?_
  refine z_iconst C dX0_between_4 (pc' := 5) rfl (v := 2) (by decide) ?_
  refine z_idiv C dX0_between_5 (pc' := 6) rfl (by decide) (z := nI (b / 2)) (pk_div (a := b) (d := 2) (by omega) (by omega) (by omega)) ?_
  refine z_icmp_ne (tgt := 16) C dX0_between_6 (pc' := 9) (by decide) rfl (fun c_6 => ?_) (fun c_6 => ?_)
  ·
    have n_6 : ¬ (a / 2) = (b / 2) := fun z9 => c_6 ((nI_eq (a := (a / 2)) (b := (b / 2)) (by omega) (by omega)).mpr z9)
    refine z_iload_n C dX0_between_16 (pc' := 17) rfl rfl rfl ?_
    refine z_iconst C dX0_between_17 (pc' := 18) rfl (v := 4) (by decide) ?_
    refine z_idiv C dX0_between_18 (pc' := 19) rfl (by decide) (z := nI (a / 4)) (pk_div (a := a) (d := 4) (by omega) (by omega) (by omega)) ?_
    refine z_iload_n C dX0_between_19 (pc' := 20) rfl rfl rfl ?_
    refine z_iconst C dX0_between_20 (pc' := 21) rfl (v := 4) (by decide) ?_
    refine z_idiv C dX0_between_21 (pc' := 22) rfl (by decide) (z := nI (b / 4)) (pk_div (a := b) (d := 4) (by omega) (by omega) (by omega)) ?_
    refine z_icmp_ne (tgt := 32) C dX0_between_22 (pc' := 25) (by decide) rfl (fun c_22 => ?_) (fun c_22 => ?_)
    ·
      have n_22 : ¬ (a / 4) = (b / 4) := fun z9 => c_22 ((nI_eq (a := (a / 4)) (b := (b / 4)) (by omega) (by omega)).mpr z9)
      refine z_iload_n C dX0_between_32 (pc' := 33) rfl rfl rfl ?_
      refine z_bipush C dX0_between_33 (pc' := 35) rfl (v := 8) (by decide) ?_
      refine z_idiv C dX0_between_35 (pc' := 36) rfl (by decide) (z := nI (a / 8)) (pk_div (a := a) (d := 8) (by omega) (by omega) (by omega)) ?_
      refine z_iload_n C dX0_between_36 (pc' := 37) rfl rfl rfl ?_
      refine z_bipush C dX0_between_37 (pc' := 39) rfl (v := 8) (by decide) ?_
      refine z_idiv C dX0_between_39 (pc' := 40) rfl (by decide) (z := nI (b / 8)) (pk_div (a := b) (d := 8) (by omega) (by omega) (by omega)) ?_
      refine z_icmp_ne (tgt := 52) C dX0_between_40 (pc' := 43) (by decide) rfl (fun c_40 => ?_) (fun c_40 => ?_)
      ·
        have n_40 : ¬ (a / 8) = (b / 8) := fun z9 => c_40 ((nI_eq (a := (a / 8)) (b := (b / 8)) (by omega) (by omega)).mpr z9)
        refine z_aload_n C dX0_between_52 (pc' := 53) rfl rfl rfl ?_
        refine z_get C hK (by decide) kC_3 rfl inAX0 (k := 0) (by decide) aw_50 rfl dX0_between_53 (pc' := 56) rfl ?_
        refine z_iconst C dX0_between_56 (pc' := 57) rfl (v := 3) (by decide) ?_
        refine z_iald C hK (by decide) kC_4 (t0 := 0) rfl (j := 3) rfl (by decide) (by decide) rfl dX0_between_57 (pc' := 58) rfl ?_
        exact z_iret C hM dX0_between_58 (by simp [lawF, *])
      ·
        have n_40 : (a / 8) = (b / 8) := (nI_eq (a := (a / 8)) (b := (b / 8)) (by omega) (by omega)).mp c_40
        refine z_aload_n C dX0_between_43 (pc' := 44) rfl rfl rfl ?_
        refine z_get C hK (by decide) kC_3 rfl inAX0 (k := 0) (by decide) aw_50 rfl dX0_between_44 (pc' := 47) rfl ?_
        refine z_iconst C dX0_between_47 (pc' := 48) rfl (v := 2) (by decide) ?_
        refine z_iald C hK (by decide) kC_4 (t0 := 0) rfl (j := 2) rfl (by decide) (by decide) rfl dX0_between_48 (pc' := 49) rfl ?_
        refine z_goto C dX0_between_49 (pc' := 58) (by decide) ?_
        exact z_iret C hM dX0_between_58 (by simp [lawF, *])
    ·
      have n_22 : (a / 4) = (b / 4) := (nI_eq (a := (a / 4)) (b := (b / 4)) (by omega) (by omega)).mp c_22
      refine z_aload_n C dX0_between_25 (pc' := 26) rfl rfl rfl ?_
      refine z_get C hK (by decide) kC_3 rfl inAX0 (k := 0) (by decide) aw_50 rfl dX0_between_26 (pc' := 29) rfl ?_
      refine z_iconst C dX0_between_29 (pc' := 30) rfl (v := 1) (by decide) ?_
      refine z_iald C hK (by decide) kC_4 (t0 := 0) rfl (j := 1) rfl (by decide) (by decide) rfl dX0_between_30 (pc' := 31) rfl ?_
      exact z_iret C hM dX0_between_31 (by simp [lawF, *])
  ·
    have n_6 : (a / 2) = (b / 2) := (nI_eq (a := (a / 2)) (b := (b / 2)) (by omega) (by omega)).mp c_6
    refine z_aload_n C dX0_between_9 (pc' := 10) rfl rfl rfl ?_
    refine z_get C hK (by decide) kC_3 rfl inAX0 (k := 0) (by decide) aw_50 rfl dX0_between_10 (pc' := 13) rfl ?_
    refine z_iconst C dX0_between_13 (pc' := 14) rfl (v := 0) (by decide) ?_
    refine z_iald C hK (by decide) kC_4 (t0 := 0) rfl (j := 0) rfl (by decide) (by decide) rfl dX0_between_14 (pc' := 15) rfl ?_
    exact z_iret C hM dX0_between_15 (by simp [lawF, *])
set_option maxRecDepth 100000 in
set_option maxHeartbeats 400000 in
theorem m_X5_lawOf (l : Launch) {cA : ClassId} {D : va_G} {ad : Nat → Nat} (hI : Inj 17 ad) (σ : St) {a b : Nat} (ha : a < 16) (hb : b < 16) : CI l yX5_lawOf cX5_lawOf 3 .int 0 0 D [(cA, .int)] 17 ad (cellR cA ad) σ [.ref (ad 0), .int (nI a), .int (nI b)] (fun r u => r = lawF (σ 5) a b ∧ u = σ) := by
  refine CI_of (by decide +kernel) (Nat.le_of_ble_eq_true rfl) (by simp [Value.category]) ?_
  intro p e s m below meth c C hM hK
  refine z_iload_n C dX5_lawOf_0 (pc' := 1) rfl rfl rfl ?_
  refine z_iconst C dX5_lawOf_1 (pc' := 2) rfl (v := 2) (by decide) ?_
  refine z_idiv C dX5_lawOf_2 (pc' := 3) rfl (by decide) (z := nI (a / 2)) (pk_div (a := a) (d := 2) (by omega) (by omega) (by omega)) ?_
  refine z_iload_n C dX5_lawOf_3 (pc' := 4) rfl rfl rfl ?_
  refine z_iconst C dX5_lawOf_4 (pc' := 5) rfl (v := 2) (by decide) ?_
  refine z_idiv C dX5_lawOf_5 (pc' := 6) rfl (by decide) (z := nI (b / 2)) (pk_div (a := b) (d := 2) (by omega) (by omega) (by omega)) ?_
  refine z_icmp_ne (tgt := 18) C dX5_lawOf_6 (pc' := 9) (by decide) rfl (fun c_6 => ?_) (fun c_6 => ?_)
  ·
    have n_6 : ¬ (a / 2) = (b / 2) := fun z9 => c_6 ((nI_eq (a := (a / 2)) (b := (b / 2)) (by omega) (by omega)).mpr z9)
    refine z_iload_n C dX5_lawOf_18 (pc' := 19) rfl rfl rfl ?_
    refine z_iconst C dX5_lawOf_19 (pc' := 20) rfl (v := 4) (by decide) ?_
    refine z_idiv C dX5_lawOf_20 (pc' := 21) rfl (by decide) (z := nI (a / 4)) (pk_div (a := a) (d := 4) (by omega) (by omega) (by omega)) ?_
    refine z_iload_n C dX5_lawOf_21 (pc' := 22) rfl rfl rfl ?_
    refine z_iconst C dX5_lawOf_22 (pc' := 23) rfl (v := 4) (by decide) ?_
    refine z_idiv C dX5_lawOf_23 (pc' := 24) rfl (by decide) (z := nI (b / 4)) (pk_div (a := b) (d := 4) (by omega) (by omega) (by omega)) ?_
    refine z_icmp_ne (tgt := 36) C dX5_lawOf_24 (pc' := 27) (by decide) rfl (fun c_24 => ?_) (fun c_24 => ?_)
    ·
      have n_24 : ¬ (a / 4) = (b / 4) := fun z9 => c_24 ((nI_eq (a := (a / 4)) (b := (b / 4)) (by omega) (by omega)).mpr z9)
      refine z_iload_n C dX5_lawOf_36 (pc' := 37) rfl rfl rfl ?_
      refine z_bipush C dX5_lawOf_37 (pc' := 39) rfl (v := 8) (by decide) ?_
      refine z_idiv C dX5_lawOf_39 (pc' := 40) rfl (by decide) (z := nI (a / 8)) (pk_div (a := a) (d := 8) (by omega) (by omega) (by omega)) ?_
      refine z_iload_n C dX5_lawOf_40 (pc' := 41) rfl rfl rfl ?_
      refine z_bipush C dX5_lawOf_41 (pc' := 43) rfl (v := 8) (by decide) ?_
      refine z_idiv C dX5_lawOf_43 (pc' := 44) rfl (by decide) (z := nI (b / 8)) (pk_div (a := b) (d := 8) (by omega) (by omega) (by omega)) ?_
      refine z_icmp_ne (tgt := 56) C dX5_lawOf_44 (pc' := 47) (by decide) rfl (fun c_44 => ?_) (fun c_44 => ?_)
      ·
        have n_44 : ¬ (a / 8) = (b / 8) := fun z9 => c_44 ((nI_eq (a := (a / 8)) (b := (b / 8)) (by omega) (by omega)).mpr z9)
        refine z_aload_n C dX5_lawOf_56 (pc' := 57) rfl rfl rfl ?_
        refine z_get C hK (by decide) kR_0 rfl inAX5 (k := 8) (by decide) aw_460 rfl dX5_lawOf_57 (pc' := 60) rfl ?_
        refine z_iconst C dX5_lawOf_60 (pc' := 61) rfl (v := 3) (by decide) ?_
        refine z_iald C hK (by decide) kR_5 (t0 := 0) rfl (j := 3) rfl (by decide) (by decide) rfl dX5_lawOf_61 (pc' := 62) rfl ?_
        exact z_iret C hM dX5_lawOf_62 (by simp [lawF, *])
      ·
        have n_44 : (a / 8) = (b / 8) := (nI_eq (a := (a / 8)) (b := (b / 8)) (by omega) (by omega)).mp c_44
        refine z_aload_n C dX5_lawOf_47 (pc' := 48) rfl rfl rfl ?_
        refine z_get C hK (by decide) kR_0 rfl inAX5 (k := 8) (by decide) aw_460 rfl dX5_lawOf_48 (pc' := 51) rfl ?_
        refine z_iconst C dX5_lawOf_51 (pc' := 52) rfl (v := 2) (by decide) ?_
        refine z_iald C hK (by decide) kR_5 (t0 := 0) rfl (j := 2) rfl (by decide) (by decide) rfl dX5_lawOf_52 (pc' := 53) rfl ?_
        refine z_goto C dX5_lawOf_53 (pc' := 62) (by decide) ?_
        exact z_iret C hM dX5_lawOf_62 (by simp [lawF, *])
    ·
      have n_24 : (a / 4) = (b / 4) := (nI_eq (a := (a / 4)) (b := (b / 4)) (by omega) (by omega)).mp c_24
      refine z_aload_n C dX5_lawOf_27 (pc' := 28) rfl rfl rfl ?_
      refine z_get C hK (by decide) kR_0 rfl inAX5 (k := 8) (by decide) aw_460 rfl dX5_lawOf_28 (pc' := 31) rfl ?_
      refine z_iconst C dX5_lawOf_31 (pc' := 32) rfl (v := 1) (by decide) ?_
      refine z_iald C hK (by decide) kR_5 (t0 := 0) rfl (j := 1) rfl (by decide) (by decide) rfl dX5_lawOf_32 (pc' := 33) rfl ?_
      refine z_goto C dX5_lawOf_33 (pc' := 62) (by decide) ?_
      exact z_iret C hM dX5_lawOf_62 (by simp [lawF, *])
  ·
    have n_6 : (a / 2) = (b / 2) := (nI_eq (a := (a / 2)) (b := (b / 2)) (by omega) (by omega)).mp c_6
    refine z_aload_n C dX5_lawOf_9 (pc' := 10) rfl rfl rfl ?_
    refine z_get C hK (by decide) kR_0 rfl inAX5 (k := 8) (by decide) aw_460 rfl dX5_lawOf_10 (pc' := 13) rfl ?_
    refine z_iconst C dX5_lawOf_13 (pc' := 14) rfl (v := 0) (by decide) ?_
    refine z_iald C hK (by decide) kR_5 (t0 := 0) rfl (j := 0) rfl (by decide) (by decide) rfl dX5_lawOf_14 (pc' := 15) rfl ?_
    refine z_goto C dX5_lawOf_15 (pc' := 62) (by decide) ?_
    exact z_iret C hM dX5_lawOf_62 (by simp [lawF, *])
set_option maxRecDepth 100000 in
set_option maxHeartbeats 400000 in
theorem m_X0_brokenPairs (l : Launch) {cA cB : ClassId} {D : va_G} {ad : Nat → Nat} (hI : Inj 67 ad) (σ : St)  : CI l yX0_brokenPairs cX0_brokenPairs 5 .int 1 22 D [(cA, .int), (cB, .object RX3)] 67 ad (cellC cA cB ad) σ [.ref (ad 3), .ref (ad 2)] (fun r u => r = brO (σ 23) (σ 5) 16 ∧ u = σ) := by
  refine CI_of (by decide +kernel) (Nat.le_of_ble_eq_true rfl) (by simp [Value.category]) ?_
  intro p e s m below meth c C hM hK
  refine z_iconst C dX0_brokenPairs_0 (pc' := 1) rfl (v := 0) (by decide) ?_
  refine z_istore_n (L' := [.ref _, .ref _, .int _]) C dX0_brokenPairs_1 (pc' := 2) rfl rfl (by decide) (Nat.le_of_ble_eq_true rfl) rfl ?_
  refine z_iconst C dX0_brokenPairs_2 (pc' := 3) rfl (v := 0) (by decide) ?_
  refine z_istore_n (L' := [.ref _, .ref _, .int _, .int _]) C dX0_brokenPairs_3 (pc' := 4) rfl rfl (by decide) (Nat.le_of_ble_eq_true rfl) rfl ?_
  refine z_loop (τ := Nat) (fun a => 16 - a) (fun a => a ≤ 16) (fun a => σ) (fun a => [.ref (ad 3), .ref (ad 2), .int (brO (σ 23) (σ 5) a), .int (nI a)]) 0 (by omega) rfl ⟨_, rfl⟩ ?_
  intro a ha ih4
  try dsimp only at ha ih4 ⊢
  refine z_iload_n C dX0_brokenPairs_4 (pc' := 5) rfl rfl rfl ?_
  refine z_aload_n C dX0_brokenPairs_5 (pc' := 6) rfl rfl rfl ?_
  refine z_alen C hK (by decide) kC_2 (t0 := 0) rfl dX0_brokenPairs_6 (pc' := 7) rfl ?_
  refine z_icmp_ge (tgt := 58) C dX0_brokenPairs_7 (pc' := 10) (by decide) rfl (fun c_7 => ?_) (fun c_7 => ?_)
  ·
    have n_7 : 16 ≤ a := ge_of_le (N := 16) (k := a) c_7 (by omega) (by omega)
    obtain rfl : a = 16 := (by omega)
    refine z_iload_n C dX0_brokenPairs_58 (pc' := 59) rfl rfl rfl ?_
    exact z_iret C hM dX0_brokenPairs_59 ⟨rfl, rfl⟩
  ·
    have n_7 : a < 16 := lt_of_nle (N := 16) (k := a) c_7 (by omega) (by omega)
    refine z_iload_n C dX0_brokenPairs_10 (pc' := 11) rfl rfl rfl ?_
    refine z_iconst C dX0_brokenPairs_11 (pc' := 12) rfl (v := 1) (by decide) ?_
    refine z_iadd C dX0_brokenPairs_12 (pc' := 13) rfl (nI_add (a) (1)) ?_
    refine z_istore (L' := [.ref _, .ref _, .int _, .int _, .int _]) C dX0_brokenPairs_13 (pc' := 15) rfl (by decide) (Nat.le_of_ble_eq_true rfl) rfl ?_
    refine z_loop (τ := Nat) (fun n => 15 - a - n) (fun n => a + 1 + n ≤ 16) (fun n => σ) (fun n => [.ref (ad 3), .ref (ad 2), .int (brI (σ 23) (σ 5) a (brO (σ 23) (σ 5) a) n), .int (nI a), .int (nI (a + 1 + n))]) 0 (by omega) rfl ⟨_, rfl⟩ ?_
    intro n hn ih15
    try dsimp only at hn ih15 ⊢
    refine z_iload C dX0_brokenPairs_15 (pc' := 17) rfl rfl ?_
    refine z_aload_n C dX0_brokenPairs_17 (pc' := 18) rfl rfl rfl ?_
    refine z_alen C hK (by decide) kC_2 (t0 := 0) rfl dX0_brokenPairs_18 (pc' := 19) rfl ?_
    refine z_icmp_ge (tgt := 52) C dX0_brokenPairs_19 (pc' := 22) (by decide) rfl (fun c_19 => ?_) (fun c_19 => ?_)
    ·
      have n_19 : 16 ≤ (a + 1 + n) := ge_of_le (N := 16) (k := (a + 1 + n)) c_19 (by omega) (by omega)
      obtain rfl : n = 15 - a := (by omega)
      refine z_iinc (L' := [.ref _, .ref _, .int _, .int _, .int _]) C dX0_brokenPairs_52 (pc' := 55) rfl rfl (iinc1 _) (by decide) (Nat.le_of_ble_eq_true rfl) rfl ?_
      refine z_goto C dX0_brokenPairs_55 (pc' := 4) (by decide) ?_
      exact z_back 4 (ih4 (a + 1) (by omega) (by omega)) rfl rfl
    ·
      have n_19 : (a + 1 + n) < 16 := lt_of_nle (N := 16) (k := (a + 1 + n)) c_19 (by omega) (by omega)
      refine z_aload_n C dX0_brokenPairs_22 (pc' := 23) rfl rfl rfl ?_
      refine z_iload_n C dX0_brokenPairs_23 (pc' := 24) rfl rfl rfl ?_
      refine z_iald C hK (by decide) kC_2 (t0 := 0) rfl (j := a) rfl (by omega) (by decide) rfl dX0_brokenPairs_24 (pc' := 25) rfl ?_
      refine z_aload_n C dX0_brokenPairs_25 (pc' := 26) rfl rfl rfl ?_
      refine z_iload C dX0_brokenPairs_26 (pc' := 28) rfl rfl ?_
      refine z_iald C hK (by decide) kC_2 (t0 := 0) rfl (j := (a + 1 + n)) rfl (by omega) (by decide) rfl dX0_brokenPairs_28 (pc' := 29) rfl ?_
      refine z_isub C dX0_brokenPairs_29 (pc' := 30) rfl rfl ?_
      refine z_abs C aw_274 aw_275 aw_33 aw_276 ⟨Nat.le_of_ble_eq_true rfl, Nat.le_of_ble_eq_true rfl⟩ ⟨Nat.zero_le _, Nat.zero_le _⟩ dX0_brokenPairs_30 (pc' := 33) rfl ?_
      refine z_aload_n C dX0_brokenPairs_33 (pc' := 34) rfl rfl rfl ?_
      refine z_iload_n C dX0_brokenPairs_34 (pc' := 35) rfl rfl rfl ?_
      refine z_iload C dX0_brokenPairs_35 (pc' := 37) rfl rfl ?_
      refine z_callI C hK (m_X0_between l hI _ (a := a) (b := (a + 1 + n)) (by omega) (by omega)) AdS_in aw_277 aw_279 aw_6 aw_28 aw_280 (by decide) kC_3 rfl (nA := 2) (by decide +kernel) rfl ⟨Nat.le_of_ble_eq_true rfl, Nat.le_of_ble_eq_true rfl⟩ (rest := [_]) rfl (Nat.le_of_ble_eq_true rfl) ⟨Nat.zero_le _, Nat.zero_le _⟩ dX0_brokenPairs_37 (pc' := 40) rfl (fun r_37 u_37 h_37 => ?_)
      obtain ⟨hr_37, hu_37⟩ := h_37
      rw [hr_37, hu_37]
      refine z_icmp_le (tgt := 46) C dX0_brokenPairs_40 (pc' := 43) (by decide) rfl (fun c_40 => ?_) (fun c_40 => ?_)
      ·
        refine z_iinc (L' := [.ref _, .ref _, .int _, .int _, .int _]) C dX0_brokenPairs_46 (pc' := 49) rfl rfl (iinc1 _) (by decide) (Nat.le_of_ble_eq_true rfl) rfl ?_
        refine z_goto C dX0_brokenPairs_49 (pc' := 15) (by decide) ?_
        exact z_back 5 (ih15 (n + 1) (by omega) (by omega)) rfl (by simp only [List.take, brI]; first | (rw [if_pos (show ab _ ≤ _ from c_40)]; rfl) | (rw [if_neg (show ¬ ab _ ≤ _ from c_40)]; rfl))
      ·
        refine z_iinc (L' := [.ref _, .ref _, .int _, .int _, .int _]) C dX0_brokenPairs_43 (pc' := 46) rfl rfl (iincx _) (by decide) (Nat.le_of_ble_eq_true rfl) rfl ?_
        refine z_iinc (L' := [.ref _, .ref _, .int _, .int _, .int _]) C dX0_brokenPairs_46 (pc' := 49) rfl rfl (iinc1 _) (by decide) (Nat.le_of_ble_eq_true rfl) rfl ?_
        refine z_goto C dX0_brokenPairs_49 (pc' := 15) (by decide) ?_
        exact z_back 5 (ih15 (n + 1) (by omega) (by omega)) rfl (by simp only [List.take, brI]; first | (rw [if_pos (show ab _ ≤ _ from c_40)]; rfl) | (rw [if_neg (show ¬ ab _ ≤ _ from c_40)]; rfl))
set_option maxRecDepth 100000 in
set_option maxHeartbeats 400000 in
theorem m_X0_lowerOnce (l : Launch) {cA cB : ClassId} {D : va_G} {ad : Nat → Nat} (hI : Inj 67 ad) (σ : St)  : CI l yX0_lowerOnce cX0_lowerOnce 6 .boolean 1 22 D [(cA, .int), (cB, .object RX3)] 67 ad (cellC cA cB ad) σ [.ref (ad 3), .ref (ad 2)] (fun r u => r = (loA 23 false (σ, 0) 16).2 ∧ u = (loA 23 false (σ, 0) 16).1) := by
  refine CI_of (by decide +kernel) (Nat.le_of_ble_eq_true rfl) (by simp [Value.category]) ?_
  intro p e s m below meth c C hM hK
  refine z_iconst C dX0_lowerOnce_0 (pc' := 1) rfl (v := 0) (by decide) ?_
  refine z_istore_n (L' := [.ref _, .ref _, .int _]) C dX0_lowerOnce_1 (pc' := 2) rfl rfl (by decide) (Nat.le_of_ble_eq_true rfl) rfl ?_
  refine z_iconst C dX0_lowerOnce_2 (pc' := 3) rfl (v := 0) (by decide) ?_
  refine z_istore_n (L' := [.ref _, .ref _, .int _, .int _]) C dX0_lowerOnce_3 (pc' := 4) rfl rfl (by decide) (Nat.le_of_ble_eq_true rfl) rfl ?_
  refine z_loop (τ := Nat) (fun a => 16 - a) (fun a => a ≤ 16) (fun a => (loA 23 false (σ, 0) a).1) (fun a => [.ref (ad 3), .ref (ad 2), .int (loA 23 false (σ, 0) a).2, .int (nI a)]) 0 (by omega) rfl ⟨_, rfl⟩ ?_
  intro a ha ih4
  try dsimp only at ha ih4 ⊢
  refine z_iload_n C dX0_lowerOnce_4 (pc' := 5) rfl rfl rfl ?_
  refine z_aload_n C dX0_lowerOnce_5 (pc' := 6) rfl rfl rfl ?_
  refine z_alen C hK (by decide) kC_2 (t0 := 0) rfl dX0_lowerOnce_6 (pc' := 7) rfl ?_
  refine z_icmp_ge (tgt := 61) C dX0_lowerOnce_7 (pc' := 10) (by decide) rfl (fun c_7 => ?_) (fun c_7 => ?_)
  ·
    have n_7 : 16 ≤ a := ge_of_le (N := 16) (k := a) c_7 (by omega) (by omega)
    obtain rfl : a = 16 := (by omega)
    refine z_iload_n C dX0_lowerOnce_61 (pc' := 62) rfl rfl rfl ?_
    exact z_zret C hM dX0_lowerOnce_62 (loA01 (Or.inl rfl) 16) ⟨rfl, rfl⟩
  ·
    have n_7 : a < 16 := lt_of_nle (N := 16) (k := a) c_7 (by omega) (by omega)
    refine z_iconst C dX0_lowerOnce_10 (pc' := 11) rfl (v := 0) (by decide) ?_
    refine z_istore (L' := [.ref _, .ref _, .int _, .int _, .int _]) C dX0_lowerOnce_11 (pc' := 13) rfl (by decide) (Nat.le_of_ble_eq_true rfl) rfl ?_
    refine z_loop (τ := Nat) (fun b => 16 - b) (fun b => b ≤ 16) (fun b => (loB 23 false a (loA 23 false (σ, 0) a) b).1) (fun b => [.ref (ad 3), .ref (ad 2), .int (loB 23 false a (loA 23 false (σ, 0) a) b).2, .int (nI a), .int (nI b)]) 0 (by omega) rfl ⟨_, rfl⟩ ?_
    intro b hb ih13
    try dsimp only at hb ih13 ⊢
    refine z_iload C dX0_lowerOnce_13 (pc' := 15) rfl rfl ?_
    refine z_aload_n C dX0_lowerOnce_15 (pc' := 16) rfl rfl rfl ?_
    refine z_alen C hK (by decide) kC_2 (t0 := 0) rfl dX0_lowerOnce_16 (pc' := 17) rfl ?_
    refine z_icmp_ge (tgt := 55) C dX0_lowerOnce_17 (pc' := 20) (by decide) rfl (fun c_17 => ?_) (fun c_17 => ?_)
    ·
      have n_17 : 16 ≤ b := ge_of_le (N := 16) (k := b) c_17 (by omega) (by omega)
      obtain rfl : b = 16 := (by omega)
      refine z_iinc (L' := [.ref _, .ref _, .int _, .int _, .int _]) C dX0_lowerOnce_55 (pc' := 58) rfl rfl (iinc1 _) (by decide) (Nat.le_of_ble_eq_true rfl) rfl ?_
      refine z_goto C dX0_lowerOnce_58 (pc' := 4) (by decide) ?_
      exact z_back 4 (ih4 (a + 1) (by omega) (by omega)) rfl rfl
    ·
      have n_17 : b < 16 := lt_of_nle (N := 16) (k := b) c_17 (by omega) (by omega)
      refine z_aload_n C dX0_lowerOnce_20 (pc' := 21) rfl rfl rfl ?_
      refine z_iload C dX0_lowerOnce_21 (pc' := 23) rfl rfl ?_
      refine z_iald C hK (by decide) kC_2 (t0 := 0) rfl (j := b) rfl (by omega) (by decide) rfl dX0_lowerOnce_23 (pc' := 24) rfl ?_
      refine z_aload_n C dX0_lowerOnce_24 (pc' := 25) rfl rfl rfl ?_
      refine z_iload_n C dX0_lowerOnce_25 (pc' := 26) rfl rfl rfl ?_
      refine z_iload C dX0_lowerOnce_26 (pc' := 28) rfl rfl ?_
      refine z_callI C hK (m_X0_between l hI _ (a := a) (b := b) (by omega) (by omega)) AdS_in aw_277 aw_279 aw_6 aw_28 aw_280 (by decide) kC_3 rfl (nA := 2) (by decide +kernel) rfl ⟨Nat.le_of_ble_eq_true rfl, Nat.le_of_ble_eq_true rfl⟩ (rest := [_]) rfl (Nat.le_of_ble_eq_true rfl) ⟨Nat.zero_le _, Nat.zero_le _⟩ dX0_lowerOnce_28 (pc' := 31) rfl (fun r_28 u_28 h_28 => ?_)
      obtain ⟨hr_28, hu_28⟩ := h_28
      rw [hr_28, hu_28]
      refine z_iadd C dX0_lowerOnce_31 (pc' := 32) rfl rfl ?_
      refine z_istore (L' := [.ref _, .ref _, .int _, .int _, .int _, .int _]) C dX0_lowerOnce_32 (pc' := 34) rfl (by decide) (Nat.le_of_ble_eq_true rfl) rfl ?_
      refine z_aload_n C dX0_lowerOnce_34 (pc' := 35) rfl rfl rfl ?_
      refine z_iload_n C dX0_lowerOnce_35 (pc' := 36) rfl rfl rfl ?_
      refine z_iald C hK (by decide) kC_2 (t0 := 0) rfl (j := a) rfl (by omega) (by decide) rfl dX0_lowerOnce_36 (pc' := 37) rfl ?_
      refine z_iload C dX0_lowerOnce_37 (pc' := 39) rfl rfl ?_
      refine z_icmp_le (tgt := 49) C dX0_lowerOnce_39 (pc' := 42) (by decide) rfl (fun c_39 => ?_) (fun c_39 => ?_)
      ·
        refine z_iinc (L' := [.ref _, .ref _, .int _, .int _, .int _, .int _]) C dX0_lowerOnce_49 (pc' := 52) rfl rfl (iinc1 _) (by decide) (Nat.le_of_ble_eq_true rfl) rfl ?_
        refine z_goto C dX0_lowerOnce_52 (pc' := 13) (by decide) ?_
        exact z_back 5 (ih13 (b + 1) (by omega) (by omega)) (by simp [loB, lst, c_39]) (by simp [loB, lst, c_39])
      ·
        refine z_aload_n C dX0_lowerOnce_42 (pc' := 43) rfl rfl rfl ?_
        refine z_iload_n C dX0_lowerOnce_43 (pc' := 44) rfl rfl rfl ?_
        refine z_iload C dX0_lowerOnce_44 (pc' := 46) rfl rfl ?_
        refine z_iast C hK hI AdS_in (by decide) kC_2 sC_a2 oC_a2 (t0 := 0) rfl (j := a) rfl (by omega) (by decide) dX0_lowerOnce_46 (pc' := 47) rfl ?_
        refine z_iconst C dX0_lowerOnce_47 (pc' := 48) rfl (v := 1) (by decide) ?_
        refine z_istore_n (L' := [.ref _, .ref _, .int _, .int _, .int _, .int _]) C dX0_lowerOnce_48 (pc' := 49) rfl rfl (by decide) (Nat.le_of_ble_eq_true rfl) rfl ?_
        refine z_iinc (L' := [.ref _, .ref _, .int _, .int _, .int _, .int _]) C dX0_lowerOnce_49 (pc' := 52) rfl rfl (iinc1 _) (by decide) (Nat.le_of_ble_eq_true rfl) rfl ?_
        refine z_goto C dX0_lowerOnce_52 (pc' := 13) (by decide) ?_
        exact z_back 5 (ih13 (b + 1) (by omega) (by omega)) (by simp [loB, lst, c_39]) (by simp [loB, lst, c_39])
set_option maxRecDepth 100000 in
set_option maxHeartbeats 400000 in
theorem m_X0_lower (l : Launch) {cA cB : ClassId} {D : va_G} {ad : Nat → Nat} (hI : Inj 67 ad) (σ : St)  : CV l yX0_lower cX0_lower 4 2 47 D [(cA, .int), (cB, .object RX3)] 67 ad (cellC cA cB ad) σ [.ref (ad 3), .ref (ad 2)] (fun u => ∃ i, i ≤ 16 ∧ u = (lwS 23 false σ i).1 ∧ ((lwS 23 false σ i).2 = 0 ∨ i = 16)) := by
  refine CV_of (by decide +kernel) (Nat.le_of_ble_eq_true rfl) (by simp [Value.category]) ?_
  intro p e s m below meth c C hM hK
  refine z_iconst C dX0_lower_0 (pc' := 1) rfl (v := 1) (by decide) ?_
  refine z_istore_n (L' := [.ref _, .ref _, .int _]) C dX0_lower_1 (pc' := 2) rfl rfl (by decide) (Nat.le_of_ble_eq_true rfl) rfl ?_
  refine z_iconst C dX0_lower_2 (pc' := 3) rfl (v := 0) (by decide) ?_
  refine z_istore_n (L' := [.ref _, .ref _, .int _, .int _]) C dX0_lower_3 (pc' := 4) rfl rfl (by decide) (Nat.le_of_ble_eq_true rfl) rfl ?_
  refine z_loop (τ := Nat) (fun i => 16 - i) (fun i => i ≤ 16) (fun i => (lwS 23 false σ i).1) (fun i => [.ref (ad 3), .ref (ad 2), .int (lwS 23 false σ i).2, .int (nI i)]) 0 (by omega) rfl ⟨_, rfl⟩ ?_
  intro i hi ih4
  try dsimp only at hi ih4 ⊢
  refine z_iload_n C dX0_lower_4 (pc' := 5) rfl rfl rfl ?_
  refine z_if_eq (tgt := 26) C dX0_lower_5 (pc' := 8) (by decide) rfl (fun c_5 => ?_) (fun c_5 => ?_)
  ·
    exact z_vret C hM dX0_lower_26 (by first | exact ⟨i, hi, rfl, Or.inl c_5⟩ | exact ⟨i, hi, rfl, Or.inr (by omega)⟩)
  ·
    refine z_iload_n C dX0_lower_8 (pc' := 9) rfl rfl rfl ?_
    refine z_aload_n C dX0_lower_9 (pc' := 10) rfl rfl rfl ?_
    refine z_alen C hK (by decide) kC_2 (t0 := 0) rfl dX0_lower_10 (pc' := 11) rfl ?_
    refine z_icmp_ge (tgt := 26) C dX0_lower_11 (pc' := 14) (by decide) rfl (fun c_11 => ?_) (fun c_11 => ?_)
    ·
      have n_11 : 16 ≤ i := ge_of_le (N := 16) (k := i) c_11 (by omega) (by omega)
      exact z_vret C hM dX0_lower_26 (by first | exact ⟨i, hi, rfl, Or.inl c_5⟩ | exact ⟨i, hi, rfl, Or.inr (by omega)⟩)
    ·
      have n_11 : i < 16 := lt_of_nle (N := 16) (k := i) c_11 (by omega) (by omega)
      refine z_aload_n C dX0_lower_14 (pc' := 15) rfl rfl rfl ?_
      refine z_aload_n C dX0_lower_15 (pc' := 16) rfl rfl rfl ?_
      refine z_callI C hK (m_X0_lowerOnce l hI _) AdS_in aw_293 aw_295 aw_8 aw_28 aw_296 (by decide) kC_3 rfl (nA := 1) (by decide +kernel) rfl ⟨Nat.le_of_ble_eq_true rfl, Nat.le_of_ble_eq_true rfl⟩ (rest := []) rfl (Nat.le_of_ble_eq_true rfl) ⟨Nat.zero_le _, Nat.zero_le _⟩ dX0_lower_16 (pc' := 19) rfl (fun r_16 u_16 h_16 => ?_)
      obtain ⟨hr_16, hu_16⟩ := h_16
      rw [hr_16, hu_16]
      refine z_istore_n (L' := [.ref _, .ref _, .int _, .int _]) C dX0_lower_19 (pc' := 20) rfl rfl (by decide) (Nat.le_of_ble_eq_true rfl) rfl ?_
      refine z_iinc (L' := [.ref _, .ref _, .int _, .int _]) C dX0_lower_20 (pc' := 23) rfl rfl (iinc1 _) (by decide) (Nat.le_of_ble_eq_true rfl) rfl ?_
      refine z_goto C dX0_lower_23 (pc' := 4) (by decide) ?_
      exact z_back 4 (ih4 (i + 1) (by omega) (by omega)) rfl rfl
set_option maxRecDepth 100000 in
set_option maxHeartbeats 400000 in
theorem m_X4_fillSizes (l : Launch) {cA cB : ClassId} {D : va_G} {ad : Nat → Nat} (hI : Inj 67 ad) (σ : St)  : CV l yX4_fillSizes cX4_fillSizes 2 0 0 D [(cA, .int), (cB, .object RX3)] 67 ad (cellC cA cB ad) σ [.ref (ad 0)] (fun u => u = cpL σ 23 16) := by
  refine CV_of (by decide +kernel) (Nat.le_of_ble_eq_true rfl) (by simp [Value.category]) ?_
  intro p e s m below meth c C hM hK
  refine z_iconst C dX4_fillSizes_0 (pc' := 1) rfl (v := 0) (by decide) ?_
  refine z_istore_n (L' := [.ref _, .int _]) C dX4_fillSizes_1 (pc' := 2) rfl rfl (by decide) (Nat.le_of_ble_eq_true rfl) rfl ?_
  refine z_loop (τ := Nat) (fun i => 16 - i) (fun i => i ≤ 16) (fun i => cpL σ 23 i) (fun i => [.ref (ad 0), .int (nI i)]) 0 (by omega) rfl ⟨_, rfl⟩ ?_
  intro i hi ih2
  try dsimp only at hi ih2 ⊢
  refine z_iload_n C dX4_fillSizes_2 (pc' := 3) rfl rfl rfl ?_
  refine z_bipush C dX4_fillSizes_3 (pc' := 5) rfl (v := 16) (by decide) ?_
  refine z_icmp_ge (tgt := 29) C dX4_fillSizes_5 (pc' := 8) (by decide) rfl (fun c_5 => ?_) (fun c_5 => ?_)
  ·
    have n_5 : 16 ≤ i := ge_of_le (N := 16) (k := i) c_5 (by omega) (by omega)
    obtain rfl : i = 16 := (by omega)
    exact z_vret C hM dX4_fillSizes_29 rfl
  ·
    have n_5 : i < 16 := lt_of_nle (N := 16) (k := i) c_5 (by omega) (by omega)
    refine z_aload_n C dX4_fillSizes_8 (pc' := 9) rfl rfl rfl ?_
    refine z_get C hK (by decide) kC_0 rfl inAX4 (k := 4) (by decide) aw_149 rfl dX4_fillSizes_9 (pc' := 12) rfl ?_
    refine z_iload_n C dX4_fillSizes_12 (pc' := 13) rfl rfl rfl ?_
    refine z_aload_n C dX4_fillSizes_13 (pc' := 14) rfl rfl rfl ?_
    refine z_get C hK (by decide) kC_0 rfl inAX4 (k := 0) (by decide) aw_145 rfl dX4_fillSizes_14 (pc' := 17) rfl ?_
    refine z_iload_n C dX4_fillSizes_17 (pc' := 18) rfl rfl rfl ?_
    refine z_aald C hK (by decide) kC_1 (t0 := 1) rfl (j := i) rfl (by omega) (by decide) rfl dX4_fillSizes_18 (pc' := 19) rfl ?_
    refine z_get C hK (pW_lt (by omega)) (kC_W i) rfl inAX3 (k := 1) (by decide) aw_122 rfl dX4_fillSizes_19 (pc' := 22) rfl ?_
    refine z_iast C hK hI AdS_in (by decide) kC_2 sC_a2 oC_a2 (t0 := 0) rfl (j := i) rfl (by omega) (by decide) dX4_fillSizes_22 (pc' := 23) rfl ?_
    refine z_iinc (L' := [.ref _, .int _]) C dX4_fillSizes_23 (pc' := 26) rfl rfl (iinc1 _) (by decide) (Nat.le_of_ble_eq_true rfl) rfl ?_
    refine z_goto C dX4_fillSizes_26 (pc' := 2) (by decide) ?_
    exact z_back 2 (ih2 (i + 1) (by omega) (by omega)) rfl rfl
set_option maxRecDepth 100000 in
set_option maxHeartbeats 400000 in
theorem m_X4_fillKeptSizes (l : Launch) {cA cB : ClassId} {D : va_G} {ad : Nat → Nat} (hI : Inj 67 ad) (σ : St)  : CV l yX4_fillKeptSizes cX4_fillKeptSizes 1 3 70 D [(cA, .int), (cB, .object RX3)] 67 ad (cellC cA cB ad) σ [.ref (ad 0)] (fun u => KC σ u) := by
  refine CV_of (by decide +kernel) (Nat.le_of_ble_eq_true rfl) (by simp [Value.category]) ?_
  intro p e s m below meth c C hM hK
  refine z_aload_n C dX4_fillKeptSizes_0 (pc' := 1) rfl rfl rfl ?_
  refine z_callV C hK (m_X4_fillSizes l hI _) AdS_in aw_266 aw_268 aw_5 aw_27 aw_269 (by decide) kC_0 rfl (nA := 0) (by decide +kernel) rfl ⟨Nat.le_of_ble_eq_true rfl, Nat.le_of_ble_eq_true rfl⟩ (rest := []) rfl (Nat.le_of_ble_eq_true rfl) ⟨Nat.zero_le _, Nat.zero_le _⟩ dX4_fillKeptSizes_1 (pc' := 4) rfl (fun u_1 h_1 => ?_)
  rw [h_1]
  refine z_aload_n C dX4_fillKeptSizes_4 (pc' := 5) rfl rfl rfl ?_
  refine z_get C hK (by decide) kC_0 rfl inAX4 (k := 1) (by decide) aw_146 rfl dX4_fillKeptSizes_5 (pc' := 8) rfl ?_
  refine z_aload_n C dX4_fillKeptSizes_8 (pc' := 9) rfl rfl rfl ?_
  refine z_get C hK (by decide) kC_0 rfl inAX4 (k := 4) (by decide) aw_149 rfl dX4_fillKeptSizes_9 (pc' := 12) rfl ?_
  refine z_callV C hK (m_X0_lower l hI _) AdS_in aw_289 aw_290 aw_291 aw_28 aw_292 (by decide) kC_3 rfl (nA := 1) (by decide +kernel) rfl ⟨Nat.le_of_ble_eq_true rfl, Nat.le_of_ble_eq_true rfl⟩ (rest := []) rfl (Nat.le_of_ble_eq_true rfl) ⟨Nat.zero_le _, Nat.zero_le _⟩ dX4_fillKeptSizes_12 (pc' := 15) rfl (fun u_12 h_12 => ?_)
  obtain ⟨i_12, hi_12, hu_12, he_12⟩ := h_12
  rw [hu_12]
  exact z_vret C hM dX4_fillKeptSizes_15 ⟨i_12, hi_12, rfl, he_12⟩
set_option maxRecDepth 100000 in
set_option maxHeartbeats 400000 in
theorem m_X4_broken (l : Launch) {cA cB : ClassId} {D : va_G} {ad : Nat → Nat} (hI : Inj 67 ad) (σ : St)  : CI l yX4_broken cX4_broken 1 .int 2 46 D [(cA, .int), (cB, .object RX3)] 67 ad (cellC cA cB ad) σ [.ref (ad 0)] (fun r u => u = cpL σ 23 16 ∧ r = brO (u 23) (u 5) 16) := by
  refine CI_of (by decide +kernel) (Nat.le_of_ble_eq_true rfl) (by simp [Value.category]) ?_
  intro p e s m below meth c C hM hK
  refine z_aload_n C dX4_broken_0 (pc' := 1) rfl rfl rfl ?_
  refine z_callV C hK (m_X4_fillSizes l hI _) AdS_in aw_266 aw_268 aw_5 aw_27 aw_269 (by decide) kC_0 rfl (nA := 0) (by decide +kernel) rfl ⟨Nat.le_of_ble_eq_true rfl, Nat.le_of_ble_eq_true rfl⟩ (rest := []) rfl (Nat.le_of_ble_eq_true rfl) ⟨Nat.zero_le _, Nat.zero_le _⟩ dX4_broken_1 (pc' := 4) rfl (fun u_1 h_1 => ?_)
  rw [h_1]
  refine z_aload_n C dX4_broken_4 (pc' := 5) rfl rfl rfl ?_
  refine z_get C hK (by decide) kC_0 rfl inAX4 (k := 1) (by decide) aw_146 rfl dX4_broken_5 (pc' := 8) rfl ?_
  refine z_aload_n C dX4_broken_8 (pc' := 9) rfl rfl rfl ?_
  refine z_get C hK (by decide) kC_0 rfl inAX4 (k := 4) (by decide) aw_149 rfl dX4_broken_9 (pc' := 12) rfl ?_
  refine z_callI C hK (m_X0_brokenPairs l hI _) AdS_in aw_270 aw_271 aw_272 aw_28 aw_273 (by decide) kC_3 rfl (nA := 1) (by decide +kernel) rfl ⟨Nat.le_of_ble_eq_true rfl, Nat.le_of_ble_eq_true rfl⟩ (rest := []) rfl (Nat.le_of_ble_eq_true rfl) ⟨Nat.zero_le _, Nat.zero_le _⟩ dX4_broken_12 (pc' := 15) rfl (fun r_12 u_12 h_12 => ?_)
  obtain ⟨hr_12, hu_12⟩ := h_12
  rw [hr_12, hu_12]
  exact z_iret C hM dX4_broken_15 ⟨rfl, rfl⟩
set_option maxRecDepth 100000 in
set_option maxHeartbeats 400000 in
theorem m_X4_kept (l : Launch) {cA cB : ClassId} {D : va_G} {ad : Nat → Nat} (hI : Inj 67 ad) (σ : St) (w : Int32) : CI l yX4_kept cX4_kept 2 .int 4 90 D [(cA, .int), (cB, .object RX3)] 67 ad (cellC cA cB ad) σ [.ref (ad 0), .int w] (fun r u => (¬ isW w ∧ r = -1 ∧ u = σ) ∨ (∃ k : Nat, k < 16 ∧ w = nI k ∧ KC σ u ∧ r = u 23 k)) := by
  refine CI_of (by decide +kernel) (Nat.le_of_ble_eq_true rfl) (by simp [Value.category]) ?_
  intro p e s m below meth c C hM hK
  refine z_iload_n C dX4_kept_0 (pc' := 1) rfl rfl rfl ?_
  refine z_callS C (m_X4_isWheel l _) stabP aw_177 aw_178 aw_27 aw_179 (nA := 1) (by decide +kernel) rfl ⟨Nat.le_of_ble_eq_true rfl, Nat.le_of_ble_eq_true rfl⟩ (rest := []) rfl (Nat.le_of_ble_eq_true rfl) ⟨Nat.zero_le _, Nat.zero_le _⟩ dX4_kept_1 (pc' := 4) rfl (fun r_1 h_1 => ?_)
  rcases h_1 with ⟨rfl, h_1⟩ | ⟨rfl, h_1⟩
  ·
    obtain ⟨k, hk, rfl⟩ := isW_of h_1
    refine z_if_ne (tgt := 9) C dX4_kept_4 (pc' := 7) (by decide) rfl (fun _ => ?_) (fun q => absurd q (by decide))
    refine z_aload_n C dX4_kept_9 (pc' := 10) rfl rfl rfl ?_
    refine z_callV C hK (m_X4_fillKeptSizes l hI _) AdS_in aw_285 aw_287 aw_7 aw_27 aw_288 (by decide) kC_0 rfl (nA := 0) (by decide +kernel) rfl ⟨Nat.le_of_ble_eq_true rfl, Nat.le_of_ble_eq_true rfl⟩ (rest := []) rfl (Nat.le_of_ble_eq_true rfl) ⟨Nat.zero_le _, Nat.zero_le _⟩ dX4_kept_10 (pc' := 13) rfl (fun u_10 h_10 => ?_)
    refine z_aload_n C dX4_kept_13 (pc' := 14) rfl rfl rfl ?_
    refine z_get C hK (by decide) kC_0 rfl inAX4 (k := 4) (by decide) aw_149 rfl dX4_kept_14 (pc' := 17) rfl ?_
    refine z_iload_n C dX4_kept_17 (pc' := 18) rfl rfl rfl ?_
    refine z_iald C hK (by decide) kC_2 (t0 := 0) rfl (j := k) rfl (by omega) (by decide) rfl dX4_kept_18 (pc' := 19) rfl ?_
    exact z_iret C hM dX4_kept_19 (Or.inr ⟨k, hk, rfl, h_10, rfl⟩)
  ·
    refine z_if_ne (tgt := 9) C dX4_kept_4 (pc' := 7) (by decide) rfl (fun q => absurd q (by decide)) (fun _ => ?_)
    refine z_iconst C dX4_kept_7 (pc' := 8) rfl (v := (-1)) (by decide) ?_
    exact z_iret C hM dX4_kept_8 (Or.inl ⟨h_1, rfl, rfl⟩)
set_option maxRecDepth 100000 in
set_option maxHeartbeats 400000 in
theorem m_X4_steel (l : Launch) {cA cB : ClassId} {D : va_G} {ad : Nat → Nat} (hI : Inj 67 ad) (σ : St)  : CI l yX4_steel cX4_steel 3 .int 4 90 D [(cA, .int), (cB, .object RX3)] 67 ad (cellC cA cB ad) σ [.ref (ad 0)] (fun r u => KC σ u ∧ r = stL u 23 16) := by
  refine CI_of (by decide +kernel) (Nat.le_of_ble_eq_true rfl) (by simp [Value.category]) ?_
  intro p e s m below meth c C hM hK
  refine z_aload_n C dX4_steel_0 (pc' := 1) rfl rfl rfl ?_
  refine z_callV C hK (m_X4_fillKeptSizes l hI _) AdS_in aw_285 aw_287 aw_7 aw_27 aw_288 (by decide) kC_0 rfl (nA := 0) (by decide +kernel) rfl ⟨Nat.le_of_ble_eq_true rfl, Nat.le_of_ble_eq_true rfl⟩ (rest := []) rfl (Nat.le_of_ble_eq_true rfl) ⟨Nat.zero_le _, Nat.zero_le _⟩ dX4_steel_1 (pc' := 4) rfl (fun u_1 h_1 => ?_)
  refine z_iconst C dX4_steel_4 (pc' := 5) rfl (v := 0) (by decide) ?_
  refine z_istore_n (L' := [.ref _, .int _]) C dX4_steel_5 (pc' := 6) rfl rfl (by decide) (Nat.le_of_ble_eq_true rfl) rfl ?_
  refine z_iconst C dX4_steel_6 (pc' := 7) rfl (v := 0) (by decide) ?_
  refine z_istore_n (L' := [.ref _, .int _, .int _]) C dX4_steel_7 (pc' := 8) rfl rfl (by decide) (Nat.le_of_ble_eq_true rfl) rfl ?_
  refine z_loop (τ := Nat) (fun i => 16 - i) (fun i => i ≤ 16) (fun i => u_1) (fun i => [.ref (ad 0), .int (stL u_1 23 i), .int (nI i)]) 0 (by omega) rfl ⟨_, rfl⟩ ?_
  intro i hi ih8
  try dsimp only at hi ih8 ⊢
  refine z_iload_n C dX4_steel_8 (pc' := 9) rfl rfl rfl ?_
  refine z_bipush C dX4_steel_9 (pc' := 11) rfl (v := 16) (by decide) ?_
  refine z_icmp_ge (tgt := 39) C dX4_steel_11 (pc' := 14) (by decide) rfl (fun c_11 => ?_) (fun c_11 => ?_)
  ·
    have n_11 : 16 ≤ i := ge_of_le (N := 16) (k := i) c_11 (by omega) (by omega)
    obtain rfl : i = 16 := (by omega)
    refine z_iload_n C dX4_steel_39 (pc' := 40) rfl rfl rfl ?_
    exact z_iret C hM dX4_steel_40 ⟨h_1, rfl⟩
  ·
    have n_11 : i < 16 := lt_of_nle (N := 16) (k := i) c_11 (by omega) (by omega)
    refine z_iload_n C dX4_steel_14 (pc' := 15) rfl rfl rfl ?_
    refine z_aload_n C dX4_steel_15 (pc' := 16) rfl rfl rfl ?_
    refine z_get C hK (by decide) kC_0 rfl inAX4 (k := 0) (by decide) aw_145 rfl dX4_steel_16 (pc' := 19) rfl ?_
    refine z_iload_n C dX4_steel_19 (pc' := 20) rfl rfl rfl ?_
    refine z_aald C hK (by decide) kC_1 (t0 := 1) rfl (j := i) rfl (by omega) (by decide) rfl dX4_steel_20 (pc' := 21) rfl ?_
    refine z_get C hK (pW_lt (by omega)) (kC_W i) rfl inAX3 (k := 1) (by decide) aw_122 rfl dX4_steel_21 (pc' := 24) rfl ?_
    refine z_aload_n C dX4_steel_24 (pc' := 25) rfl rfl rfl ?_
    refine z_get C hK (by decide) kC_0 rfl inAX4 (k := 4) (by decide) aw_149 rfl dX4_steel_25 (pc' := 28) rfl ?_
    refine z_iload_n C dX4_steel_28 (pc' := 29) rfl rfl rfl ?_
    refine z_iald C hK (by decide) kC_2 (t0 := 0) rfl (j := i) rfl (by omega) (by decide) rfl dX4_steel_29 (pc' := 30) rfl ?_
    refine z_isub C dX4_steel_30 (pc' := 31) rfl rfl ?_
    refine z_iadd C dX4_steel_31 (pc' := 32) rfl rfl ?_
    refine z_istore_n (L' := [.ref _, .int _, .int _]) C dX4_steel_32 (pc' := 33) rfl rfl (by decide) (Nat.le_of_ble_eq_true rfl) rfl ?_
    refine z_iinc (L' := [.ref _, .int _, .int _]) C dX4_steel_33 (pc' := 36) rfl rfl (iinc1 _) (by decide) (Nat.le_of_ble_eq_true rfl) rfl ?_
    refine z_goto C dX4_steel_36 (pc' := 8) (by decide) ?_
    exact z_back 3 (ih8 (i + 1) (by omega) (by omega)) rfl rfl
set_option maxRecDepth 100000 in
set_option maxHeartbeats 400000 in
theorem m_X4_even (l : Launch) {cA cB : ClassId} {D : va_G} {ad : Nat → Nat} (hI : Inj 67 ad) (σ : St)  : CI l yX4_even cX4_even 3 .int 4 90 D [(cA, .int), (cB, .object RX3)] 67 ad (cellC cA cB ad) σ [.ref (ad 0)] (fun r u => ∃ v, KC σ v ∧ u = evL v 23 16 ∧ r = ecC v 23 16) := by
  refine CI_of (by decide +kernel) (Nat.le_of_ble_eq_true rfl) (by simp [Value.category]) ?_
  intro p e s m below meth c C hM hK
  refine z_aload_n C dX4_even_0 (pc' := 1) rfl rfl rfl ?_
  refine z_callV C hK (m_X4_fillKeptSizes l hI _) AdS_in aw_285 aw_287 aw_7 aw_27 aw_288 (by decide) kC_0 rfl (nA := 0) (by decide +kernel) rfl ⟨Nat.le_of_ble_eq_true rfl, Nat.le_of_ble_eq_true rfl⟩ (rest := []) rfl (Nat.le_of_ble_eq_true rfl) ⟨Nat.zero_le _, Nat.zero_le _⟩ dX4_even_1 (pc' := 4) rfl (fun u_1 h_1 => ?_)
  refine z_iconst C dX4_even_4 (pc' := 5) rfl (v := 0) (by decide) ?_
  refine z_istore_n (L' := [.ref _, .int _]) C dX4_even_5 (pc' := 6) rfl rfl (by decide) (Nat.le_of_ble_eq_true rfl) rfl ?_
  refine z_iconst C dX4_even_6 (pc' := 7) rfl (v := 0) (by decide) ?_
  refine z_istore_n (L' := [.ref _, .int _, .int _]) C dX4_even_7 (pc' := 8) rfl rfl (by decide) (Nat.le_of_ble_eq_true rfl) rfl ?_
  refine z_loop (τ := Nat) (fun i => 16 - i) (fun i => i ≤ 16) (fun i => evL u_1 23 i) (fun i => [.ref (ad 0), .int (ecC u_1 23 i), .int (nI i)]) 0 (by omega) rfl ⟨_, rfl⟩ ?_
  intro i hi ih8
  try dsimp only at hi ih8 ⊢
  refine z_iload_n C dX4_even_8 (pc' := 9) rfl rfl rfl ?_
  refine z_bipush C dX4_even_9 (pc' := 11) rfl (v := 16) (by decide) ?_
  refine z_icmp_ge (tgt := 56) C dX4_even_11 (pc' := 14) (by decide) rfl (fun c_11 => ?_) (fun c_11 => ?_)
  ·
    have n_11 : 16 ≤ i := ge_of_le (N := 16) (k := i) c_11 (by omega) (by omega)
    obtain rfl : i = 16 := (by omega)
    refine z_iload_n C dX4_even_56 (pc' := 57) rfl rfl rfl ?_
    exact z_iret C hM dX4_even_57 ⟨u_1, h_1, rfl, rfl⟩
  ·
    have n_11 : i < 16 := lt_of_nle (N := 16) (k := i) c_11 (by omega) (by omega)
    refine z_aload_n C dX4_even_14 (pc' := 15) rfl rfl rfl ?_
    refine z_get C hK (by decide) kC_0 rfl inAX4 (k := 4) (by decide) aw_149 rfl dX4_even_15 (pc' := 18) rfl ?_
    refine z_iload_n C dX4_even_18 (pc' := 19) rfl rfl rfl ?_
    refine z_iald C hK (by decide) kC_2 (t0 := 0) rfl (j := i) rfl (by omega) (by decide) rfl dX4_even_19 (pc' := 20) rfl ?_
    refine z_aload_n C dX4_even_20 (pc' := 21) rfl rfl rfl ?_
    refine z_get C hK (by decide) kC_0 rfl inAX4 (k := 0) (by decide) aw_145 rfl dX4_even_21 (pc' := 24) rfl ?_
    refine z_iload_n C dX4_even_24 (pc' := 25) rfl rfl rfl ?_
    refine z_aald C hK (by decide) kC_1 (t0 := 1) rfl (j := i) rfl (by omega) (by decide) rfl dX4_even_25 (pc' := 26) rfl ?_
    refine z_get C hK (pW_lt (by omega)) (kC_W i) rfl inAX3 (k := 1) (by decide) aw_122 rfl dX4_even_26 (pc' := 29) rfl ?_
    refine z_icmp_ge (tgt := 35) C dX4_even_29 (pc' := 32) (by decide) rfl (fun c_29 => ?_) (fun c_29 => ?_)
    ·
      refine z_aload_n C dX4_even_35 (pc' := 36) rfl rfl rfl ?_
      refine z_get C hK (by decide) kC_0 rfl inAX4 (k := 0) (by decide) aw_145 rfl dX4_even_36 (pc' := 39) rfl ?_
      refine z_iload_n C dX4_even_39 (pc' := 40) rfl rfl rfl ?_
      refine z_aald C hK (by decide) kC_1 (t0 := 1) rfl (j := i) rfl (by omega) (by decide) rfl dX4_even_40 (pc' := 41) rfl ?_
      refine z_aload_n C dX4_even_41 (pc' := 42) rfl rfl rfl ?_
      refine z_get C hK (by decide) kC_0 rfl inAX4 (k := 4) (by decide) aw_149 rfl dX4_even_42 (pc' := 45) rfl ?_
      refine z_iload_n C dX4_even_45 (pc' := 46) rfl rfl rfl ?_
      refine z_iald C hK (by decide) kC_2 (t0 := 0) rfl (j := i) rfl (by omega) (by decide) rfl dX4_even_46 (pc' := 47) rfl ?_
      refine z_put C hK hI AdS_in (pW_lt (by omega)) (kC_W i) (sC_W1 i _) (cellC_upW (by decide)) rfl inAX3 tyX3_ok nmX3 (k := 1) (by decide) aw_122 rfl (ty := .int) (by decide +kernel) rfl rfl (Nat.le_of_ble_eq_true rfl) dX4_even_47 (pc' := 50) rfl ?_
      refine z_iinc (L' := [.ref _, .int _, .int _]) C dX4_even_50 (pc' := 53) rfl rfl (iinc1 _) (by decide) (Nat.le_of_ble_eq_true rfl) rfl ?_
      refine z_goto C dX4_even_53 (pc' := 8) (by decide) ?_
      exact z_back 3 (ih8 (i + 1) (by omega) (by omega)) rfl (by simp [ecC, c_29])
    ·
      refine z_iinc (L' := [.ref _, .int _, .int _]) C dX4_even_32 (pc' := 35) rfl rfl (iincx _) (by decide) (Nat.le_of_ble_eq_true rfl) rfl ?_
      refine z_aload_n C dX4_even_35 (pc' := 36) rfl rfl rfl ?_
      refine z_get C hK (by decide) kC_0 rfl inAX4 (k := 0) (by decide) aw_145 rfl dX4_even_36 (pc' := 39) rfl ?_
      refine z_iload_n C dX4_even_39 (pc' := 40) rfl rfl rfl ?_
      refine z_aald C hK (by decide) kC_1 (t0 := 1) rfl (j := i) rfl (by omega) (by decide) rfl dX4_even_40 (pc' := 41) rfl ?_
      refine z_aload_n C dX4_even_41 (pc' := 42) rfl rfl rfl ?_
      refine z_get C hK (by decide) kC_0 rfl inAX4 (k := 4) (by decide) aw_149 rfl dX4_even_42 (pc' := 45) rfl ?_
      refine z_iload_n C dX4_even_45 (pc' := 46) rfl rfl rfl ?_
      refine z_iald C hK (by decide) kC_2 (t0 := 0) rfl (j := i) rfl (by omega) (by decide) rfl dX4_even_46 (pc' := 47) rfl ?_
      refine z_put C hK hI AdS_in (pW_lt (by omega)) (kC_W i) (sC_W1 i _) (cellC_upW (by decide)) rfl inAX3 tyX3_ok nmX3 (k := 1) (by decide) aw_122 rfl (ty := .int) (by decide +kernel) rfl rfl (Nat.le_of_ble_eq_true rfl) dX4_even_47 (pc' := 50) rfl ?_
      refine z_iinc (L' := [.ref _, .int _, .int _]) C dX4_even_50 (pc' := 53) rfl rfl (iinc1 _) (by decide) (Nat.le_of_ble_eq_true rfl) rfl ?_
      refine z_goto C dX4_even_53 (pc' := 8) (by decide) ?_
      exact z_back 3 (ih8 (i + 1) (by omega) (by omega)) rfl (by simp [ecC, c_29])
set_option maxRecDepth 100000 in
set_option maxHeartbeats 400000 in
theorem m_X5_broken (l : Launch) {cA : ClassId} {D : va_G} {ad : Nat → Nat} (hI : Inj 17 ad) (σ : St)  : CI l yX5_broken cX5_broken 4 .int 1 22 D [(cA, .int)] 17 ad (cellR cA ad) σ [.ref (ad 0)] (fun r u => r = rbO (σ 1) (σ 5) 16 ∧ u = σ) := by
  refine CI_of (by decide +kernel) (Nat.le_of_ble_eq_true rfl) (by simp [Value.category]) ?_
  intro p e s m below meth c C hM hK
  refine z_aload_n C dX5_broken_0 (pc' := 1) rfl rfl rfl ?_
  refine z_iconst C dX5_broken_1 (pc' := 2) rfl (v := 0) (by decide) ?_
  refine z_put C hK hI AdS_in (by decide) kR_0 sR_th oR_th rfl inAX5 tyX5_ok nmX5 (k := 0) (by decide) aw_452 rfl (ty := .int) (by decide +kernel) rfl rfl (Nat.le_of_ble_eq_true rfl) dX5_broken_2 (pc' := 5) rfl ?_
  refine z_iconst C dX5_broken_5 (pc' := 6) rfl (v := 0) (by decide) ?_
  refine z_istore_n (L' := [.ref _, .int _]) C dX5_broken_6 (pc' := 7) rfl rfl (by decide) (Nat.le_of_ble_eq_true rfl) rfl ?_
  refine z_iconst C dX5_broken_7 (pc' := 8) rfl (v := 0) (by decide) ?_
  refine z_istore_n (L' := [.ref _, .int _, .int _]) C dX5_broken_8 (pc' := 9) rfl rfl (by decide) (Nat.le_of_ble_eq_true rfl) rfl ?_
  refine z_loop (τ := Nat) (fun a => 16 - a) (fun a => a ≤ 16) (fun a => σ) (fun a => [.ref (ad 0), .int (rbO (σ 1) (σ 5) a), .int (nI a)]) 0 (by omega) rfl ⟨_, rfl⟩ ?_
  intro a ha ih9
  try dsimp only at ha ih9 ⊢
  refine z_iload_n C dX5_broken_9 (pc' := 10) rfl rfl rfl ?_
  refine z_bipush C dX5_broken_10 (pc' := 12) rfl (v := 16) (by decide) ?_
  refine z_icmp_ge (tgt := 70) C dX5_broken_12 (pc' := 15) (by decide) rfl (fun c_12 => ?_) (fun c_12 => ?_)
  ·
    have n_12 : 16 ≤ a := ge_of_le (N := 16) (k := a) c_12 (by omega) (by omega)
    obtain rfl : a = 16 := (by omega)
    refine z_iload_n C dX5_broken_70 (pc' := 71) rfl rfl rfl ?_
    exact z_iret C hM dX5_broken_71 ⟨rfl, rfl⟩
  ·
    have n_12 : a < 16 := lt_of_nle (N := 16) (k := a) c_12 (by omega) (by omega)
    refine z_iconst C dX5_broken_15 (pc' := 16) rfl (v := 0) (by decide) ?_
    refine z_istore_n (L' := [.ref _, .int _, .int _, .int _]) C dX5_broken_16 (pc' := 17) rfl rfl (by decide) (Nat.le_of_ble_eq_true rfl) rfl ?_
    refine z_loop (τ := Nat) (fun b => 16 - b) (fun b => b ≤ 16) (fun b => σ) (fun b => [.ref (ad 0), .int (rbI (σ 1) (σ 5) a (rbO (σ 1) (σ 5) a) b), .int (nI a), .int (nI b)]) 0 (by omega) rfl ⟨_, rfl⟩ ?_
    intro b hb ih17
    try dsimp only at hb ih17 ⊢
    refine z_iload_n C dX5_broken_17 (pc' := 18) rfl rfl rfl ?_
    refine z_bipush C dX5_broken_18 (pc' := 20) rfl (v := 16) (by decide) ?_
    refine z_icmp_ge (tgt := 64) C dX5_broken_20 (pc' := 23) (by decide) rfl (fun c_20 => ?_) (fun c_20 => ?_)
    ·
      have n_20 : 16 ≤ b := ge_of_le (N := 16) (k := b) c_20 (by omega) (by omega)
      obtain rfl : b = 16 := (by omega)
      refine z_iinc (L' := [.ref _, .int _, .int _, .int _]) C dX5_broken_64 (pc' := 67) rfl rfl (iinc1 _) (by decide) (Nat.le_of_ble_eq_true rfl) rfl ?_
      refine z_goto C dX5_broken_67 (pc' := 9) (by decide) ?_
      exact z_back 3 (ih9 (a + 1) (by omega) (by omega)) rfl rfl
    ·
      have n_20 : b < 16 := lt_of_nle (N := 16) (k := b) c_20 (by omega) (by omega)
      refine z_iload_n C dX5_broken_23 (pc' := 24) rfl rfl rfl ?_
      refine z_aload_n C dX5_broken_24 (pc' := 25) rfl rfl rfl ?_
      refine z_get C hK (by decide) kR_0 rfl inAX5 (k := 2) (by decide) aw_454 rfl dX5_broken_25 (pc' := 28) rfl ?_
      refine z_iload_n C dX5_broken_28 (pc' := 29) rfl rfl rfl ?_
      refine z_iald C hK (by decide) kR_1 (t0 := 0) rfl (j := a) rfl (by omega) (by decide) rfl dX5_broken_29 (pc' := 30) rfl ?_
      refine z_aload_n C dX5_broken_30 (pc' := 31) rfl rfl rfl ?_
      refine z_get C hK (by decide) kR_0 rfl inAX5 (k := 2) (by decide) aw_454 rfl dX5_broken_31 (pc' := 34) rfl ?_
      refine z_iload_n C dX5_broken_34 (pc' := 35) rfl rfl rfl ?_
      refine z_iald C hK (by decide) kR_1 (t0 := 0) rfl (j := b) rfl (by omega) (by decide) rfl dX5_broken_35 (pc' := 36) rfl ?_
      refine z_isub C dX5_broken_36 (pc' := 37) rfl rfl ?_
      refine z_aload_n C dX5_broken_37 (pc' := 38) rfl rfl rfl ?_
      refine z_iload_n C dX5_broken_38 (pc' := 39) rfl rfl rfl ?_
      refine z_iload_n C dX5_broken_39 (pc' := 40) rfl rfl rfl ?_
      refine z_callI C hK (m_X5_lawOf l hI _ (a := a) (b := b) (by omega) (by omega)) AdS_in aw_582 aw_584 aw_20 aw_32 aw_585 (by decide) kR_0 rfl (nA := 2) (by decide +kernel) rfl ⟨Nat.le_of_ble_eq_true rfl, Nat.le_of_ble_eq_true rfl⟩ (rest := [_, _]) rfl (Nat.le_of_ble_eq_true rfl) ⟨Nat.zero_le _, Nat.zero_le _⟩ dX5_broken_40 (pc' := 43) rfl (fun r_40 u_40 h_40 => ?_)
      obtain ⟨hr_40, hu_40⟩ := h_40
      rw [hr_40, hu_40]
      refine z_ternE (J := 56) (if σ 1 a - σ 1 b ≤ lawF (σ 5) a b ∨ a = b then 0 else 1) 2 ?_ ?_
      ·
        try dsimp only [List.drop]
        refine z_iadd C dX5_broken_56 (pc' := 57) rfl rfl ?_
        refine z_istore_n (L' := [.ref _, .int _, .int _, .int _]) C dX5_broken_57 (pc' := 58) rfl rfl (by decide) (Nat.le_of_ble_eq_true rfl) rfl ?_
        refine z_iinc (L' := [.ref _, .int _, .int _, .int _]) C dX5_broken_58 (pc' := 61) rfl rfl (iinc1 _) (by decide) (Nat.le_of_ble_eq_true rfl) rfl ?_
        refine z_goto C dX5_broken_61 (pc' := 17) (by decide) ?_
        exact z_back 4 (ih17 (b + 1) (by omega) (by omega)) rfl rfl
      · intro hj_56
        refine z_icmp_le (tgt := 55) C dX5_broken_43 (pc' := 46) (by decide) rfl (fun c_43 => ?_) (fun c_43 => ?_)
        ·
          refine z_iconst C dX5_broken_55 (pc' := 56) rfl (v := 0) (by decide) ?_
          exact hj_56 _ (by first | simp [c_43, n_48] | simp [c_43])
        ·
          refine z_iload_n C dX5_broken_46 (pc' := 47) rfl rfl rfl ?_
          refine z_iload_n C dX5_broken_47 (pc' := 48) rfl rfl rfl ?_
          refine z_icmp_eq (tgt := 55) C dX5_broken_48 (pc' := 51) (by decide) rfl (fun c_48 => ?_) (fun c_48 => ?_)
          ·
            have n_48 : a = b := (nI_eq (a := a) (b := b) (by omega) (by omega)).mp c_48
            refine z_iconst C dX5_broken_55 (pc' := 56) rfl (v := 0) (by decide) ?_
            exact hj_56 _ (by first | simp [c_43, n_48] | simp [c_43])
          ·
            have n_48 : ¬ a = b := fun z9 => c_48 ((nI_eq (a := a) (b := b) (by omega) (by omega)).mpr z9)
            refine z_iconst C dX5_broken_51 (pc' := 52) rfl (v := 1) (by decide) ?_
            refine z_goto C dX5_broken_52 (pc' := 56) (by decide) ?_
            exact hj_56 _ (by first | simp [c_43, n_48] | simp [c_43])
set_option maxRecDepth 100000 in
set_option maxHeartbeats 400000 in
theorem m_X5_keeps (l : Launch) {cA : ClassId} {D : va_G} {ad : Nat → Nat} (hI : Inj 17 ad) (σ : St) {N : Nat} (hN : (lwS 12 true (cpL σ 12 16) N).2 = 0) : CV l yX5_keeps cX5_keeps 4 1 22 D [(cA, .int)] 17 ad (cellR cA ad) σ [.ref (ad 0)] (fun u => KR σ u) := by
  refine CV_of (by decide +kernel) (Nat.le_of_ble_eq_true rfl) (by simp [Value.category]) ?_
  intro p e s m below meth c C hM hK
  refine z_iconst C dX5_keeps_0 (pc' := 1) rfl (v := 0) (by decide) ?_
  refine z_istore_n (L' := [.ref _, .int _]) C dX5_keeps_1 (pc' := 2) rfl rfl (by decide) (Nat.le_of_ble_eq_true rfl) rfl ?_
  refine z_loop (τ := Nat) (fun i => 16 - i) (fun i => i ≤ 16) (fun i => cpL σ 12 i) (fun i => [.ref (ad 0), .int (nI i)]) 0 (by omega) rfl ⟨_, rfl⟩ ?_
  intro i hi ih2
  try dsimp only at hi ih2 ⊢
  refine z_iload_n C dX5_keeps_2 (pc' := 3) rfl rfl rfl ?_
  refine z_bipush C dX5_keeps_3 (pc' := 5) rfl (v := 16) (by decide) ?_
  refine z_icmp_ge (tgt := 26) C dX5_keeps_5 (pc' := 8) (by decide) rfl (fun c_5 => ?_) (fun c_5 => ?_)
  ·
    have n_5 : 16 ≤ i := ge_of_le (N := 16) (k := i) c_5 (by omega) (by omega)
    obtain rfl : i = 16 := (by omega)
    refine z_iconst C dX5_keeps_26 (pc' := 27) rfl (v := 1) (by decide) ?_
    refine z_istore_n (L' := [.ref _, .int _]) C dX5_keeps_27 (pc' := 28) rfl rfl (by decide) (Nat.le_of_ble_eq_true rfl) rfl ?_
    refine z_loop (τ := Nat) (fun i => N - i) (fun i => i ≤ N) (fun i => (lwS 12 true (cpL σ 12 16) i).1) (fun i => [.ref (ad 0), .int (lwS 12 true (cpL σ 12 16) i).2]) 0 (by omega) rfl ⟨_, rfl⟩ ?_
    intro i hi ih28
    try dsimp only at hi ih28 ⊢
    refine z_iload_n C dX5_keeps_28 (pc' := 29) rfl rfl rfl ?_
    refine z_if_eq (tgt := 113) C dX5_keeps_29 (pc' := 32) (by decide) rfl (fun c_29 => ?_) (fun c_29 => ?_)
    ·
      exact z_vret C hM dX5_keeps_113 ⟨i, rfl, c_29⟩
    ·
      refine z_iconst C dX5_keeps_32 (pc' := 33) rfl (v := 0) (by decide) ?_
      refine z_istore_n (L' := [.ref _, .int _]) C dX5_keeps_33 (pc' := 34) rfl rfl (by decide) (Nat.le_of_ble_eq_true rfl) rfl ?_
      refine z_iconst C dX5_keeps_34 (pc' := 35) rfl (v := 0) (by decide) ?_
      refine z_istore_n (L' := [.ref _, .int _, .int _]) C dX5_keeps_35 (pc' := 36) rfl rfl (by decide) (Nat.le_of_ble_eq_true rfl) rfl ?_
      refine z_loop (τ := Nat) (fun a => 16 - a) (fun a => a ≤ 16) (fun a => (loA 12 true ((lwS 12 true (cpL σ 12 16) i).1, 0) a).1) (fun a => [.ref (ad 0), .int (loA 12 true ((lwS 12 true (cpL σ 12 16) i).1, 0) a).2, .int (nI a)]) 0 (by omega) rfl ⟨_, rfl⟩ ?_
      intro a ha ih36
      try dsimp only at ha ih36 ⊢
      refine z_iload_n C dX5_keeps_36 (pc' := 37) rfl rfl rfl ?_
      refine z_bipush C dX5_keeps_37 (pc' := 39) rfl (v := 16) (by decide) ?_
      refine z_icmp_ge (tgt := 110) C dX5_keeps_39 (pc' := 42) (by decide) rfl (fun c_39 => ?_) (fun c_39 => ?_)
      ·
        have n_39 : 16 ≤ a := ge_of_le (N := 16) (k := a) c_39 (by omega) (by omega)
        obtain rfl : a = 16 := (by omega)
        refine z_goto C dX5_keeps_110 (pc' := 28) (by decide) ?_
        exact z_back 2 (ih28 (i + 1) (by have : i ≠ N := fun q => c_29 (q ▸ hN); omega) (by have : i ≠ N := fun q => c_29 (q ▸ hN); omega)) rfl rfl
      ·
        have n_39 : a < 16 := lt_of_nle (N := 16) (k := a) c_39 (by omega) (by omega)
        refine z_iconst C dX5_keeps_42 (pc' := 43) rfl (v := 0) (by decide) ?_
        refine z_istore_n (L' := [.ref _, .int _, .int _, .int _]) C dX5_keeps_43 (pc' := 44) rfl rfl (by decide) (Nat.le_of_ble_eq_true rfl) rfl ?_
        refine z_loop (τ := Nat) (fun b => 16 - b) (fun b => b ≤ 16) (fun b => (loB 12 true a (loA 12 true ((lwS 12 true (cpL σ 12 16) i).1, 0) a) b).1) (fun b => [.ref (ad 0), .int (loB 12 true a (loA 12 true ((lwS 12 true (cpL σ 12 16) i).1, 0) a) b).2, .int (nI a), .int (nI b)]) 0 (by omega) rfl ⟨_, rfl⟩ ?_
        intro b hb ih44
        try dsimp only at hb ih44 ⊢
        refine z_iload_n C dX5_keeps_44 (pc' := 45) rfl rfl rfl ?_
        refine z_bipush C dX5_keeps_45 (pc' := 47) rfl (v := 16) (by decide) ?_
        refine z_icmp_ge (tgt := 104) C dX5_keeps_47 (pc' := 50) (by decide) rfl (fun c_47 => ?_) (fun c_47 => ?_)
        ·
          have n_47 : 16 ≤ b := ge_of_le (N := 16) (k := b) c_47 (by omega) (by omega)
          obtain rfl : b = 16 := (by omega)
          refine z_iinc (L' := [.ref _, .int _, .int _, .int _]) C dX5_keeps_104 (pc' := 107) rfl rfl (iinc1 _) (by decide) (Nat.le_of_ble_eq_true rfl) rfl ?_
          refine z_goto C dX5_keeps_107 (pc' := 36) (by decide) ?_
          exact z_back 3 (ih36 (a + 1) (by omega) (by omega)) rfl rfl
        ·
          have n_47 : b < 16 := lt_of_nle (N := 16) (k := b) c_47 (by omega) (by omega)
          refine z_iload_n C dX5_keeps_50 (pc' := 51) rfl rfl rfl ?_
          refine z_iload_n C dX5_keeps_51 (pc' := 52) rfl rfl rfl ?_
          refine z_icmp_eq (tgt := 98) C dX5_keeps_52 (pc' := 55) (by decide) rfl (fun c_52 => ?_) (fun c_52 => ?_)
          ·
            have n_52 : a = b := (nI_eq (a := a) (b := b) (by omega) (by omega)).mp c_52
            refine z_iinc (L' := [.ref _, .int _, .int _, .int _]) C dX5_keeps_98 (pc' := 101) rfl rfl (iinc1 _) (by decide) (Nat.le_of_ble_eq_true rfl) rfl ?_
            refine z_goto C dX5_keeps_101 (pc' := 44) (by decide) ?_
            exact z_back 4 (ih44 (b + 1) (by omega) (by omega)) (by first | simp [loB, lst, n_52, c_74] | simp [loB, lst, n_52]) (by first | simp [loB, lst, n_52, c_74] | simp [loB, lst, n_52])
          ·
            have n_52 : ¬ a = b := fun z9 => c_52 ((nI_eq (a := a) (b := b) (by omega) (by omega)).mpr z9)
            refine z_aload_n C dX5_keeps_55 (pc' := 56) rfl rfl rfl ?_
            refine z_get C hK (by decide) kR_0 rfl inAX5 (k := 9) (by decide) aw_461 rfl dX5_keeps_56 (pc' := 59) rfl ?_
            refine z_iload_n C dX5_keeps_59 (pc' := 60) rfl rfl rfl ?_
            refine z_iald C hK (by decide) kR_6 (t0 := 0) rfl (j := a) rfl (by omega) (by decide) rfl dX5_keeps_60 (pc' := 61) rfl ?_
            refine z_aload_n C dX5_keeps_61 (pc' := 62) rfl rfl rfl ?_
            refine z_get C hK (by decide) kR_0 rfl inAX5 (k := 9) (by decide) aw_461 rfl dX5_keeps_62 (pc' := 65) rfl ?_
            refine z_iload_n C dX5_keeps_65 (pc' := 66) rfl rfl rfl ?_
            refine z_iald C hK (by decide) kR_6 (t0 := 0) rfl (j := b) rfl (by omega) (by decide) rfl dX5_keeps_66 (pc' := 67) rfl ?_
            refine z_aload_n C dX5_keeps_67 (pc' := 68) rfl rfl rfl ?_
            refine z_iload_n C dX5_keeps_68 (pc' := 69) rfl rfl rfl ?_
            refine z_iload_n C dX5_keeps_69 (pc' := 70) rfl rfl rfl ?_
            refine z_callI C hK (m_X5_lawOf l hI _ (a := a) (b := b) (by omega) (by omega)) AdS_in aw_582 aw_584 aw_20 aw_32 aw_585 (by decide) kR_0 rfl (nA := 2) (by decide +kernel) rfl ⟨Nat.le_of_ble_eq_true rfl, Nat.le_of_ble_eq_true rfl⟩ (rest := [_, _]) rfl (Nat.le_of_ble_eq_true rfl) ⟨Nat.zero_le _, Nat.zero_le _⟩ dX5_keeps_70 (pc' := 73) rfl (fun r_70 u_70 h_70 => ?_)
            obtain ⟨hr_70, hu_70⟩ := h_70
            rw [hr_70, hu_70]
            refine z_iadd C dX5_keeps_73 (pc' := 74) rfl rfl ?_
            refine z_icmp_le (tgt := 98) C dX5_keeps_74 (pc' := 77) (by decide) rfl (fun c_74 => ?_) (fun c_74 => ?_)
            ·
              refine z_iinc (L' := [.ref _, .int _, .int _, .int _]) C dX5_keeps_98 (pc' := 101) rfl rfl (iinc1 _) (by decide) (Nat.le_of_ble_eq_true rfl) rfl ?_
              refine z_goto C dX5_keeps_101 (pc' := 44) (by decide) ?_
              exact z_back 4 (ih44 (b + 1) (by omega) (by omega)) (by first | simp [loB, lst, n_52, c_74] | simp [loB, lst, n_52]) (by first | simp [loB, lst, n_52, c_74] | simp [loB, lst, n_52])
            ·
              refine z_aload_n C dX5_keeps_77 (pc' := 78) rfl rfl rfl ?_
              refine z_get C hK (by decide) kR_0 rfl inAX5 (k := 9) (by decide) aw_461 rfl dX5_keeps_78 (pc' := 81) rfl ?_
              refine z_iload_n C dX5_keeps_81 (pc' := 82) rfl rfl rfl ?_
              refine z_aload_n C dX5_keeps_82 (pc' := 83) rfl rfl rfl ?_
              refine z_get C hK (by decide) kR_0 rfl inAX5 (k := 9) (by decide) aw_461 rfl dX5_keeps_83 (pc' := 86) rfl ?_
              refine z_iload_n C dX5_keeps_86 (pc' := 87) rfl rfl rfl ?_
              refine z_iald C hK (by decide) kR_6 (t0 := 0) rfl (j := b) rfl (by omega) (by decide) rfl dX5_keeps_87 (pc' := 88) rfl ?_
              refine z_aload_n C dX5_keeps_88 (pc' := 89) rfl rfl rfl ?_
              refine z_iload_n C dX5_keeps_89 (pc' := 90) rfl rfl rfl ?_
              refine z_iload_n C dX5_keeps_90 (pc' := 91) rfl rfl rfl ?_
              refine z_callI C hK (m_X5_lawOf l hI _ (a := a) (b := b) (by omega) (by omega)) AdS_in aw_582 aw_584 aw_20 aw_32 aw_585 (by decide) kR_0 rfl (nA := 2) (by decide +kernel) rfl ⟨Nat.le_of_ble_eq_true rfl, Nat.le_of_ble_eq_true rfl⟩ (rest := [_, _, _]) rfl (Nat.le_of_ble_eq_true rfl) ⟨Nat.zero_le _, Nat.zero_le _⟩ dX5_keeps_91 (pc' := 94) rfl (fun r_91 u_91 h_91 => ?_)
              obtain ⟨hr_91, hu_91⟩ := h_91
              rw [hr_91, hu_91]
              refine z_iadd C dX5_keeps_94 (pc' := 95) rfl rfl ?_
              refine z_iast C hK hI AdS_in (by decide) kR_6 sR_a6 oR_a6 (t0 := 0) rfl (j := a) rfl (by omega) (by decide) dX5_keeps_95 (pc' := 96) rfl ?_
              refine z_iconst C dX5_keeps_96 (pc' := 97) rfl (v := 1) (by decide) ?_
              refine z_istore_n (L' := [.ref _, .int _, .int _, .int _]) C dX5_keeps_97 (pc' := 98) rfl rfl (by decide) (Nat.le_of_ble_eq_true rfl) rfl ?_
              refine z_iinc (L' := [.ref _, .int _, .int _, .int _]) C dX5_keeps_98 (pc' := 101) rfl rfl (iinc1 _) (by decide) (Nat.le_of_ble_eq_true rfl) rfl ?_
              refine z_goto C dX5_keeps_101 (pc' := 44) (by decide) ?_
              exact z_back 4 (ih44 (b + 1) (by omega) (by omega)) (by first | simp [loB, lst, n_52, c_74] | simp [loB, lst, n_52]) (by first | simp [loB, lst, n_52, c_74] | simp [loB, lst, n_52])
  ·
    have n_5 : i < 16 := lt_of_nle (N := 16) (k := i) c_5 (by omega) (by omega)
    refine z_aload_n C dX5_keeps_8 (pc' := 9) rfl rfl rfl ?_
    refine z_get C hK (by decide) kR_0 rfl inAX5 (k := 9) (by decide) aw_461 rfl dX5_keeps_9 (pc' := 12) rfl ?_
    refine z_iload_n C dX5_keeps_12 (pc' := 13) rfl rfl rfl ?_
    refine z_aload_n C dX5_keeps_13 (pc' := 14) rfl rfl rfl ?_
    refine z_get C hK (by decide) kR_0 rfl inAX5 (k := 2) (by decide) aw_454 rfl dX5_keeps_14 (pc' := 17) rfl ?_
    refine z_iload_n C dX5_keeps_17 (pc' := 18) rfl rfl rfl ?_
    refine z_iald C hK (by decide) kR_1 (t0 := 0) rfl (j := i) rfl (by omega) (by decide) rfl dX5_keeps_18 (pc' := 19) rfl ?_
    refine z_iast C hK hI AdS_in (by decide) kR_6 sR_a6 oR_a6 (t0 := 0) rfl (j := i) rfl (by omega) (by decide) dX5_keeps_19 (pc' := 20) rfl ?_
    refine z_iinc (L' := [.ref _, .int _]) C dX5_keeps_20 (pc' := 23) rfl rfl (iinc1 _) (by decide) (Nat.le_of_ble_eq_true rfl) rfl ?_
    refine z_goto C dX5_keeps_23 (pc' := 2) (by decide) ?_
    exact z_back 2 (ih2 (i + 1) (by omega) (by omega)) rfl rfl
set_option maxRecDepth 100000 in
set_option maxHeartbeats 400000 in
theorem m_X5_kept (l : Launch) {cA : ClassId} {D : va_G} {ad : Nat → Nat} (hI : Inj 17 ad) (σ : St) {N : Nat} (hN : (lwS 12 true (cpL σ 12 16) N).2 = 0) (w : Int32) : CI l yX5_kept cX5_kept 2 .int 2 45 D [(cA, .int)] 17 ad (cellR cA ad) σ [.ref (ad 0), .int w] (fun r u => (¬ isW w ∧ r = -1 ∧ u = σ) ∨ (∃ k : Nat, k < 16 ∧ w = nI k ∧ KR σ u ∧ r = u 12 k)) := by
  refine CI_of (by decide +kernel) (Nat.le_of_ble_eq_true rfl) (by simp [Value.category]) ?_
  intro p e s m below meth c C hM hK
  refine z_aload_n C dX5_kept_0 (pc' := 1) rfl rfl rfl ?_
  refine z_iconst C dX5_kept_1 (pc' := 2) rfl (v := 0) (by decide) ?_
  refine z_put C hK hI AdS_in (by decide) kR_0 sR_th oR_th rfl inAX5 tyX5_ok nmX5 (k := 0) (by decide) aw_452 rfl (ty := .int) (by decide +kernel) rfl rfl (Nat.le_of_ble_eq_true rfl) dX5_kept_2 (pc' := 5) rfl ?_
  refine z_iload_n C dX5_kept_5 (pc' := 6) rfl rfl rfl ?_
  refine z_callS C (m_X5_isWheel l _) stabP aw_526 aw_527 aw_32 aw_528 (nA := 1) (by decide +kernel) rfl ⟨Nat.le_of_ble_eq_true rfl, Nat.le_of_ble_eq_true rfl⟩ (rest := []) rfl (Nat.le_of_ble_eq_true rfl) ⟨Nat.zero_le _, Nat.zero_le _⟩ dX5_kept_6 (pc' := 9) rfl (fun r_6 h_6 => ?_)
  rcases h_6 with ⟨rfl, h_6⟩ | ⟨rfl, h_6⟩
  ·
    obtain ⟨k, hk, rfl⟩ := isW_of h_6
    refine z_if_ne (tgt := 14) C dX5_kept_9 (pc' := 12) (by decide) rfl (fun _ => ?_) (fun q => absurd q (by decide))
    refine z_aload_n C dX5_kept_14 (pc' := 15) rfl rfl rfl ?_
    refine z_callV C hK (m_X5_keeps l hI _ (N := N) hN) AdS_in aw_590 aw_592 aw_21 aw_32 aw_593 (by decide) kR_0 rfl (nA := 0) (by decide +kernel) rfl ⟨Nat.le_of_ble_eq_true rfl, Nat.le_of_ble_eq_true rfl⟩ (rest := []) rfl (Nat.le_of_ble_eq_true rfl) ⟨Nat.zero_le _, Nat.zero_le _⟩ dX5_kept_15 (pc' := 18) rfl (fun u_15 h_15 => ?_)
    refine z_aload_n C dX5_kept_18 (pc' := 19) rfl rfl rfl ?_
    refine z_get C hK (by decide) kR_0 rfl inAX5 (k := 9) (by decide) aw_461 rfl dX5_kept_19 (pc' := 22) rfl ?_
    refine z_iload_n C dX5_kept_22 (pc' := 23) rfl rfl rfl ?_
    refine z_iald C hK (by decide) kR_6 (t0 := 0) rfl (j := k) rfl (by omega) (by decide) rfl dX5_kept_23 (pc' := 24) rfl ?_
    exact z_iret C hM dX5_kept_24 (Or.inr ⟨k, hk, rfl, h_15, rfl⟩)
  ·
    refine z_if_ne (tgt := 14) C dX5_kept_9 (pc' := 12) (by decide) rfl (fun q => absurd q (by decide)) (fun _ => ?_)
    refine z_iconst C dX5_kept_12 (pc' := 13) rfl (v := (-1)) (by decide) ?_
    exact z_iret C hM dX5_kept_13 (Or.inl ⟨h_6, rfl, rfl⟩)
set_option maxRecDepth 100000 in
set_option maxHeartbeats 400000 in
theorem m_X5_steel (l : Launch) {cA : ClassId} {D : va_G} {ad : Nat → Nat} (hI : Inj 17 ad) (σ : St) {N : Nat} (hN : (lwS 12 true (cpL σ 12 16) N).2 = 0) : CI l yX5_steel cX5_steel 3 .int 2 45 D [(cA, .int)] 17 ad (cellR cA ad) σ [.ref (ad 0)] (fun r u => KR σ u ∧ r = stL u 12 16) := by
  refine CI_of (by decide +kernel) (Nat.le_of_ble_eq_true rfl) (by simp [Value.category]) ?_
  intro p e s m below meth c C hM hK
  refine z_aload_n C dX5_steel_0 (pc' := 1) rfl rfl rfl ?_
  refine z_iconst C dX5_steel_1 (pc' := 2) rfl (v := 0) (by decide) ?_
  refine z_put C hK hI AdS_in (by decide) kR_0 sR_th oR_th rfl inAX5 tyX5_ok nmX5 (k := 0) (by decide) aw_452 rfl (ty := .int) (by decide +kernel) rfl rfl (Nat.le_of_ble_eq_true rfl) dX5_steel_2 (pc' := 5) rfl ?_
  refine z_aload_n C dX5_steel_5 (pc' := 6) rfl rfl rfl ?_
  refine z_callV C hK (m_X5_keeps l hI _ (N := N) hN) AdS_in aw_590 aw_592 aw_21 aw_32 aw_593 (by decide) kR_0 rfl (nA := 0) (by decide +kernel) rfl ⟨Nat.le_of_ble_eq_true rfl, Nat.le_of_ble_eq_true rfl⟩ (rest := []) rfl (Nat.le_of_ble_eq_true rfl) ⟨Nat.zero_le _, Nat.zero_le _⟩ dX5_steel_6 (pc' := 9) rfl (fun u_6 h_6 => ?_)
  refine z_iconst C dX5_steel_9 (pc' := 10) rfl (v := 0) (by decide) ?_
  refine z_istore_n (L' := [.ref _, .int _]) C dX5_steel_10 (pc' := 11) rfl rfl (by decide) (Nat.le_of_ble_eq_true rfl) rfl ?_
  refine z_iconst C dX5_steel_11 (pc' := 12) rfl (v := 0) (by decide) ?_
  refine z_istore_n (L' := [.ref _, .int _, .int _]) C dX5_steel_12 (pc' := 13) rfl rfl (by decide) (Nat.le_of_ble_eq_true rfl) rfl ?_
  refine z_loop (τ := Nat) (fun i => 16 - i) (fun i => i ≤ 16) (fun i => u_6) (fun i => [.ref (ad 0), .int (stL u_6 12 i), .int (nI i)]) 0 (by omega) rfl ⟨_, rfl⟩ ?_
  intro i hi ih13
  try dsimp only at hi ih13 ⊢
  refine z_iload_n C dX5_steel_13 (pc' := 14) rfl rfl rfl ?_
  refine z_bipush C dX5_steel_14 (pc' := 16) rfl (v := 16) (by decide) ?_
  refine z_icmp_ge (tgt := 41) C dX5_steel_16 (pc' := 19) (by decide) rfl (fun c_16 => ?_) (fun c_16 => ?_)
  ·
    have n_16 : 16 ≤ i := ge_of_le (N := 16) (k := i) c_16 (by omega) (by omega)
    obtain rfl : i = 16 := (by omega)
    refine z_iload_n C dX5_steel_41 (pc' := 42) rfl rfl rfl ?_
    exact z_iret C hM dX5_steel_42 ⟨h_6, rfl⟩
  ·
    have n_16 : i < 16 := lt_of_nle (N := 16) (k := i) c_16 (by omega) (by omega)
    refine z_iload_n C dX5_steel_19 (pc' := 20) rfl rfl rfl ?_
    refine z_aload_n C dX5_steel_20 (pc' := 21) rfl rfl rfl ?_
    refine z_get C hK (by decide) kR_0 rfl inAX5 (k := 2) (by decide) aw_454 rfl dX5_steel_21 (pc' := 24) rfl ?_
    refine z_iload_n C dX5_steel_24 (pc' := 25) rfl rfl rfl ?_
    refine z_iald C hK (by decide) kR_1 (t0 := 0) rfl (j := i) rfl (by omega) (by decide) rfl dX5_steel_25 (pc' := 26) rfl ?_
    refine z_aload_n C dX5_steel_26 (pc' := 27) rfl rfl rfl ?_
    refine z_get C hK (by decide) kR_0 rfl inAX5 (k := 9) (by decide) aw_461 rfl dX5_steel_27 (pc' := 30) rfl ?_
    refine z_iload_n C dX5_steel_30 (pc' := 31) rfl rfl rfl ?_
    refine z_iald C hK (by decide) kR_6 (t0 := 0) rfl (j := i) rfl (by omega) (by decide) rfl dX5_steel_31 (pc' := 32) rfl ?_
    refine z_isub C dX5_steel_32 (pc' := 33) rfl rfl ?_
    refine z_iadd C dX5_steel_33 (pc' := 34) rfl rfl ?_
    refine z_istore_n (L' := [.ref _, .int _, .int _]) C dX5_steel_34 (pc' := 35) rfl rfl (by decide) (Nat.le_of_ble_eq_true rfl) rfl ?_
    refine z_iinc (L' := [.ref _, .int _, .int _]) C dX5_steel_35 (pc' := 38) rfl rfl (iinc1 _) (by decide) (Nat.le_of_ble_eq_true rfl) rfl ?_
    refine z_goto C dX5_steel_38 (pc' := 13) (by decide) ?_
    exact z_back 3 (ih13 (i + 1) (by omega) (by omega)) rfl rfl
set_option maxRecDepth 100000 in
set_option maxHeartbeats 400000 in
theorem m_X5_even (l : Launch) {cA : ClassId} {D : va_G} {ad : Nat → Nat} (hI : Inj 17 ad) (σ : St) {N : Nat} (hN : (lwS 12 true (cpL σ 12 16) N).2 = 0) : CI l yX5_even cX5_even 3 .int 2 45 D [(cA, .int)] 17 ad (cellR cA ad) σ [.ref (ad 0)] (fun r u => ∃ v, KR σ v ∧ u = evL v 12 16 ∧ r = ecR v 12 16) := by
  refine CI_of (by decide +kernel) (Nat.le_of_ble_eq_true rfl) (by simp [Value.category]) ?_
  intro p e s m below meth c C hM hK
  refine z_aload_n C dX5_even_0 (pc' := 1) rfl rfl rfl ?_
  refine z_iconst C dX5_even_1 (pc' := 2) rfl (v := 0) (by decide) ?_
  refine z_put C hK hI AdS_in (by decide) kR_0 sR_th oR_th rfl inAX5 tyX5_ok nmX5 (k := 0) (by decide) aw_452 rfl (ty := .int) (by decide +kernel) rfl rfl (Nat.le_of_ble_eq_true rfl) dX5_even_2 (pc' := 5) rfl ?_
  refine z_aload_n C dX5_even_5 (pc' := 6) rfl rfl rfl ?_
  refine z_callV C hK (m_X5_keeps l hI _ (N := N) hN) AdS_in aw_590 aw_592 aw_21 aw_32 aw_593 (by decide) kR_0 rfl (nA := 0) (by decide +kernel) rfl ⟨Nat.le_of_ble_eq_true rfl, Nat.le_of_ble_eq_true rfl⟩ (rest := []) rfl (Nat.le_of_ble_eq_true rfl) ⟨Nat.zero_le _, Nat.zero_le _⟩ dX5_even_6 (pc' := 9) rfl (fun u_6 h_6 => ?_)
  refine z_iconst C dX5_even_9 (pc' := 10) rfl (v := 0) (by decide) ?_
  refine z_istore_n (L' := [.ref _, .int _]) C dX5_even_10 (pc' := 11) rfl rfl (by decide) (Nat.le_of_ble_eq_true rfl) rfl ?_
  refine z_iconst C dX5_even_11 (pc' := 12) rfl (v := 0) (by decide) ?_
  refine z_istore_n (L' := [.ref _, .int _, .int _]) C dX5_even_12 (pc' := 13) rfl rfl (by decide) (Nat.le_of_ble_eq_true rfl) rfl ?_
  refine z_loop (τ := Nat) (fun i => 16 - i) (fun i => i ≤ 16) (fun i => evL u_6 12 i) (fun i => [.ref (ad 0), .int (ecR u_6 12 i), .int (nI i)]) 0 (by omega) rfl ⟨_, rfl⟩ ?_
  intro i hi ih13
  try dsimp only at hi ih13 ⊢
  refine z_iload_n C dX5_even_13 (pc' := 14) rfl rfl rfl ?_
  refine z_bipush C dX5_even_14 (pc' := 16) rfl (v := 16) (by decide) ?_
  refine z_icmp_ge (tgt := 60) C dX5_even_16 (pc' := 19) (by decide) rfl (fun c_16 => ?_) (fun c_16 => ?_)
  ·
    have n_16 : 16 ≤ i := ge_of_le (N := 16) (k := i) c_16 (by omega) (by omega)
    obtain rfl : i = 16 := (by omega)
    refine z_iload_n C dX5_even_60 (pc' := 61) rfl rfl rfl ?_
    exact z_iret C hM dX5_even_61 ⟨u_6, h_6, rfl, rfl⟩
  ·
    have n_16 : i < 16 := lt_of_nle (N := 16) (k := i) c_16 (by omega) (by omega)
    refine z_iload_n C dX5_even_19 (pc' := 20) rfl rfl rfl ?_
    refine z_aload_n C dX5_even_20 (pc' := 21) rfl rfl rfl ?_
    refine z_get C hK (by decide) kR_0 rfl inAX5 (k := 9) (by decide) aw_461 rfl dX5_even_21 (pc' := 24) rfl ?_
    refine z_iload_n C dX5_even_24 (pc' := 25) rfl rfl rfl ?_
    refine z_iald C hK (by decide) kR_6 (t0 := 0) rfl (j := i) rfl (by omega) (by decide) rfl dX5_even_25 (pc' := 26) rfl ?_
    refine z_aload_n C dX5_even_26 (pc' := 27) rfl rfl rfl ?_
    refine z_get C hK (by decide) kR_0 rfl inAX5 (k := 2) (by decide) aw_454 rfl dX5_even_27 (pc' := 30) rfl ?_
    refine z_iload_n C dX5_even_30 (pc' := 31) rfl rfl rfl ?_
    refine z_iald C hK (by decide) kR_1 (t0 := 0) rfl (j := i) rfl (by omega) (by decide) rfl dX5_even_31 (pc' := 32) rfl ?_
    refine z_ternE (J := 40) (if evL u_6 12 i 1 i ≤ evL u_6 12 i 12 i then 0 else 1) 2 ?_ ?_
    ·
      try dsimp only [List.drop]
      refine z_iadd C dX5_even_40 (pc' := 41) rfl rfl ?_
      refine z_istore_n (L' := [.ref _, .int _, .int _]) C dX5_even_41 (pc' := 42) rfl rfl (by decide) (Nat.le_of_ble_eq_true rfl) rfl ?_
      refine z_aload_n C dX5_even_42 (pc' := 43) rfl rfl rfl ?_
      refine z_get C hK (by decide) kR_0 rfl inAX5 (k := 2) (by decide) aw_454 rfl dX5_even_43 (pc' := 46) rfl ?_
      refine z_iload_n C dX5_even_46 (pc' := 47) rfl rfl rfl ?_
      refine z_aload_n C dX5_even_47 (pc' := 48) rfl rfl rfl ?_
      refine z_get C hK (by decide) kR_0 rfl inAX5 (k := 9) (by decide) aw_461 rfl dX5_even_48 (pc' := 51) rfl ?_
      refine z_iload_n C dX5_even_51 (pc' := 52) rfl rfl rfl ?_
      refine z_iald C hK (by decide) kR_6 (t0 := 0) rfl (j := i) rfl (by omega) (by decide) rfl dX5_even_52 (pc' := 53) rfl ?_
      refine z_iast C hK hI AdS_in (by decide) kR_1 sR_a1 oR_a1 (t0 := 0) rfl (j := i) rfl (by omega) (by decide) dX5_even_53 (pc' := 54) rfl ?_
      refine z_iinc (L' := [.ref _, .int _, .int _]) C dX5_even_54 (pc' := 57) rfl rfl (iinc1 _) (by decide) (Nat.le_of_ble_eq_true rfl) rfl ?_
      refine z_goto C dX5_even_57 (pc' := 13) (by decide) ?_
      exact z_back 3 (ih13 (i + 1) (by omega) (by omega)) rfl rfl
    · intro hj_40
      refine z_icmp_ge (tgt := 39) C dX5_even_32 (pc' := 35) (by decide) rfl (fun c_32 => ?_) (fun c_32 => ?_)
      ·
        refine z_iconst C dX5_even_39 (pc' := 40) rfl (v := 0) (by decide) ?_
        exact hj_40 _ (by simp [c_32])
      ·
        refine z_iconst C dX5_even_35 (pc' := 36) rfl (v := 1) (by decide) ?_
        refine z_goto C dX5_even_36 (pc' := 40) (by decide) ?_
        exact hj_40 _ (by simp [c_32])
end
section
/-! spares: the class sorts and pairs neighbours, the reference goes through sets -/
def ins (x : Int32) : Nat → St → St
  | 0, S => up2 S 24 0 x
  | p + 1, S => if S 24 p ≤ x then up2 S 24 (p + 1) x else ins x p (up2 S 24 (p + 1) (S 24 p))
def srt (σ : St) : Nat → St
  | 0 => σ
  | i + 1 => ins (srt σ i 6 i) i (srt σ i)
theorem ins_o {c : Nat} (h : c ≠ 24) (x : Int32) : ∀ (p : Nat) (S : St), ins x p S c = S c
  | 0, S => up2_cc S 0 x h
  | p + 1, S => by
    unfold ins
    split
    · exact up2_cc S _ x h
    · rw [ins_o h x p, up2_cc S _ _ h]
theorem srt_o {σ : St} {c : Nat} (h : c ≠ 24) : ∀ i, srt σ i c = σ c
  | 0 => rfl
  | i + 1 => by rw [srt, ins_o h, srt_o h i]
def plt (σ : St) (m : Nat) (df : Int32) : St := if σ 25 m < σ 25 (m - 2) + 1 ∨ (σ 25 (m - 2) + 1 = σ 25 m ∧ σ 26 (m - 2) + df < σ 26 m) then up2 (up2 σ 25 m (σ 25 (m - 2) + 1)) 26 m (σ 26 (m - 2) + df) else σ
def pu1 (P : St) (n : Nat) : St := up2 (up2 P 25 (n + 1) (P 25 n)) 26 (n + 1) (up2 P 25 (n + 1) (P 25 n) 26 n)
def pu2 (law : Int32) (S : St) (n : Nat) : St := if 2 ≤ n + 1 ∧ S 24 n - S 24 (n - 1) ≤ law then plt S (n + 1) (S 24 n - S 24 (n - 1)) else S
def pup (S : St) (law : Int32) : Nat → St
  | 0 => S
  | n + 1 => pu2 law (pu1 (pup S law n) n) n
theorem plt_o {S : St} {c m : Nat} {df : Int32} (h : c ≠ 25) (h2 : c ≠ 26) : plt S m df c = S c := by
  unfold plt
  split
  · rw [up2_cc _ _ _ h2, up2_cc _ _ _ h]
  · rfl
theorem pup_o {S : St} {law : Int32} {c : Nat} (h : c ≠ 25) (h2 : c ≠ 26) : ∀ n, pup S law n c = S c
  | 0 => rfl
  | n + 1 => by
    rw [pup, pu2]
    split
    · rw [plt_o h h2, pu1, up2_cc _ _ _ h2, up2_cc _ _ _ h, pup_o h h2 n]
    · rw [pu1, up2_cc _ _ _ h2, up2_cc _ _ _ h, pup_o h h2 n]
theorem iincm (k : Nat) : nI (k + 1) + Int32.ofInt (-1) = nI k := (by decide : Int32.ofInt (-1) = -1) ▸ pk_m1 k
def lastF (s : Nat) : Nat → Nat
  | 0 => 0
  | k + 1 => if s / 2 ^ k % 2 = 1 then k else lastF s k
def rsF (n s : Nat) : Nat := s - 2 ^ lastF s n
def ofF (x y : Int32) : Int32 := if y ≤ x then x - y else y - x
def rst (S : St) (s rt la k : Nat) : St := if rt / 2 ^ k % 2 = 1 ∧ ofF (S 6 k) (S 6 la) ≤ S 5 0 ∧ (S 13 s < S 13 (rt - 2 ^ k) + 1 ∨ (S 13 (rt - 2 ^ k) + 1 = S 13 s ∧ S 14 (rt - 2 ^ k) + ofF (S 6 k) (S 6 la) < S 14 s)) then up2 (up2 S 13 s (S 13 (rt - 2 ^ k) + 1)) 14 s (up2 S 13 s (S 13 (rt - 2 ^ k) + 1) 14 (rt - 2 ^ k) + ofF (S 6 k) (S 6 la)) else S
def rsL (S : St) (s rt la : Nat) : Nat → St
  | 0 => S
  | k + 1 => rst (rsL S s rt la k) s rt la k
def rsB (n : Nat) (P : St) (s : Nat) : St := up2 (up2 P 13 s (P 13 (rsF n s))) 14 s (up2 P 13 s (P 13 (rsF n s)) 14 (rsF n s))
def rs1 (n : Nat) (P : St) (s : Nat) : St := rsL (rsB n P s) s (rsF n s) (lastF s n) (lastF s n)
def rsA (σ : St) (n : Nat) : Nat → St
  | 0 => up2 (up2 σ 13 0 0) 14 0 0
  | m + 1 => rs1 n (rsA σ n m) (m + 1)
theorem rst_o {S : St} {s rt la k c : Nat} (h : c ≠ 13) (h2 : c ≠ 14) : rst S s rt la k c = S c := by
  unfold rst
  split
  · rw [up2_cc _ _ _ h2, up2_cc _ _ _ h]
  · rfl
theorem rsL_o {S : St} {s rt la c : Nat} (h : c ≠ 13) (h2 : c ≠ 14) : ∀ k, rsL S s rt la k c = S c
  | 0 => rfl
  | k + 1 => by rw [rsL, rst_o h h2, rsL_o h h2 k]
theorem rsA_o {σ : St} {n c : Nat} (h : c ≠ 13) (h2 : c ≠ 14) : ∀ m, rsA σ n m c = σ c
  | 0 => by rw [rsA, up2_cc _ _ _ h2, up2_cc _ _ _ h]
  | m + 1 => by rw [rsA, rs1, rsL_o h h2, rsB, up2_cc _ _ _ h2, up2_cc _ _ _ h, rsA_o h h2 m]
theorem lastF_le (s : Nat) : ∀ k, lastF s k ≤ k - 1
  | 0 => Nat.le_refl 0
  | k + 1 => by
    have := lastF_le s k
    unfold lastF
    split <;> omega
theorem bit_some : ∀ (n s : Nat), 0 < s → s < 2 ^ n → s / 2 ^ lastF s n % 2 = 1
  | 0, s, h, h2 => by simp at h2; omega
  | n + 1, s, h, h2 => by
    unfold lastF
    split
    · assumption
    · rename_i hb
      refine bit_some n s h ?_
      have h3 : s / 2 ^ n < 2 := Nat.div_lt_of_lt_mul (by rw [Nat.pow_succ] at h2; exact h2)
      have h5 : ∀ y : Nat, y < 2 → ¬ y % 2 = 1 → y = 0 := by omega
      exact (Nat.div_eq_zero_iff.mp (h5 _ h3 hb)).resolve_left (Nat.ne_of_gt (Nat.two_pow_pos n))
theorem bit_le {x k : Nat} (h : x / 2 ^ k % 2 = 1) : 2 ^ k ≤ x := by
  rcases Nat.lt_or_ge x (2 ^ k) with q | q
  · rw [Nat.div_eq_of_lt q] at h
    simp at h
  · exact q
theorem rsF_lt {n s : Nat} (h : 0 < s) : rsF n s < s := by
  have := Nat.two_pow_pos (lastF s n)
  unfold rsF
  omega
theorem shl1 {k : Nat} (h : k ≤ 8) : (1 : Int32) <<< (nI k &&& 31) = nI (2 ^ k) := by
  rcases (show k = 0 ∨ k = 1 ∨ k = 2 ∨ k = 3 ∨ k = 4 ∨ k = 5 ∨ k = 6 ∨ k = 7 ∨ k = 8 by omega) with rfl | rfl | rfl | rfl | rfl | rfl | rfl | rfl | rfl <;> decide
theorem shrK {a k : Nat} (ha : a < 2 ^ 31) (h : k ≤ 8) : nI a >>> (nI k &&& 31) = nI (a / 2 ^ k) := by
  refine pk_shrN ha _ k ?_
  rcases (show k = 0 ∨ k = 1 ∨ k = 2 ∨ k = 3 ∨ k = 4 ∨ k = 5 ∨ k = 6 ∨ k = 7 ∨ k = 8 by omega) with rfl | rfl | rfl | rfl | rfl | rfl | rfl | rfl | rfl <;> decide
theorem and1 {a : Nat} (ha : a < 2 ^ 31) : nI a &&& 1 = nI (a % 2) := pk_andN (n := a) (by omega) 1 (by decide)
theorem div_lt31 {a k : Nat} (ha : a < 2 ^ 31) : a / 2 ^ k < 2 ^ 31 := Nat.lt_of_le_of_lt (Nat.div_le_self _ _) ha
theorem pow8 {n : Nat} (h : n ≤ 8) : 2 ^ n ≤ 256 := Nat.pow_le_pow_right (by decide) h
theorem i32_nle2 {x y : Int32} (h : ¬ y ≤ x) : x < y := by rw [i32_le] at h; rw [i32_lt]; omega
set_option maxRecDepth 100000 in
set_option maxHeartbeats 400000 in
theorem m_X2_sort (l : Launch) {cA cB : ClassId} {D : va_G} {ad : Nat → Nat} (hI : Inj 67 ad) (σ : St) {n : Nat} (hn : n ≤ 8) (e4 : σ 0 4 = nI n) : CV l yX2_sort cX2_sort 3 0 0 D [(cA, .int), (cB, .object RX3)] 67 ad (cellC cA cB ad) σ [.ref (ad 5)] (fun u => u = srt σ n) := by
  refine CV_of (by decide +kernel) (Nat.le_of_ble_eq_true rfl) (by simp [Value.category]) ?_
  intro p e s m below meth c C hM hK
  refine z_iconst C dX2_sort_0 (pc' := 1) rfl (v := 0) (by decide) ?_
  refine z_istore_n (L' := [.ref _, .int _]) C dX2_sort_1 (pc' := 2) rfl rfl (by decide) (Nat.le_of_ble_eq_true rfl) rfl ?_
  refine z_loop (τ := Nat) (fun i => n - i) (fun i => i ≤ n) (fun i => srt σ i) (fun i => [.ref (ad 5), .int (nI i)]) 0 (by omega) rfl ⟨_, rfl⟩ ?_
  intro i hi ih2
  try dsimp only at hi ih2 ⊢
  refine z_iload_n C dX2_sort_2 (pc' := 3) rfl rfl rfl ?_
  refine z_aload_n C dX2_sort_3 (pc' := 4) rfl rfl rfl ?_
  refine z_get C hK (by decide) kC_5 rfl inAX2 (k := 0) (by decide) aw_62 rfl dX2_sort_4 (pc' := 7) rfl ?_
  refine z_top (y := nI n) (by rw [srt_o (by decide), e4]) ?_
  refine z_icmp_ge (tgt := 71) C dX2_sort_7 (pc' := 10) (by decide) rfl (fun c_7 => ?_) (fun c_7 => ?_)
  ·
    have n_7 : n ≤ i := ge_of_le (N := n) (k := i) c_7 (by omega) (by omega)
    obtain rfl : i = n := (by omega)
    exact z_vret C hM dX2_sort_71 rfl
  ·
    have n_7 : i < n := lt_of_nle (N := n) (k := i) c_7 (by omega) (by omega)
    refine z_iload_n C dX2_sort_10 (pc' := 11) rfl rfl rfl ?_
    refine z_istore_n (L' := [.ref _, .int _, .int _]) C dX2_sort_11 (pc' := 12) rfl rfl (by decide) (Nat.le_of_ble_eq_true rfl) rfl ?_
    refine z_loop (τ := Nat × St) (fun t => t.1) (fun t => t.1 ≤ i ∧ ins (srt σ i 6 i) t.1 t.2 = ins (srt σ i 6 i) i (srt σ i) ∧ t.2 6 = srt σ i 6 ∧ t.2 0 = srt σ i 0) (fun t => t.2) (fun t => [.ref (ad 5), .int (nI i), .int (nI t.1)]) (i, srt σ i) ⟨Nat.le_refl _, rfl, rfl, rfl⟩ rfl ⟨_, rfl⟩ ?_
    intro ⟨j, S⟩ hj ih12
    try dsimp only at hj ih12 ⊢
    refine z_iload_n C dX2_sort_12 (pc' := 13) rfl rfl rfl ?_
    refine z_if_le (tgt := 53) C dX2_sort_13 (pc' := 16) (by decide) rfl (fun c_13 => ?_) (fun c_13 => ?_)
    ·
      have n_13 : j = 0 := (nI_le0 (by omega)).mp c_13
      refine z_aload_n C dX2_sort_53 (pc' := 54) rfl rfl rfl ?_
      refine z_get C hK (by decide) kC_5 rfl inAX2 (k := 2) (by decide) aw_65 rfl dX2_sort_54 (pc' := 57) rfl ?_
      refine z_iload_n C dX2_sort_57 (pc' := 58) rfl rfl rfl ?_
      refine z_aload_n C dX2_sort_58 (pc' := 59) rfl rfl rfl ?_
      refine z_get C hK (by decide) kC_5 rfl inAX2 (k := 1) (by decide) aw_64 rfl dX2_sort_59 (pc' := 62) rfl ?_
      refine z_iload_n C dX2_sort_62 (pc' := 63) rfl rfl rfl ?_
      refine z_iald C hK (by decide) kC_6 (t0 := 0) rfl (j := i) rfl (by omega) (by decide) rfl dX2_sort_63 (pc' := 64) rfl ?_
      refine z_iast C hK hI AdS_in (by decide) kC_7 sC_a7 oC_a7 (t0 := 0) rfl (j := j) rfl (by omega) (by decide) dX2_sort_64 (pc' := 65) rfl ?_
      refine z_iinc (L' := [.ref _, .int _, .int _]) C dX2_sort_65 (pc' := 68) rfl rfl (iinc1 _) (by decide) (Nat.le_of_ble_eq_true rfl) rfl ?_
      refine z_goto C dX2_sort_68 (pc' := 2) (by decide) ?_
      exact z_back 2 (ih2 (i + 1) (by omega) (by omega)) (by first | (show _ = ins (srt σ i 6 i) i (srt σ i); rw [← hj.2.1, ← hj.2.2.1, ins, if_pos c_30]) | (subst n_13; show _ = ins (srt σ i 6 i) i (srt σ i); rw [← hj.2.1, ← hj.2.2.1]; rfl)) rfl
    ·
      have n_13 : ¬ j = 0 := fun z9 => c_13 ((nI_le0 (by omega)).mpr z9)
      have hji := hj.1
      obtain ⟨j, rfl⟩ : ∃ q, j = q + 1 := ⟨j - 1, by omega⟩
      refine z_aload_n C dX2_sort_16 (pc' := 17) rfl rfl rfl ?_
      refine z_get C hK (by decide) kC_5 rfl inAX2 (k := 2) (by decide) aw_65 rfl dX2_sort_17 (pc' := 20) rfl ?_
      refine z_iload_n C dX2_sort_20 (pc' := 21) rfl rfl rfl ?_
      refine z_iconst C dX2_sort_21 (pc' := 22) rfl (v := 1) (by decide) ?_
      refine z_isub C dX2_sort_22 (pc' := 23) rfl (z := nI j) (nI_pred j) ?_
      refine z_iald C hK (by decide) kC_7 (t0 := 0) rfl (j := j) rfl (by have := hj.1; omega) (by decide) rfl dX2_sort_23 (pc' := 24) rfl ?_
      refine z_aload_n C dX2_sort_24 (pc' := 25) rfl rfl rfl ?_
      refine z_get C hK (by decide) kC_5 rfl inAX2 (k := 1) (by decide) aw_64 rfl dX2_sort_25 (pc' := 28) rfl ?_
      refine z_iload_n C dX2_sort_28 (pc' := 29) rfl rfl rfl ?_
      refine z_iald C hK (by decide) kC_6 (t0 := 0) rfl (j := i) rfl (by omega) (by decide) rfl dX2_sort_29 (pc' := 30) rfl ?_
      refine z_icmp_le (tgt := 53) C dX2_sort_30 (pc' := 33) (by decide) rfl (fun c_30 => ?_) (fun c_30 => ?_)
      ·
        refine z_aload_n C dX2_sort_53 (pc' := 54) rfl rfl rfl ?_
        refine z_get C hK (by decide) kC_5 rfl inAX2 (k := 2) (by decide) aw_65 rfl dX2_sort_54 (pc' := 57) rfl ?_
        refine z_iload_n C dX2_sort_57 (pc' := 58) rfl rfl rfl ?_
        refine z_aload_n C dX2_sort_58 (pc' := 59) rfl rfl rfl ?_
        refine z_get C hK (by decide) kC_5 rfl inAX2 (k := 1) (by decide) aw_64 rfl dX2_sort_59 (pc' := 62) rfl ?_
        refine z_iload_n C dX2_sort_62 (pc' := 63) rfl rfl rfl ?_
        refine z_iald C hK (by decide) kC_6 (t0 := 0) rfl (j := i) rfl (by omega) (by decide) rfl dX2_sort_63 (pc' := 64) rfl ?_
        refine z_iast C hK hI AdS_in (by decide) kC_7 sC_a7 oC_a7 (t0 := 0) rfl (j := (j + 1)) rfl (by omega) (by decide) dX2_sort_64 (pc' := 65) rfl ?_
        refine z_iinc (L' := [.ref _, .int _, .int _]) C dX2_sort_65 (pc' := 68) rfl rfl (iinc1 _) (by decide) (Nat.le_of_ble_eq_true rfl) rfl ?_
        refine z_goto C dX2_sort_68 (pc' := 2) (by decide) ?_
        exact z_back 2 (ih2 (i + 1) (by omega) (by omega)) (by first | (show _ = ins (srt σ i 6 i) i (srt σ i); rw [← hj.2.1, ← hj.2.2.1, ins, if_pos c_30]) | (subst n_13; show _ = ins (srt σ i 6 i) i (srt σ i); rw [← hj.2.1, ← hj.2.2.1]; rfl)) rfl
      ·
        refine z_aload_n C dX2_sort_33 (pc' := 34) rfl rfl rfl ?_
        refine z_get C hK (by decide) kC_5 rfl inAX2 (k := 2) (by decide) aw_65 rfl dX2_sort_34 (pc' := 37) rfl ?_
        refine z_iload_n C dX2_sort_37 (pc' := 38) rfl rfl rfl ?_
        refine z_aload_n C dX2_sort_38 (pc' := 39) rfl rfl rfl ?_
        refine z_get C hK (by decide) kC_5 rfl inAX2 (k := 2) (by decide) aw_65 rfl dX2_sort_39 (pc' := 42) rfl ?_
        refine z_iload_n C dX2_sort_42 (pc' := 43) rfl rfl rfl ?_
        refine z_iconst C dX2_sort_43 (pc' := 44) rfl (v := 1) (by decide) ?_
        refine z_isub C dX2_sort_44 (pc' := 45) rfl (z := nI j) (nI_pred j) ?_
        refine z_iald C hK (by decide) kC_7 (t0 := 0) rfl (j := j) rfl (by have := hj.1; omega) (by decide) rfl dX2_sort_45 (pc' := 46) rfl ?_
        refine z_iast C hK hI AdS_in (by decide) kC_7 sC_a7 oC_a7 (t0 := 0) rfl (j := (j + 1)) rfl (by have := hj.1; omega) (by decide) dX2_sort_46 (pc' := 47) rfl ?_
        refine z_iinc (L' := [.ref _, .int _, .int _]) C dX2_sort_47 (pc' := 50) rfl rfl (v := nI j) (iincm j) (by decide) (Nat.le_of_ble_eq_true rfl) rfl ?_
        refine z_goto C dX2_sort_50 (pc' := 12) (by decide) ?_
        exact z_back 3 (ih12 (j, up2 S 24 (j + 1) (S 24 j)) ⟨by have := hj.1; omega, by rw [← hj.2.1, ins, if_neg (by rw [← hj.2.2.1]; exact c_30)], (up2_cc S (j + 1) (S 24 j) (by decide : (6 : Nat) ≠ 24)).trans hj.2.2.1, (up2_cc S (j + 1) (S 24 j) (by decide : (0 : Nat) ≠ 24)).trans hj.2.2.2⟩ (Nat.lt_succ_self j)) rfl rfl
set_option maxRecDepth 100000 in
set_option maxHeartbeats 400000 in
theorem m_X2_pairLastTwo (l : Launch) {cA cB : ClassId} {D : va_G} {ad : Nat → Nat} (hI : Inj 67 ad) (σ : St) {t : Nat} (hm2 : 2 ≤ t) (hm8 : t ≤ 8) (df : Int32) : CV l yX2_pairLastTwo cX2_pairLastTwo 5 0 0 D [(cA, .int), (cB, .object RX3)] 67 ad (cellC cA cB ad) σ [.ref (ad 5), .int (nI t), .int df] (fun u => u = plt σ t df) := by
  refine CV_of (by decide +kernel) (Nat.le_of_ble_eq_true rfl) (by simp [Value.category]) ?_
  intro p e s m below meth c C hM hK
  refine z_aload_n C dX2_pairLastTwo_0 (pc' := 1) rfl rfl rfl ?_
  refine z_get C hK (by decide) kC_5 rfl inAX2 (k := 3) (by decide) aw_66 rfl dX2_pairLastTwo_1 (pc' := 4) rfl ?_
  refine z_iload_n C dX2_pairLastTwo_4 (pc' := 5) rfl rfl rfl ?_
  refine z_iconst C dX2_pairLastTwo_5 (pc' := 6) rfl (v := 2) (by decide) ?_
  refine z_isub C dX2_pairLastTwo_6 (pc' := 7) rfl (z := nI (t - 2)) (pk_sub (a := t) (b := 2) (by omega)) ?_
  refine z_iald C hK (by decide) kC_8 (t0 := 0) rfl (j := (t - 2)) rfl (by omega) (by decide) rfl dX2_pairLastTwo_7 (pc' := 8) rfl ?_
  refine z_iconst C dX2_pairLastTwo_8 (pc' := 9) rfl (v := 1) (by decide) ?_
  refine z_iadd C dX2_pairLastTwo_9 (pc' := 10) rfl rfl ?_
  refine z_istore_n (L' := [.ref _, .int _, .int _, .int _]) C dX2_pairLastTwo_10 (pc' := 11) rfl rfl (by decide) (Nat.le_of_ble_eq_true rfl) rfl ?_
  refine z_aload_n C dX2_pairLastTwo_11 (pc' := 12) rfl rfl rfl ?_
  refine z_get C hK (by decide) kC_5 rfl inAX2 (k := 4) (by decide) aw_67 rfl dX2_pairLastTwo_12 (pc' := 15) rfl ?_
  refine z_iload_n C dX2_pairLastTwo_15 (pc' := 16) rfl rfl rfl ?_
  refine z_iconst C dX2_pairLastTwo_16 (pc' := 17) rfl (v := 2) (by decide) ?_
  refine z_isub C dX2_pairLastTwo_17 (pc' := 18) rfl (z := nI (t - 2)) (pk_sub (a := t) (b := 2) (by omega)) ?_
  refine z_iald C hK (by decide) kC_9 (t0 := 0) rfl (j := (t - 2)) rfl (by omega) (by decide) rfl dX2_pairLastTwo_18 (pc' := 19) rfl ?_
  refine z_iload_n C dX2_pairLastTwo_19 (pc' := 20) rfl rfl rfl ?_
  refine z_iadd C dX2_pairLastTwo_20 (pc' := 21) rfl rfl ?_
  refine z_istore (L' := [.ref _, .int _, .int _, .int _, .int _]) C dX2_pairLastTwo_21 (pc' := 23) rfl (by decide) (Nat.le_of_ble_eq_true rfl) rfl ?_
  refine z_iload_n C dX2_pairLastTwo_23 (pc' := 24) rfl rfl rfl ?_
  refine z_aload_n C dX2_pairLastTwo_24 (pc' := 25) rfl rfl rfl ?_
  refine z_get C hK (by decide) kC_5 rfl inAX2 (k := 3) (by decide) aw_66 rfl dX2_pairLastTwo_25 (pc' := 28) rfl ?_
  refine z_iload_n C dX2_pairLastTwo_28 (pc' := 29) rfl rfl rfl ?_
  refine z_iald C hK (by decide) kC_8 (t0 := 0) rfl (j := t) rfl (by omega) (by decide) rfl dX2_pairLastTwo_29 (pc' := 30) rfl ?_
  refine z_icmp_gt (tgt := 54) C dX2_pairLastTwo_30 (pc' := 33) (by decide) rfl (fun c_30 => ?_) (fun c_30 => ?_)
  ·
    refine z_aload_n C dX2_pairLastTwo_54 (pc' := 55) rfl rfl rfl ?_
    refine z_get C hK (by decide) kC_5 rfl inAX2 (k := 3) (by decide) aw_66 rfl dX2_pairLastTwo_55 (pc' := 58) rfl ?_
    refine z_iload_n C dX2_pairLastTwo_58 (pc' := 59) rfl rfl rfl ?_
    refine z_iload_n C dX2_pairLastTwo_59 (pc' := 60) rfl rfl rfl ?_
    refine z_iast C hK hI AdS_in (by decide) kC_8 sC_a8 oC_a8 (t0 := 0) rfl (j := t) rfl (by omega) (by decide) dX2_pairLastTwo_60 (pc' := 61) rfl ?_
    refine z_aload_n C dX2_pairLastTwo_61 (pc' := 62) rfl rfl rfl ?_
    refine z_get C hK (by decide) kC_5 rfl inAX2 (k := 4) (by decide) aw_67 rfl dX2_pairLastTwo_62 (pc' := 65) rfl ?_
    refine z_iload_n C dX2_pairLastTwo_65 (pc' := 66) rfl rfl rfl ?_
    refine z_iload C dX2_pairLastTwo_66 (pc' := 68) rfl rfl ?_
    refine z_iast C hK hI AdS_in (by decide) kC_9 sC_a9 oC_a9 (t0 := 0) rfl (j := t) rfl (by omega) (by decide) dX2_pairLastTwo_68 (pc' := 69) rfl ?_
    exact z_vret C hM dX2_pairLastTwo_69 (by first | (rw [plt, if_pos]; exact Or.inl c_30) | (rw [plt, if_neg]; exact fun h => h.elim c_30 (fun q => c_40 q.1)) | (rw [plt, if_neg]; exact fun h => h.elim c_30 (fun q => i32_nle q.2 c_51)) | (rw [plt, if_pos]; exact Or.inr ⟨c_40, i32_nle2 c_51⟩))
  ·
    refine z_iload_n C dX2_pairLastTwo_33 (pc' := 34) rfl rfl rfl ?_
    refine z_aload_n C dX2_pairLastTwo_34 (pc' := 35) rfl rfl rfl ?_
    refine z_get C hK (by decide) kC_5 rfl inAX2 (k := 3) (by decide) aw_66 rfl dX2_pairLastTwo_35 (pc' := 38) rfl ?_
    refine z_iload_n C dX2_pairLastTwo_38 (pc' := 39) rfl rfl rfl ?_
    refine z_iald C hK (by decide) kC_8 (t0 := 0) rfl (j := t) rfl (by omega) (by decide) rfl dX2_pairLastTwo_39 (pc' := 40) rfl ?_
    refine z_icmp_ne (tgt := 69) C dX2_pairLastTwo_40 (pc' := 43) (by decide) rfl (fun c_40 => ?_) (fun c_40 => ?_)
    ·
      exact z_vret C hM dX2_pairLastTwo_69 (by first | (rw [plt, if_pos]; exact Or.inl c_30) | (rw [plt, if_neg]; exact fun h => h.elim c_30 (fun q => c_40 q.1)) | (rw [plt, if_neg]; exact fun h => h.elim c_30 (fun q => i32_nle q.2 c_51)) | (rw [plt, if_pos]; exact Or.inr ⟨c_40, i32_nle2 c_51⟩))
    ·
      refine z_iload C dX2_pairLastTwo_43 (pc' := 45) rfl rfl ?_
      refine z_aload_n C dX2_pairLastTwo_45 (pc' := 46) rfl rfl rfl ?_
      refine z_get C hK (by decide) kC_5 rfl inAX2 (k := 4) (by decide) aw_67 rfl dX2_pairLastTwo_46 (pc' := 49) rfl ?_
      refine z_iload_n C dX2_pairLastTwo_49 (pc' := 50) rfl rfl rfl ?_
      refine z_iald C hK (by decide) kC_9 (t0 := 0) rfl (j := t) rfl (by omega) (by decide) rfl dX2_pairLastTwo_50 (pc' := 51) rfl ?_
      refine z_icmp_ge (tgt := 69) C dX2_pairLastTwo_51 (pc' := 54) (by decide) rfl (fun c_51 => ?_) (fun c_51 => ?_)
      ·
        exact z_vret C hM dX2_pairLastTwo_69 (by first | (rw [plt, if_pos]; exact Or.inl c_30) | (rw [plt, if_neg]; exact fun h => h.elim c_30 (fun q => c_40 q.1)) | (rw [plt, if_neg]; exact fun h => h.elim c_30 (fun q => i32_nle q.2 c_51)) | (rw [plt, if_pos]; exact Or.inr ⟨c_40, i32_nle2 c_51⟩))
      ·
        refine z_aload_n C dX2_pairLastTwo_54 (pc' := 55) rfl rfl rfl ?_
        refine z_get C hK (by decide) kC_5 rfl inAX2 (k := 3) (by decide) aw_66 rfl dX2_pairLastTwo_55 (pc' := 58) rfl ?_
        refine z_iload_n C dX2_pairLastTwo_58 (pc' := 59) rfl rfl rfl ?_
        refine z_iload_n C dX2_pairLastTwo_59 (pc' := 60) rfl rfl rfl ?_
        refine z_iast C hK hI AdS_in (by decide) kC_8 sC_a8 oC_a8 (t0 := 0) rfl (j := t) rfl (by omega) (by decide) dX2_pairLastTwo_60 (pc' := 61) rfl ?_
        refine z_aload_n C dX2_pairLastTwo_61 (pc' := 62) rfl rfl rfl ?_
        refine z_get C hK (by decide) kC_5 rfl inAX2 (k := 4) (by decide) aw_67 rfl dX2_pairLastTwo_62 (pc' := 65) rfl ?_
        refine z_iload_n C dX2_pairLastTwo_65 (pc' := 66) rfl rfl rfl ?_
        refine z_iload C dX2_pairLastTwo_66 (pc' := 68) rfl rfl ?_
        refine z_iast C hK hI AdS_in (by decide) kC_9 sC_a9 oC_a9 (t0 := 0) rfl (j := t) rfl (by omega) (by decide) dX2_pairLastTwo_68 (pc' := 69) rfl ?_
        exact z_vret C hM dX2_pairLastTwo_69 (by first | (rw [plt, if_pos]; exact Or.inl c_30) | (rw [plt, if_neg]; exact fun h => h.elim c_30 (fun q => c_40 q.1)) | (rw [plt, if_neg]; exact fun h => h.elim c_30 (fun q => i32_nle q.2 c_51)) | (rw [plt, if_pos]; exact Or.inr ⟨c_40, i32_nle2 c_51⟩))
set_option maxRecDepth 100000 in
set_option maxHeartbeats 400000 in
theorem m_X2_pairUp (l : Launch) {cA cB : ClassId} {D : va_G} {ad : Nat → Nat} (hI : Inj 67 ad) (σ : St) {n : Nat} (hn : n ≤ 8) (e4 : σ 0 4 = nI n) (law : Int32) : CV l yX2_pairUp cX2_pairUp 3 1 24 D [(cA, .int), (cB, .object RX3)] 67 ad (cellC cA cB ad) σ [.ref (ad 5), .int law] (fun u => u = pup (srt σ n) law n) := by
  refine CV_of (by decide +kernel) (Nat.le_of_ble_eq_true rfl) (by simp [Value.category]) ?_
  intro p e s m below meth c C hM hK
  refine z_aload_n C dX2_pairUp_0 (pc' := 1) rfl rfl rfl ?_
  refine z_callV C hK (m_X2_sort l hI _ (n := n) hn e4) AdS_in aw_325 aw_327 aw_9 aw_29 aw_328 (by decide) kC_5 rfl (nA := 0) (by decide +kernel) rfl ⟨Nat.le_of_ble_eq_true rfl, Nat.le_of_ble_eq_true rfl⟩ (rest := []) rfl (Nat.le_of_ble_eq_true rfl) ⟨Nat.zero_le _, Nat.zero_le _⟩ dX2_pairUp_1 (pc' := 4) rfl (fun u_1 h_1 => ?_)
  rw [h_1]
  refine z_iconst C dX2_pairUp_4 (pc' := 5) rfl (v := 1) (by decide) ?_
  refine z_istore_n (L' := [.ref _, .int _, .int _]) C dX2_pairUp_5 (pc' := 6) rfl rfl (by decide) (Nat.le_of_ble_eq_true rfl) rfl ?_
  refine z_loop (τ := Nat) (fun q => n - q) (fun q => q ≤ n) (fun q => (pup (srt σ n) law q)) (fun q => [.ref (ad 5), .int law, .int (nI (q + 1))]) 0 (by omega) rfl ⟨_, rfl⟩ ?_
  intro q hq ih6
  try dsimp only at hq ih6 ⊢
  refine z_iload_n C dX2_pairUp_6 (pc' := 7) rfl rfl rfl ?_
  refine z_aload_n C dX2_pairUp_7 (pc' := 8) rfl rfl rfl ?_
  refine z_get C hK (by decide) kC_5 rfl inAX2 (k := 0) (by decide) aw_62 rfl dX2_pairUp_8 (pc' := 11) rfl ?_
  refine z_top (y := nI n) (by rw [pup_o (by decide) (by decide), srt_o (by decide), e4]) ?_
  refine z_icmp_gt (tgt := 96) C dX2_pairUp_11 (pc' := 14) (by decide) rfl (fun c_11 => ?_) (fun c_11 => ?_)
  ·
    have n_11 : n < (q + 1) := (nI_ltI (a := n) (b := (q + 1)) (by omega) (by omega)).mp c_11
    obtain rfl : q = n := (by omega)
    exact z_vret C hM dX2_pairUp_96 rfl
  ·
    have n_11 : ¬ n < (q + 1) := fun z9 => c_11 ((nI_ltI (a := n) (b := (q + 1)) (by omega) (by omega)).mpr z9)
    refine z_aload_n C dX2_pairUp_14 (pc' := 15) rfl rfl rfl ?_
    refine z_get C hK (by decide) kC_5 rfl inAX2 (k := 3) (by decide) aw_66 rfl dX2_pairUp_15 (pc' := 18) rfl ?_
    refine z_iload_n C dX2_pairUp_18 (pc' := 19) rfl rfl rfl ?_
    refine z_aload_n C dX2_pairUp_19 (pc' := 20) rfl rfl rfl ?_
    refine z_get C hK (by decide) kC_5 rfl inAX2 (k := 3) (by decide) aw_66 rfl dX2_pairUp_20 (pc' := 23) rfl ?_
    refine z_iload_n C dX2_pairUp_23 (pc' := 24) rfl rfl rfl ?_
    refine z_iconst C dX2_pairUp_24 (pc' := 25) rfl (v := 1) (by decide) ?_
    refine z_isub C dX2_pairUp_25 (pc' := 26) rfl (z := nI q) (nI_pred q) ?_
    refine z_iald C hK (by decide) kC_8 (t0 := 0) rfl (j := q) rfl (by omega) (by decide) rfl dX2_pairUp_26 (pc' := 27) rfl ?_
    refine z_iast C hK hI AdS_in (by decide) kC_8 sC_a8 oC_a8 (t0 := 0) rfl (j := (q + 1)) rfl (by omega) (by decide) dX2_pairUp_27 (pc' := 28) rfl ?_
    refine z_aload_n C dX2_pairUp_28 (pc' := 29) rfl rfl rfl ?_
    refine z_get C hK (by decide) kC_5 rfl inAX2 (k := 4) (by decide) aw_67 rfl dX2_pairUp_29 (pc' := 32) rfl ?_
    refine z_iload_n C dX2_pairUp_32 (pc' := 33) rfl rfl rfl ?_
    refine z_aload_n C dX2_pairUp_33 (pc' := 34) rfl rfl rfl ?_
    refine z_get C hK (by decide) kC_5 rfl inAX2 (k := 4) (by decide) aw_67 rfl dX2_pairUp_34 (pc' := 37) rfl ?_
    refine z_iload_n C dX2_pairUp_37 (pc' := 38) rfl rfl rfl ?_
    refine z_iconst C dX2_pairUp_38 (pc' := 39) rfl (v := 1) (by decide) ?_
    refine z_isub C dX2_pairUp_39 (pc' := 40) rfl (z := nI q) (nI_pred q) ?_
    refine z_iald C hK (by decide) kC_9 (t0 := 0) rfl (j := q) rfl (by omega) (by decide) rfl dX2_pairUp_40 (pc' := 41) rfl ?_
    refine z_iast C hK hI AdS_in (by decide) kC_9 sC_a9 oC_a9 (t0 := 0) rfl (j := (q + 1)) rfl (by omega) (by decide) dX2_pairUp_41 (pc' := 42) rfl ?_
    refine z_iload_n C dX2_pairUp_42 (pc' := 43) rfl rfl rfl ?_
    refine z_iconst C dX2_pairUp_43 (pc' := 44) rfl (v := 2) (by decide) ?_
    refine z_icmp_lt (tgt := 90) C dX2_pairUp_44 (pc' := 47) (by decide) rfl (fun c_44 => ?_) (fun c_44 => ?_)
    ·
      have n_44 : (q + 1) < 2 := (nI_ltI (a := (q + 1)) (b := 2) (by omega) (by omega)).mp c_44
      refine z_iinc (L' := [.ref _, .int _, .int _]) C dX2_pairUp_90 (pc' := 93) rfl rfl (iinc1 _) (by decide) (Nat.le_of_ble_eq_true rfl) rfl ?_
      refine z_goto C dX2_pairUp_93 (pc' := 6) (by decide) ?_
      exact z_back 3 (ih6 (q + 1) (by omega) (by omega)) (by first | (rw [pup, pu2, if_pos]; (try rfl); exact ⟨by omega, i32_nlt c_65⟩) | (rw [pup, pu2, if_neg]; (try rfl); exact fun h => i32_nle c_65 h.2) | (rw [pup, pu2, if_neg]; (try rfl); exact fun h => absurd h.1 (by omega))) rfl
    ·
      have n_44 : ¬ (q + 1) < 2 := fun z9 => c_44 ((nI_ltI (a := (q + 1)) (b := 2) (by omega) (by omega)).mpr z9)
      refine z_aload_n C dX2_pairUp_47 (pc' := 48) rfl rfl rfl ?_
      refine z_get C hK (by decide) kC_5 rfl inAX2 (k := 2) (by decide) aw_65 rfl dX2_pairUp_48 (pc' := 51) rfl ?_
      refine z_iload_n C dX2_pairUp_51 (pc' := 52) rfl rfl rfl ?_
      refine z_iconst C dX2_pairUp_52 (pc' := 53) rfl (v := 1) (by decide) ?_
      refine z_isub C dX2_pairUp_53 (pc' := 54) rfl (z := nI q) (nI_pred q) ?_
      refine z_iald C hK (by decide) kC_7 (t0 := 0) rfl (j := q) rfl (by omega) (by decide) rfl dX2_pairUp_54 (pc' := 55) rfl ?_
      refine z_aload_n C dX2_pairUp_55 (pc' := 56) rfl rfl rfl ?_
      refine z_get C hK (by decide) kC_5 rfl inAX2 (k := 2) (by decide) aw_65 rfl dX2_pairUp_56 (pc' := 59) rfl ?_
      refine z_iload_n C dX2_pairUp_59 (pc' := 60) rfl rfl rfl ?_
      refine z_iconst C dX2_pairUp_60 (pc' := 61) rfl (v := 2) (by decide) ?_
      refine z_isub C dX2_pairUp_61 (pc' := 62) rfl (z := nI (q - 1)) (pk_sub (a := q + 1) (b := 2) (by omega)) ?_
      refine z_iald C hK (by decide) kC_7 (t0 := 0) rfl (j := (q - 1)) rfl (by omega) (by decide) rfl dX2_pairUp_62 (pc' := 63) rfl ?_
      refine z_isub C dX2_pairUp_63 (pc' := 64) rfl rfl ?_
      refine z_iload_n C dX2_pairUp_64 (pc' := 65) rfl rfl rfl ?_
      refine z_icmp_gt (tgt := 90) C dX2_pairUp_65 (pc' := 68) (by decide) rfl (fun c_65 => ?_) (fun c_65 => ?_)
      ·
        refine z_iinc (L' := [.ref _, .int _, .int _]) C dX2_pairUp_90 (pc' := 93) rfl rfl (iinc1 _) (by decide) (Nat.le_of_ble_eq_true rfl) rfl ?_
        refine z_goto C dX2_pairUp_93 (pc' := 6) (by decide) ?_
        exact z_back 3 (ih6 (q + 1) (by omega) (by omega)) (by first | (rw [pup, pu2, if_pos]; (try rfl); exact ⟨by omega, i32_nlt c_65⟩) | (rw [pup, pu2, if_neg]; (try rfl); exact fun h => i32_nle c_65 h.2) | (rw [pup, pu2, if_neg]; (try rfl); exact fun h => absurd h.1 (by omega))) rfl
      ·
        refine z_aload_n C dX2_pairUp_68 (pc' := 69) rfl rfl rfl ?_
        refine z_iload_n C dX2_pairUp_69 (pc' := 70) rfl rfl rfl ?_
        refine z_aload_n C dX2_pairUp_70 (pc' := 71) rfl rfl rfl ?_
        refine z_get C hK (by decide) kC_5 rfl inAX2 (k := 2) (by decide) aw_65 rfl dX2_pairUp_71 (pc' := 74) rfl ?_
        refine z_iload_n C dX2_pairUp_74 (pc' := 75) rfl rfl rfl ?_
        refine z_iconst C dX2_pairUp_75 (pc' := 76) rfl (v := 1) (by decide) ?_
        refine z_isub C dX2_pairUp_76 (pc' := 77) rfl (z := nI q) (nI_pred q) ?_
        refine z_iald C hK (by decide) kC_7 (t0 := 0) rfl (j := q) rfl (by omega) (by decide) rfl dX2_pairUp_77 (pc' := 78) rfl ?_
        refine z_aload_n C dX2_pairUp_78 (pc' := 79) rfl rfl rfl ?_
        refine z_get C hK (by decide) kC_5 rfl inAX2 (k := 2) (by decide) aw_65 rfl dX2_pairUp_79 (pc' := 82) rfl ?_
        refine z_iload_n C dX2_pairUp_82 (pc' := 83) rfl rfl rfl ?_
        refine z_iconst C dX2_pairUp_83 (pc' := 84) rfl (v := 2) (by decide) ?_
        refine z_isub C dX2_pairUp_84 (pc' := 85) rfl (z := nI (q - 1)) (pk_sub (a := q + 1) (b := 2) (by omega)) ?_
        refine z_iald C hK (by decide) kC_7 (t0 := 0) rfl (j := (q - 1)) rfl (by omega) (by decide) rfl dX2_pairUp_85 (pc' := 86) rfl ?_
        refine z_isub C dX2_pairUp_86 (pc' := 87) rfl rfl ?_
        refine z_callV C hK (m_X2_pairLastTwo l hI _ (t := (q + 1)) (by omega) (by omega) _) AdS_in aw_329 aw_331 aw_10 aw_29 aw_332 (by decide) kC_5 rfl (nA := 2) (by decide +kernel) rfl ⟨Nat.le_of_ble_eq_true rfl, Nat.le_of_ble_eq_true rfl⟩ (rest := []) rfl (Nat.le_of_ble_eq_true rfl) ⟨Nat.zero_le _, Nat.zero_le _⟩ dX2_pairUp_87 (pc' := 90) rfl (fun u_87 h_87 => ?_)
        rw [h_87]
        refine z_iinc (L' := [.ref _, .int _, .int _]) C dX2_pairUp_90 (pc' := 93) rfl rfl (iinc1 _) (by decide) (Nat.le_of_ble_eq_true rfl) rfl ?_
        refine z_goto C dX2_pairUp_93 (pc' := 6) (by decide) ?_
        exact z_back 3 (ih6 (q + 1) (by omega) (by omega)) (by first | (rw [pup, pu2, if_pos]; (try rfl); exact ⟨by omega, i32_nlt c_65⟩) | (rw [pup, pu2, if_neg]; (try rfl); exact fun h => i32_nle c_65 h.2) | (rw [pup, pu2, if_neg]; (try rfl); exact fun h => absurd h.1 (by omega))) rfl
set_option maxRecDepth 100000 in
set_option maxHeartbeats 400000 in
theorem m_X2_bestPairs (l : Launch) {cA cB : ClassId} {D : va_G} {ad : Nat → Nat} (hI : Inj 67 ad) (σ : St) {n : Nat} (hn : n ≤ 8) (e4 : σ 0 4 = nI n) : CI l yX2_bestPairs cX2_bestPairs 1 .int 0 0 D [(cA, .int), (cB, .object RX3)] 67 ad (cellC cA cB ad) σ [.ref (ad 5)] (fun r u => r = σ 25 n ∧ u = σ) := by
  refine CI_of (by decide +kernel) (Nat.le_of_ble_eq_true rfl) (by simp [Value.category]) ?_
  intro p e s m below meth c C hM hK
  refine z_aload_n C dX2_bestPairs_0 (pc' := 1) rfl rfl rfl ?_
  refine z_get C hK (by decide) kC_5 rfl inAX2 (k := 3) (by decide) aw_66 rfl dX2_bestPairs_1 (pc' := 4) rfl ?_
  refine z_aload_n C dX2_bestPairs_4 (pc' := 5) rfl rfl rfl ?_
  refine z_get C hK (by decide) kC_5 rfl inAX2 (k := 0) (by decide) aw_62 rfl dX2_bestPairs_5 (pc' := 8) rfl ?_
  refine z_top (y := nI n) e4 ?_
  refine z_iald C hK (by decide) kC_8 (t0 := 0) rfl (j := n) rfl (by omega) (by decide) rfl dX2_bestPairs_8 (pc' := 9) rfl ?_
  exact z_iret C hM dX2_bestPairs_9 ⟨rfl, rfl⟩
set_option maxRecDepth 100000 in
set_option maxHeartbeats 400000 in
theorem m_X2_leastSum (l : Launch) {cA cB : ClassId} {D : va_G} {ad : Nat → Nat} (hI : Inj 67 ad) (σ : St) {n : Nat} (hn : n ≤ 8) (e4 : σ 0 4 = nI n) : CI l yX2_leastSum cX2_leastSum 1 .int 0 0 D [(cA, .int), (cB, .object RX3)] 67 ad (cellC cA cB ad) σ [.ref (ad 5)] (fun r u => r = σ 26 n ∧ u = σ) := by
  refine CI_of (by decide +kernel) (Nat.le_of_ble_eq_true rfl) (by simp [Value.category]) ?_
  intro p e s m below meth c C hM hK
  refine z_aload_n C dX2_leastSum_0 (pc' := 1) rfl rfl rfl ?_
  refine z_get C hK (by decide) kC_5 rfl inAX2 (k := 4) (by decide) aw_67 rfl dX2_leastSum_1 (pc' := 4) rfl ?_
  refine z_aload_n C dX2_leastSum_4 (pc' := 5) rfl rfl rfl ?_
  refine z_get C hK (by decide) kC_5 rfl inAX2 (k := 0) (by decide) aw_62 rfl dX2_leastSum_5 (pc' := 8) rfl ?_
  refine z_top (y := nI n) e4 ?_
  refine z_iald C hK (by decide) kC_9 (t0 := 0) rfl (j := n) rfl (by omega) (by decide) rfl dX2_leastSum_8 (pc' := 9) rfl ?_
  exact z_iret C hM dX2_leastSum_9 ⟨rfl, rfl⟩
set_option maxRecDepth 100000 in
set_option maxHeartbeats 400000 in
theorem m_X4_pairs (l : Launch) {cA cB : ClassId} {D : va_G} {ad : Nat → Nat} (hI : Inj 67 ad) (σ : St) {n : Nat} (hn : n ≤ 8) (e4 : σ 0 4 = nI n) (q : Int32) : CI l yX4_pairs cX4_pairs 2 .int 2 46 D [(cA, .int), (cB, .object RX3)] 67 ad (cellC cA cB ad) σ [.ref (ad 0), .int q] (fun r u => (¬ inR q 0 1 ∧ r = -1 ∧ u = σ) ∨ (inR q 0 1 ∧ u = pup (srt σ n) (σ 5 0) n ∧ r = if q = 0 then u 25 n else u 26 n)) := by
  refine CI_of (by decide +kernel) (Nat.le_of_ble_eq_true rfl) (by simp [Value.category]) ?_
  intro p e s m below meth c C hM hK
  refine z_iload_n C dX4_pairs_0 (pc' := 1) rfl rfl rfl ?_
  refine z_iconst C dX4_pairs_1 (pc' := 2) rfl (v := 0) (by decide) ?_
  refine z_iconst C dX4_pairs_2 (pc' := 3) rfl (v := 1) (by decide) ?_
  refine z_callS C (m_X4_within l _ _ _) stabP aw_180 aw_181 aw_27 aw_182 (nA := 3) (by decide +kernel) rfl ⟨Nat.le_of_ble_eq_true rfl, Nat.le_of_ble_eq_true rfl⟩ (rest := []) rfl (Nat.le_of_ble_eq_true rfl) ⟨Nat.zero_le _, Nat.zero_le _⟩ dX4_pairs_3 (pc' := 6) rfl (fun r_3 h_3 => ?_)
  rcases h_3 with ⟨rfl, h_3⟩ | ⟨rfl, h_3⟩
  ·
    refine z_if_ne (tgt := 11) C dX4_pairs_6 (pc' := 9) (by decide) rfl (fun _ => ?_) (fun q => absurd q (by decide))
    refine z_aload_n C dX4_pairs_11 (pc' := 12) rfl rfl rfl ?_
    refine z_get C hK (by decide) kC_0 rfl inAX4 (k := 2) (by decide) aw_147 rfl dX4_pairs_12 (pc' := 15) rfl ?_
    refine z_aload_n C dX4_pairs_15 (pc' := 16) rfl rfl rfl ?_
    refine z_get C hK (by decide) kC_0 rfl inAX4 (k := 1) (by decide) aw_146 rfl dX4_pairs_16 (pc' := 19) rfl ?_
    refine z_get C hK (by decide) kC_3 rfl inAX0 (k := 0) (by decide) aw_51 rfl dX4_pairs_19 (pc' := 22) rfl ?_
    refine z_iconst C dX4_pairs_22 (pc' := 23) rfl (v := 0) (by decide) ?_
    refine z_iald C hK (by decide) kC_4 (t0 := 0) rfl (j := 0) rfl (by decide) (by decide) rfl dX4_pairs_23 (pc' := 24) rfl ?_
    refine z_callV C hK (m_X2_pairUp l hI _ (n := n) hn e4 _) AdS_in aw_321 aw_322 aw_323 aw_29 aw_324 (by decide) kC_5 rfl (nA := 1) (by decide +kernel) rfl ⟨Nat.le_of_ble_eq_true rfl, Nat.le_of_ble_eq_true rfl⟩ (rest := []) rfl (Nat.le_of_ble_eq_true rfl) ⟨Nat.zero_le _, Nat.zero_le _⟩ dX4_pairs_24 (pc' := 27) rfl (fun u_24 h_24 => ?_)
    rw [h_24]
    refine z_iload_n C dX4_pairs_27 (pc' := 28) rfl rfl rfl ?_
    refine z_if_ne (tgt := 41) C dX4_pairs_28 (pc' := 31) (by decide) rfl (fun c_28 => ?_) (fun c_28 => ?_)
    ·
      refine z_aload_n C dX4_pairs_41 (pc' := 42) rfl rfl rfl ?_
      refine z_get C hK (by decide) kC_0 rfl inAX4 (k := 2) (by decide) aw_147 rfl dX4_pairs_42 (pc' := 45) rfl ?_
      refine z_callI C hK (m_X2_leastSum l hI _ (n := n) hn (by rw [pup_o (by decide) (by decide), srt_o (by decide), e4])) AdS_in aw_337 aw_338 aw_339 aw_29 aw_340 (by decide) kC_5 rfl (nA := 0) (by decide +kernel) rfl ⟨Nat.le_of_ble_eq_true rfl, Nat.le_of_ble_eq_true rfl⟩ (rest := []) rfl (Nat.le_of_ble_eq_true rfl) ⟨Nat.zero_le _, Nat.zero_le _⟩ dX4_pairs_45 (pc' := 48) rfl (fun r_45 u_45 h_45 => ?_)
      obtain ⟨hr_45, hu_45⟩ := h_45
      rw [hr_45, hu_45]
      exact z_iret C hM dX4_pairs_48 (Or.inr ⟨by assumption, rfl, by first | exact (if_pos c_28).symm | exact (if_neg c_28).symm⟩)
    ·
      refine z_aload_n C dX4_pairs_31 (pc' := 32) rfl rfl rfl ?_
      refine z_get C hK (by decide) kC_0 rfl inAX4 (k := 2) (by decide) aw_147 rfl dX4_pairs_32 (pc' := 35) rfl ?_
      refine z_callI C hK (m_X2_bestPairs l hI _ (n := n) hn (by rw [pup_o (by decide) (by decide), srt_o (by decide), e4])) AdS_in aw_333 aw_334 aw_335 aw_29 aw_336 (by decide) kC_5 rfl (nA := 0) (by decide +kernel) rfl ⟨Nat.le_of_ble_eq_true rfl, Nat.le_of_ble_eq_true rfl⟩ (rest := []) rfl (Nat.le_of_ble_eq_true rfl) ⟨Nat.zero_le _, Nat.zero_le _⟩ dX4_pairs_35 (pc' := 38) rfl (fun r_35 u_35 h_35 => ?_)
      obtain ⟨hr_35, hu_35⟩ := h_35
      rw [hr_35, hu_35]
      refine z_goto C dX4_pairs_38 (pc' := 48) (by decide) ?_
      exact z_iret C hM dX4_pairs_48 (Or.inr ⟨by assumption, rfl, by first | exact (if_pos c_28).symm | exact (if_neg c_28).symm⟩)
  ·
    refine z_if_ne (tgt := 11) C dX4_pairs_6 (pc' := 9) (by decide) rfl (fun q => absurd q (by decide)) (fun _ => ?_)
    refine z_iconst C dX4_pairs_9 (pc' := 10) rfl (v := (-1)) (by decide) ?_
    exact z_iret C hM dX4_pairs_10 (Or.inl ⟨by assumption, rfl, rfl⟩)
end
section

set_option maxRecDepth 100000 in
set_option maxHeartbeats 400000 in
theorem m_X5_pairs (l : Launch) {cA : ClassId} {D : va_G} {ad : Nat → Nat} (hI : Inj 17 ad) (σ : St) {n : Nat} (hn : n ≤ 8) (e4 : σ 0 4 = nI n) (q : Int32) : CI l yX5_pairs cX5_pairs 8 .int 1 22 D [(cA, .int)] 17 ad (cellR cA ad) σ [.ref (ad 0), .int q] (fun r u => (¬ inR q 0 1 ∧ r = -1 ∧ u = σ) ∨ (inR q 0 1 ∧ u = rsA σ n (2 ^ n - 1) ∧ r = if q = 0 then u 13 (2 ^ n - 1) else u 14 (2 ^ n - 1))) := by
  refine CI_of (by decide +kernel) (Nat.le_of_ble_eq_true rfl) (by simp [Value.category]) ?_
  intro p e s m below meth c C hM hK
  obtain ⟨M, hMn⟩ : ∃ M, M = 2 ^ n := ⟨_, rfl⟩
  have hM8 : M ≤ 256 := hMn ▸ pow8 hn
  have hM1 : 1 ≤ M := hMn ▸ Nat.two_pow_pos n
  refine z_aload_n C dX5_pairs_0 (pc' := 1) rfl rfl rfl ?_
  refine z_iconst C dX5_pairs_1 (pc' := 2) rfl (v := 0) (by decide) ?_
  refine z_put C hK hI AdS_in (by decide) kR_0 sR_th oR_th rfl inAX5 tyX5_ok nmX5 (k := 0) (by decide) aw_452 rfl (ty := .int) (by decide +kernel) rfl rfl (Nat.le_of_ble_eq_true rfl) dX5_pairs_2 (pc' := 5) rfl ?_
  refine z_iload_n C dX5_pairs_5 (pc' := 6) rfl rfl rfl ?_
  refine z_iconst C dX5_pairs_6 (pc' := 7) rfl (v := 0) (by decide) ?_
  refine z_iconst C dX5_pairs_7 (pc' := 8) rfl (v := 1) (by decide) ?_
  refine z_callS C (m_X5_in l _ _ _) stabP aw_529 aw_530 aw_32 aw_531 (nA := 3) (by decide +kernel) rfl ⟨Nat.le_of_ble_eq_true rfl, Nat.le_of_ble_eq_true rfl⟩ (rest := []) rfl (Nat.le_of_ble_eq_true rfl) ⟨Nat.zero_le _, Nat.zero_le _⟩ dX5_pairs_8 (pc' := 11) rfl (fun r_8 h_8 => ?_)
  rcases h_8 with ⟨rfl, h_8⟩ | ⟨rfl, h_8⟩
  ·
    refine z_if_ne (tgt := 16) C dX5_pairs_11 (pc' := 14) (by decide) rfl (fun _ => ?_) (fun q => absurd q (by decide))
    refine z_aload_n C dX5_pairs_16 (pc' := 17) rfl rfl rfl ?_
    refine z_get C hK (by decide) kR_0 rfl inAX5 (k := 12) (by decide) aw_464 rfl dX5_pairs_17 (pc' := 20) rfl ?_
    refine z_iconst C dX5_pairs_20 (pc' := 21) rfl (v := 0) (by decide) ?_
    refine z_iconst C dX5_pairs_21 (pc' := 22) rfl (v := 0) (by decide) ?_
    refine z_iast C hK hI AdS_in (by decide) kR_8 sR_a8 oR_a8 (t0 := 0) rfl (j := 0) rfl (by decide) (by decide) dX5_pairs_22 (pc' := 23) rfl ?_
    refine z_aload_n C dX5_pairs_23 (pc' := 24) rfl rfl rfl ?_
    refine z_get C hK (by decide) kR_0 rfl inAX5 (k := 13) (by decide) aw_465 rfl dX5_pairs_24 (pc' := 27) rfl ?_
    refine z_iconst C dX5_pairs_27 (pc' := 28) rfl (v := 0) (by decide) ?_
    refine z_iconst C dX5_pairs_28 (pc' := 29) rfl (v := 0) (by decide) ?_
    refine z_iast C hK hI AdS_in (by decide) kR_9 sR_a9 oR_a9 (t0 := 0) rfl (j := 0) rfl (by decide) (by decide) dX5_pairs_29 (pc' := 30) rfl ?_
    refine z_iconst C dX5_pairs_30 (pc' := 31) rfl (v := 1) (by decide) ?_
    refine z_istore_n (L' := [.ref _, .int _, .int _]) C dX5_pairs_31 (pc' := 32) rfl rfl (by decide) (Nat.le_of_ble_eq_true rfl) rfl ?_
    refine z_loop (τ := Nat) (fun g => M - g) (fun g => g + 1 ≤ M) (fun g => rsA σ n g) (fun g => [.ref (ad 0), .int q, .int (nI (g + 1))]) 0 (by omega) rfl ⟨_, rfl⟩ ?_
    intro g hg ih32
    try dsimp only at hg ih32 ⊢
    refine z_iload_n C dX5_pairs_32 (pc' := 33) rfl rfl rfl ?_
    refine z_iconst C dX5_pairs_33 (pc' := 34) rfl (v := 1) (by decide) ?_
    refine z_aload_n C dX5_pairs_34 (pc' := 35) rfl rfl rfl ?_
    refine z_get C hK (by decide) kR_0 rfl inAX5 (k := 10) (by decide) aw_462 rfl dX5_pairs_35 (pc' := 38) rfl ?_
    refine z_top (y := nI n) (by rw [rsA_o (by decide) (by decide), e4]) ?_
    refine z_ishl C dX5_pairs_38 (pc' := 39) rfl (z := nI M) (by rw [shl1 hn, hMn]) ?_
    refine z_icmp_ge (tgt := 299) C dX5_pairs_39 (pc' := 42) (by decide) rfl (fun c_39 => ?_) (fun c_39 => ?_)
    ·
      have n_39 : M ≤ (g + 1) := ge_of_le (N := M) (k := (g + 1)) c_39 (by omega) (by omega)
      obtain rfl : g = M - 1 := (by omega)
      refine z_iconst C dX5_pairs_299 (pc' := 300) rfl (v := 1) (by decide) ?_
      refine z_aload_n C dX5_pairs_300 (pc' := 301) rfl rfl rfl ?_
      refine z_get C hK (by decide) kR_0 rfl inAX5 (k := 10) (by decide) aw_462 rfl dX5_pairs_301 (pc' := 304) rfl ?_
      refine z_top (y := nI n) (by rw [rsA_o (by decide) (by decide), e4]) ?_
      refine z_ishl C dX5_pairs_304 (pc' := 305) rfl (z := nI M) (by rw [shl1 hn, hMn]) ?_
      refine z_iconst C dX5_pairs_305 (pc' := 306) rfl (v := 1) (by decide) ?_
      refine z_isub C dX5_pairs_306 (pc' := 307) rfl (z := nI (M - 1)) (pk_sub (a := M) (b := 1) (by omega)) ?_
      refine z_istore_n (L' := [.ref _, .int _, .int _]) C dX5_pairs_307 (pc' := 308) rfl rfl (by decide) (Nat.le_of_ble_eq_true rfl) rfl ?_
      refine z_iload_n C dX5_pairs_308 (pc' := 309) rfl rfl rfl ?_
      refine z_if_ne (tgt := 321) C dX5_pairs_309 (pc' := 312) (by decide) rfl (fun c_309 => ?_) (fun c_309 => ?_)
      ·
        refine z_aload_n C dX5_pairs_321 (pc' := 322) rfl rfl rfl ?_
        refine z_get C hK (by decide) kR_0 rfl inAX5 (k := 13) (by decide) aw_465 rfl dX5_pairs_322 (pc' := 325) rfl ?_
        refine z_iload_n C dX5_pairs_325 (pc' := 326) rfl rfl rfl ?_
        refine z_iald C hK (by decide) kR_9 (t0 := 0) rfl (j := (M - 1)) rfl (by omega) (by decide) rfl dX5_pairs_326 (pc' := 327) rfl ?_
        exact z_iret C hM dX5_pairs_327 (Or.inr ⟨by assumption, by rw [hMn], by rw [← hMn]; first | exact (if_pos c_309).symm | exact (if_neg c_309).symm⟩)
      ·
        refine z_aload_n C dX5_pairs_312 (pc' := 313) rfl rfl rfl ?_
        refine z_get C hK (by decide) kR_0 rfl inAX5 (k := 12) (by decide) aw_464 rfl dX5_pairs_313 (pc' := 316) rfl ?_
        refine z_iload_n C dX5_pairs_316 (pc' := 317) rfl rfl rfl ?_
        refine z_iald C hK (by decide) kR_8 (t0 := 0) rfl (j := (M - 1)) rfl (by omega) (by decide) rfl dX5_pairs_317 (pc' := 318) rfl ?_
        refine z_goto C dX5_pairs_318 (pc' := 327) (by decide) ?_
        exact z_iret C hM dX5_pairs_327 (Or.inr ⟨by assumption, by rw [hMn], by rw [← hMn]; first | exact (if_pos c_309).symm | exact (if_neg c_309).symm⟩)
    ·
      have n_39 : (g + 1) < M := lt_of_nle (N := M) (k := (g + 1)) c_39 (by omega) (by omega)
      have hs : 0 < g + 1 := Nat.succ_pos g
      have hbit := bit_some n (g + 1) hs (by rw [← hMn]; omega)
      have hla := lastF_le (g + 1) n
      have hrt := rsF_lt (n := n) hs
      have hn1 : 1 ≤ n := by rcases Nat.eq_zero_or_pos n with z | z; (subst z; simp at hMn; omega); exact z
      refine z_iconst C dX5_pairs_42 (pc' := 43) rfl (v := 0) (by decide) ?_
      refine z_istore_n (L' := [.ref _, .int _, .int _, .int _]) C dX5_pairs_43 (pc' := 44) rfl rfl (by decide) (Nat.le_of_ble_eq_true rfl) rfl ?_
      refine z_iconst C dX5_pairs_44 (pc' := 45) rfl (v := 0) (by decide) ?_
      refine z_istore (L' := [.ref _, .int _, .int _, .int _, .int _]) C dX5_pairs_45 (pc' := 47) rfl (by decide) (Nat.le_of_ble_eq_true rfl) rfl ?_
      refine z_loop (τ := Nat) (fun k => n - k) (fun k => k ≤ n) (fun k => rsA σ n g) (fun k => [.ref (ad 0), .int q, .int (nI (g + 1)), .int (nI (lastF (g + 1) k)), .int (nI k)]) 0 (by omega) rfl ⟨_, rfl⟩ ?_
      intro k hk ih47
      try dsimp only at hk ih47 ⊢
      refine z_iload C dX5_pairs_47 (pc' := 49) rfl rfl ?_
      refine z_aload_n C dX5_pairs_49 (pc' := 50) rfl rfl rfl ?_
      refine z_get C hK (by decide) kR_0 rfl inAX5 (k := 10) (by decide) aw_462 rfl dX5_pairs_50 (pc' := 53) rfl ?_
      refine z_top (y := nI n) (by rw [rsA_o (by decide) (by decide), e4]) ?_
      refine z_icmp_ge (tgt := 79) C dX5_pairs_53 (pc' := 56) (by decide) rfl (fun c_53 => ?_) (fun c_53 => ?_)
      ·
        have n_53 : n ≤ k := ge_of_le (N := n) (k := k) c_53 (by omega) (by omega)
        obtain rfl : n = k := (by omega)
        refine z_iload_n C dX5_pairs_79 (pc' := 80) rfl rfl rfl ?_
        refine z_iconst C dX5_pairs_80 (pc' := 81) rfl (v := 1) (by decide) ?_
        refine z_iload_n C dX5_pairs_81 (pc' := 82) rfl rfl rfl ?_
        refine z_ishl C dX5_pairs_82 (pc' := 83) rfl (z := nI (2 ^ (lastF (g + 1) n))) (shl1 (by omega)) ?_
        refine z_isub C dX5_pairs_83 (pc' := 84) rfl (z := nI (rsF n (g + 1))) (pk_sub (bit_le hbit)) ?_
        refine z_istore (L' := [.ref _, .int _, .int _, .int _, .int _]) C dX5_pairs_84 (pc' := 86) rfl (by decide) (Nat.le_of_ble_eq_true rfl) rfl ?_
        refine z_aload_n C dX5_pairs_86 (pc' := 87) rfl rfl rfl ?_
        refine z_get C hK (by decide) kR_0 rfl inAX5 (k := 12) (by decide) aw_464 rfl dX5_pairs_87 (pc' := 90) rfl ?_
        refine z_iload_n C dX5_pairs_90 (pc' := 91) rfl rfl rfl ?_
        refine z_aload_n C dX5_pairs_91 (pc' := 92) rfl rfl rfl ?_
        refine z_get C hK (by decide) kR_0 rfl inAX5 (k := 12) (by decide) aw_464 rfl dX5_pairs_92 (pc' := 95) rfl ?_
        refine z_iload C dX5_pairs_95 (pc' := 97) rfl rfl ?_
        refine z_iald C hK (by decide) kR_8 (t0 := 0) rfl (j := (rsF n (g + 1))) rfl (by omega) (by decide) rfl dX5_pairs_97 (pc' := 98) rfl ?_
        refine z_iast C hK hI AdS_in (by decide) kR_8 sR_a8 oR_a8 (t0 := 0) rfl (j := (g + 1)) rfl (by omega) (by decide) dX5_pairs_98 (pc' := 99) rfl ?_
        refine z_aload_n C dX5_pairs_99 (pc' := 100) rfl rfl rfl ?_
        refine z_get C hK (by decide) kR_0 rfl inAX5 (k := 13) (by decide) aw_465 rfl dX5_pairs_100 (pc' := 103) rfl ?_
        refine z_iload_n C dX5_pairs_103 (pc' := 104) rfl rfl rfl ?_
        refine z_aload_n C dX5_pairs_104 (pc' := 105) rfl rfl rfl ?_
        refine z_get C hK (by decide) kR_0 rfl inAX5 (k := 13) (by decide) aw_465 rfl dX5_pairs_105 (pc' := 108) rfl ?_
        refine z_iload C dX5_pairs_108 (pc' := 110) rfl rfl ?_
        refine z_iald C hK (by decide) kR_9 (t0 := 0) rfl (j := (rsF n (g + 1))) rfl (by omega) (by decide) rfl dX5_pairs_110 (pc' := 111) rfl ?_
        refine z_iast C hK hI AdS_in (by decide) kR_9 sR_a9 oR_a9 (t0 := 0) rfl (j := (g + 1)) rfl (by omega) (by decide) dX5_pairs_111 (pc' := 112) rfl ?_
        refine z_iconst C dX5_pairs_112 (pc' := 113) rfl (v := 0) (by decide) ?_
        refine z_istore (L' := [.ref _, .int _, .int _, .int _, .int _, .int _]) C dX5_pairs_113 (pc' := 115) rfl (by decide) (Nat.le_of_ble_eq_true rfl) rfl ?_
        refine z_loop (τ := Nat) (fun k => (lastF (g + 1) n) - k) (fun k => k ≤ (lastF (g + 1) n)) (fun k => rsL (rsB n (rsA σ n g) (g + 1)) (g + 1) (rsF n (g + 1)) (lastF (g + 1) n) k) (fun k => [.ref (ad 0), .int q, .int (nI (g + 1)), .int (nI (lastF (g + 1) n)), .int (nI (rsF n (g + 1))), .int (nI k)]) 0 (Nat.zero_le _) rfl ⟨_, rfl⟩ ?_
        intro k hk ih115
        try dsimp only at hk ih115 ⊢
        refine z_iload C dX5_pairs_115 (pc' := 117) rfl rfl ?_
        refine z_iload_n C dX5_pairs_117 (pc' := 118) rfl rfl rfl ?_
        refine z_icmp_ge (tgt := 293) C dX5_pairs_118 (pc' := 121) (by decide) rfl (fun c_118 => ?_) (fun c_118 => ?_)
        ·
          have n_118 : (lastF (g + 1) n) ≤ k := ge_of_le (N := (lastF (g + 1) n)) (k := k) c_118 (by omega) (by omega)
          obtain rfl : k = (lastF (g + 1) n) := (by omega)
          refine z_iinc (L' := [.ref _, .int _, .int _, .int _, .int _, .int _]) C dX5_pairs_293 (pc' := 296) rfl rfl (iinc1 _) (by decide) (Nat.le_of_ble_eq_true rfl) rfl ?_
          refine z_goto C dX5_pairs_296 (pc' := 32) (by decide) ?_
          exact z_back 3 (ih32 (g + 1) (by omega) (by omega)) rfl rfl
        ·
          have n_118 : k < (lastF (g + 1) n) := lt_of_nle (N := (lastF (g + 1) n)) (k := k) c_118 (by omega) (by omega)
          refine z_aload_n C dX5_pairs_121 (pc' := 122) rfl rfl rfl ?_
          refine z_get C hK (by decide) kR_0 rfl inAX5 (k := 11) (by decide) aw_463 rfl dX5_pairs_122 (pc' := 125) rfl ?_
          refine z_iload C dX5_pairs_125 (pc' := 127) rfl rfl ?_
          refine z_iald C hK (by decide) kR_7 (t0 := 0) rfl (j := k) rfl (by omega) (by decide) rfl dX5_pairs_127 (pc' := 128) rfl ?_
          refine z_aload_n C dX5_pairs_128 (pc' := 129) rfl rfl rfl ?_
          refine z_get C hK (by decide) kR_0 rfl inAX5 (k := 11) (by decide) aw_463 rfl dX5_pairs_129 (pc' := 132) rfl ?_
          refine z_iload_n C dX5_pairs_132 (pc' := 133) rfl rfl rfl ?_
          refine z_iald C hK (by decide) kR_7 (t0 := 0) rfl (j := (lastF (g + 1) n)) rfl (by omega) (by decide) rfl dX5_pairs_133 (pc' := 134) rfl ?_
          refine z_ternE (J := 168) (ofF (rsL (rsB n (rsA σ n g) (g + 1)) (g + 1) (rsF n (g + 1)) (lastF (g + 1) n) k 6 k) (rsL (rsB n (rsA σ n g) (g + 1)) (g + 1) (rsF n (g + 1)) (lastF (g + 1) n) k 6 (lastF (g + 1) n))) 2 ?_ ?_
          ·
            try dsimp only [List.drop]
            refine z_istore (L' := [.ref _, .int _, .int _, .int _, .int _, .int _, .int _]) C dX5_pairs_168 (pc' := 170) rfl (by decide) (Nat.le_of_ble_eq_true rfl) rfl ?_
            refine z_iload C dX5_pairs_170 (pc' := 172) rfl rfl ?_
            refine z_iconst C dX5_pairs_172 (pc' := 173) rfl (v := 1) (by decide) ?_
            refine z_iload C dX5_pairs_173 (pc' := 175) rfl rfl ?_
            refine z_ishl C dX5_pairs_175 (pc' := 176) rfl (z := nI (2 ^ k)) (shl1 (by omega)) ?_
            refine z_isub C dX5_pairs_176 (pc' := 177) rfl rfl ?_
            refine z_istore (L' := [.ref _, .int _, .int _, .int _, .int _, .int _, .int _, .int _]) C dX5_pairs_177 (pc' := 179) rfl (by decide) (Nat.le_of_ble_eq_true rfl) rfl ?_
            refine z_iload C dX5_pairs_179 (pc' := 181) rfl rfl ?_
            refine z_iload C dX5_pairs_181 (pc' := 183) rfl rfl ?_
            refine z_ishr C dX5_pairs_183 (pc' := 184) rfl (z := nI ((rsF n (g + 1)) / 2 ^ k)) (shrK (by omega) (by omega)) ?_
            refine z_iconst C dX5_pairs_184 (pc' := 185) rfl (v := 1) (by decide) ?_
            refine z_iand C dX5_pairs_185 (pc' := 186) rfl (z := nI ((rsF n (g + 1)) / 2 ^ k % 2)) (and1 (div_lt31 (by omega))) ?_
            refine z_iconst C dX5_pairs_186 (pc' := 187) rfl (v := 1) (by decide) ?_
            refine z_icmp_ne (tgt := 287) C dX5_pairs_187 (pc' := 190) (by decide) rfl (fun c_187 => ?_) (fun c_187 => ?_)
            ·
              have n_187 : ¬ ((rsF n (g + 1)) / 2 ^ k % 2) = 1 := fun z9 => c_187 ((nI_eq (a := ((rsF n (g + 1)) / 2 ^ k % 2)) (b := 1) (by omega) (by omega)).mpr z9)
              refine z_iinc (L' := [.ref _, .int _, .int _, .int _, .int _, .int _, .int _, .int _]) C dX5_pairs_287 (pc' := 290) rfl rfl (iinc1 _) (by decide) (Nat.le_of_ble_eq_true rfl) rfl ?_
              refine z_goto C dX5_pairs_290 (pc' := 115) (by decide) ?_
              exact z_back 6 (ih115 (k + 1) (by omega) (by omega)) (by first | (rw [rsL, rst, if_neg]; (try rfl); exact (fun h => n_187 h.1)) | (rw [rsL, rst, if_neg]; (try rfl); exact (fun h => i32_nle c_198 h.2.1)) | (rw [rsL, rst, if_pos]; (try rfl); exact ⟨n_187, i32_nlt c_198, Or.inl c_216⟩) | (rw [rsL, rst, if_neg]; (try rfl); exact (fun h => h.2.2.elim c_216 (fun q => c_234 q.1))) | (rw [rsL, rst, if_neg]; (try rfl); exact (fun h => h.2.2.elim c_216 (fun q => i32_nle q.2 c_253))) | (rw [rsL, rst, if_pos]; (try rfl); exact ⟨n_187, i32_nlt c_198, Or.inr ⟨c_234, i32_nle2 c_253⟩⟩)) rfl
            ·
              have n_187 : ((rsF n (g + 1)) / 2 ^ k % 2) = 1 := (nI_eq (a := ((rsF n (g + 1)) / 2 ^ k % 2)) (b := 1) (by omega) (by omega)).mp c_187
              refine z_iload C dX5_pairs_190 (pc' := 192) rfl rfl ?_
              refine z_aload_n C dX5_pairs_192 (pc' := 193) rfl rfl rfl ?_
              refine z_get C hK (by decide) kR_0 rfl inAX5 (k := 8) (by decide) aw_460 rfl dX5_pairs_193 (pc' := 196) rfl ?_
              refine z_iconst C dX5_pairs_196 (pc' := 197) rfl (v := 0) (by decide) ?_
              refine z_iald C hK (by decide) kR_5 (t0 := 0) rfl (j := 0) rfl (by decide) (by decide) rfl dX5_pairs_197 (pc' := 198) rfl ?_
              refine z_icmp_gt (tgt := 287) C dX5_pairs_198 (pc' := 201) (by decide) rfl (fun c_198 => ?_) (fun c_198 => ?_)
              ·
                refine z_iinc (L' := [.ref _, .int _, .int _, .int _, .int _, .int _, .int _, .int _]) C dX5_pairs_287 (pc' := 290) rfl rfl (iinc1 _) (by decide) (Nat.le_of_ble_eq_true rfl) rfl ?_
                refine z_goto C dX5_pairs_290 (pc' := 115) (by decide) ?_
                exact z_back 6 (ih115 (k + 1) (by omega) (by omega)) (by first | (rw [rsL, rst, if_neg]; (try rfl); exact (fun h => n_187 h.1)) | (rw [rsL, rst, if_neg]; (try rfl); exact (fun h => i32_nle c_198 h.2.1)) | (rw [rsL, rst, if_pos]; (try rfl); exact ⟨n_187, i32_nlt c_198, Or.inl c_216⟩) | (rw [rsL, rst, if_neg]; (try rfl); exact (fun h => h.2.2.elim c_216 (fun q => c_234 q.1))) | (rw [rsL, rst, if_neg]; (try rfl); exact (fun h => h.2.2.elim c_216 (fun q => i32_nle q.2 c_253))) | (rw [rsL, rst, if_pos]; (try rfl); exact ⟨n_187, i32_nlt c_198, Or.inr ⟨c_234, i32_nle2 c_253⟩⟩)) rfl
              ·
                refine z_aload_n C dX5_pairs_201 (pc' := 202) rfl rfl rfl ?_
                refine z_get C hK (by decide) kR_0 rfl inAX5 (k := 12) (by decide) aw_464 rfl dX5_pairs_202 (pc' := 205) rfl ?_
                refine z_iload C dX5_pairs_205 (pc' := 207) rfl rfl ?_
                refine z_iald C hK (by decide) kR_8 (t0 := 0) rfl (j := ((rsF n (g + 1)) - 2 ^ k)) (pk_sub (bit_le n_187)) (Nat.lt_of_le_of_lt (Nat.sub_le _ _) (by omega)) (by decide) rfl dX5_pairs_207 (pc' := 208) rfl ?_
                refine z_iconst C dX5_pairs_208 (pc' := 209) rfl (v := 1) (by decide) ?_
                refine z_iadd C dX5_pairs_209 (pc' := 210) rfl rfl ?_
                refine z_aload_n C dX5_pairs_210 (pc' := 211) rfl rfl rfl ?_
                refine z_get C hK (by decide) kR_0 rfl inAX5 (k := 12) (by decide) aw_464 rfl dX5_pairs_211 (pc' := 214) rfl ?_
                refine z_iload_n C dX5_pairs_214 (pc' := 215) rfl rfl rfl ?_
                refine z_iald C hK (by decide) kR_8 (t0 := 0) rfl (j := (g + 1)) rfl (by omega) (by decide) rfl dX5_pairs_215 (pc' := 216) rfl ?_
                refine z_icmp_gt (tgt := 256) C dX5_pairs_216 (pc' := 219) (by decide) rfl (fun c_216 => ?_) (fun c_216 => ?_)
                ·
                  refine z_aload_n C dX5_pairs_256 (pc' := 257) rfl rfl rfl ?_
                  refine z_get C hK (by decide) kR_0 rfl inAX5 (k := 12) (by decide) aw_464 rfl dX5_pairs_257 (pc' := 260) rfl ?_
                  refine z_iload_n C dX5_pairs_260 (pc' := 261) rfl rfl rfl ?_
                  refine z_aload_n C dX5_pairs_261 (pc' := 262) rfl rfl rfl ?_
                  refine z_get C hK (by decide) kR_0 rfl inAX5 (k := 12) (by decide) aw_464 rfl dX5_pairs_262 (pc' := 265) rfl ?_
                  refine z_iload C dX5_pairs_265 (pc' := 267) rfl rfl ?_
                  refine z_iald C hK (by decide) kR_8 (t0 := 0) rfl (j := ((rsF n (g + 1)) - 2 ^ k)) (pk_sub (bit_le n_187)) (Nat.lt_of_le_of_lt (Nat.sub_le _ _) (by omega)) (by decide) rfl dX5_pairs_267 (pc' := 268) rfl ?_
                  refine z_iconst C dX5_pairs_268 (pc' := 269) rfl (v := 1) (by decide) ?_
                  refine z_iadd C dX5_pairs_269 (pc' := 270) rfl rfl ?_
                  refine z_iast C hK hI AdS_in (by decide) kR_8 sR_a8 oR_a8 (t0 := 0) rfl (j := (g + 1)) rfl (by omega) (by decide) dX5_pairs_270 (pc' := 271) rfl ?_
                  refine z_aload_n C dX5_pairs_271 (pc' := 272) rfl rfl rfl ?_
                  refine z_get C hK (by decide) kR_0 rfl inAX5 (k := 13) (by decide) aw_465 rfl dX5_pairs_272 (pc' := 275) rfl ?_
                  refine z_iload_n C dX5_pairs_275 (pc' := 276) rfl rfl rfl ?_
                  refine z_aload_n C dX5_pairs_276 (pc' := 277) rfl rfl rfl ?_
                  refine z_get C hK (by decide) kR_0 rfl inAX5 (k := 13) (by decide) aw_465 rfl dX5_pairs_277 (pc' := 280) rfl ?_
                  refine z_iload C dX5_pairs_280 (pc' := 282) rfl rfl ?_
                  refine z_iald C hK (by decide) kR_9 (t0 := 0) rfl (j := ((rsF n (g + 1)) - 2 ^ k)) (pk_sub (bit_le n_187)) (Nat.lt_of_le_of_lt (Nat.sub_le _ _) (by omega)) (by decide) rfl dX5_pairs_282 (pc' := 283) rfl ?_
                  refine z_iload C dX5_pairs_283 (pc' := 285) rfl rfl ?_
                  refine z_iadd C dX5_pairs_285 (pc' := 286) rfl rfl ?_
                  refine z_iast C hK hI AdS_in (by decide) kR_9 sR_a9 oR_a9 (t0 := 0) rfl (j := (g + 1)) rfl (by omega) (by decide) dX5_pairs_286 (pc' := 287) rfl ?_
                  refine z_iinc (L' := [.ref _, .int _, .int _, .int _, .int _, .int _, .int _, .int _]) C dX5_pairs_287 (pc' := 290) rfl rfl (iinc1 _) (by decide) (Nat.le_of_ble_eq_true rfl) rfl ?_
                  refine z_goto C dX5_pairs_290 (pc' := 115) (by decide) ?_
                  exact z_back 6 (ih115 (k + 1) (by omega) (by omega)) (by first | (rw [rsL, rst, if_neg]; (try rfl); exact (fun h => n_187 h.1)) | (rw [rsL, rst, if_neg]; (try rfl); exact (fun h => i32_nle c_198 h.2.1)) | (rw [rsL, rst, if_pos]; (try rfl); exact ⟨n_187, i32_nlt c_198, Or.inl c_216⟩) | (rw [rsL, rst, if_neg]; (try rfl); exact (fun h => h.2.2.elim c_216 (fun q => c_234 q.1))) | (rw [rsL, rst, if_neg]; (try rfl); exact (fun h => h.2.2.elim c_216 (fun q => i32_nle q.2 c_253))) | (rw [rsL, rst, if_pos]; (try rfl); exact ⟨n_187, i32_nlt c_198, Or.inr ⟨c_234, i32_nle2 c_253⟩⟩)) rfl
                ·
                  refine z_aload_n C dX5_pairs_219 (pc' := 220) rfl rfl rfl ?_
                  refine z_get C hK (by decide) kR_0 rfl inAX5 (k := 12) (by decide) aw_464 rfl dX5_pairs_220 (pc' := 223) rfl ?_
                  refine z_iload C dX5_pairs_223 (pc' := 225) rfl rfl ?_
                  refine z_iald C hK (by decide) kR_8 (t0 := 0) rfl (j := ((rsF n (g + 1)) - 2 ^ k)) (pk_sub (bit_le n_187)) (Nat.lt_of_le_of_lt (Nat.sub_le _ _) (by omega)) (by decide) rfl dX5_pairs_225 (pc' := 226) rfl ?_
                  refine z_iconst C dX5_pairs_226 (pc' := 227) rfl (v := 1) (by decide) ?_
                  refine z_iadd C dX5_pairs_227 (pc' := 228) rfl rfl ?_
                  refine z_aload_n C dX5_pairs_228 (pc' := 229) rfl rfl rfl ?_
                  refine z_get C hK (by decide) kR_0 rfl inAX5 (k := 12) (by decide) aw_464 rfl dX5_pairs_229 (pc' := 232) rfl ?_
                  refine z_iload_n C dX5_pairs_232 (pc' := 233) rfl rfl rfl ?_
                  refine z_iald C hK (by decide) kR_8 (t0 := 0) rfl (j := (g + 1)) rfl (by omega) (by decide) rfl dX5_pairs_233 (pc' := 234) rfl ?_
                  refine z_icmp_ne (tgt := 287) C dX5_pairs_234 (pc' := 237) (by decide) rfl (fun c_234 => ?_) (fun c_234 => ?_)
                  ·
                    refine z_iinc (L' := [.ref _, .int _, .int _, .int _, .int _, .int _, .int _, .int _]) C dX5_pairs_287 (pc' := 290) rfl rfl (iinc1 _) (by decide) (Nat.le_of_ble_eq_true rfl) rfl ?_
                    refine z_goto C dX5_pairs_290 (pc' := 115) (by decide) ?_
                    exact z_back 6 (ih115 (k + 1) (by omega) (by omega)) (by first | (rw [rsL, rst, if_neg]; (try rfl); exact (fun h => n_187 h.1)) | (rw [rsL, rst, if_neg]; (try rfl); exact (fun h => i32_nle c_198 h.2.1)) | (rw [rsL, rst, if_pos]; (try rfl); exact ⟨n_187, i32_nlt c_198, Or.inl c_216⟩) | (rw [rsL, rst, if_neg]; (try rfl); exact (fun h => h.2.2.elim c_216 (fun q => c_234 q.1))) | (rw [rsL, rst, if_neg]; (try rfl); exact (fun h => h.2.2.elim c_216 (fun q => i32_nle q.2 c_253))) | (rw [rsL, rst, if_pos]; (try rfl); exact ⟨n_187, i32_nlt c_198, Or.inr ⟨c_234, i32_nle2 c_253⟩⟩)) rfl
                  ·
                    refine z_aload_n C dX5_pairs_237 (pc' := 238) rfl rfl rfl ?_
                    refine z_get C hK (by decide) kR_0 rfl inAX5 (k := 13) (by decide) aw_465 rfl dX5_pairs_238 (pc' := 241) rfl ?_
                    refine z_iload C dX5_pairs_241 (pc' := 243) rfl rfl ?_
                    refine z_iald C hK (by decide) kR_9 (t0 := 0) rfl (j := ((rsF n (g + 1)) - 2 ^ k)) (pk_sub (bit_le n_187)) (Nat.lt_of_le_of_lt (Nat.sub_le _ _) (by omega)) (by decide) rfl dX5_pairs_243 (pc' := 244) rfl ?_
                    refine z_iload C dX5_pairs_244 (pc' := 246) rfl rfl ?_
                    refine z_iadd C dX5_pairs_246 (pc' := 247) rfl rfl ?_
                    refine z_aload_n C dX5_pairs_247 (pc' := 248) rfl rfl rfl ?_
                    refine z_get C hK (by decide) kR_0 rfl inAX5 (k := 13) (by decide) aw_465 rfl dX5_pairs_248 (pc' := 251) rfl ?_
                    refine z_iload_n C dX5_pairs_251 (pc' := 252) rfl rfl rfl ?_
                    refine z_iald C hK (by decide) kR_9 (t0 := 0) rfl (j := (g + 1)) rfl (by omega) (by decide) rfl dX5_pairs_252 (pc' := 253) rfl ?_
                    refine z_icmp_ge (tgt := 287) C dX5_pairs_253 (pc' := 256) (by decide) rfl (fun c_253 => ?_) (fun c_253 => ?_)
                    ·
                      refine z_iinc (L' := [.ref _, .int _, .int _, .int _, .int _, .int _, .int _, .int _]) C dX5_pairs_287 (pc' := 290) rfl rfl (iinc1 _) (by decide) (Nat.le_of_ble_eq_true rfl) rfl ?_
                      refine z_goto C dX5_pairs_290 (pc' := 115) (by decide) ?_
                      exact z_back 6 (ih115 (k + 1) (by omega) (by omega)) (by first | (rw [rsL, rst, if_neg]; (try rfl); exact (fun h => n_187 h.1)) | (rw [rsL, rst, if_neg]; (try rfl); exact (fun h => i32_nle c_198 h.2.1)) | (rw [rsL, rst, if_pos]; (try rfl); exact ⟨n_187, i32_nlt c_198, Or.inl c_216⟩) | (rw [rsL, rst, if_neg]; (try rfl); exact (fun h => h.2.2.elim c_216 (fun q => c_234 q.1))) | (rw [rsL, rst, if_neg]; (try rfl); exact (fun h => h.2.2.elim c_216 (fun q => i32_nle q.2 c_253))) | (rw [rsL, rst, if_pos]; (try rfl); exact ⟨n_187, i32_nlt c_198, Or.inr ⟨c_234, i32_nle2 c_253⟩⟩)) rfl
                    ·
                      refine z_aload_n C dX5_pairs_256 (pc' := 257) rfl rfl rfl ?_
                      refine z_get C hK (by decide) kR_0 rfl inAX5 (k := 12) (by decide) aw_464 rfl dX5_pairs_257 (pc' := 260) rfl ?_
                      refine z_iload_n C dX5_pairs_260 (pc' := 261) rfl rfl rfl ?_
                      refine z_aload_n C dX5_pairs_261 (pc' := 262) rfl rfl rfl ?_
                      refine z_get C hK (by decide) kR_0 rfl inAX5 (k := 12) (by decide) aw_464 rfl dX5_pairs_262 (pc' := 265) rfl ?_
                      refine z_iload C dX5_pairs_265 (pc' := 267) rfl rfl ?_
                      refine z_iald C hK (by decide) kR_8 (t0 := 0) rfl (j := ((rsF n (g + 1)) - 2 ^ k)) (pk_sub (bit_le n_187)) (Nat.lt_of_le_of_lt (Nat.sub_le _ _) (by omega)) (by decide) rfl dX5_pairs_267 (pc' := 268) rfl ?_
                      refine z_iconst C dX5_pairs_268 (pc' := 269) rfl (v := 1) (by decide) ?_
                      refine z_iadd C dX5_pairs_269 (pc' := 270) rfl rfl ?_
                      refine z_iast C hK hI AdS_in (by decide) kR_8 sR_a8 oR_a8 (t0 := 0) rfl (j := (g + 1)) rfl (by omega) (by decide) dX5_pairs_270 (pc' := 271) rfl ?_
                      refine z_aload_n C dX5_pairs_271 (pc' := 272) rfl rfl rfl ?_
                      refine z_get C hK (by decide) kR_0 rfl inAX5 (k := 13) (by decide) aw_465 rfl dX5_pairs_272 (pc' := 275) rfl ?_
                      refine z_iload_n C dX5_pairs_275 (pc' := 276) rfl rfl rfl ?_
                      refine z_aload_n C dX5_pairs_276 (pc' := 277) rfl rfl rfl ?_
                      refine z_get C hK (by decide) kR_0 rfl inAX5 (k := 13) (by decide) aw_465 rfl dX5_pairs_277 (pc' := 280) rfl ?_
                      refine z_iload C dX5_pairs_280 (pc' := 282) rfl rfl ?_
                      refine z_iald C hK (by decide) kR_9 (t0 := 0) rfl (j := ((rsF n (g + 1)) - 2 ^ k)) (pk_sub (bit_le n_187)) (Nat.lt_of_le_of_lt (Nat.sub_le _ _) (by omega)) (by decide) rfl dX5_pairs_282 (pc' := 283) rfl ?_
                      refine z_iload C dX5_pairs_283 (pc' := 285) rfl rfl ?_
                      refine z_iadd C dX5_pairs_285 (pc' := 286) rfl rfl ?_
                      refine z_iast C hK hI AdS_in (by decide) kR_9 sR_a9 oR_a9 (t0 := 0) rfl (j := (g + 1)) rfl (by omega) (by decide) dX5_pairs_286 (pc' := 287) rfl ?_
                      refine z_iinc (L' := [.ref _, .int _, .int _, .int _, .int _, .int _, .int _, .int _]) C dX5_pairs_287 (pc' := 290) rfl rfl (iinc1 _) (by decide) (Nat.le_of_ble_eq_true rfl) rfl ?_
                      refine z_goto C dX5_pairs_290 (pc' := 115) (by decide) ?_
                      exact z_back 6 (ih115 (k + 1) (by omega) (by omega)) (by first | (rw [rsL, rst, if_neg]; (try rfl); exact (fun h => n_187 h.1)) | (rw [rsL, rst, if_neg]; (try rfl); exact (fun h => i32_nle c_198 h.2.1)) | (rw [rsL, rst, if_pos]; (try rfl); exact ⟨n_187, i32_nlt c_198, Or.inl c_216⟩) | (rw [rsL, rst, if_neg]; (try rfl); exact (fun h => h.2.2.elim c_216 (fun q => c_234 q.1))) | (rw [rsL, rst, if_neg]; (try rfl); exact (fun h => h.2.2.elim c_216 (fun q => i32_nle q.2 c_253))) | (rw [rsL, rst, if_pos]; (try rfl); exact ⟨n_187, i32_nlt c_198, Or.inr ⟨c_234, i32_nle2 c_253⟩⟩)) rfl
          · intro hj_168
            refine z_icmp_ge (tgt := 154) C dX5_pairs_134 (pc' := 137) (by decide) rfl (fun c_134 => ?_) (fun c_134 => ?_)
            ·
              refine z_aload_n C dX5_pairs_154 (pc' := 155) rfl rfl rfl ?_
              refine z_get C hK (by decide) kR_0 rfl inAX5 (k := 11) (by decide) aw_463 rfl dX5_pairs_155 (pc' := 158) rfl ?_
              refine z_iload C dX5_pairs_158 (pc' := 160) rfl rfl ?_
              refine z_iald C hK (by decide) kR_7 (t0 := 0) rfl (j := k) rfl (by omega) (by decide) rfl dX5_pairs_160 (pc' := 161) rfl ?_
              refine z_aload_n C dX5_pairs_161 (pc' := 162) rfl rfl rfl ?_
              refine z_get C hK (by decide) kR_0 rfl inAX5 (k := 11) (by decide) aw_463 rfl dX5_pairs_162 (pc' := 165) rfl ?_
              refine z_iload_n C dX5_pairs_165 (pc' := 166) rfl rfl rfl ?_
              refine z_iald C hK (by decide) kR_7 (t0 := 0) rfl (j := (lastF (g + 1) n)) rfl (by omega) (by decide) rfl dX5_pairs_166 (pc' := 167) rfl ?_
              refine z_isub C dX5_pairs_167 (pc' := 168) rfl rfl ?_
              exact hj_168 _ (by first | exact (if_pos c_134).symm | exact (if_neg c_134).symm)
            ·
              refine z_aload_n C dX5_pairs_137 (pc' := 138) rfl rfl rfl ?_
              refine z_get C hK (by decide) kR_0 rfl inAX5 (k := 11) (by decide) aw_463 rfl dX5_pairs_138 (pc' := 141) rfl ?_
              refine z_iload_n C dX5_pairs_141 (pc' := 142) rfl rfl rfl ?_
              refine z_iald C hK (by decide) kR_7 (t0 := 0) rfl (j := (lastF (g + 1) n)) rfl (by omega) (by decide) rfl dX5_pairs_142 (pc' := 143) rfl ?_
              refine z_aload_n C dX5_pairs_143 (pc' := 144) rfl rfl rfl ?_
              refine z_get C hK (by decide) kR_0 rfl inAX5 (k := 11) (by decide) aw_463 rfl dX5_pairs_144 (pc' := 147) rfl ?_
              refine z_iload C dX5_pairs_147 (pc' := 149) rfl rfl ?_
              refine z_iald C hK (by decide) kR_7 (t0 := 0) rfl (j := k) rfl (by omega) (by decide) rfl dX5_pairs_149 (pc' := 150) rfl ?_
              refine z_isub C dX5_pairs_150 (pc' := 151) rfl rfl ?_
              refine z_goto C dX5_pairs_151 (pc' := 168) (by decide) ?_
              exact hj_168 _ (by first | exact (if_pos c_134).symm | exact (if_neg c_134).symm)
      ·
        have n_53 : k < n := lt_of_nle (N := n) (k := k) c_53 (by omega) (by omega)
        refine z_iload_n C dX5_pairs_56 (pc' := 57) rfl rfl rfl ?_
        refine z_iload C dX5_pairs_57 (pc' := 59) rfl rfl ?_
        refine z_ishr C dX5_pairs_59 (pc' := 60) rfl (z := nI ((g + 1) / 2 ^ k)) (shrK (by omega) (by omega)) ?_
        refine z_iconst C dX5_pairs_60 (pc' := 61) rfl (v := 1) (by decide) ?_
        refine z_iand C dX5_pairs_61 (pc' := 62) rfl (z := nI ((g + 1) / 2 ^ k % 2)) (and1 (div_lt31 (by omega))) ?_
        refine z_iconst C dX5_pairs_62 (pc' := 63) rfl (v := 1) (by decide) ?_
        refine z_ternE (J := 72) (nI (lastF (g + 1) (k + 1))) 2 ?_ ?_
        ·
          try dsimp only [List.drop]
          refine z_istore_n (L' := [.ref _, .int _, .int _, .int _, .int _]) C dX5_pairs_72 (pc' := 73) rfl rfl (by decide) (Nat.le_of_ble_eq_true rfl) rfl ?_
          refine z_iinc (L' := [.ref _, .int _, .int _, .int _, .int _]) C dX5_pairs_73 (pc' := 76) rfl rfl (iinc1 _) (by decide) (Nat.le_of_ble_eq_true rfl) rfl ?_
          refine z_goto C dX5_pairs_76 (pc' := 47) (by decide) ?_
          exact z_back 5 (ih47 (k + 1) (by omega) (by omega)) rfl rfl
        · intro hj_72
          refine z_icmp_ne (tgt := 71) C dX5_pairs_63 (pc' := 66) (by decide) rfl (fun c_63 => ?_) (fun c_63 => ?_)
          ·
            have n_63 : ¬ ((g + 1) / 2 ^ k % 2) = 1 := fun z9 => c_63 ((nI_eq (a := ((g + 1) / 2 ^ k % 2)) (b := 1) (by omega) (by omega)).mpr z9)
            refine z_iload_n C dX5_pairs_71 (pc' := 72) rfl rfl rfl ?_
            exact hj_72 _ (by simp [lastF, n_63])
          ·
            have n_63 : ((g + 1) / 2 ^ k % 2) = 1 := (nI_eq (a := ((g + 1) / 2 ^ k % 2)) (b := 1) (by omega) (by omega)).mp c_63
            refine z_iload C dX5_pairs_66 (pc' := 68) rfl rfl ?_
            refine z_goto C dX5_pairs_68 (pc' := 72) (by decide) ?_
            exact hj_72 _ (by simp [lastF, n_63])
  ·
    refine z_if_ne (tgt := 16) C dX5_pairs_11 (pc' := 14) (by decide) rfl (fun q => absurd q (by decide)) (fun _ => ?_)
    refine z_iconst C dX5_pairs_14 (pc' := 15) rfl (v := (-1)) (by decide) ?_
    exact z_iret C hM dX5_pairs_15 (Or.inl ⟨by assumption, rfl, rfl⟩)
end
