section
-- ===== PART A: goes FIRST, ahead of the names: the tables' words, and 'selects' of the private methods out of them =====
/-- a private method of a class that the tables say can be made, by its rows of tables_1 -/
def lw_okq (q : MethodName × Nat) : Prop := (q.1.cls ≠ "java/lang/invoke/MethodHandle" ∧ q.1.cls ≠ "java/lang/invoke/VarHandle") ∧ Cond.instantiable q.1.cls q.2 ∈ tables_1 ∧ Cond.privateMethod q.1 ∈ tables_1 ∧ Cond.instanceMethod q.1 ∈ tables_1
theorem lw_p0 : lw_okq (⟨"WholeMarks", "marksNow", "()LWholeMarks$Marks;"⟩, 7) := ⟨⟨by decide +kernel, by decide +kernel⟩, List.mem_of_getElem? (i := 19) (by decide +kernel), List.mem_of_getElem? (i := 290) (by decide +kernel), List.mem_of_getElem? (i := 291) (by decide +kernel)⟩
theorem lw_p1 : lw_okq (⟨"WholeMarks$Tape", "readMeasures", "()Z"⟩, 6) := ⟨⟨by decide +kernel, by decide +kernel⟩, List.mem_of_getElem? (i := 130) (by decide +kernel), List.mem_of_getElem? (i := 433) (by decide +kernel), List.mem_of_getElem? (i := 434) (by decide +kernel)⟩
theorem lw_p2 : lw_okq (⟨"WholeMarks$Tape", "peek", "()I"⟩, 6) := ⟨⟨by decide +kernel, by decide +kernel⟩, List.mem_of_getElem? (i := 130) (by decide +kernel), List.mem_of_getElem? (i := 437) (by decide +kernel), List.mem_of_getElem? (i := 438) (by decide +kernel)⟩
theorem lw_p3 : lw_okq (⟨"WholeMarks$Tape", "readNumber", "()I"⟩, 6) := ⟨⟨by decide +kernel, by decide +kernel⟩, List.mem_of_getElem? (i := 130) (by decide +kernel), List.mem_of_getElem? (i := 442) (by decide +kernel), List.mem_of_getElem? (i := 443) (by decide +kernel)⟩
theorem lw_p4 : lw_okq (⟨"WholeMarks$Tape", "readCounting", "()Z"⟩, 6) := ⟨⟨by decide +kernel, by decide +kernel⟩, List.mem_of_getElem? (i := 130) (by decide +kernel), List.mem_of_getElem? (i := 452) (by decide +kernel), List.mem_of_getElem? (i := 453) (by decide +kernel)⟩
theorem lw_p5 : lw_okq (⟨"WholeMarks", "groupBolts", "(I)V"⟩, 7) := ⟨⟨by decide +kernel, by decide +kernel⟩, List.mem_of_getElem? (i := 19) (by decide +kernel), List.mem_of_getElem? (i := 494) (by decide +kernel), List.mem_of_getElem? (i := 495) (by decide +kernel)⟩
theorem lw_p6 : lw_okq (⟨"WholeMarks$Groups", "keepIfBetter", "(IJ)V"⟩, 9) := ⟨⟨by decide +kernel, by decide +kernel⟩, List.mem_of_getElem? (i := 178) (by decide +kernel), List.mem_of_getElem? (i := 520) (by decide +kernel), List.mem_of_getElem? (i := 521) (by decide +kernel)⟩
theorem lw_p7 : lw_okq (⟨"WholeMarks", "priceOf", "(LWholeMarks$Marks;I)J"⟩, 7) := ⟨⟨by decide +kernel, by decide +kernel⟩, List.mem_of_getElem? (i := 19) (by decide +kernel), List.mem_of_getElem? (i := 546) (by decide +kernel), List.mem_of_getElem? (i := 547) (by decide +kernel)⟩
theorem lw_p8 : lw_okq (⟨"WholeMarks", "groupBuyers", "(I)V"⟩, 7) := ⟨⟨by decide +kernel, by decide +kernel⟩, List.mem_of_getElem? (i := 19) (by decide +kernel), List.mem_of_getElem? (i := 559) (by decide +kernel), List.mem_of_getElem? (i := 560) (by decide +kernel)⟩
theorem lw_p9 : lw_okq (⟨"WholeMarks", "refusal", "(IIII)I"⟩, 7) := ⟨⟨by decide +kernel, by decide +kernel⟩, List.mem_of_getElem? (i := 19) (by decide +kernel), List.mem_of_getElem? (i := 648) (by decide +kernel), List.mem_of_getElem? (i := 649) (by decide +kernel)⟩
theorem lw_p10 : lw_okq (⟨"WholeMarks", "sheetOf", "(I)LWholeMarks$Sheet;"⟩, 7) := ⟨⟨by decide +kernel, by decide +kernel⟩, List.mem_of_getElem? (i := 19) (by decide +kernel), List.mem_of_getElem? (i := 652) (by decide +kernel), List.mem_of_getElem? (i := 653) (by decide +kernel)⟩
theorem lw_p11 : lw_okq (⟨"WholeMarksModel", "layNow", "()V"⟩, 19) := ⟨⟨by decide +kernel, by decide +kernel⟩, List.mem_of_getElem? (i := 719) (by decide +kernel), List.mem_of_getElem? (i := 809) (by decide +kernel), List.mem_of_getElem? (i := 810) (by decide +kernel)⟩
theorem lw_p12 : lw_okq (⟨"WholeMarksModel", "lay", "(III)V"⟩, 19) := ⟨⟨by decide +kernel, by decide +kernel⟩, List.mem_of_getElem? (i := 719) (by decide +kernel), List.mem_of_getElem? (i := 813) (by decide +kernel), List.mem_of_getElem? (i := 814) (by decide +kernel)⟩
theorem lw_p13 : lw_okq (⟨"WholeMarksModel", "manyUpTo", "(J)J"⟩, 19) := ⟨⟨by decide +kernel, by decide +kernel⟩, List.mem_of_getElem? (i := 719) (by decide +kernel), List.mem_of_getElem? (i := 823) (by decide +kernel), List.mem_of_getElem? (i := 824) (by decide +kernel)⟩
theorem lw_p14 : lw_okq (⟨"WholeMarksModel", "isBolt", "(I)Z"⟩, 19) := ⟨⟨by decide +kernel, by decide +kernel⟩, List.mem_of_getElem? (i := 719) (by decide +kernel), List.mem_of_getElem? (i := 842) (by decide +kernel), List.mem_of_getElem? (i := 843) (by decide +kernel)⟩
theorem lw_p15 : lw_okq (⟨"WholeMarksModel", "below", "(J)J"⟩, 19) := ⟨⟨by decide +kernel, by decide +kernel⟩, List.mem_of_getElem? (i := 719) (by decide +kernel), List.mem_of_getElem? (i := 846) (by decide +kernel), List.mem_of_getElem? (i := 847) (by decide +kernel)⟩
def lw_privs_1 : List (MethodName × Nat) := [(⟨"WholeMarks", "marksNow", "()LWholeMarks$Marks;"⟩, 7), (⟨"WholeMarks$Tape", "readMeasures", "()Z"⟩, 6), (⟨"WholeMarks$Tape", "peek", "()I"⟩, 6), (⟨"WholeMarks$Tape", "readNumber", "()I"⟩, 6), (⟨"WholeMarks$Tape", "readCounting", "()Z"⟩, 6), (⟨"WholeMarks", "groupBolts", "(I)V"⟩, 7), (⟨"WholeMarks$Groups", "keepIfBetter", "(IJ)V"⟩, 9), (⟨"WholeMarks", "priceOf", "(LWholeMarks$Marks;I)J"⟩, 7), (⟨"WholeMarks", "groupBuyers", "(I)V"⟩, 7), (⟨"WholeMarks", "refusal", "(IIII)I"⟩, 7), (⟨"WholeMarks", "sheetOf", "(I)LWholeMarks$Sheet;"⟩, 7), (⟨"WholeMarksModel", "layNow", "()V"⟩, 19), (⟨"WholeMarksModel", "lay", "(III)V"⟩, 19), (⟨"WholeMarksModel", "manyUpTo", "(J)J"⟩, 19), (⟨"WholeMarksModel", "isBolt", "(I)Z"⟩, 19), (⟨"WholeMarksModel", "below", "(J)J"⟩, 19)]
theorem lw_r1 : ∀ q ∈ lw_privs_1, lw_okq q := List.forall_mem_cons.mpr ⟨lw_p0, List.forall_mem_cons.mpr ⟨lw_p1, List.forall_mem_cons.mpr ⟨lw_p2, List.forall_mem_cons.mpr ⟨lw_p3, List.forall_mem_cons.mpr ⟨lw_p4, List.forall_mem_cons.mpr ⟨lw_p5, List.forall_mem_cons.mpr ⟨lw_p6, List.forall_mem_cons.mpr ⟨lw_p7, List.forall_mem_cons.mpr ⟨lw_p8, List.forall_mem_cons.mpr ⟨lw_p9, List.forall_mem_cons.mpr ⟨lw_p10, List.forall_mem_cons.mpr ⟨lw_p11, List.forall_mem_cons.mpr ⟨lw_p12, List.forall_mem_cons.mpr ⟨lw_p13, List.forall_mem_cons.mpr ⟨lw_p14, List.forall_mem_cons.mpr ⟨lw_p15, fun _ h => absurd h List.not_mem_nil⟩⟩⟩⟩⟩⟩⟩⟩⟩⟩⟩⟩⟩⟩⟩⟩
theorem lw_p16 : lw_okq (⟨"WholeMarksModel", "seamOf", "(I)I"⟩, 19) := ⟨⟨by decide +kernel, by decide +kernel⟩, List.mem_of_getElem? (i := 719) (by decide +kernel), List.mem_of_getElem? (i := 861) (by decide +kernel), List.mem_of_getElem? (i := 862) (by decide +kernel)⟩
theorem lw_p17 : lw_okq (⟨"WholeMarksModel", "faultOf", "()I"⟩, 19) := ⟨⟨by decide +kernel, by decide +kernel⟩, List.mem_of_getElem? (i := 719) (by decide +kernel), List.mem_of_getElem? (i := 878) (by decide +kernel), List.mem_of_getElem? (i := 879) (by decide +kernel)⟩
theorem lw_p18 : lw_okq (⟨"WholeMarksModel", "ahead", "()I"⟩, 19) := ⟨⟨by decide +kernel, by decide +kernel⟩, List.mem_of_getElem? (i := 719) (by decide +kernel), List.mem_of_getElem? (i := 882) (by decide +kernel), List.mem_of_getElem? (i := 883) (by decide +kernel)⟩
theorem lw_p19 : lw_okq (⟨"WholeMarksModel", "sumOf", "(II)I"⟩, 19) := ⟨⟨by decide +kernel, by decide +kernel⟩, List.mem_of_getElem? (i := 719) (by decide +kernel), List.mem_of_getElem? (i := 904) (by decide +kernel), List.mem_of_getElem? (i := 905) (by decide +kernel)⟩
theorem lw_p20 : lw_okq (⟨"WholeMarksModel", "wasteOf", "()I"⟩, 19) := ⟨⟨by decide +kernel, by decide +kernel⟩, List.mem_of_getElem? (i := 719) (by decide +kernel), List.mem_of_getElem? (i := 908) (by decide +kernel), List.mem_of_getElem? (i := 909) (by decide +kernel)⟩
theorem lw_p21 : lw_okq (⟨"WholeMarksModel", "begin", "()V"⟩, 19) := ⟨⟨by decide +kernel, by decide +kernel⟩, List.mem_of_getElem? (i := 719) (by decide +kernel), List.mem_of_getElem? (i := 916) (by decide +kernel), List.mem_of_getElem? (i := 917) (by decide +kernel)⟩
theorem lw_p22 : lw_okq (⟨"WholeMarksModel", "groupsOf", "(I)I"⟩, 19) := ⟨⟨by decide +kernel, by decide +kernel⟩, List.mem_of_getElem? (i := 719) (by decide +kernel), List.mem_of_getElem? (i := 920) (by decide +kernel), List.mem_of_getElem? (i := 921) (by decide +kernel)⟩
theorem lw_p23 : lw_okq (⟨"WholeMarksModel", "take", "(II)V"⟩, 19) := ⟨⟨by decide +kernel, by decide +kernel⟩, List.mem_of_getElem? (i := 719) (by decide +kernel), List.mem_of_getElem? (i := 924) (by decide +kernel), List.mem_of_getElem? (i := 925) (by decide +kernel)⟩
theorem lw_p24 : lw_okq (⟨"WholeMarksModel", "goesOn", "(I)Z"⟩, 19) := ⟨⟨by decide +kernel, by decide +kernel⟩, List.mem_of_getElem? (i := 719) (by decide +kernel), List.mem_of_getElem? (i := 928) (by decide +kernel), List.mem_of_getElem? (i := 929) (by decide +kernel)⟩
theorem lw_p25 : lw_okq (⟨"WholeMarksModel", "priceOf", "(I)J"⟩, 19) := ⟨⟨by decide +kernel, by decide +kernel⟩, List.mem_of_getElem? (i := 719) (by decide +kernel), List.mem_of_getElem? (i := 945) (by decide +kernel), List.mem_of_getElem? (i := 946) (by decide +kernel)⟩
theorem lw_p26 : lw_okq (⟨"WholeMarksModel", "above", "(J)J"⟩, 19) := ⟨⟨by decide +kernel, by decide +kernel⟩, List.mem_of_getElem? (i := 719) (by decide +kernel), List.mem_of_getElem? (i := 949) (by decide +kernel), List.mem_of_getElem? (i := 950) (by decide +kernel)⟩
theorem lw_p27 : lw_okq (⟨"WholeMarksModel", "gains", "(I)Z"⟩, 19) := ⟨⟨by decide +kernel, by decide +kernel⟩, List.mem_of_getElem? (i := 719) (by decide +kernel), List.mem_of_getElem? (i := 982) (by decide +kernel), List.mem_of_getElem? (i := 983) (by decide +kernel)⟩
theorem lw_p28 : lw_okq (⟨"WholeMarksModel", "bars", "(IIII)I"⟩, 19) := ⟨⟨by decide +kernel, by decide +kernel⟩, List.mem_of_getElem? (i := 719) (by decide +kernel), List.mem_of_getElem? (i := 1005) (by decide +kernel), List.mem_of_getElem? (i := 1006) (by decide +kernel)⟩
def lw_privs_2 : List (MethodName × Nat) := [(⟨"WholeMarksModel", "seamOf", "(I)I"⟩, 19), (⟨"WholeMarksModel", "faultOf", "()I"⟩, 19), (⟨"WholeMarksModel", "ahead", "()I"⟩, 19), (⟨"WholeMarksModel", "sumOf", "(II)I"⟩, 19), (⟨"WholeMarksModel", "wasteOf", "()I"⟩, 19), (⟨"WholeMarksModel", "begin", "()V"⟩, 19), (⟨"WholeMarksModel", "groupsOf", "(I)I"⟩, 19), (⟨"WholeMarksModel", "take", "(II)V"⟩, 19), (⟨"WholeMarksModel", "goesOn", "(I)Z"⟩, 19), (⟨"WholeMarksModel", "priceOf", "(I)J"⟩, 19), (⟨"WholeMarksModel", "above", "(J)J"⟩, 19), (⟨"WholeMarksModel", "gains", "(I)Z"⟩, 19), (⟨"WholeMarksModel", "bars", "(IIII)I"⟩, 19)]
theorem lw_r2 : ∀ q ∈ lw_privs_2, lw_okq q := List.forall_mem_cons.mpr ⟨lw_p16, List.forall_mem_cons.mpr ⟨lw_p17, List.forall_mem_cons.mpr ⟨lw_p18, List.forall_mem_cons.mpr ⟨lw_p19, List.forall_mem_cons.mpr ⟨lw_p20, List.forall_mem_cons.mpr ⟨lw_p21, List.forall_mem_cons.mpr ⟨lw_p22, List.forall_mem_cons.mpr ⟨lw_p23, List.forall_mem_cons.mpr ⟨lw_p24, List.forall_mem_cons.mpr ⟨lw_p25, List.forall_mem_cons.mpr ⟨lw_p26, List.forall_mem_cons.mpr ⟨lw_p27, List.forall_mem_cons.mpr ⟨lw_p28, fun _ h => absurd h List.not_mem_nil⟩⟩⟩⟩⟩⟩⟩⟩⟩⟩⟩⟩⟩
def lw_privs : List (MethodName × Nat) := lw_privs_1 ++ (lw_privs_2)
def lw_tbl : List Cond := k2_sels lw_privs ++ tables_1
theorem lw_privs_ok : ∀ q ∈ lw_privs, lw_okq q := by
  show ∀ q ∈ lw_privs_1 ++ (lw_privs_2), lw_okq q
  exact List.forall_mem_append.mpr ⟨lw_r1, lw_r2⟩

def RX0 : String := "WholeMarks$Bolts"
def TX0 : u_T := fun k => match k with
  | 0 => ("WholeMarks$Bolts", "cloths", "[I", true)
  | 1 => ("WholeMarks$Bolts", "lengths", "[I", true)
  | 2 => ("WholeMarks$Bolts", "picked", "[I", true)
  | 3 => ("WholeMarks$Bolts", "held", "I", false)
  | 4 => ("WholeMarks$Bolts", "sold", "I", false)
  | _ => ("WholeMarks$Bolts", "seamInches", "I", false)
def tyX0 : Nat → FieldType := fun k => match k with
  | 0 => .array .int
  | 1 => .array .int
  | 2 => .array .int
  | 3 => .int
  | 4 => .int
  | _ => .int
abbrev wsX00 : List Cond := u_ws RX0 TX0 6
theorem nmX0 : ∀ a, a < 6 → ∀ b, b < 6 → a ≠ b → (TX0 a).2.1 ≠ (TX0 b).2.1 := by decide +kernel
theorem tyX0_ok : ∀ k, k < 6 → parseFieldDescriptor (TX0 k).2.2.1 = some (tyX0 k) := by decide +kernel
abbrev cX0_init : ByteArray := prog_2_method_1_code
def yX0_init : MethodName := ⟨RX0, "<init>", "()V"⟩
abbrev cX0_becomeLike : ByteArray := prog_2_method_2_code
def yX0_becomeLike : MethodName := ⟨RX0, "becomeLike", "(LWholeMarks$Bolts;)V"⟩
abbrev cX0_has : ByteArray := prog_2_method_3_code
def yX0_has : MethodName := ⟨RX0, "has", "(I)Z"⟩
abbrev cX0_add : ByteArray := prog_2_method_4_code
def yX0_add : MethodName := ⟨RX0, "add", "(II)I"⟩
abbrev cX0_inches : ByteArray := prog_2_method_5_code
def yX0_inches : MethodName := ⟨RX0, "inches", "()I"⟩
abbrev cX0_waste : ByteArray := prog_2_method_6_code
def yX0_waste : MethodName := ⟨RX0, "waste", "(LWholeMarks$Marks;)I"⟩
abbrev cX0_sell : ByteArray := prog_2_method_7_code
def yX0_sell : MethodName := ⟨RX0, "sell", "(II)I"⟩
abbrev cX0_canBeSewn : ByteArray := prog_2_method_8_code
def yX0_canBeSewn : MethodName := ⟨RX0, "canBeSewn", "(II)Z"⟩
abbrev cX0_sew : ByteArray := prog_2_method_9_code
def yX0_sew : MethodName := ⟨RX0, "sew", "(III)V"⟩
abbrev cX0_pick : ByteArray := prog_2_method_10_code
def yX0_pick : MethodName := ⟨RX0, "pick", "(I)I"⟩
abbrev cX0_lengthOfPicked : ByteArray := prog_2_method_11_code
def yX0_lengthOfPicked : MethodName := ⟨RX0, "lengthOfPicked", "(II)I"⟩
abbrev cX0_lengthOfAll : ByteArray := prog_2_method_12_code
def yX0_lengthOfAll : MethodName := ⟨RX0, "lengthOfAll", "(II)I"⟩
abbrev cX0_clothOf : ByteArray := prog_2_method_13_code
def yX0_clothOf : MethodName := ⟨RX0, "clothOf", "(I)LWholeMarks$Cloth;"⟩
def RX1 : String := "WholeMarks$Buyers"
def TX1 : u_T := fun k => match k with
  | 0 => ("WholeMarks$Buyers", "wanted", "[I", true)
  | _ => ("WholeMarks$Buyers", "held", "I", false)
def tyX1 : Nat → FieldType := fun k => match k with
  | 0 => .array .int
  | _ => .int
abbrev wsX10 : List Cond := u_ws RX1 TX1 2
theorem nmX1 : ∀ a, a < 2 → ∀ b, b < 2 → a ≠ b → (TX1 a).2.1 ≠ (TX1 b).2.1 := by decide +kernel
theorem tyX1_ok : ∀ k, k < 2 → parseFieldDescriptor (TX1 k).2.2.1 = some (tyX1 k) := by decide +kernel
abbrev cX1_init : ByteArray := prog_3_method_1_code
def yX1_init : MethodName := ⟨RX1, "<init>", "()V"⟩
abbrev cX1_becomeLike : ByteArray := prog_3_method_2_code
def yX1_becomeLike : MethodName := ⟨RX1, "becomeLike", "(LWholeMarks$Buyers;)V"⟩
abbrev cX1_add : ByteArray := prog_3_method_3_code
def yX1_add : MethodName := ⟨RX1, "add", "(I)I"⟩
abbrev cX1_everyone : ByteArray := prog_3_method_4_code
def yX1_everyone : MethodName := ⟨RX1, "everyone", "()I"⟩
abbrev cX1_wantedBy : ByteArray := prog_3_method_5_code
def yX1_wantedBy : MethodName := ⟨RX1, "wantedBy", "(I)I"⟩
def RX2 : String := "WholeMarks$Cloth"
def TX2 : u_T := fun k => match k with
  | _ => ("", "", "", false)
def tyX2 : Nat → FieldType := fun k => match k with
  | _ => .int
abbrev wsX20 : List Cond := u_ws RX2 TX2 0
def RX3 : String := "WholeMarks$Coins"
def TX3 : u_T := fun k => match k with
  | 0 => ("WholeMarks$Coins", "above", "[I", true)
  | _ => ("WholeMarks$Coins", "below", "[I", true)
def tyX3 : Nat → FieldType := fun k => match k with
  | 0 => .array .int
  | _ => .array .int
abbrev wsX30 : List Cond := u_ws RX3 TX3 2
theorem nmX3 : ∀ a, a < 2 → ∀ b, b < 2 → a ≠ b → (TX3 a).2.1 ≠ (TX3 b).2.1 := by decide +kernel
theorem tyX3_ok : ∀ k, k < 2 → parseFieldDescriptor (TX3 k).2.2.1 = some (tyX3 k) := by decide +kernel
abbrev cX3_init : ByteArray := prog_5_method_1_code
def yX3_init : MethodName := ⟨RX3, "<init>", "()V"⟩
abbrev cX3_becomeLike : ByteArray := prog_5_method_2_code
def yX3_becomeLike : MethodName := ⟨RX3, "becomeLike", "(LWholeMarks$Coins;)V"⟩
abbrev cX3_agree : ByteArray := prog_5_method_3_code
def yX3_agree : MethodName := ⟨RX3, "agree", "(IIII)I"⟩
abbrev cX3_digit : ByteArray := prog_5_method_4_code
def yX3_digit : MethodName := ⟨RX3, "digit", "(III)I"⟩
abbrev cX3_isRing : ByteArray := prog_5_method_5_code
def yX3_isRing : MethodName := ⟨RX3, "isRing", "(II)Z"⟩
abbrev cX3_gains : ByteArray := prog_5_method_6_code
def yX3_gains : MethodName := ⟨RX3, "gains", "(II)Z"⟩
abbrev cX3_named : ByteArray := prog_5_method_7_code
def yX3_named : MethodName := ⟨RX3, "named", "(II)I"⟩
abbrev cX3_changed : ByteArray := prog_5_method_8_code
def yX3_changed : MethodName := ⟨RX3, "changed", "(IIII)J"⟩
def RX4 : String := "WholeMarks$Groups"
def TX4 : u_T := fun k => match k with
  | 0 => ("WholeMarks$Groups", "worths", "[J", true)
  | 1 => ("WholeMarks$Groups", "members", "[I", true)
  | 2 => ("WholeMarks$Groups", "trial", "[I", true)
  | 3 => ("WholeMarks$Groups", "row", "[I", true)
  | 4 => ("WholeMarks$Groups", "most", "I", false)
  | 5 => ("WholeMarks$Groups", "largest", "I", false)
  | 6 => ("WholeMarks$Groups", "solved", "Z", false)
  | 7 => ("WholeMarks$Groups", "size", "I", false)
  | _ => ("WholeMarks$Groups", "worth", "J", false)
def tyX4 : Nat → FieldType := fun k => match k with
  | 0 => .array .long
  | 1 => .array .int
  | 2 => .array .int
  | 3 => .array .int
  | 4 => .int
  | 5 => .int
  | 6 => .boolean
  | 7 => .int
  | _ => .long
abbrev wsX40 : List Cond := u_ws RX4 TX4 9
theorem nmX4 : ∀ a, a < 9 → ∀ b, b < 9 → a ≠ b → (TX4 a).2.1 ≠ (TX4 b).2.1 := by decide +kernel
theorem tyX4_ok : ∀ k, k < 9 → parseFieldDescriptor (TX4 k).2.2.1 = some (tyX4 k) := by decide +kernel
abbrev cX4_init : ByteArray := prog_6_method_1_code
def yX4_init : MethodName := ⟨RX4, "<init>", "()V"⟩
abbrev cX4_setWorth : ByteArray := prog_6_method_2_code
def yX4_setWorth : MethodName := ⟨RX4, "setWorth", "(IJ)V"⟩
abbrev cX4_solve : ByteArray := prog_6_method_3_code
def yX4_solve : MethodName := ⟨RX4, "solve", "(II)V"⟩
abbrev cX4_seat : ByteArray := prog_6_method_4_code
def yX4_seat : MethodName := ⟨RX4, "seat", "(LWholeMarks$Groups;IIJ)V"⟩
abbrev cX4_keepIfBetter : ByteArray := prog_6_method_5_code
def yX4_keepIfBetter : MethodName := ⟨RX4, "keepIfBetter", "(IJ)V"⟩
def RX5 : String := "WholeMarks$Market"
def TX5 : u_T := fun k => match k with
  | 0 => ("WholeMarks$Market", "towns", "LWholeMarks$Towns;", true)
  | 1 => ("WholeMarks$Market", "bolts", "LWholeMarks$Bolts;", true)
  | 2 => ("WholeMarks$Market", "buyers", "LWholeMarks$Buyers;", true)
  | _ => ("WholeMarks$Market", "coins", "LWholeMarks$Coins;", true)
def tyX5 : Nat → FieldType := fun k => match k with
  | 0 => .object "WholeMarks$Towns"
  | 1 => .object "WholeMarks$Bolts"
  | 2 => .object "WholeMarks$Buyers"
  | _ => .object "WholeMarks$Coins"
abbrev wsX50 : List Cond := u_ws RX5 TX5 4
theorem nmX5 : ∀ a, a < 4 → ∀ b, b < 4 → a ≠ b → (TX5 a).2.1 ≠ (TX5 b).2.1 := by decide +kernel
theorem tyX5_ok : ∀ k, k < 4 → parseFieldDescriptor (TX5 k).2.2.1 = some (tyX5 k) := by decide +kernel
abbrev cX5_init : ByteArray := prog_7_method_1_code
def yX5_init : MethodName := ⟨RX5, "<init>", "()V"⟩
abbrev cX5_becomeLike : ByteArray := prog_7_method_2_code
def yX5_becomeLike : MethodName := ⟨RX5, "becomeLike", "(LWholeMarks$Market;)V"⟩
def RX6 : String := "WholeMarks$Marks"
def TX6 : u_T := fun k => match k with
  | 0 => ("WholeMarks$Marks", "steps", "[J", true)
  | 1 => ("WholeMarks$Marks", "kinds", "I", false)
  | _ => ("WholeMarks$Marks", "allMeet", "J", false)
def tyX6 : Nat → FieldType := fun k => match k with
  | 0 => .array .long
  | 1 => .int
  | _ => .long
abbrev wsX60 : List Cond := u_ws RX6 TX6 3
theorem nmX6 : ∀ a, a < 3 → ∀ b, b < 3 → a ≠ b → (TX6 a).2.1 ≠ (TX6 b).2.1 := by decide +kernel
theorem tyX6_ok : ∀ k, k < 3 → parseFieldDescriptor (TX6 k).2.2.1 = some (tyX6 k) := by decide +kernel
abbrev cX6_init : ByteArray := prog_8_method_1_code
def yX6_init : MethodName := ⟨RX6, "<init>", "()V"⟩
abbrev cX6_meetEvery : ByteArray := prog_8_method_2_code
def yX6_meetEvery : MethodName := ⟨RX6, "meetEvery", "(J)V"⟩
abbrev cX6_meetTwoOfThree : ByteArray := prog_8_method_3_code
def yX6_meetTwoOfThree : MethodName := ⟨RX6, "meetTwoOfThree", "(III)V"⟩
abbrev cX6_howManyTo : ByteArray := prog_8_method_4_code
def yX6_howManyTo : MethodName := ⟨RX6, "howManyTo", "(J)J"⟩
abbrev cX6_lastTo : ByteArray := prog_8_method_5_code
def yX6_lastTo : MethodName := ⟨RX6, "lastTo", "(J)J"⟩
abbrev cX6_firstFrom : ByteArray := prog_8_method_6_code
def yX6_firstFrom : MethodName := ⟨RX6, "firstFrom", "(J)J"⟩
abbrev cX6_areMetAt : ByteArray := prog_8_method_7_code
def yX6_areMetAt : MethodName := ⟨RX6, "areMetAt", "(J)Z"⟩
abbrev cX6_nth : ByteArray := prog_8_method_8_code
def yX6_nth : MethodName := ⟨RX6, "nth", "(I)J"⟩
def RX7 : String := "WholeMarks$Numbers"
def TX7 : u_T := fun k => match k with
  | _ => ("", "", "", false)
def tyX7 : Nat → FieldType := fun k => match k with
  | _ => .int
abbrev wsX70 : List Cond := u_ws RX7 TX7 0
abbrev cX7_at : ByteArray := prog_9_method_2_code
def yX7_at : MethodName := ⟨RX7, "at", "([II)I"⟩
abbrev cX7_at_ : ByteArray := prog_9_method_3_code
def yX7_at_ : MethodName := ⟨RX7, "at", "([JI)J"⟩
abbrev cX7_put : ByteArray := prog_9_method_4_code
def yX7_put : MethodName := ⟨RX7, "put", "([III)V"⟩
abbrev cX7_put_ : ByteArray := prog_9_method_5_code
def yX7_put_ : MethodName := ⟨RX7, "put", "([JIJ)V"⟩
abbrev cX7_fill : ByteArray := prog_9_method_6_code
def yX7_fill : MethodName := ⟨RX7, "fill", "([I[I)V"⟩
abbrev cX7_quotient : ByteArray := prog_9_method_7_code
def yX7_quotient : MethodName := ⟨RX7, "quotient", "(JJ)J"⟩
abbrev cX7_divides : ByteArray := prog_9_method_8_code
def yX7_divides : MethodName := ⟨RX7, "divides", "(JJ)Z"⟩
abbrev cX7_greatestCommon : ByteArray := prog_9_method_9_code
def yX7_greatestCommon : MethodName := ⟨RX7, "greatestCommon", "(JJ)J"⟩
abbrev cX7_leastCommon : ByteArray := prog_9_method_10_code
def yX7_leastCommon : MethodName := ⟨RX7, "leastCommon", "(JJ)J"⟩
def RX8 : String := "WholeMarks$Sheet"
def TX8 : u_T := fun k => match k with
  | 0 => ("WholeMarks$Sheet", "items", "[J", true)
  | 1 => ("WholeMarks$Sheet", "isThere", "Z", false)
  | 2 => ("WholeMarks$Sheet", "lane", "I", false)
  | _ => ("WholeMarks$Sheet", "length", "I", false)
def tyX8 : Nat → FieldType := fun k => match k with
  | 0 => .array .long
  | 1 => .boolean
  | 2 => .int
  | _ => .int
abbrev wsX80 : List Cond := u_ws RX8 TX8 4
theorem nmX8 : ∀ a, a < 4 → ∀ b, b < 4 → a ≠ b → (TX8 a).2.1 ≠ (TX8 b).2.1 := by decide +kernel
theorem tyX8_ok : ∀ k, k < 4 → parseFieldDescriptor (TX8 k).2.2.1 = some (tyX8 k) := by decide +kernel
abbrev cX8_init : ByteArray := prog_10_method_1_code
def yX8_init : MethodName := ⟨RX8, "<init>", "()V"⟩
abbrev cX8_begin : ByteArray := prog_10_method_2_code
def yX8_begin : MethodName := ⟨RX8, "begin", "(II)V"⟩
abbrev cX8_spans : ByteArray := prog_10_method_3_code
def yX8_spans : MethodName := ⟨RX8, "spans", "(II)Z"⟩
abbrev cX8_write : ByteArray := prog_10_method_4_code
def yX8_write : MethodName := ⟨RX8, "write", "(IJ)V"⟩
abbrev cX8_allWithin : ByteArray := prog_10_method_5_code
def yX8_allWithin : MethodName := ⟨RX8, "allWithin", "(IIII)Z"⟩
abbrev cX8_sumOf : ByteArray := prog_10_method_6_code
def yX8_sumOf : MethodName := ⟨RX8, "sumOf", "(II)J"⟩
abbrev cX8_commonOf : ByteArray := prog_10_method_7_code
def yX8_commonOf : MethodName := ⟨RX8, "commonOf", "(II)J"⟩
def RX9 : String := "WholeMarks$Tape"
def TX9 : u_T := fun k => match k with
  | 0 => ("WholeMarks$Tape", "signs", "[I", true)
  | 1 => ("WholeMarks$Tape", "length", "I", false)
  | 2 => ("WholeMarks$Tape", "at", "I", false)
  | 3 => ("WholeMarks$Tape", "measures", "[I", true)
  | 4 => ("WholeMarks$Tape", "counting", "I", false)
  | _ => ("WholeMarks$Tape", "law", "I", false)
def tyX9 : Nat → FieldType := fun k => match k with
  | 0 => .array .int
  | 1 => .int
  | 2 => .int
  | 3 => .array .int
  | 4 => .int
  | _ => .int
abbrev wsX90 : List Cond := u_ws RX9 TX9 6
theorem nmX9 : ∀ a, a < 6 → ∀ b, b < 6 → a ≠ b → (TX9 a).2.1 ≠ (TX9 b).2.1 := by decide +kernel
theorem tyX9_ok : ∀ k, k < 6 → parseFieldDescriptor (TX9 k).2.2.1 = some (tyX9 k) := by decide +kernel
abbrev cX9_init : ByteArray := prog_11_method_1_code
def yX9_init : MethodName := ⟨RX9, "<init>", "()V"⟩
abbrev cX9_add : ByteArray := prog_11_method_2_code
def yX9_add : MethodName := ⟨RX9, "add", "(I)V"⟩
abbrev cX9_read : ByteArray := prog_11_method_3_code
def yX9_read : MethodName := ⟨RX9, "read", "()I"⟩
abbrev cX9_peek : ByteArray := prog_11_method_4_code
def yX9_peek : MethodName := ⟨RX9, "peek", "()I"⟩
abbrev cX9_readMeasures : ByteArray := prog_11_method_5_code
def yX9_readMeasures : MethodName := ⟨RX9, "readMeasures", "()Z"⟩
abbrev cX9_readNumber : ByteArray := prog_11_method_6_code
def yX9_readNumber : MethodName := ⟨RX9, "readNumber", "()I"⟩
abbrev cX9_isDigit : ByteArray := prog_11_method_7_code
def yX9_isDigit : MethodName := ⟨RX9, "isDigit", "(I)Z"⟩
abbrev cX9_readCounting : ByteArray := prog_11_method_8_code
def yX9_readCounting : MethodName := ⟨RX9, "readCounting", "()Z"⟩
def RX10 : String := "WholeMarks$Towns"
def TX10 : u_T := fun k => match k with
  | 0 => ("WholeMarks$Towns", "measures", "[I", true)
  | 1 => ("WholeMarks$Towns", "counting", "I", false)
  | _ => ("WholeMarks$Towns", "law", "I", false)
def tyX10 : Nat → FieldType := fun k => match k with
  | 0 => .array .int
  | 1 => .int
  | _ => .int
abbrev wsX100 : List Cond := u_ws RX10 TX10 3
theorem nmX10 : ∀ a, a < 3 → ∀ b, b < 3 → a ≠ b → (TX10 a).2.1 ≠ (TX10 b).2.1 := by decide +kernel
theorem tyX10_ok : ∀ k, k < 3 → parseFieldDescriptor (TX10 k).2.2.1 = some (tyX10 k) := by decide +kernel
abbrev cX10_init : ByteArray := prog_12_method_1_code
def yX10_init : MethodName := ⟨RX10, "<init>", "()V"⟩
abbrev cX10_becomeLike : ByteArray := prog_12_method_2_code
def yX10_becomeLike : MethodName := ⟨RX10, "becomeLike", "(LWholeMarks$Towns;)V"⟩
abbrev cX10_take : ByteArray := prog_12_method_3_code
def yX10_take : MethodName := ⟨RX10, "take", "(LWholeMarks$Tape;)V"⟩
abbrev cX10_lay : ByteArray := prog_12_method_4_code
def yX10_lay : MethodName := ⟨RX10, "lay", "(LWholeMarks$Marks;)V"⟩
def RX11 : String := "WholeMarks"
def TX11 : u_T := fun k => match k with
  | 0 => ("WholeMarks", "market", "LWholeMarks$Market;", true)
  | 1 => ("WholeMarks", "kept", "LWholeMarks$Market;", true)
  | 2 => ("WholeMarks", "hasImage", "Z", false)
  | 3 => ("WholeMarks", "tape", "LWholeMarks$Tape;", true)
  | 4 => ("WholeMarks", "sheets", "[LWholeMarks$Sheet;", true)
  | 5 => ("WholeMarks", "marks", "LWholeMarks$Marks;", true)
  | _ => ("WholeMarks", "groups", "LWholeMarks$Groups;", true)
def tyX11 : Nat → FieldType := fun k => match k with
  | 0 => .object "WholeMarks$Market"
  | 1 => .object "WholeMarks$Market"
  | 2 => .boolean
  | 3 => .object "WholeMarks$Tape"
  | 4 => .array (.object "WholeMarks$Sheet")
  | 5 => .object "WholeMarks$Marks"
  | _ => .object "WholeMarks$Groups"
abbrev wsX110 : List Cond := u_ws RX11 TX11 7
theorem nmX11 : ∀ a, a < 7 → ∀ b, b < 7 → a ≠ b → (TX11 a).2.1 ≠ (TX11 b).2.1 := by decide +kernel
theorem tyX11_ok : ∀ k, k < 7 → parseFieldDescriptor (TX11 k).2.2.1 = some (tyX11 k) := by decide +kernel
abbrev cX11_init : ByteArray := prog_1_method_1_code
def yX11_init : MethodName := ⟨RX11, "<init>", "()V"⟩
abbrev cX11_measure : ByteArray := prog_1_method_2_code
def yX11_measure : MethodName := ⟨RX11, "measure", "(II)I"⟩
abbrev cX11_rule : ByteArray := prog_1_method_3_code
def yX11_rule : MethodName := ⟨RX11, "rule", "(II)I"⟩
abbrev cX11_seam : ByteArray := prog_1_method_4_code
def yX11_seam : MethodName := ⟨RX11, "seam", "(I)I"⟩
abbrev cX11_place : ByteArray := prog_1_method_5_code
def yX11_place : MethodName := ⟨RX11, "place", "(I)J"⟩
abbrev cX11_places : ByteArray := prog_1_method_6_code
def yX11_places : MethodName := ⟨RX11, "places", "(J)J"⟩
abbrev cX11_bolt : ByteArray := prog_1_method_7_code
def yX11_bolt : MethodName := ⟨RX11, "bolt", "(II)I"⟩
abbrev cX11_told : ByteArray := prog_1_method_8_code
def yX11_told : MethodName := ⟨RX11, "told", "(II)I"⟩
abbrev cX11_cut : ByteArray := prog_1_method_9_code
def yX11_cut : MethodName := ⟨RX11, "cut", "(II)I"⟩
abbrev cX11_join : ByteArray := prog_1_method_10_code
def yX11_join : MethodName := ⟨RX11, "join", "(II)I"⟩
abbrev cX11_type : ByteArray := prog_1_method_11_code
def yX11_type : MethodName := ⟨RX11, "type", "(JI)I"⟩
abbrev cX11_towns : ByteArray := prog_1_method_12_code
def yX11_towns : MethodName := ⟨RX11, "towns", "()I"⟩
abbrev cX11_count : ByteArray := prog_1_method_13_code
def yX11_count : MethodName := ⟨RX11, "count", "(I)I"⟩
abbrev cX11_most : ByteArray := prog_1_method_14_code
def yX11_most : MethodName := ⟨RX11, "most", "(II)I"⟩
abbrev cX11_buyer : ByteArray := prog_1_method_15_code
def yX11_buyer : MethodName := ⟨RX11, "buyer", "(I)I"⟩
abbrev cX11_home : ByteArray := prog_1_method_16_code
def yX11_home : MethodName := ⟨RX11, "home", "()I"⟩
abbrev cX11_price : ByteArray := prog_1_method_17_code
def yX11_price : MethodName := ⟨RX11, "price", "(I)J"⟩
abbrev cX11_parties : ByteArray := prog_1_method_18_code
def yX11_parties : MethodName := ⟨RX11, "parties", "(II)J"⟩
abbrev cX11_third : ByteArray := prog_1_method_19_code
def yX11_third : MethodName := ⟨RX11, "third", "(I)I"⟩
abbrev cX11_worn : ByteArray := prog_1_method_20_code
def yX11_worn : MethodName := ⟨RX11, "worn", "(I)I"⟩
abbrev cX11_rate : ByteArray := prog_1_method_21_code
def yX11_rate : MethodName := ⟨RX11, "rate", "(IIII)I"⟩
abbrev cX11_rings : ByteArray := prog_1_method_22_code
def yX11_rings : MethodName := ⟨RX11, "rings", "(I)I"⟩
abbrev cX11_turn : ByteArray := prog_1_method_23_code
def yX11_turn : MethodName := ⟨RX11, "turn", "(IIII)J"⟩
abbrev cX11_image : ByteArray := prog_1_method_24_code
def yX11_image : MethodName := ⟨RX11, "image", "()I"⟩
abbrev cX11_restore : ByteArray := prog_1_method_25_code
def yX11_restore : MethodName := ⟨RX11, "restore", "()I"⟩
abbrev cX11_leaves : ByteArray := prog_1_method_26_code
def yX11_leaves : MethodName := ⟨RX11, "leaves", "(III)I"⟩
abbrev cX11_fit : ByteArray := prog_1_method_27_code
def yX11_fit : MethodName := ⟨RX11, "fit", "(IIIII)I"⟩
abbrev cX11_film : ByteArray := prog_1_method_28_code
def yX11_film : MethodName := ⟨RX11, "film", "(III)I"⟩
abbrev cX11_sheet : ByteArray := prog_1_method_29_code
def yX11_sheet : MethodName := ⟨RX11, "sheet", "(III)I"⟩
abbrev cX11_drop : ByteArray := prog_1_method_30_code
def yX11_drop : MethodName := ⟨RX11, "drop", "(I)I"⟩
abbrev cX11_item : ByteArray := prog_1_method_31_code
def yX11_item : MethodName := ⟨RX11, "item", "(IIIJ)I"⟩
abbrev cX11_copy : ByteArray := prog_1_method_32_code
def yX11_copy : MethodName := ⟨RX11, "copy", "(IIIII)I"⟩
abbrev cX11_within : ByteArray := prog_1_method_33_code
def yX11_within : MethodName := ⟨RX11, "within", "(III)Z"⟩
abbrev cX11_isCloth : ByteArray := prog_1_method_34_code
def yX11_isCloth : MethodName := ⟨RX11, "isCloth", "(I)Z"⟩
abbrev cX11_byteOf : ByteArray := prog_1_method_35_code
def yX11_byteOf : MethodName := ⟨RX11, "byteOf", "(JI)I"⟩
abbrev cX11_marksNow : ByteArray := prog_1_method_36_code
def yX11_marksNow : MethodName := ⟨RX11, "marksNow", "()LWholeMarks$Marks;"⟩
abbrev cX11_priceOf : ByteArray := prog_1_method_37_code
def yX11_priceOf : MethodName := ⟨RX11, "priceOf", "(LWholeMarks$Marks;I)J"⟩
abbrev cX11_groupBolts : ByteArray := prog_1_method_38_code
def yX11_groupBolts : MethodName := ⟨RX11, "groupBolts", "(I)V"⟩
abbrev cX11_groupBuyers : ByteArray := prog_1_method_39_code
def yX11_groupBuyers : MethodName := ⟨RX11, "groupBuyers", "(I)V"⟩
abbrev cX11_sheetOf : ByteArray := prog_1_method_40_code
def yX11_sheetOf : MethodName := ⟨RX11, "sheetOf", "(I)LWholeMarks$Sheet;"⟩
abbrev cX11_refusal : ByteArray := prog_1_method_41_code
def yX11_refusal : MethodName := ⟨RX11, "refusal", "(IIII)I"⟩
abbrev cX11_howManyFit : ByteArray := prog_1_method_42_code
def yX11_howManyFit : MethodName := ⟨RX11, "howManyFit", "(J)I"⟩
abbrev cX11_bestFit : ByteArray := prog_1_method_43_code
def yX11_bestFit : MethodName := ⟨RX11, "bestFit", "(J)I"⟩
def RX12 : String := "WholeMarksModel"
def TX12 : u_T := fun k => match k with
  | 0 => ("WholeMarksModel", "w", "[I", true)
  | 1 => ("WholeMarksModel", "isKept", "Z", false)
  | 2 => ("WholeMarksModel", "tape", "[I", true)
  | 3 => ("WholeMarksModel", "taped", "I", false)
  | 4 => ("WholeMarksModel", "steps", "[J", true)
  | 5 => ("WholeMarksModel", "stepMany", "I", false)
  | 6 => ("WholeMarksModel", "all", "J", false)
  | 7 => ("WholeMarksModel", "at", "I", false)
  | 8 => ("WholeMarksModel", "read", "[I", true)
  | 9 => ("WholeMarksModel", "readSet", "I", false)
  | 10 => ("WholeMarksModel", "readLaw", "I", false)
  | 11 => ("WholeMarksModel", "row", "[I", true)
  | 12 => ("WholeMarksModel", "best", "[I", true)
  | 13 => ("WholeMarksModel", "bestGroups", "I", false)
  | 14 => ("WholeMarksModel", "some", "[I", true)
  | 15 => ("WholeMarksModel", "lanes", "[I", true)
  | 16 => ("WholeMarksModel", "sizes", "[I", true)
  | 17 => ("WholeMarksModel", "items", "[J", true)
  | _ => ("WholeMarksModel", "hands", "[J", true)
def tyX12 : Nat → FieldType := fun k => match k with
  | 0 => .array .int
  | 1 => .boolean
  | 2 => .array .int
  | 3 => .int
  | 4 => .array .long
  | 5 => .int
  | 6 => .long
  | 7 => .int
  | 8 => .array .int
  | 9 => .int
  | 10 => .int
  | 11 => .array .int
  | 12 => .array .int
  | 13 => .int
  | 14 => .array .int
  | 15 => .array .int
  | 16 => .array .int
  | 17 => .array .long
  | _ => .array .long
abbrev wsX120 : List Cond := u_ws RX12 TX12 19
theorem nmX12 : ∀ a, a < 19 → ∀ b, b < 19 → a ≠ b → (TX12 a).2.1 ≠ (TX12 b).2.1 := by decide +kernel
theorem tyX12_ok : ∀ k, k < 19 → parseFieldDescriptor (TX12 k).2.2.1 = some (tyX12 k) := by decide +kernel
abbrev cX12_init : ByteArray := prog_14_method_1_code
def yX12_init : MethodName := ⟨RX12, "<init>", "()V"⟩
abbrev cX12_in : ByteArray := prog_14_method_3_code
def yX12_in : MethodName := ⟨RX12, "in", "(JJJ)Z"⟩
abbrev cX12_has : ByteArray := prog_14_method_4_code
def yX12_has : MethodName := ⟨RX12, "has", "(II)Z"⟩
abbrev cX12_lesser : ByteArray := prog_14_method_5_code
def yX12_lesser : MethodName := ⟨RX12, "lesser", "(JJ)J"⟩
abbrev cX12_greater : ByteArray := prog_14_method_6_code
def yX12_greater : MethodName := ⟨RX12, "greater", "(JJ)J"⟩
abbrev cX12_ones : ByteArray := prog_14_method_7_code
def yX12_ones : MethodName := ⟨RX12, "ones", "(I)I"⟩
abbrev cX12_divisor : ByteArray := prog_14_method_8_code
def yX12_divisor : MethodName := ⟨RX12, "divisor", "(JJ)J"⟩
abbrev cX12_common : ByteArray := prog_14_method_9_code
def yX12_common : MethodName := ⟨RX12, "common", "(JJ)J"⟩
abbrev cX12_lay : ByteArray := prog_14_method_10_code
def yX12_lay : MethodName := ⟨RX12, "lay", "(III)V"⟩
abbrev cX12_layNow : ByteArray := prog_14_method_11_code
def yX12_layNow : MethodName := ⟨RX12, "layNow", "()V"⟩
abbrev cX12_below : ByteArray := prog_14_method_12_code
def yX12_below : MethodName := ⟨RX12, "below", "(J)J"⟩
abbrev cX12_above : ByteArray := prog_14_method_13_code
def yX12_above : MethodName := ⟨RX12, "above", "(J)J"⟩
abbrev cX12_manyUpTo : ByteArray := prog_14_method_14_code
def yX12_manyUpTo : MethodName := ⟨RX12, "manyUpTo", "(J)J"⟩
abbrev cX12_measure : ByteArray := prog_14_method_15_code
def yX12_measure : MethodName := ⟨RX12, "measure", "(II)I"⟩
abbrev cX12_rule : ByteArray := prog_14_method_16_code
def yX12_rule : MethodName := ⟨RX12, "rule", "(II)I"⟩
abbrev cX12_seam : ByteArray := prog_14_method_17_code
def yX12_seam : MethodName := ⟨RX12, "seam", "(I)I"⟩
abbrev cX12_place : ByteArray := prog_14_method_18_code
def yX12_place : MethodName := ⟨RX12, "place", "(I)J"⟩
abbrev cX12_places : ByteArray := prog_14_method_19_code
def yX12_places : MethodName := ⟨RX12, "places", "(J)J"⟩
abbrev cX12_isBolt : ByteArray := prog_14_method_20_code
def yX12_isBolt : MethodName := ⟨RX12, "isBolt", "(I)Z"⟩
abbrev cX12_bolt : ByteArray := prog_14_method_21_code
def yX12_bolt : MethodName := ⟨RX12, "bolt", "(II)I"⟩
abbrev cX12_told : ByteArray := prog_14_method_22_code
def yX12_told : MethodName := ⟨RX12, "told", "(II)I"⟩
abbrev cX12_cut : ByteArray := prog_14_method_23_code
def yX12_cut : MethodName := ⟨RX12, "cut", "(II)I"⟩
abbrev cX12_seamOf : ByteArray := prog_14_method_24_code
def yX12_seamOf : MethodName := ⟨RX12, "seamOf", "(I)I"⟩
abbrev cX12_join : ByteArray := prog_14_method_25_code
def yX12_join : MethodName := ⟨RX12, "join", "(II)I"⟩
abbrev cX12_type : ByteArray := prog_14_method_26_code
def yX12_type : MethodName := ⟨RX12, "type", "(JI)I"⟩
abbrev cX12_ahead : ByteArray := prog_14_method_27_code
def yX12_ahead : MethodName := ⟨RX12, "ahead", "()I"⟩
abbrev cX12_faultOf : ByteArray := prog_14_method_28_code
def yX12_faultOf : MethodName := ⟨RX12, "faultOf", "()I"⟩
abbrev cX12_towns : ByteArray := prog_14_method_29_code
def yX12_towns : MethodName := ⟨RX12, "towns", "()I"⟩
abbrev cX12_sumOf : ByteArray := prog_14_method_30_code
def yX12_sumOf : MethodName := ⟨RX12, "sumOf", "(II)I"⟩
abbrev cX12_wasteOf : ByteArray := prog_14_method_31_code
def yX12_wasteOf : MethodName := ⟨RX12, "wasteOf", "()I"⟩
abbrev cX12_count : ByteArray := prog_14_method_32_code
def yX12_count : MethodName := ⟨RX12, "count", "(I)I"⟩
abbrev cX12_goesOn : ByteArray := prog_14_method_33_code
def yX12_goesOn : MethodName := ⟨RX12, "goesOn", "(I)Z"⟩
abbrev cX12_begin : ByteArray := prog_14_method_34_code
def yX12_begin : MethodName := ⟨RX12, "begin", "()V"⟩
abbrev cX12_groupsOf : ByteArray := prog_14_method_35_code
def yX12_groupsOf : MethodName := ⟨RX12, "groupsOf", "(I)I"⟩
abbrev cX12_take : ByteArray := prog_14_method_36_code
def yX12_take : MethodName := ⟨RX12, "take", "(II)V"⟩
abbrev cX12_most : ByteArray := prog_14_method_37_code
def yX12_most : MethodName := ⟨RX12, "most", "(II)I"⟩
abbrev cX12_buyer : ByteArray := prog_14_method_38_code
def yX12_buyer : MethodName := ⟨RX12, "buyer", "(I)I"⟩
abbrev cX12_home : ByteArray := prog_14_method_39_code
def yX12_home : MethodName := ⟨RX12, "home", "()I"⟩
abbrev cX12_priceOf : ByteArray := prog_14_method_40_code
def yX12_priceOf : MethodName := ⟨RX12, "priceOf", "(I)J"⟩
abbrev cX12_price : ByteArray := prog_14_method_41_code
def yX12_price : MethodName := ⟨RX12, "price", "(I)J"⟩
abbrev cX12_parties : ByteArray := prog_14_method_42_code
def yX12_parties : MethodName := ⟨RX12, "parties", "(II)J"⟩
abbrev cX12_third : ByteArray := prog_14_method_43_code
def yX12_third : MethodName := ⟨RX12, "third", "(I)I"⟩
abbrev cX12_worn : ByteArray := prog_14_method_44_code
def yX12_worn : MethodName := ⟨RX12, "worn", "(I)I"⟩
abbrev cX12_rateAt : ByteArray := prog_14_method_45_code
def yX12_rateAt : MethodName := ⟨RX12, "rateAt", "(II)I"⟩
abbrev cX12_isCoin : ByteArray := prog_14_method_46_code
def yX12_isCoin : MethodName := ⟨RX12, "isCoin", "(I)Z"⟩
abbrev cX12_rate : ByteArray := prog_14_method_47_code
def yX12_rate : MethodName := ⟨RX12, "rate", "(IIII)I"⟩
abbrev cX12_gains : ByteArray := prog_14_method_48_code
def yX12_gains : MethodName := ⟨RX12, "gains", "(I)Z"⟩
abbrev cX12_rings : ByteArray := prog_14_method_49_code
def yX12_rings : MethodName := ⟨RX12, "rings", "(I)I"⟩
abbrev cX12_turn : ByteArray := prog_14_method_50_code
def yX12_turn : MethodName := ⟨RX12, "turn", "(IIII)J"⟩
abbrev cX12_image : ByteArray := prog_14_method_51_code
def yX12_image : MethodName := ⟨RX12, "image", "()I"⟩
abbrev cX12_restore : ByteArray := prog_14_method_52_code
def yX12_restore : MethodName := ⟨RX12, "restore", "()I"⟩
abbrev cX12_isSheet : ByteArray := prog_14_method_53_code
def yX12_isSheet : MethodName := ⟨RX12, "isSheet", "(I)Z"⟩
abbrev cX12_bars : ByteArray := prog_14_method_54_code
def yX12_bars : MethodName := ⟨RX12, "bars", "(IIII)I"⟩
abbrev cX12_cutTo : ByteArray := prog_14_method_55_code
def yX12_cutTo : MethodName := ⟨RX12, "cutTo", "(IJ)J"⟩
abbrev cX12_leaves : ByteArray := prog_14_method_56_code
def yX12_leaves : MethodName := ⟨RX12, "leaves", "(III)I"⟩
abbrev cX12_fit : ByteArray := prog_14_method_57_code
def yX12_fit : MethodName := ⟨RX12, "fit", "(IIIII)I"⟩
abbrev cX12_film : ByteArray := prog_14_method_58_code
def yX12_film : MethodName := ⟨RX12, "film", "(III)I"⟩
abbrev cX12_sheet : ByteArray := prog_14_method_59_code
def yX12_sheet : MethodName := ⟨RX12, "sheet", "(III)I"⟩
abbrev cX12_drop : ByteArray := prog_14_method_60_code
def yX12_drop : MethodName := ⟨RX12, "drop", "(I)I"⟩
abbrev cX12_item : ByteArray := prog_14_method_61_code
def yX12_item : MethodName := ⟨RX12, "item", "(IIIJ)I"⟩
abbrev cX12_copy : ByteArray := prog_14_method_62_code
def yX12_copy : MethodName := ⟨RX12, "copy", "(IIIII)I"⟩
def RJx29ce0 : String := "java/lang/Enum"
def TJx29ce0 : u_T := fun k => match k with
  | _ => ("", "", "", false)
def tyJx29ce0 : Nat → FieldType := fun k => match k with
  | _ => .int
theorem nmJx29ce0 : ∀ a, a < 0 → ∀ b, b < 0 → a ≠ b → (TJx29ce0 a).2.1 ≠ (TJx29ce0 b).2.1 := by decide +kernel
theorem tyJx29ce0_ok : ∀ k, k < 0 → parseFieldDescriptor (TJx29ce0 k).2.2.1 = some (tyJx29ce0 k) := by decide +kernel
def RJ6 : String := "java/lang/Integer"
def TJ6 : u_T := fun k => match k with
  | _ => ("", "", "", false)
def tyJ6 : Nat → FieldType := fun k => match k with
  | _ => .int
theorem nmJ6 : ∀ a, a < 0 → ∀ b, b < 0 → a ≠ b → (TJ6 a).2.1 ≠ (TJ6 b).2.1 := by decide +kernel
theorem tyJ6_ok : ∀ k, k < 0 → parseFieldDescriptor (TJ6 k).2.2.1 = some (tyJ6 k) := by decide +kernel
abbrev cJ6_bitCount_0f7a4 : ByteArray := prog_16_method_49_code
def yJ6_bitCount_0f7a4 : MethodName := ⟨RJ6, "bitCount", "(I)I"⟩
def RJ9 : String := "java/lang/Math"
def TJ9 : u_T := fun k => match k with
  | _ => ("", "", "", false)
def tyJ9 : Nat → FieldType := fun k => match k with
  | _ => .int
theorem nmJ9 : ∀ a, a < 0 → ∀ b, b < 0 → a ≠ b → (TJ9 a).2.1 ≠ (TJ9 b).2.1 := by decide +kernel
theorem tyJ9_ok : ∀ k, k < 0 → parseFieldDescriptor (TJ9 k).2.2.1 = some (tyJ9 k) := by decide +kernel
abbrev cJ9_max_7cf53 : ByteArray := prog_17_method_65_code
def yJ9_max_7cf53 : MethodName := ⟨RJ9, "max", "(II)I"⟩
abbrev cJ9_max_f86c9 : ByteArray := prog_17_method_66_code
def yJ9_max_f86c9 : MethodName := ⟨RJ9, "max", "(JJ)J"⟩
abbrev cJ9_min_7cf53 : ByteArray := prog_17_method_69_code
def yJ9_min_7cf53 : MethodName := ⟨RJ9, "min", "(II)I"⟩
abbrev cJ9_min_f86c9 : ByteArray := prog_17_method_70_code
def yJ9_min_f86c9 : MethodName := ⟨RJ9, "min", "(JJ)J"⟩
def RJ10 : String := "java/lang/System"
def TJ10 : u_T := fun k => match k with
  | _ => ("", "", "", false)
def tyJ10 : Nat → FieldType := fun k => match k with
  | _ => .int
theorem nmJ10 : ∀ a, a < 0 → ∀ b, b < 0 → a ≠ b → (TJ10 a).2.1 ≠ (TJ10 b).2.1 := by decide +kernel
theorem tyJ10_ok : ∀ k, k < 0 → parseFieldDescriptor (TJ10 k).2.2.1 = some (tyJ10 k) := by decide +kernel
def RL : String := "WholeMarksLaw"
abbrev cL_law : ByteArray := code
def yL_law : MethodName := ⟨RL, "law", "([I)Z"⟩
abbrev vwCl : List vw_C := [(RX0, TX0, 6), (RX1, TX1, 2), (RX3, TX3, 2), (RX4, TX4, 9), (RX5, TX5, 4), (RX6, TX6, 3), (RX8, TX8, 4), (RX9, TX9, 6), (RX10, TX10, 3), (RX11, TX11, 7), (RX12, TX12, 19)]
end
section
/-- every word that may be handed on to a callee -/
def GW : List Cond := lw_tbl.filter goodWord
theorem gw_tbl : ∀ w ∈ GW, w ∈ lw_tbl := fun _ h => (List.mem_filter.mp h).1
theorem gw_good : ∀ w ∈ GW, ((w.onTables && w.keeps) = true ∨ ∃ ty, w = .arrayClass ty) := fun _ h => good_of_word (List.mem_filter.mp h).2
theorem gw_of {w : Cond} (h : w ∈ tables_1) (g : goodWord w = true) : w ∈ GW := List.mem_filter.mpr ⟨List.mem_append_right _ h, g⟩
theorem gw1 {w : Cond} (i : Nat) (h : tables_1_1[i]? = some w) (g : goodWord w = true) : w ∈ GW := gw_of (List.mem_append_left _ (List.mem_of_getElem? h)) g
theorem gw2 {w : Cond} (i : Nat) (h : tables_1_2[i]? = some w) (g : goodWord w = true) : w ∈ GW := gw_of (List.mem_append_right _ (List.mem_append_left _ (List.mem_of_getElem? h))) g
theorem gw3 {w : Cond} (i : Nat) (h : tables_1_3[i]? = some w) (g : goodWord w = true) : w ∈ GW := gw_of (List.mem_append_right _ (List.mem_append_right _ (List.mem_append_left _ (List.mem_of_getElem? h)))) g
theorem gw4 {w : Cond} (i : Nat) (h : tables_1_4[i]? = some w) (g : goodWord w = true) : w ∈ GW := gw_of (List.mem_append_right _ (List.mem_append_right _ (List.mem_append_right _ (List.mem_append_left _ (List.mem_of_getElem? h))))) g
theorem gw5 {w : Cond} (i : Nat) (h : tables_1_5[i]? = some w) (g : goodWord w = true) : w ∈ GW := gw_of (List.mem_append_right _ (List.mem_append_right _ (List.mem_append_right _ (List.mem_append_right _ (List.mem_of_getElem? h))))) g
theorem gw0 {w : Cond} (i : Nat) (h : (k2_sels lw_privs)[i]? = some w) (g : goodWord w = true) : w ∈ GW := List.mem_filter.mpr ⟨List.mem_append_left _ (List.mem_of_getElem? h), g⟩
theorem ini_RL : Cond.initialized RL ∈ GW := gw1 0 (by decide +kernel) rfl
theorem ini_RX11 : Cond.initialized RX11 ∈ GW := gw1 1 (by decide +kernel) rfl
theorem ini_RX5 : Cond.initialized RX5 ∈ GW := gw1 2 (by decide +kernel) rfl
theorem ini_RX10 : Cond.initialized RX10 ∈ GW := gw1 3 (by decide +kernel) rfl
theorem ini_RX0 : Cond.initialized RX0 ∈ GW := gw1 4 (by decide +kernel) rfl
theorem ini_RX1 : Cond.initialized RX1 ∈ GW := gw1 5 (by decide +kernel) rfl
theorem ini_RX3 : Cond.initialized RX3 ∈ GW := gw1 6 (by decide +kernel) rfl
theorem ini_RX7 : Cond.initialized RX7 ∈ GW := gw1 7 (by decide +kernel) rfl
theorem ini_RX9 : Cond.initialized RX9 ∈ GW := gw1 8 (by decide +kernel) rfl
theorem ini_RX6 : Cond.initialized RX6 ∈ GW := gw1 9 (by decide +kernel) rfl
theorem ini_RX4 : Cond.initialized RX4 ∈ GW := gw1 10 (by decide +kernel) rfl
theorem ini_RX8 : Cond.initialized RX8 ∈ GW := gw1 11 (by decide +kernel) rfl
theorem ini_RX12 : Cond.initialized RX12 ∈ GW := gw1 12 (by decide +kernel) rfl
theorem ini_RJ6 : Cond.initialized RJ6 ∈ GW := gw1 13 (by decide +kernel) rfl
theorem ini_RJ9 : Cond.initialized RJ9 ∈ GW := gw1 14 (by decide +kernel) rfl
theorem ini_Enum : Cond.initialized "java/lang/Enum" ∈ GW := gw1 15 (by decide +kernel) rfl
theorem ini_RX2 : Cond.initialized RX2 ∈ GW := gw1 16 (by decide +kernel) rfl
theorem ini_RJ10 : Cond.initialized RJ10 ∈ GW := gw1 17 (by decide +kernel) rfl
theorem cl_RL_7 : Cond.classLink RL 7 RX11 ∈ GW := gw1 18 (by decide +kernel) rfl
theorem in_RX11 : Cond.instantiable RX11 7 ∈ GW := gw1 19 (by decide +kernel) rfl
theorem ml_RL_9 : Cond.methodLink RL 9 yX11_init ∈ GW := gw1 20 (by decide +kernel) rfl
theorem im_yX11_init : Cond.instanceMethod yX11_init ∈ GW := gw1 21 (by decide +kernel) rfl
theorem co_yX11_init : Cond.code yX11_init cX11_init 2 none ∈ GW := gw1 22 (rfl) rfl
theorem cl_RX11_7 : Cond.classLink RX11 7 RX5 ∈ GW := gw1 26 (by decide +kernel) rfl
theorem in_RX5 : Cond.instantiable RX5 4 ∈ GW := gw1 27 (by decide +kernel) rfl
theorem im_yX5_init : Cond.instanceMethod yX5_init ∈ GW := gw1 29 (by decide +kernel) rfl
theorem co_yX5_init : Cond.code yX5_init cX5_init 1 none ∈ GW := gw1 30 (rfl) rfl
theorem cl_RX5_7 : Cond.classLink RX5 7 RX10 ∈ GW := gw1 32 (by decide +kernel) rfl
theorem in_RX10 : Cond.instantiable RX10 3 ∈ GW := gw1 33 (by decide +kernel) rfl
theorem im_yX10_init : Cond.instanceMethod yX10_init ∈ GW := gw1 35 (by decide +kernel) rfl
theorem co_yX10_init : Cond.code yX10_init cX10_init 1 none ∈ GW := gw1 36 (rfl) rfl
theorem fk_RX10_9 : Cond.fieldLink RX10 9 "WholeMarks$Towns" "measures" "[I" ∈ GW := gw1 38 (by decide +kernel) rfl
theorem fk_RX11_55 : Cond.fieldLink RX11 55 "WholeMarks$Towns" "measures" "[I" ∈ GW := gw1 39 (by decide +kernel) rfl
theorem fk_RX10_15 : Cond.fieldLink RX10 15 "WholeMarks$Towns" "counting" "I" ∈ GW := gw1 40 (by decide +kernel) rfl
theorem fk_RX11_77 : Cond.fieldLink RX11 77 "WholeMarks$Towns" "counting" "I" ∈ GW := gw1 41 (by decide +kernel) rfl
theorem fk_RX10_25 : Cond.fieldLink RX10 25 "WholeMarks$Towns" "law" "I" ∈ GW := gw1 42 (by decide +kernel) rfl
theorem fk_RX11_81 : Cond.fieldLink RX11 81 "WholeMarks$Towns" "law" "I" ∈ GW := gw1 43 (by decide +kernel) rfl
theorem cl_RX5_16 : Cond.classLink RX5 16 RX0 ∈ GW := gw1 52 (by decide +kernel) rfl
theorem in_RX0 : Cond.instantiable RX0 6 ∈ GW := gw1 53 (by decide +kernel) rfl
theorem im_yX0_init : Cond.instanceMethod yX0_init ∈ GW := gw1 55 (by decide +kernel) rfl
theorem co_yX0_init : Cond.code yX0_init cX0_init 1 none ∈ GW := gw1 56 (rfl) rfl
theorem fk_RX0_9 : Cond.fieldLink RX0 9 "WholeMarks$Bolts" "cloths" "[I" ∈ GW := gw1 58 (by decide +kernel) rfl
theorem fk_RX11_125 : Cond.fieldLink RX11 125 "WholeMarks$Bolts" "cloths" "[I" ∈ GW := gw1 59 (by decide +kernel) rfl
theorem fk_RX0_15 : Cond.fieldLink RX0 15 "WholeMarks$Bolts" "lengths" "[I" ∈ GW := gw1 60 (by decide +kernel) rfl
theorem fk_RX11_128 : Cond.fieldLink RX11 128 "WholeMarks$Bolts" "lengths" "[I" ∈ GW := gw1 61 (by decide +kernel) rfl
theorem fk_RX0_18 : Cond.fieldLink RX0 18 "WholeMarks$Bolts" "picked" "[I" ∈ GW := gw1 62 (by decide +kernel) rfl
theorem fk_RX0_31 : Cond.fieldLink RX0 31 "WholeMarks$Bolts" "held" "I" ∈ GW := gw1 63 (by decide +kernel) rfl
theorem fk_RX11_115 : Cond.fieldLink RX11 115 "WholeMarks$Bolts" "held" "I" ∈ GW := gw1 64 (by decide +kernel) rfl
theorem fk_RX0_34 : Cond.fieldLink RX0 34 "WholeMarks$Bolts" "sold" "I" ∈ GW := gw1 65 (by decide +kernel) rfl
theorem fk_RX11_173 : Cond.fieldLink RX11 173 "WholeMarks$Bolts" "sold" "I" ∈ GW := gw1 66 (by decide +kernel) rfl
theorem fk_RX0_21 : Cond.fieldLink RX0 21 "WholeMarks$Bolts" "seamInches" "I" ∈ GW := gw1 67 (by decide +kernel) rfl
theorem fk_RX11_88 : Cond.fieldLink RX11 88 "WholeMarks$Bolts" "seamInches" "I" ∈ GW := gw1 68 (by decide +kernel) rfl
theorem cl_RX5_23 : Cond.classLink RX5 23 RX1 ∈ GW := gw1 82 (by decide +kernel) rfl
theorem in_RX1 : Cond.instantiable RX1 2 ∈ GW := gw1 83 (by decide +kernel) rfl
theorem im_yX1_init : Cond.instanceMethod yX1_init ∈ GW := gw1 85 (by decide +kernel) rfl
theorem co_yX1_init : Cond.code yX1_init cX1_init 1 none ∈ GW := gw1 86 (rfl) rfl
theorem fk_RX1_9 : Cond.fieldLink RX1 9 "WholeMarks$Buyers" "wanted" "[I" ∈ GW := gw1 88 (by decide +kernel) rfl
theorem fk_RX1_21 : Cond.fieldLink RX1 21 "WholeMarks$Buyers" "held" "I" ∈ GW := gw1 89 (by decide +kernel) rfl
theorem fk_RX11_180 : Cond.fieldLink RX11 180 "WholeMarks$Buyers" "held" "I" ∈ GW := gw1 90 (by decide +kernel) rfl
theorem cl_RX5_30 : Cond.classLink RX5 30 RX3 ∈ GW := gw1 96 (by decide +kernel) rfl
theorem in_RX3 : Cond.instantiable RX3 2 ∈ GW := gw1 97 (by decide +kernel) rfl
theorem ml_RX5_32 : Cond.methodLink RX5 32 yX3_init ∈ GW := gw1 98 (by decide +kernel) rfl
theorem im_yX3_init : Cond.instanceMethod yX3_init ∈ GW := gw1 99 (by decide +kernel) rfl
theorem co_yX3_init : Cond.code yX3_init cX3_init 2 none ∈ GW := gw1 100 (rfl) rfl
theorem ml_RX3_18 : Cond.methodLink RX3 18 yX7_put ∈ GW := gw1 102 (by decide +kernel) rfl
theorem st_yX7_put : Cond.static yX7_put ∈ GW := gw1 103 (by decide +kernel) rfl
theorem co_yX7_put : Cond.code yX7_put cX7_put 3 none ∈ GW := gw1 104 (rfl) rfl
theorem fk_RX3_9 : Cond.fieldLink RX3 9 "WholeMarks$Coins" "above" "[I" ∈ GW := gw1 105 (by decide +kernel) rfl
theorem fk_RX3_15 : Cond.fieldLink RX3 15 "WholeMarks$Coins" "below" "[I" ∈ GW := gw1 106 (by decide +kernel) rfl
theorem fk_RX5_10 : Cond.fieldLink RX5 10 "WholeMarks$Market" "towns" "LWholeMarks$Towns;" ∈ GW := gw1 112 (by decide +kernel) rfl
theorem fk_RX11_51 : Cond.fieldLink RX11 51 "WholeMarks$Market" "towns" "LWholeMarks$Towns;" ∈ GW := gw1 113 (by decide +kernel) rfl
theorem fk_RX5_19 : Cond.fieldLink RX5 19 "WholeMarks$Market" "bolts" "LWholeMarks$Bolts;" ∈ GW := gw1 114 (by decide +kernel) rfl
theorem fk_RX11_84 : Cond.fieldLink RX11 84 "WholeMarks$Market" "bolts" "LWholeMarks$Bolts;" ∈ GW := gw1 115 (by decide +kernel) rfl
theorem fk_RX5_26 : Cond.fieldLink RX5 26 "WholeMarks$Market" "buyers" "LWholeMarks$Buyers;" ∈ GW := gw1 116 (by decide +kernel) rfl
theorem fk_RX11_176 : Cond.fieldLink RX11 176 "WholeMarks$Market" "buyers" "LWholeMarks$Buyers;" ∈ GW := gw1 117 (by decide +kernel) rfl
theorem fk_RX5_33 : Cond.fieldLink RX5 33 "WholeMarks$Market" "coins" "LWholeMarks$Coins;" ∈ GW := gw1 118 (by decide +kernel) rfl
theorem fk_RX11_225 : Cond.fieldLink RX11 225 "WholeMarks$Market" "coins" "LWholeMarks$Coins;" ∈ GW := gw1 119 (by decide +kernel) rfl
theorem cl_RX11_19 : Cond.classLink RX11 19 RX9 ∈ GW := gw1 129 (by decide +kernel) rfl
theorem in_RX9 : Cond.instantiable RX9 6 ∈ GW := gw1 130 (by decide +kernel) rfl
theorem im_yX9_init : Cond.instanceMethod yX9_init ∈ GW := gw1 132 (by decide +kernel) rfl
theorem co_yX9_init : Cond.code yX9_init cX9_init 1 none ∈ GW := gw1 133 (rfl) rfl
theorem fk_RX9_9 : Cond.fieldLink RX9 9 "WholeMarks$Tape" "signs" "[I" ∈ GW := gw1 135 (by decide +kernel) rfl
theorem fk_RX9_18 : Cond.fieldLink RX9 18 "WholeMarks$Tape" "length" "I" ∈ GW := gw1 136 (by decide +kernel) rfl
theorem fk_RX11_156 : Cond.fieldLink RX11 156 "WholeMarks$Tape" "length" "I" ∈ GW := gw1 137 (by decide +kernel) rfl
theorem fk_RX9_28 : Cond.fieldLink RX9 28 "WholeMarks$Tape" "at" "I" ∈ GW := gw1 138 (by decide +kernel) rfl
theorem fk_RX9_15 : Cond.fieldLink RX9 15 "WholeMarks$Tape" "measures" "[I" ∈ GW := gw1 139 (by decide +kernel) rfl
theorem fk_RX10_28 : Cond.fieldLink RX10 28 "WholeMarks$Tape" "measures" "[I" ∈ GW := gw1 140 (by decide +kernel) rfl
theorem fk_RX9_31 : Cond.fieldLink RX9 31 "WholeMarks$Tape" "counting" "I" ∈ GW := gw1 141 (by decide +kernel) rfl
theorem fk_RX10_31 : Cond.fieldLink RX10 31 "WholeMarks$Tape" "counting" "I" ∈ GW := gw1 142 (by decide +kernel) rfl
theorem fk_RX9_34 : Cond.fieldLink RX9 34 "WholeMarks$Tape" "law" "I" ∈ GW := gw1 143 (by decide +kernel) rfl
theorem fk_RX10_32 : Cond.fieldLink RX10 32 "WholeMarks$Tape" "law" "I" ∈ GW := gw1 144 (by decide +kernel) rfl
theorem cl_RX11_26 : Cond.classLink RX11 26 RX8 ∈ GW := gw1 158 (by decide +kernel) rfl
theorem cl_RX11_32 : Cond.classLink RX11 32 RX6 ∈ GW := gw1 160 (by decide +kernel) rfl
theorem in_RX6 : Cond.instantiable RX6 3 ∈ GW := gw1 161 (by decide +kernel) rfl
theorem im_yX6_init : Cond.instanceMethod yX6_init ∈ GW := gw1 163 (by decide +kernel) rfl
theorem co_yX6_init : Cond.code yX6_init cX6_init 1 none ∈ GW := gw1 164 (rfl) rfl
theorem fk_RX6_9 : Cond.fieldLink RX6 9 "WholeMarks$Marks" "steps" "[J" ∈ GW := gw1 166 (by decide +kernel) rfl
theorem fk_RX6_21 : Cond.fieldLink RX6 21 "WholeMarks$Marks" "kinds" "I" ∈ GW := gw1 167 (by decide +kernel) rfl
theorem fk_RX6_25 : Cond.fieldLink RX6 25 "WholeMarks$Marks" "allMeet" "J" ∈ GW := gw1 168 (by decide +kernel) rfl
theorem cl_RX11_39 : Cond.classLink RX11 39 RX4 ∈ GW := gw1 177 (by decide +kernel) rfl
theorem in_RX4 : Cond.instantiable RX4 9 ∈ GW := gw1 178 (by decide +kernel) rfl
theorem im_yX4_init : Cond.instanceMethod yX4_init ∈ GW := gw1 180 (by decide +kernel) rfl
theorem co_yX4_init : Cond.code yX4_init cX4_init 1 none ∈ GW := gw1 181 (rfl) rfl
theorem fk_RX4_9 : Cond.fieldLink RX4 9 "WholeMarks$Groups" "worths" "[J" ∈ GW := gw1 183 (by decide +kernel) rfl
theorem fk_RX4_15 : Cond.fieldLink RX4 15 "WholeMarks$Groups" "members" "[I" ∈ GW := gw1 184 (by decide +kernel) rfl
theorem fk_RX4_19 : Cond.fieldLink RX4 19 "WholeMarks$Groups" "trial" "[I" ∈ GW := gw1 185 (by decide +kernel) rfl
theorem fk_RX4_22 : Cond.fieldLink RX4 22 "WholeMarks$Groups" "row" "[I" ∈ GW := gw1 186 (by decide +kernel) rfl
theorem fk_RX11_203 : Cond.fieldLink RX11 203 "WholeMarks$Groups" "row" "[I" ∈ GW := gw1 187 (by decide +kernel) rfl
theorem fk_RX4_46 : Cond.fieldLink RX4 46 "WholeMarks$Groups" "most" "I" ∈ GW := gw1 188 (by decide +kernel) rfl
theorem fk_RX4_43 : Cond.fieldLink RX4 43 "WholeMarks$Groups" "largest" "I" ∈ GW := gw1 189 (by decide +kernel) rfl
theorem fk_RX4_35 : Cond.fieldLink RX4 35 "WholeMarks$Groups" "solved" "Z" ∈ GW := gw1 190 (by decide +kernel) rfl
theorem fk_RX4_39 : Cond.fieldLink RX4 39 "WholeMarks$Groups" "size" "I" ∈ GW := gw1 191 (by decide +kernel) rfl
theorem fk_RX11_200 : Cond.fieldLink RX11 200 "WholeMarks$Groups" "size" "I" ∈ GW := gw1 192 (by decide +kernel) rfl
theorem fk_RX4_75 : Cond.fieldLink RX4 75 "WholeMarks$Groups" "worth" "J" ∈ GW := gw1 193 (by decide +kernel) rfl
theorem fk_RX11_196 : Cond.fieldLink RX11 196 "WholeMarks$Groups" "worth" "J" ∈ GW := gw1 194 (by decide +kernel) rfl
theorem in_RX8 : Cond.instantiable RX8 4 ∈ GW := gw1 214 (by decide +kernel) rfl
theorem im_yX8_init : Cond.instanceMethod yX8_init ∈ GW := gw1 216 (by decide +kernel) rfl
theorem co_yX8_init : Cond.code yX8_init cX8_init 1 none ∈ GW := gw1 217 (rfl) rfl
theorem fk_RX8_9 : Cond.fieldLink RX8 9 "WholeMarks$Sheet" "items" "[J" ∈ GW := gw1 219 (by decide +kernel) rfl
theorem fk_RX11_304 : Cond.fieldLink RX11 304 "WholeMarks$Sheet" "items" "[J" ∈ GW := gw1 220 (by decide +kernel) rfl
theorem fk_RX8_15 : Cond.fieldLink RX8 15 "WholeMarks$Sheet" "isThere" "Z" ∈ GW := gw1 221 (by decide +kernel) rfl
theorem fk_RX11_294 : Cond.fieldLink RX11 294 "WholeMarks$Sheet" "isThere" "Z" ∈ GW := gw1 222 (by decide +kernel) rfl
theorem fk_RX8_19 : Cond.fieldLink RX8 19 "WholeMarks$Sheet" "lane" "I" ∈ GW := gw1 223 (by decide +kernel) rfl
theorem fk_RX11_298 : Cond.fieldLink RX11 298 "WholeMarks$Sheet" "lane" "I" ∈ GW := gw1 224 (by decide +kernel) rfl
theorem fk_RX8_23 : Cond.fieldLink RX8 23 "WholeMarks$Sheet" "length" "I" ∈ GW := gw1 225 (by decide +kernel) rfl
theorem fk_RX11_297 : Cond.fieldLink RX11 297 "WholeMarks$Sheet" "length" "I" ∈ GW := gw1 226 (by decide +kernel) rfl
theorem fk_RX11_10 : Cond.fieldLink RX11 10 "WholeMarks" "market" "LWholeMarks$Market;" ∈ GW := gw1 236 (by decide +kernel) rfl
theorem fk_RX11_16 : Cond.fieldLink RX11 16 "WholeMarks" "kept" "LWholeMarks$Market;" ∈ GW := gw1 237 (by decide +kernel) rfl
theorem fk_RX11_256 : Cond.fieldLink RX11 256 "WholeMarks" "hasImage" "Z" ∈ GW := gw1 238 (by decide +kernel) rfl
theorem fk_RX11_22 : Cond.fieldLink RX11 22 "WholeMarks" "tape" "LWholeMarks$Tape;" ∈ GW := gw1 239 (by decide +kernel) rfl
theorem fk_RX11_28 : Cond.fieldLink RX11 28 "WholeMarks" "sheets" "[LWholeMarks$Sheet;" ∈ GW := gw2 0 (by decide +kernel) rfl
theorem fk_RX11_35 : Cond.fieldLink RX11 35 "WholeMarks" "marks" "LWholeMarks$Marks;" ∈ GW := gw2 1 (by decide +kernel) rfl
theorem fk_RX11_42 : Cond.fieldLink RX11 42 "WholeMarks" "groups" "LWholeMarks$Groups;" ∈ GW := gw2 2 (by decide +kernel) rfl
theorem ml_RL_13 : Cond.methodLink RL 13 yX11_measure ∈ GW := gw2 18 (by decide +kernel) rfl
theorem im_yX11_measure : Cond.instanceMethod yX11_measure ∈ GW := gw2 19 (by decide +kernel) rfl
theorem se_yX11_measure : Cond.selects RX11 yX11_measure yX11_measure ∈ GW := gw2 20 (by decide +kernel) rfl
theorem co_yX11_measure : Cond.code yX11_measure cX11_measure 4 (some .int) ∈ GW := gw2 21 (rfl) rfl
theorem ml_RX11_47 : Cond.methodLink RX11 47 yX11_within ∈ GW := gw2 22 (by decide +kernel) rfl
theorem st_yX11_within : Cond.static yX11_within ∈ GW := gw2 23 (by decide +kernel) rfl
theorem co_yX11_within : Cond.code yX11_within cX11_within 3 (some .boolean) ∈ GW := gw2 24 (rfl) rfl
theorem ml_RX11_61 : Cond.methodLink RX11 61 yX7_at ∈ GW := gw2 25 (by decide +kernel) rfl
theorem st_yX7_at : Cond.static yX7_at ∈ GW := gw2 26 (by decide +kernel) rfl
theorem co_yX7_at : Cond.code yX7_at cX7_at 2 (some .int) ∈ GW := gw2 27 (rfl) rfl
theorem ml_RX11_67 : Cond.methodLink RX11 67 yX7_put ∈ GW := gw2 28 (by decide +kernel) rfl
theorem ml_RL_18 : Cond.methodLink RL 18 yX11_rule ∈ GW := gw2 29 (by decide +kernel) rfl
theorem im_yX11_rule : Cond.instanceMethod yX11_rule ∈ GW := gw2 30 (by decide +kernel) rfl
theorem se_yX11_rule : Cond.selects RX11 yX11_rule yX11_rule ∈ GW := gw2 31 (by decide +kernel) rfl
theorem co_yX11_rule : Cond.code yX11_rule cX11_rule 5 (some .int) ∈ GW := gw2 32 (rfl) rfl
theorem ml_RX11_71 : Cond.methodLink RX11 71 yJ6_bitCount_0f7a4 ∈ GW := gw2 33 (by decide +kernel) rfl
theorem st_yJ6_bitCount_0f7a4 : Cond.static yJ6_bitCount_0f7a4 ∈ GW := gw2 34 (by decide +kernel) rfl
theorem co_yJ6_bitCount_0f7a4 : Cond.code yJ6_bitCount_0f7a4 cJ6_bitCount_0f7a4 1 (some .int) ∈ GW := gw2 35 (rfl) rfl
theorem cs_RJ6_265 : Cond.constant RJ6 265 (1431655765) ∈ GW := gw2 36 (by decide +kernel) rfl
theorem cs_RJ6_266 : Cond.constant RJ6 266 (858993459) ∈ GW := gw2 37 (by decide +kernel) rfl
theorem cs_RJ6_267 : Cond.constant RJ6 267 (252645135) ∈ GW := gw2 38 (by decide +kernel) rfl
theorem ml_RL_22 : Cond.methodLink RL 22 yX11_seam ∈ GW := gw2 39 (by decide +kernel) rfl
theorem im_yX11_seam : Cond.instanceMethod yX11_seam ∈ GW := gw2 40 (by decide +kernel) rfl
theorem se_yX11_seam : Cond.selects RX11 yX11_seam yX11_seam ∈ GW := gw2 41 (by decide +kernel) rfl
theorem co_yX11_seam : Cond.code yX11_seam cX11_seam 3 (some .int) ∈ GW := gw2 42 (rfl) rfl
theorem ml_RL_27 : Cond.methodLink RL 27 yX11_place ∈ GW := gw2 43 (by decide +kernel) rfl
theorem im_yX11_place : Cond.instanceMethod yX11_place ∈ GW := gw2 44 (by decide +kernel) rfl
theorem se_yX11_place : Cond.selects RX11 yX11_place yX11_place ∈ GW := gw2 45 (by decide +kernel) rfl
theorem co_yX11_place : Cond.code yX11_place cX11_place 2 (some .long) ∈ GW := gw2 46 (rfl) rfl
theorem cs_RX11_93 : Cond.constant RX11 93 (999999) ∈ GW := gw2 47 (by decide +kernel) rfl
theorem cs_RX11_94 : Cond.constantLong RX11 94 (-1) ∈ GW := gw2 48 (by decide +kernel) rfl
theorem ml_RX11_96 : Cond.methodLink RX11 96 yX11_marksNow ∈ GW := gw2 49 (by decide +kernel) rfl
theorem im_yX11_marksNow : Cond.instanceMethod yX11_marksNow ∈ GW := gw2 51 (by decide +kernel) rfl
theorem co_yX11_marksNow : Cond.code yX11_marksNow cX11_marksNow 1 (some (.object "WholeMarks$Marks")) ∈ GW := gw2 52 (rfl) rfl
theorem ml_RX11_318 : Cond.methodLink RX11 318 yX10_lay ∈ GW := gw2 53 (by decide +kernel) rfl
theorem im_yX10_lay : Cond.instanceMethod yX10_lay ∈ GW := gw2 54 (by decide +kernel) rfl
theorem se_yX10_lay : Cond.selects RX10 yX10_lay yX10_lay ∈ GW := gw2 55 (by decide +kernel) rfl
theorem co_yX10_lay : Cond.code yX10_lay cX10_lay 5 none ∈ GW := gw2 56 (rfl) rfl
theorem ml_RX10_33 : Cond.methodLink RX10 33 yX7_at ∈ GW := gw2 57 (by decide +kernel) rfl
theorem ml_RX10_37 : Cond.methodLink RX10 37 yX6_meetTwoOfThree ∈ GW := gw2 58 (by decide +kernel) rfl
theorem im_yX6_meetTwoOfThree : Cond.instanceMethod yX6_meetTwoOfThree ∈ GW := gw2 59 (by decide +kernel) rfl
theorem se_yX6_meetTwoOfThree : Cond.selects RX6 yX6_meetTwoOfThree yX6_meetTwoOfThree ∈ GW := gw2 60 (by decide +kernel) rfl
theorem co_yX6_meetTwoOfThree : Cond.code yX6_meetTwoOfThree cX6_meetTwoOfThree 4 none ∈ GW := gw2 61 (rfl) rfl
theorem ml_RX6_29 : Cond.methodLink RX6 29 yX7_leastCommon ∈ GW := gw2 62 (by decide +kernel) rfl
theorem st_yX7_leastCommon : Cond.static yX7_leastCommon ∈ GW := gw2 63 (by decide +kernel) rfl
theorem co_yX7_leastCommon : Cond.code yX7_leastCommon cX7_leastCommon 4 (some .long) ∈ GW := gw2 64 (rfl) rfl
theorem ml_RX7_21 : Cond.methodLink RX7 21 yX7_greatestCommon ∈ GW := gw2 65 (by decide +kernel) rfl
theorem st_yX7_greatestCommon : Cond.static yX7_greatestCommon ∈ GW := gw2 66 (by decide +kernel) rfl
theorem co_yX7_greatestCommon : Cond.code yX7_greatestCommon cX7_greatestCommon 11 (some .long) ∈ GW := gw2 67 (rfl) rfl
theorem ml_RX7_25 : Cond.methodLink RX7 25 yX7_quotient ∈ GW := gw2 68 (by decide +kernel) rfl
theorem st_yX7_quotient : Cond.static yX7_quotient ∈ GW := gw2 69 (by decide +kernel) rfl
theorem co_yX7_quotient : Cond.code yX7_quotient cX7_quotient 4 (some .long) ∈ GW := gw2 70 (rfl) rfl
theorem ml_RX6_15 : Cond.methodLink RX6 15 yX7_put_ ∈ GW := gw2 71 (by decide +kernel) rfl
theorem st_yX7_put_ : Cond.static yX7_put_ ∈ GW := gw2 72 (by decide +kernel) rfl
theorem co_yX7_put_ : Cond.code yX7_put_ cX7_put_ 4 none ∈ GW := gw2 73 (rfl) rfl
theorem ml_RX6_33 : Cond.methodLink RX6 33 yX7_at_ ∈ GW := gw2 74 (by decide +kernel) rfl
theorem st_yX7_at_ : Cond.static yX7_at_ ∈ GW := gw2 75 (by decide +kernel) rfl
theorem co_yX7_at_ : Cond.code yX7_at_ cX7_at_ 2 (some .long) ∈ GW := gw2 76 (rfl) rfl
theorem ml_RX10_43 : Cond.methodLink RX10 43 yX7_leastCommon ∈ GW := gw2 77 (by decide +kernel) rfl
theorem ml_RX10_47 : Cond.methodLink RX10 47 yX6_meetEvery ∈ GW := gw2 78 (by decide +kernel) rfl
theorem im_yX6_meetEvery : Cond.instanceMethod yX6_meetEvery ∈ GW := gw2 79 (by decide +kernel) rfl
theorem se_yX6_meetEvery : Cond.selects RX6 yX6_meetEvery yX6_meetEvery ∈ GW := gw2 80 (by decide +kernel) rfl
theorem co_yX6_meetEvery : Cond.code yX6_meetEvery cX6_meetEvery 3 none ∈ GW := gw2 81 (rfl) rfl
theorem ml_RX11_100 : Cond.methodLink RX11 100 yX6_nth ∈ GW := gw2 82 (by decide +kernel) rfl
theorem im_yX6_nth : Cond.instanceMethod yX6_nth ∈ GW := gw2 83 (by decide +kernel) rfl
theorem se_yX6_nth : Cond.selects RX6 yX6_nth yX6_nth ∈ GW := gw2 84 (by decide +kernel) rfl
theorem co_yX6_nth : Cond.code yX6_nth cX6_nth 9 (some .long) ∈ GW := gw2 85 (rfl) rfl
theorem cs_RX6_47 : Cond.constantLong RX6 47 (9223372036854775807) ∈ GW := gw2 86 (by decide +kernel) rfl
theorem ml_RX6_49 : Cond.methodLink RX6 49 yJ9_min_f86c9 ∈ GW := gw2 87 (by decide +kernel) rfl
theorem st_yJ9_min_f86c9 : Cond.static yJ9_min_f86c9 ∈ GW := gw2 88 (by decide +kernel) rfl
theorem co_yJ9_min_f86c9 : Cond.code yJ9_min_f86c9 cJ9_min_f86c9 4 (some .long) ∈ GW := gw2 89 (rfl) rfl
theorem cs_RX6_56 : Cond.constantLong RX6 56 (2) ∈ GW := gw2 90 (by decide +kernel) rfl
theorem ml_RX6_58 : Cond.methodLink RX6 58 yX6_howManyTo ∈ GW := gw2 91 (by decide +kernel) rfl
theorem im_yX6_howManyTo : Cond.instanceMethod yX6_howManyTo ∈ GW := gw2 92 (by decide +kernel) rfl
theorem se_yX6_howManyTo : Cond.selects RX6 yX6_howManyTo yX6_howManyTo ∈ GW := gw2 93 (by decide +kernel) rfl
theorem co_yX6_howManyTo : Cond.code yX6_howManyTo cX6_howManyTo 6 (some .long) ∈ GW := gw2 94 (rfl) rfl
theorem ml_RX6_37 : Cond.methodLink RX6 37 yX7_quotient ∈ GW := gw2 95 (by decide +kernel) rfl
theorem ml_RL_34 : Cond.methodLink RL 34 yX11_places ∈ GW := gw2 96 (by decide +kernel) rfl
theorem im_yX11_places : Cond.instanceMethod yX11_places ∈ GW := gw2 97 (by decide +kernel) rfl
theorem se_yX11_places : Cond.selects RX11 yX11_places yX11_places ∈ GW := gw2 98 (by decide +kernel) rfl
theorem co_yX11_places : Cond.code yX11_places cX11_places 3 (some .long) ∈ GW := gw2 99 (rfl) rfl
theorem cs_RX11_104 : Cond.constantLong RX11 104 (1000000000000000) ∈ GW := gw2 100 (by decide +kernel) rfl
theorem ml_RX11_106 : Cond.methodLink RX11 106 yX6_howManyTo ∈ GW := gw2 101 (by decide +kernel) rfl
theorem ml_RL_39 : Cond.methodLink RL 39 yX11_bolt ∈ GW := gw2 102 (by decide +kernel) rfl
theorem im_yX11_bolt : Cond.instanceMethod yX11_bolt ∈ GW := gw2 103 (by decide +kernel) rfl
theorem se_yX11_bolt : Cond.selects RX11 yX11_bolt yX11_bolt ∈ GW := gw2 104 (by decide +kernel) rfl
theorem co_yX11_bolt : Cond.code yX11_bolt cX11_bolt 3 (some .int) ∈ GW := gw2 105 (rfl) rfl
theorem ml_RX11_110 : Cond.methodLink RX11 110 yX11_isCloth ∈ GW := gw2 106 (by decide +kernel) rfl
theorem st_yX11_isCloth : Cond.static yX11_isCloth ∈ GW := gw2 107 (by decide +kernel) rfl
theorem co_yX11_isCloth : Cond.code yX11_isCloth cX11_isCloth 1 (some .boolean) ∈ GW := gw2 108 (rfl) rfl
theorem fk_RX11_314 : Cond.fieldLink RX11 314 "WholeMarks" "CLOTHS" "[LWholeMarks$Cloth;" ∈ GW := gw2 109 (by decide +kernel) rfl
theorem cs_RX11_114 : Cond.constant RX11 114 (99999) ∈ GW := gw2 111 (by decide +kernel) rfl
theorem ml_RX11_118 : Cond.methodLink RX11 118 yX0_add ∈ GW := gw2 112 (by decide +kernel) rfl
theorem im_yX0_add : Cond.instanceMethod yX0_add ∈ GW := gw2 113 (by decide +kernel) rfl
theorem se_yX0_add : Cond.selects RX0 yX0_add yX0_add ∈ GW := gw2 114 (by decide +kernel) rfl
theorem co_yX0_add : Cond.code yX0_add cX0_add 3 (some .int) ∈ GW := gw2 115 (rfl) rfl
theorem ml_RX0_37 : Cond.methodLink RX0 37 yX7_put ∈ GW := gw2 116 (by decide +kernel) rfl
theorem ml_RL_43 : Cond.methodLink RL 43 yX11_told ∈ GW := gw2 117 (by decide +kernel) rfl
theorem im_yX11_told : Cond.instanceMethod yX11_told ∈ GW := gw2 118 (by decide +kernel) rfl
theorem se_yX11_told : Cond.selects RX11 yX11_told yX11_told ∈ GW := gw2 119 (by decide +kernel) rfl
theorem co_yX11_told : Cond.code yX11_told cX11_told 5 (some .int) ∈ GW := gw2 120 (rfl) rfl
theorem ml_RX11_122 : Cond.methodLink RX11 122 yX0_has ∈ GW := gw2 121 (by decide +kernel) rfl
theorem im_yX0_has : Cond.instanceMethod yX0_has ∈ GW := gw2 122 (by decide +kernel) rfl
theorem se_yX0_has : Cond.selects RX0 yX0_has yX0_has ∈ GW := gw2 123 (by decide +kernel) rfl
theorem co_yX0_has : Cond.code yX0_has cX0_has 2 (some .boolean) ∈ GW := gw2 124 (rfl) rfl
theorem ml_RX11_131 : Cond.methodLink RX11 131 yX6_lastTo ∈ GW := gw2 125 (by decide +kernel) rfl
theorem im_yX6_lastTo : Cond.instanceMethod yX6_lastTo ∈ GW := gw2 126 (by decide +kernel) rfl
theorem se_yX6_lastTo : Cond.selects RX6 yX6_lastTo yX6_lastTo ∈ GW := gw2 127 (by decide +kernel) rfl
theorem co_yX6_lastTo : Cond.code yX6_lastTo cX6_lastTo 8 (some .long) ∈ GW := gw2 128 (rfl) rfl
theorem ml_RX6_40 : Cond.methodLink RX6 40 yJ9_max_f86c9 ∈ GW := gw2 129 (by decide +kernel) rfl
theorem st_yJ9_max_f86c9 : Cond.static yJ9_max_f86c9 ∈ GW := gw2 130 (by decide +kernel) rfl
theorem co_yJ9_max_f86c9 : Cond.code yJ9_max_f86c9 cJ9_max_f86c9 4 (some .long) ∈ GW := gw2 131 (rfl) rfl
theorem ml_RL_47 : Cond.methodLink RL 47 yX11_cut ∈ GW := gw2 132 (by decide +kernel) rfl
theorem im_yX11_cut : Cond.instanceMethod yX11_cut ∈ GW := gw2 133 (by decide +kernel) rfl
theorem se_yX11_cut : Cond.selects RX11 yX11_cut yX11_cut ∈ GW := gw2 134 (by decide +kernel) rfl
theorem co_yX11_cut : Cond.code yX11_cut cX11_cut 4 (some .int) ∈ GW := gw2 135 (rfl) rfl
theorem ml_RX11_134 : Cond.methodLink RX11 134 yX6_areMetAt ∈ GW := gw2 136 (by decide +kernel) rfl
theorem im_yX6_areMetAt : Cond.instanceMethod yX6_areMetAt ∈ GW := gw2 137 (by decide +kernel) rfl
theorem se_yX6_areMetAt : Cond.selects RX6 yX6_areMetAt yX6_areMetAt ∈ GW := gw2 138 (by decide +kernel) rfl
theorem co_yX6_areMetAt : Cond.code yX6_areMetAt cX6_areMetAt 3 (some .boolean) ∈ GW := gw2 139 (rfl) rfl
theorem ml_RX6_52 : Cond.methodLink RX6 52 yX6_lastTo ∈ GW := gw2 140 (by decide +kernel) rfl
theorem ml_RX11_138 : Cond.methodLink RX11 138 yX0_sell ∈ GW := gw2 141 (by decide +kernel) rfl
theorem im_yX0_sell : Cond.instanceMethod yX0_sell ∈ GW := gw2 142 (by decide +kernel) rfl
theorem se_yX0_sell : Cond.selects RX0 yX0_sell yX0_sell ∈ GW := gw2 143 (by decide +kernel) rfl
theorem co_yX0_sell : Cond.code yX0_sell cX0_sell 4 (some .int) ∈ GW := gw2 144 (rfl) rfl
theorem ml_RX0_41 : Cond.methodLink RX0 41 yX7_at ∈ GW := gw2 145 (by decide +kernel) rfl
theorem ml_RX0_51 : Cond.methodLink RX0 51 yX0_clothOf ∈ GW := gw2 146 (by decide +kernel) rfl
theorem st_yX0_clothOf : Cond.static yX0_clothOf ∈ GW := gw2 147 (by decide +kernel) rfl
theorem co_yX0_clothOf : Cond.code yX0_clothOf cX0_clothOf 1 (some (.object "WholeMarks$Cloth")) ∈ GW := gw2 148 (rfl) rfl
theorem fk_RX0_83 : Cond.fieldLink RX0 83 "WholeMarks$Cloth" "LINEN" "LWholeMarks$Cloth;" ∈ GW := gw2 150 (by decide +kernel) rfl
theorem ml_RX0_60 : Cond.methodLink RX0 60 yJ9_max_7cf53 ∈ GW := gw2 152 (by decide +kernel) rfl
theorem st_yJ9_max_7cf53 : Cond.static yJ9_max_7cf53 ∈ GW := gw2 153 (by decide +kernel) rfl
theorem co_yJ9_max_7cf53 : Cond.code yJ9_max_7cf53 cJ9_max_7cf53 2 (some .int) ∈ GW := gw2 154 (rfl) rfl
theorem ml_RL_51 : Cond.methodLink RL 51 yX11_join ∈ GW := gw2 155 (by decide +kernel) rfl
theorem im_yX11_join : Cond.instanceMethod yX11_join ∈ GW := gw2 156 (by decide +kernel) rfl
theorem se_yX11_join : Cond.selects RX11 yX11_join yX11_join ∈ GW := gw2 157 (by decide +kernel) rfl
theorem co_yX11_join : Cond.code yX11_join cX11_join 5 (some .int) ∈ GW := gw2 158 (rfl) rfl
theorem ml_RX11_141 : Cond.methodLink RX11 141 yX0_canBeSewn ∈ GW := gw2 159 (by decide +kernel) rfl
theorem im_yX0_canBeSewn : Cond.instanceMethod yX0_canBeSewn ∈ GW := gw2 160 (by decide +kernel) rfl
theorem se_yX0_canBeSewn : Cond.selects RX0 yX0_canBeSewn yX0_canBeSewn ∈ GW := gw2 161 (by decide +kernel) rfl
theorem co_yX0_canBeSewn : Cond.code yX0_canBeSewn cX0_canBeSewn 4 (some .boolean) ∈ GW := gw2 162 (rfl) rfl
theorem ml_RX11_145 : Cond.methodLink RX11 145 yX0_lengthOfAll ∈ GW := gw2 163 (by decide +kernel) rfl
theorem im_yX0_lengthOfAll : Cond.instanceMethod yX0_lengthOfAll ∈ GW := gw2 164 (by decide +kernel) rfl
theorem se_yX0_lengthOfAll : Cond.selects RX0 yX0_lengthOfAll yX0_lengthOfAll ∈ GW := gw2 165 (by decide +kernel) rfl
theorem co_yX0_lengthOfAll : Cond.code yX0_lengthOfAll cX0_lengthOfAll 6 (some .int) ∈ GW := gw2 166 (rfl) rfl
theorem ml_RX0_73 : Cond.methodLink RX0 73 yJ6_bitCount_0f7a4 ∈ GW := gw2 167 (by decide +kernel) rfl
theorem ml_RX11_148 : Cond.methodLink RX11 148 yX0_sew ∈ GW := gw2 168 (by decide +kernel) rfl
theorem im_yX0_sew : Cond.instanceMethod yX0_sew ∈ GW := gw2 169 (by decide +kernel) rfl
theorem se_yX0_sew : Cond.selects RX0 yX0_sew yX0_sew ∈ GW := gw2 170 (by decide +kernel) rfl
theorem co_yX0_sew : Cond.code yX0_sew cX0_sew 4 none ∈ GW := gw2 171 (rfl) rfl
theorem ml_RL_55 : Cond.methodLink RL 55 yX11_type ∈ GW := gw2 172 (by decide +kernel) rfl
theorem im_yX11_type : Cond.instanceMethod yX11_type ∈ GW := gw2 173 (by decide +kernel) rfl
theorem se_yX11_type : Cond.selects RX11 yX11_type yX11_type ∈ GW := gw2 174 (by decide +kernel) rfl
theorem co_yX11_type : Cond.code yX11_type cX11_type 5 (some .int) ∈ GW := gw2 175 (rfl) rfl
theorem ml_RX11_152 : Cond.methodLink RX11 152 yX11_byteOf ∈ GW := gw2 176 (by decide +kernel) rfl
theorem st_yX11_byteOf : Cond.static yX11_byteOf ∈ GW := gw2 177 (by decide +kernel) rfl
theorem co_yX11_byteOf : Cond.code yX11_byteOf cX11_byteOf 3 (some .int) ∈ GW := gw2 178 (rfl) rfl
theorem ml_RX11_159 : Cond.methodLink RX11 159 yX9_add ∈ GW := gw2 179 (by decide +kernel) rfl
theorem im_yX9_add : Cond.instanceMethod yX9_add ∈ GW := gw2 180 (by decide +kernel) rfl
theorem se_yX9_add : Cond.selects RX9 yX9_add yX9_add ∈ GW := gw2 181 (by decide +kernel) rfl
theorem co_yX9_add : Cond.code yX9_add cX9_add 2 none ∈ GW := gw2 182 (rfl) rfl
theorem ml_RX9_22 : Cond.methodLink RX9 22 yX7_put ∈ GW := gw2 183 (by decide +kernel) rfl
theorem ml_RL_60 : Cond.methodLink RL 60 yX11_towns ∈ GW := gw2 184 (by decide +kernel) rfl
theorem im_yX11_towns : Cond.instanceMethod yX11_towns ∈ GW := gw2 185 (by decide +kernel) rfl
theorem se_yX11_towns : Cond.selects RX11 yX11_towns yX11_towns ∈ GW := gw2 186 (by decide +kernel) rfl
theorem co_yX11_towns : Cond.code yX11_towns cX11_towns 2 (some .int) ∈ GW := gw2 187 (rfl) rfl
theorem ml_RX11_162 : Cond.methodLink RX11 162 yX9_read ∈ GW := gw2 188 (by decide +kernel) rfl
theorem im_yX9_read : Cond.instanceMethod yX9_read ∈ GW := gw2 189 (by decide +kernel) rfl
theorem se_yX9_read : Cond.selects RX9 yX9_read yX9_read ∈ GW := gw2 190 (by decide +kernel) rfl
theorem co_yX9_read : Cond.code yX9_read cX9_read 1 (some .int) ∈ GW := gw2 191 (rfl) rfl
theorem ml_RX9_37 : Cond.methodLink RX9 37 yX9_readMeasures ∈ GW := gw2 192 (by decide +kernel) rfl
theorem im_yX9_readMeasures : Cond.instanceMethod yX9_readMeasures ∈ GW := gw2 194 (by decide +kernel) rfl
theorem co_yX9_readMeasures : Cond.code yX9_readMeasures cX9_readMeasures 3 (some .boolean) ∈ GW := gw2 195 (rfl) rfl
theorem ml_RX9_41 : Cond.methodLink RX9 41 yX9_peek ∈ GW := gw2 196 (by decide +kernel) rfl
theorem im_yX9_peek : Cond.instanceMethod yX9_peek ∈ GW := gw2 198 (by decide +kernel) rfl
theorem co_yX9_peek : Cond.code yX9_peek cX9_peek 1 (some .int) ∈ GW := gw2 199 (rfl) rfl
theorem ml_RX9_54 : Cond.methodLink RX9 54 yX7_at ∈ GW := gw2 200 (by decide +kernel) rfl
theorem ml_RX9_57 : Cond.methodLink RX9 57 yX9_readNumber ∈ GW := gw2 201 (by decide +kernel) rfl
theorem im_yX9_readNumber : Cond.instanceMethod yX9_readNumber ∈ GW := gw2 203 (by decide +kernel) rfl
theorem co_yX9_readNumber : Cond.code yX9_readNumber cX9_readNumber 3 (some .int) ∈ GW := gw2 204 (rfl) rfl
theorem ml_RX9_60 : Cond.methodLink RX9 60 yX9_isDigit ∈ GW := gw2 205 (by decide +kernel) rfl
theorem st_yX9_isDigit : Cond.static yX9_isDigit ∈ GW := gw2 206 (by decide +kernel) rfl
theorem co_yX9_isDigit : Cond.code yX9_isDigit cX9_isDigit 1 (some .boolean) ∈ GW := gw2 207 (rfl) rfl
theorem ml_RX9_64 : Cond.methodLink RX9 64 yJ9_min_7cf53 ∈ GW := gw2 208 (by decide +kernel) rfl
theorem st_yJ9_min_7cf53 : Cond.static yJ9_min_7cf53 ∈ GW := gw2 209 (by decide +kernel) rfl
theorem co_yJ9_min_7cf53 : Cond.code yJ9_min_7cf53 cJ9_min_7cf53 2 (some .int) ∈ GW := gw2 210 (rfl) rfl
theorem ml_RX9_45 : Cond.methodLink RX9 45 yX9_readCounting ∈ GW := gw2 211 (by decide +kernel) rfl
theorem im_yX9_readCounting : Cond.instanceMethod yX9_readCounting ∈ GW := gw2 213 (by decide +kernel) rfl
theorem co_yX9_readCounting : Cond.code yX9_readCounting cX9_readCounting 4 (some .boolean) ∈ GW := gw2 214 (rfl) rfl
theorem ml_RX9_48 : Cond.methodLink RX9 48 yJ6_bitCount_0f7a4 ∈ GW := gw2 215 (by decide +kernel) rfl
theorem ml_RX11_166 : Cond.methodLink RX11 166 yX10_take ∈ GW := gw2 216 (by decide +kernel) rfl
theorem im_yX10_take : Cond.instanceMethod yX10_take ∈ GW := gw2 217 (by decide +kernel) rfl
theorem se_yX10_take : Cond.selects RX10 yX10_take yX10_take ∈ GW := gw2 218 (by decide +kernel) rfl
theorem co_yX10_take : Cond.code yX10_take cX10_take 2 none ∈ GW := gw2 219 (rfl) rfl
theorem ml_RX10_19 : Cond.methodLink RX10 19 yX7_fill ∈ GW := gw2 220 (by decide +kernel) rfl
theorem st_yX7_fill : Cond.static yX7_fill ∈ GW := gw2 221 (by decide +kernel) rfl
theorem co_yX7_fill : Cond.code yX7_fill cX7_fill 2 none ∈ GW := gw2 222 (rfl) rfl
theorem ml_RX7_7 : Cond.methodLink RX7 7 yJ9_min_7cf53 ∈ GW := gw2 223 (by decide +kernel) rfl
theorem ml_RX7_13 : Cond.methodLink RX7 13 arraycopyName ∈ GW := gw2 224 (by decide +kernel) rfl
theorem st_arraycopyName : Cond.static arraycopyName ∈ GW := gw2 225 (by decide +kernel) rfl
theorem na_arraycopy : Cond.native arraycopyName ∈ GW := gw2 226 (by decide +kernel) rfl
theorem ml_RL_65 : Cond.methodLink RL 65 yX11_count ∈ GW := gw2 227 (by decide +kernel) rfl
theorem im_yX11_count : Cond.instanceMethod yX11_count ∈ GW := gw2 228 (by decide +kernel) rfl
theorem se_yX11_count : Cond.selects RX11 yX11_count yX11_count ∈ GW := gw2 229 (by decide +kernel) rfl
theorem co_yX11_count : Cond.code yX11_count cX11_count 2 (some .int) ∈ GW := gw2 230 (rfl) rfl
theorem ml_RX11_170 : Cond.methodLink RX11 170 yX0_inches ∈ GW := gw2 231 (by decide +kernel) rfl
theorem im_yX0_inches : Cond.instanceMethod yX0_inches ∈ GW := gw2 232 (by decide +kernel) rfl
theorem se_yX0_inches : Cond.selects RX0 yX0_inches yX0_inches ∈ GW := gw2 233 (by decide +kernel) rfl
theorem co_yX0_inches : Cond.code yX0_inches cX0_inches 3 (some .int) ∈ GW := gw2 234 (rfl) rfl
theorem ml_RX11_183 : Cond.methodLink RX11 183 yX1_everyone ∈ GW := gw2 235 (by decide +kernel) rfl
theorem im_yX1_everyone : Cond.instanceMethod yX1_everyone ∈ GW := gw2 236 (by decide +kernel) rfl
theorem se_yX1_everyone : Cond.selects RX1 yX1_everyone yX1_everyone ∈ GW := gw2 237 (by decide +kernel) rfl
theorem co_yX1_everyone : Cond.code yX1_everyone cX1_everyone 1 (some .int) ∈ GW := gw2 238 (rfl) rfl
theorem ml_RX11_186 : Cond.methodLink RX11 186 yX1_wantedBy ∈ GW := gw2 239 (by decide +kernel) rfl
theorem im_yX1_wantedBy : Cond.instanceMethod yX1_wantedBy ∈ GW := gw3 0 (by decide +kernel) rfl
theorem se_yX1_wantedBy : Cond.selects RX1 yX1_wantedBy yX1_wantedBy ∈ GW := gw3 1 (by decide +kernel) rfl
theorem co_yX1_wantedBy : Cond.code yX1_wantedBy cX1_wantedBy 4 (some .int) ∈ GW := gw3 2 (rfl) rfl
theorem ml_RX1_29 : Cond.methodLink RX1 29 yX7_at ∈ GW := gw3 3 (by decide +kernel) rfl
theorem ml_RX11_189 : Cond.methodLink RX11 189 yX0_waste ∈ GW := gw3 4 (by decide +kernel) rfl
theorem im_yX0_waste : Cond.instanceMethod yX0_waste ∈ GW := gw3 5 (by decide +kernel) rfl
theorem se_yX0_waste : Cond.selects RX0 yX0_waste yX0_waste ∈ GW := gw3 6 (by decide +kernel) rfl
theorem co_yX0_waste : Cond.code yX0_waste cX0_waste 5 (some .int) ∈ GW := gw3 7 (rfl) rfl
theorem ml_RX0_45 : Cond.methodLink RX0 45 yX6_lastTo ∈ GW := gw3 8 (by decide +kernel) rfl
theorem ml_RL_69 : Cond.methodLink RL 69 yX11_most ∈ GW := gw3 9 (by decide +kernel) rfl
theorem im_yX11_most : Cond.instanceMethod yX11_most ∈ GW := gw3 10 (by decide +kernel) rfl
theorem se_yX11_most : Cond.selects RX11 yX11_most yX11_most ∈ GW := gw3 11 (by decide +kernel) rfl
theorem co_yX11_most : Cond.code yX11_most cX11_most 3 (some .int) ∈ GW := gw3 12 (rfl) rfl
theorem ml_RX11_193 : Cond.methodLink RX11 193 yX11_groupBolts ∈ GW := gw3 13 (by decide +kernel) rfl
theorem im_yX11_groupBolts : Cond.instanceMethod yX11_groupBolts ∈ GW := gw3 15 (by decide +kernel) rfl
theorem co_yX11_groupBolts : Cond.code yX11_groupBolts cX11_groupBolts 6 none ∈ GW := gw3 16 (rfl) rfl
theorem ml_RX11_325 : Cond.methodLink RX11 325 yX0_pick ∈ GW := gw3 17 (by decide +kernel) rfl
theorem im_yX0_pick : Cond.instanceMethod yX0_pick ∈ GW := gw3 18 (by decide +kernel) rfl
theorem se_yX0_pick : Cond.selects RX0 yX0_pick yX0_pick ∈ GW := gw3 19 (by decide +kernel) rfl
theorem co_yX0_pick : Cond.code yX0_pick cX0_pick 4 (some .int) ∈ GW := gw3 20 (rfl) rfl
theorem ml_RX11_328 : Cond.methodLink RX11 328 yX0_lengthOfPicked ∈ GW := gw3 21 (by decide +kernel) rfl
theorem im_yX0_lengthOfPicked : Cond.instanceMethod yX0_lengthOfPicked ∈ GW := gw3 22 (by decide +kernel) rfl
theorem se_yX0_lengthOfPicked : Cond.selects RX0 yX0_lengthOfPicked yX0_lengthOfPicked ∈ GW := gw3 23 (by decide +kernel) rfl
theorem co_yX0_lengthOfPicked : Cond.code yX0_lengthOfPicked cX0_lengthOfPicked 5 (some .int) ∈ GW := gw3 24 (rfl) rfl
theorem ml_RX0_66 : Cond.methodLink RX0 66 yX0_lengthOfAll ∈ GW := gw3 25 (by decide +kernel) rfl
theorem ml_RX11_331 : Cond.methodLink RX11 331 yX4_setWorth ∈ GW := gw3 26 (by decide +kernel) rfl
theorem im_yX4_setWorth : Cond.instanceMethod yX4_setWorth ∈ GW := gw3 27 (by decide +kernel) rfl
theorem se_yX4_setWorth : Cond.selects RX4 yX4_setWorth yX4_setWorth ∈ GW := gw3 28 (by decide +kernel) rfl
theorem co_yX4_setWorth : Cond.code yX4_setWorth cX4_setWorth 4 none ∈ GW := gw3 29 (rfl) rfl
theorem ml_RX4_25 : Cond.methodLink RX4 25 yX7_at_ ∈ GW := gw3 30 (by decide +kernel) rfl
theorem ml_RX4_31 : Cond.methodLink RX4 31 yX7_put_ ∈ GW := gw3 31 (by decide +kernel) rfl
theorem ml_RX11_334 : Cond.methodLink RX11 334 yX4_solve ∈ GW := gw3 32 (by decide +kernel) rfl
theorem im_yX4_solve : Cond.instanceMethod yX4_solve ∈ GW := gw3 33 (by decide +kernel) rfl
theorem se_yX4_solve : Cond.selects RX4 yX4_solve yX4_solve ∈ GW := gw3 34 (by decide +kernel) rfl
theorem co_yX4_solve : Cond.code yX4_solve cX4_solve 3 none ∈ GW := gw3 35 (rfl) rfl
theorem ml_RX4_49 : Cond.methodLink RX4 49 yX4_seat ∈ GW := gw3 36 (by decide +kernel) rfl
theorem st_yX4_seat : Cond.static yX4_seat ∈ GW := gw3 37 (by decide +kernel) rfl
theorem co_yX4_seat : Cond.code yX4_seat cX4_seat 10 none ∈ GW := gw3 38 (rfl) rfl
theorem ml_RX4_53 : Cond.methodLink RX4 53 yX4_keepIfBetter ∈ GW := gw3 39 (by decide +kernel) rfl
theorem im_yX4_keepIfBetter : Cond.instanceMethod yX4_keepIfBetter ∈ GW := gw3 41 (by decide +kernel) rfl
theorem co_yX4_keepIfBetter : Cond.code yX4_keepIfBetter cX4_keepIfBetter 4 none ∈ GW := gw3 42 (rfl) rfl
theorem ml_RX4_79 : Cond.methodLink RX4 79 yX7_fill ∈ GW := gw3 43 (by decide +kernel) rfl
theorem ml_RX4_57 : Cond.methodLink RX4 57 yX7_at ∈ GW := gw3 44 (by decide +kernel) rfl
theorem ml_RX4_60 : Cond.methodLink RX4 60 yJ6_bitCount_0f7a4 ∈ GW := gw3 45 (by decide +kernel) rfl
theorem ml_RX4_66 : Cond.methodLink RX4 66 yX7_put ∈ GW := gw3 46 (by decide +kernel) rfl
theorem ml_RX4_69 : Cond.methodLink RX4 69 yJ9_max_7cf53 ∈ GW := gw3 47 (by decide +kernel) rfl
theorem ml_RL_73 : Cond.methodLink RL 73 yX11_buyer ∈ GW := gw3 48 (by decide +kernel) rfl
theorem im_yX11_buyer : Cond.instanceMethod yX11_buyer ∈ GW := gw3 49 (by decide +kernel) rfl
theorem se_yX11_buyer : Cond.selects RX11 yX11_buyer yX11_buyer ∈ GW := gw3 50 (by decide +kernel) rfl
theorem co_yX11_buyer : Cond.code yX11_buyer cX11_buyer 2 (some .int) ∈ GW := gw3 51 (rfl) rfl
theorem ml_RX11_206 : Cond.methodLink RX11 206 yX1_add ∈ GW := gw3 52 (by decide +kernel) rfl
theorem im_yX1_add : Cond.instanceMethod yX1_add ∈ GW := gw3 53 (by decide +kernel) rfl
theorem se_yX1_add : Cond.selects RX1 yX1_add yX1_add ∈ GW := gw3 54 (by decide +kernel) rfl
theorem co_yX1_add : Cond.code yX1_add cX1_add 2 (some .int) ∈ GW := gw3 55 (rfl) rfl
theorem ml_RX1_25 : Cond.methodLink RX1 25 yX7_put ∈ GW := gw3 56 (by decide +kernel) rfl
theorem ml_RL_77 : Cond.methodLink RL 77 yX11_home ∈ GW := gw3 57 (by decide +kernel) rfl
theorem im_yX11_home : Cond.instanceMethod yX11_home ∈ GW := gw3 58 (by decide +kernel) rfl
theorem se_yX11_home : Cond.selects RX11 yX11_home yX11_home ∈ GW := gw3 59 (by decide +kernel) rfl
theorem co_yX11_home : Cond.code yX11_home cX11_home 2 (some .int) ∈ GW := gw3 60 (rfl) rfl
theorem ml_RL_81 : Cond.methodLink RL 81 yX11_price ∈ GW := gw3 61 (by decide +kernel) rfl
theorem im_yX11_price : Cond.instanceMethod yX11_price ∈ GW := gw3 62 (by decide +kernel) rfl
theorem se_yX11_price : Cond.selects RX11 yX11_price yX11_price ∈ GW := gw3 63 (by decide +kernel) rfl
theorem co_yX11_price : Cond.code yX11_price cX11_price 2 (some .long) ∈ GW := gw3 64 (rfl) rfl
theorem ml_RX11_208 : Cond.methodLink RX11 208 yX11_priceOf ∈ GW := gw3 65 (by decide +kernel) rfl
theorem im_yX11_priceOf : Cond.instanceMethod yX11_priceOf ∈ GW := gw3 67 (by decide +kernel) rfl
theorem co_yX11_priceOf : Cond.code yX11_priceOf cX11_priceOf 3 (some .long) ∈ GW := gw3 68 (rfl) rfl
theorem ml_RX11_322 : Cond.methodLink RX11 322 yX6_firstFrom ∈ GW := gw3 69 (by decide +kernel) rfl
theorem im_yX6_firstFrom : Cond.instanceMethod yX6_firstFrom ∈ GW := gw3 70 (by decide +kernel) rfl
theorem se_yX6_firstFrom : Cond.selects RX6 yX6_firstFrom yX6_firstFrom ∈ GW := gw3 71 (by decide +kernel) rfl
theorem co_yX6_firstFrom : Cond.code yX6_firstFrom cX6_firstFrom 8 (some .long) ∈ GW := gw3 72 (rfl) rfl
theorem ml_RL_85 : Cond.methodLink RL 85 yX11_parties ∈ GW := gw3 73 (by decide +kernel) rfl
theorem im_yX11_parties : Cond.instanceMethod yX11_parties ∈ GW := gw3 74 (by decide +kernel) rfl
theorem se_yX11_parties : Cond.selects RX11 yX11_parties yX11_parties ∈ GW := gw3 75 (by decide +kernel) rfl
theorem co_yX11_parties : Cond.code yX11_parties cX11_parties 3 (some .long) ∈ GW := gw3 76 (rfl) rfl
theorem cs_RX11_212 : Cond.constantLong RX11 212 (-4) ∈ GW := gw3 77 (by decide +kernel) rfl
theorem ml_RX11_214 : Cond.methodLink RX11 214 yX11_groupBuyers ∈ GW := gw3 78 (by decide +kernel) rfl
theorem im_yX11_groupBuyers : Cond.instanceMethod yX11_groupBuyers ∈ GW := gw3 80 (by decide +kernel) rfl
theorem co_yX11_groupBuyers : Cond.code yX11_groupBuyers cX11_groupBuyers 4 none ∈ GW := gw3 81 (rfl) rfl
theorem ml_RL_90 : Cond.methodLink RL 90 yX11_third ∈ GW := gw3 82 (by decide +kernel) rfl
theorem im_yX11_third : Cond.instanceMethod yX11_third ∈ GW := gw3 83 (by decide +kernel) rfl
theorem se_yX11_third : Cond.selects RX11 yX11_third yX11_third ∈ GW := gw3 84 (by decide +kernel) rfl
theorem co_yX11_third : Cond.code yX11_third cX11_third 7 (some .int) ∈ GW := gw3 85 (rfl) rfl
theorem cs_RX11_217 : Cond.constant RX11 217 (2147483647) ∈ GW := gw3 86 (by decide +kernel) rfl
theorem ml_RX11_218 : Cond.methodLink RX11 218 yX6_meetTwoOfThree ∈ GW := gw3 87 (by decide +kernel) rfl
theorem ml_RL_94 : Cond.methodLink RL 94 yX11_worn ∈ GW := gw3 88 (by decide +kernel) rfl
theorem im_yX11_worn : Cond.instanceMethod yX11_worn ∈ GW := gw3 89 (by decide +kernel) rfl
theorem se_yX11_worn : Cond.selects RX11 yX11_worn yX11_worn ∈ GW := gw3 90 (by decide +kernel) rfl
theorem co_yX11_worn : Cond.code yX11_worn cX11_worn 7 (some .int) ∈ GW := gw3 91 (rfl) rfl
theorem ml_RX11_221 : Cond.methodLink RX11 221 yX7_quotient ∈ GW := gw3 92 (by decide +kernel) rfl
theorem ml_RL_98 : Cond.methodLink RL 98 yX11_rate ∈ GW := gw3 93 (by decide +kernel) rfl
theorem im_yX11_rate : Cond.instanceMethod yX11_rate ∈ GW := gw3 94 (by decide +kernel) rfl
theorem se_yX11_rate : Cond.selects RX11 yX11_rate yX11_rate ∈ GW := gw3 95 (by decide +kernel) rfl
theorem co_yX11_rate : Cond.code yX11_rate cX11_rate 6 (some .int) ∈ GW := gw3 96 (rfl) rfl
theorem ml_RX11_229 : Cond.methodLink RX11 229 yX3_agree ∈ GW := gw3 97 (by decide +kernel) rfl
theorem im_yX3_agree : Cond.instanceMethod yX3_agree ∈ GW := gw3 98 (by decide +kernel) rfl
theorem se_yX3_agree : Cond.selects RX3 yX3_agree yX3_agree ∈ GW := gw3 99 (by decide +kernel) rfl
theorem co_yX3_agree : Cond.code yX3_agree cX3_agree 7 (some .int) ∈ GW := gw3 100 (rfl) rfl
theorem ml_RX3_28 : Cond.methodLink RX3 28 yX7_at ∈ GW := gw3 101 (by decide +kernel) rfl
theorem ml_RL_103 : Cond.methodLink RL 103 yX11_rings ∈ GW := gw3 102 (by decide +kernel) rfl
theorem im_yX11_rings : Cond.instanceMethod yX11_rings ∈ GW := gw3 103 (by decide +kernel) rfl
theorem se_yX11_rings : Cond.selects RX11 yX11_rings yX11_rings ∈ GW := gw3 104 (by decide +kernel) rfl
theorem co_yX11_rings : Cond.code yX11_rings cX11_rings 6 (some .int) ∈ GW := gw3 105 (rfl) rfl
theorem ml_RX11_235 : Cond.methodLink RX11 235 yX3_isRing ∈ GW := gw3 106 (by decide +kernel) rfl
theorem im_yX3_isRing : Cond.instanceMethod yX3_isRing ∈ GW := gw3 107 (by decide +kernel) rfl
theorem se_yX3_isRing : Cond.selects RX3 yX3_isRing yX3_isRing ∈ GW := gw3 108 (by decide +kernel) rfl
theorem co_yX3_isRing : Cond.code yX3_isRing cX3_isRing 6 (some .boolean) ∈ GW := gw3 109 (rfl) rfl
theorem ml_RX3_32 : Cond.methodLink RX3 32 yX3_digit ∈ GW := gw3 110 (by decide +kernel) rfl
theorem st_yX3_digit : Cond.static yX3_digit ∈ GW := gw3 111 (by decide +kernel) rfl
theorem co_yX3_digit : Cond.code yX3_digit cX3_digit 3 (some .int) ∈ GW := gw3 112 (rfl) rfl
theorem ml_RX11_238 : Cond.methodLink RX11 238 yX3_gains ∈ GW := gw3 113 (by decide +kernel) rfl
theorem im_yX3_gains : Cond.instanceMethod yX3_gains ∈ GW := gw3 114 (by decide +kernel) rfl
theorem se_yX3_gains : Cond.selects RX3 yX3_gains yX3_gains ∈ GW := gw3 115 (by decide +kernel) rfl
theorem co_yX3_gains : Cond.code yX3_gains cX3_gains 10 (some .boolean) ∈ GW := gw3 116 (rfl) rfl
theorem ml_RX11_241 : Cond.methodLink RX11 241 yX3_named ∈ GW := gw3 117 (by decide +kernel) rfl
theorem im_yX3_named : Cond.instanceMethod yX3_named ∈ GW := gw3 118 (by decide +kernel) rfl
theorem se_yX3_named : Cond.selects RX3 yX3_named yX3_named ∈ GW := gw3 119 (by decide +kernel) rfl
theorem co_yX3_named : Cond.code yX3_named cX3_named 5 (some .int) ∈ GW := gw3 120 (rfl) rfl
theorem ml_RL_107 : Cond.methodLink RL 107 yX11_turn ∈ GW := gw3 121 (by decide +kernel) rfl
theorem im_yX11_turn : Cond.instanceMethod yX11_turn ∈ GW := gw3 122 (by decide +kernel) rfl
theorem se_yX11_turn : Cond.selects RX11 yX11_turn yX11_turn ∈ GW := gw3 123 (by decide +kernel) rfl
theorem co_yX11_turn : Cond.code yX11_turn cX11_turn 12 (some .long) ∈ GW := gw3 124 (rfl) rfl
theorem ml_RX11_244 : Cond.methodLink RX11 244 yX3_changed ∈ GW := gw3 125 (by decide +kernel) rfl
theorem im_yX3_changed : Cond.instanceMethod yX3_changed ∈ GW := gw3 126 (by decide +kernel) rfl
theorem se_yX3_changed : Cond.selects RX3 yX3_changed yX3_changed ∈ GW := gw3 127 (by decide +kernel) rfl
theorem co_yX3_changed : Cond.code yX3_changed cX3_changed 11 (some .long) ∈ GW := gw3 128 (rfl) rfl
theorem cs_RX3_36 : Cond.constantLong RX3 36 (-4) ∈ GW := gw3 129 (by decide +kernel) rfl
theorem ml_RX3_38 : Cond.methodLink RX3 38 yX7_quotient ∈ GW := gw3 130 (by decide +kernel) rfl
theorem ml_RX11_248 : Cond.methodLink RX11 248 yX3_digit ∈ GW := gw3 131 (by decide +kernel) rfl
theorem ml_RL_112 : Cond.methodLink RL 112 yX11_image ∈ GW := gw3 132 (by decide +kernel) rfl
theorem im_yX11_image : Cond.instanceMethod yX11_image ∈ GW := gw3 133 (by decide +kernel) rfl
theorem se_yX11_image : Cond.selects RX11 yX11_image yX11_image ∈ GW := gw3 134 (by decide +kernel) rfl
theorem co_yX11_image : Cond.code yX11_image cX11_image 1 (some .int) ∈ GW := gw3 135 (rfl) rfl
theorem ml_RX11_252 : Cond.methodLink RX11 252 yX5_becomeLike ∈ GW := gw3 136 (by decide +kernel) rfl
theorem im_yX5_becomeLike : Cond.instanceMethod yX5_becomeLike ∈ GW := gw3 137 (by decide +kernel) rfl
theorem se_yX5_becomeLike : Cond.selects RX5 yX5_becomeLike yX5_becomeLike ∈ GW := gw3 138 (by decide +kernel) rfl
theorem co_yX5_becomeLike : Cond.code yX5_becomeLike cX5_becomeLike 2 none ∈ GW := gw3 139 (rfl) rfl
theorem ml_RX5_37 : Cond.methodLink RX5 37 yX10_becomeLike ∈ GW := gw3 140 (by decide +kernel) rfl
theorem im_yX10_becomeLike : Cond.instanceMethod yX10_becomeLike ∈ GW := gw3 141 (by decide +kernel) rfl
theorem se_yX10_becomeLike : Cond.selects RX10 yX10_becomeLike yX10_becomeLike ∈ GW := gw3 142 (by decide +kernel) rfl
theorem co_yX10_becomeLike : Cond.code yX10_becomeLike cX10_becomeLike 2 none ∈ GW := gw3 143 (rfl) rfl
theorem ml_RX5_41 : Cond.methodLink RX5 41 yX0_becomeLike ∈ GW := gw3 144 (by decide +kernel) rfl
theorem im_yX0_becomeLike : Cond.instanceMethod yX0_becomeLike ∈ GW := gw3 145 (by decide +kernel) rfl
theorem se_yX0_becomeLike : Cond.selects RX0 yX0_becomeLike yX0_becomeLike ∈ GW := gw3 146 (by decide +kernel) rfl
theorem co_yX0_becomeLike : Cond.code yX0_becomeLike cX0_becomeLike 2 none ∈ GW := gw3 147 (rfl) rfl
theorem ml_RX0_25 : Cond.methodLink RX0 25 yX7_fill ∈ GW := gw3 148 (by decide +kernel) rfl
theorem ml_RX5_44 : Cond.methodLink RX5 44 yX1_becomeLike ∈ GW := gw3 149 (by decide +kernel) rfl
theorem im_yX1_becomeLike : Cond.instanceMethod yX1_becomeLike ∈ GW := gw3 150 (by decide +kernel) rfl
theorem se_yX1_becomeLike : Cond.selects RX1 yX1_becomeLike yX1_becomeLike ∈ GW := gw3 151 (by decide +kernel) rfl
theorem co_yX1_becomeLike : Cond.code yX1_becomeLike cX1_becomeLike 2 none ∈ GW := gw3 152 (rfl) rfl
theorem ml_RX1_15 : Cond.methodLink RX1 15 yX7_fill ∈ GW := gw3 153 (by decide +kernel) rfl
theorem ml_RX5_47 : Cond.methodLink RX5 47 yX3_becomeLike ∈ GW := gw3 154 (by decide +kernel) rfl
theorem im_yX3_becomeLike : Cond.instanceMethod yX3_becomeLike ∈ GW := gw3 155 (by decide +kernel) rfl
theorem se_yX3_becomeLike : Cond.selects RX3 yX3_becomeLike yX3_becomeLike ∈ GW := gw3 156 (by decide +kernel) rfl
theorem co_yX3_becomeLike : Cond.code yX3_becomeLike cX3_becomeLike 2 none ∈ GW := gw3 157 (rfl) rfl
theorem ml_RX3_24 : Cond.methodLink RX3 24 yX7_fill ∈ GW := gw3 158 (by decide +kernel) rfl
theorem ml_RL_116 : Cond.methodLink RL 116 yX11_restore ∈ GW := gw3 159 (by decide +kernel) rfl
theorem im_yX11_restore : Cond.instanceMethod yX11_restore ∈ GW := gw3 160 (by decide +kernel) rfl
theorem se_yX11_restore : Cond.selects RX11 yX11_restore yX11_restore ∈ GW := gw3 161 (by decide +kernel) rfl
theorem co_yX11_restore : Cond.code yX11_restore cX11_restore 1 (some .int) ∈ GW := gw3 162 (rfl) rfl
theorem ml_RL_120 : Cond.methodLink RL 120 yX11_leaves ∈ GW := gw3 163 (by decide +kernel) rfl
theorem im_yX11_leaves : Cond.instanceMethod yX11_leaves ∈ GW := gw3 164 (by decide +kernel) rfl
theorem se_yX11_leaves : Cond.selects RX11 yX11_leaves yX11_leaves ∈ GW := gw3 165 (by decide +kernel) rfl
theorem co_yX11_leaves : Cond.code yX11_leaves cX11_leaves 9 (some .int) ∈ GW := gw3 166 (rfl) rfl
theorem ml_RX11_260 : Cond.methodLink RX11 260 yX11_refusal ∈ GW := gw3 167 (by decide +kernel) rfl
theorem im_yX11_refusal : Cond.instanceMethod yX11_refusal ∈ GW := gw3 169 (by decide +kernel) rfl
theorem co_yX11_refusal : Cond.code yX11_refusal cX11_refusal 6 (some .int) ∈ GW := gw3 170 (rfl) rfl
theorem ml_RX11_263 : Cond.methodLink RX11 263 yX11_sheetOf ∈ GW := gw3 171 (by decide +kernel) rfl
theorem im_yX11_sheetOf : Cond.instanceMethod yX11_sheetOf ∈ GW := gw3 173 (by decide +kernel) rfl
theorem co_yX11_sheetOf : Cond.code yX11_sheetOf cX11_sheetOf 2 (some (.object "WholeMarks$Sheet")) ∈ GW := gw3 174 (rfl) rfl
theorem ml_RX11_301 : Cond.methodLink RX11 301 yX8_spans ∈ GW := gw3 175 (by decide +kernel) rfl
theorem im_yX8_spans : Cond.instanceMethod yX8_spans ∈ GW := gw3 176 (by decide +kernel) rfl
theorem se_yX8_spans : Cond.selects RX8 yX8_spans yX8_spans ∈ GW := gw3 177 (by decide +kernel) rfl
theorem co_yX8_spans : Cond.code yX8_spans cX8_spans 3 (some .boolean) ∈ GW := gw3 178 (rfl) rfl
theorem cs_RX11_267 : Cond.constant RX11 267 (9999999) ∈ GW := gw3 179 (by decide +kernel) rfl
theorem ml_RX11_268 : Cond.methodLink RX11 268 yX8_allWithin ∈ GW := gw3 180 (by decide +kernel) rfl
theorem im_yX8_allWithin : Cond.instanceMethod yX8_allWithin ∈ GW := gw3 181 (by decide +kernel) rfl
theorem se_yX8_allWithin : Cond.selects RX8 yX8_allWithin yX8_allWithin ∈ GW := gw3 182 (by decide +kernel) rfl
theorem co_yX8_allWithin : Cond.code yX8_allWithin cX8_allWithin 6 (some .boolean) ∈ GW := gw3 183 (rfl) rfl
theorem ml_RX8_32 : Cond.methodLink RX8 32 yX7_at_ ∈ GW := gw3 184 (by decide +kernel) rfl
theorem ml_RX11_272 : Cond.methodLink RX11 272 yX8_sumOf ∈ GW := gw3 185 (by decide +kernel) rfl
theorem im_yX8_sumOf : Cond.instanceMethod yX8_sumOf ∈ GW := gw3 186 (by decide +kernel) rfl
theorem se_yX8_sumOf : Cond.selects RX8 yX8_sumOf yX8_sumOf ∈ GW := gw3 187 (by decide +kernel) rfl
theorem co_yX8_sumOf : Cond.code yX8_sumOf cX8_sumOf 6 (some .long) ∈ GW := gw3 188 (rfl) rfl
theorem ml_RL_125 : Cond.methodLink RL 125 yX11_fit ∈ GW := gw3 189 (by decide +kernel) rfl
theorem im_yX11_fit : Cond.instanceMethod yX11_fit ∈ GW := gw3 190 (by decide +kernel) rfl
theorem se_yX11_fit : Cond.selects RX11 yX11_fit yX11_fit ∈ GW := gw3 191 (by decide +kernel) rfl
theorem co_yX11_fit : Cond.code yX11_fit cX11_fit 10 (some .int) ∈ GW := gw3 192 (rfl) rfl
theorem ml_RX11_276 : Cond.methodLink RX11 276 yX8_commonOf ∈ GW := gw3 193 (by decide +kernel) rfl
theorem im_yX8_commonOf : Cond.instanceMethod yX8_commonOf ∈ GW := gw3 194 (by decide +kernel) rfl
theorem se_yX8_commonOf : Cond.selects RX8 yX8_commonOf yX8_commonOf ∈ GW := gw3 195 (by decide +kernel) rfl
theorem co_yX8_commonOf : Cond.code yX8_commonOf cX8_commonOf 6 (some .long) ∈ GW := gw3 196 (rfl) rfl
theorem ml_RX8_36 : Cond.methodLink RX8 36 yX7_greatestCommon ∈ GW := gw3 197 (by decide +kernel) rfl
theorem ml_RX11_279 : Cond.methodLink RX11 279 yX11_howManyFit ∈ GW := gw3 198 (by decide +kernel) rfl
theorem st_yX11_howManyFit : Cond.static yX11_howManyFit ∈ GW := gw3 199 (by decide +kernel) rfl
theorem co_yX11_howManyFit : Cond.code yX11_howManyFit cX11_howManyFit 4 (some .int) ∈ GW := gw3 200 (rfl) rfl
theorem ml_RX11_337 : Cond.methodLink RX11 337 yX7_divides ∈ GW := gw3 201 (by decide +kernel) rfl
theorem st_yX7_divides : Cond.static yX7_divides ∈ GW := gw3 202 (by decide +kernel) rfl
theorem co_yX7_divides : Cond.code yX7_divides cX7_divides 4 (some .boolean) ∈ GW := gw3 203 (rfl) rfl
theorem ml_RX11_283 : Cond.methodLink RX11 283 yX11_bestFit ∈ GW := gw3 204 (by decide +kernel) rfl
theorem st_yX11_bestFit : Cond.static yX11_bestFit ∈ GW := gw3 205 (by decide +kernel) rfl
theorem co_yX11_bestFit : Cond.code yX11_bestFit cX11_bestFit 9 (some .int) ∈ GW := gw3 206 (rfl) rfl
theorem ml_RX11_341 : Cond.methodLink RX11 341 yX7_leastCommon ∈ GW := gw3 207 (by decide +kernel) rfl
theorem ml_RL_130 : Cond.methodLink RL 130 yX11_film ∈ GW := gw3 208 (by decide +kernel) rfl
theorem im_yX11_film : Cond.instanceMethod yX11_film ∈ GW := gw3 209 (by decide +kernel) rfl
theorem se_yX11_film : Cond.selects RX11 yX11_film yX11_film ∈ GW := gw3 210 (by decide +kernel) rfl
theorem co_yX11_film : Cond.code yX11_film cX11_film 8 (some .int) ∈ GW := gw3 211 (rfl) rfl
theorem ml_RX11_286 : Cond.methodLink RX11 286 yX8_write ∈ GW := gw3 212 (by decide +kernel) rfl
theorem im_yX8_write : Cond.instanceMethod yX8_write ∈ GW := gw3 213 (by decide +kernel) rfl
theorem se_yX8_write : Cond.selects RX8 yX8_write yX8_write ∈ GW := gw3 214 (by decide +kernel) rfl
theorem co_yX8_write : Cond.code yX8_write cX8_write 4 none ∈ GW := gw3 215 (rfl) rfl
theorem ml_RX8_26 : Cond.methodLink RX8 26 yX7_put_ ∈ GW := gw3 216 (by decide +kernel) rfl
theorem ml_RL_134 : Cond.methodLink RL 134 yX11_sheet ∈ GW := gw3 217 (by decide +kernel) rfl
theorem im_yX11_sheet : Cond.instanceMethod yX11_sheet ∈ GW := gw3 218 (by decide +kernel) rfl
theorem se_yX11_sheet : Cond.selects RX11 yX11_sheet yX11_sheet ∈ GW := gw3 219 (by decide +kernel) rfl
theorem co_yX11_sheet : Cond.code yX11_sheet cX11_sheet 5 (some .int) ∈ GW := gw3 220 (rfl) rfl
theorem ml_RX11_290 : Cond.methodLink RX11 290 yX8_begin ∈ GW := gw3 221 (by decide +kernel) rfl
theorem im_yX8_begin : Cond.instanceMethod yX8_begin ∈ GW := gw3 222 (by decide +kernel) rfl
theorem se_yX8_begin : Cond.selects RX8 yX8_begin yX8_begin ∈ GW := gw3 223 (by decide +kernel) rfl
theorem co_yX8_begin : Cond.code yX8_begin cX8_begin 4 none ∈ GW := gw3 224 (rfl) rfl
theorem ml_RL_138 : Cond.methodLink RL 138 yX11_drop ∈ GW := gw3 225 (by decide +kernel) rfl
theorem im_yX11_drop : Cond.instanceMethod yX11_drop ∈ GW := gw3 226 (by decide +kernel) rfl
theorem se_yX11_drop : Cond.selects RX11 yX11_drop yX11_drop ∈ GW := gw3 227 (by decide +kernel) rfl
theorem co_yX11_drop : Cond.code yX11_drop cX11_drop 3 (some .int) ∈ GW := gw3 228 (rfl) rfl
theorem ml_RL_142 : Cond.methodLink RL 142 yX11_item ∈ GW := gw3 229 (by decide +kernel) rfl
theorem im_yX11_item : Cond.instanceMethod yX11_item ∈ GW := gw3 230 (by decide +kernel) rfl
theorem se_yX11_item : Cond.selects RX11 yX11_item yX11_item ∈ GW := gw3 231 (by decide +kernel) rfl
theorem co_yX11_item : Cond.code yX11_item cX11_item 8 (some .int) ∈ GW := gw3 232 (rfl) rfl
theorem ml_RL_147 : Cond.methodLink RL 147 yX11_copy ∈ GW := gw3 233 (by decide +kernel) rfl
theorem im_yX11_copy : Cond.instanceMethod yX11_copy ∈ GW := gw3 234 (by decide +kernel) rfl
theorem se_yX11_copy : Cond.selects RX11 yX11_copy yX11_copy ∈ GW := gw3 235 (by decide +kernel) rfl
theorem co_yX11_copy : Cond.code yX11_copy cX11_copy 8 (some .int) ∈ GW := gw3 236 (rfl) rfl
theorem ml_RX11_308 : Cond.methodLink RX11 308 arraycopyName ∈ GW := gw3 237 (by decide +kernel) rfl
theorem cl_RL_10 : Cond.classLink RL 10 RX12 ∈ GW := gw3 238 (by decide +kernel) rfl
theorem in_RX12 : Cond.instantiable RX12 19 ∈ GW := gw3 239 (by decide +kernel) rfl
theorem ml_RL_12 : Cond.methodLink RL 12 yX12_init ∈ GW := gw4 0 (by decide +kernel) rfl
theorem im_yX12_init : Cond.instanceMethod yX12_init ∈ GW := gw4 1 (by decide +kernel) rfl
theorem co_yX12_init : Cond.code yX12_init cX12_init 2 none ∈ GW := gw4 2 (rfl) rfl
theorem fk_RX12_7 : Cond.fieldLink RX12 7 "WholeMarksModel" "w" "[I" ∈ GW := gw4 4 (by decide +kernel) rfl
theorem fk_RX12_203 : Cond.fieldLink RX12 203 "WholeMarksModel" "isKept" "Z" ∈ GW := gw4 5 (by decide +kernel) rfl
theorem fk_RX12_13 : Cond.fieldLink RX12 13 "WholeMarksModel" "tape" "[I" ∈ GW := gw4 6 (by decide +kernel) rfl
theorem fk_RX12_120 : Cond.fieldLink RX12 120 "WholeMarksModel" "taped" "I" ∈ GW := gw4 7 (by decide +kernel) rfl
theorem fk_RX12_16 : Cond.fieldLink RX12 16 "WholeMarksModel" "steps" "[J" ∈ GW := gw4 8 (by decide +kernel) rfl
theorem fk_RX12_48 : Cond.fieldLink RX12 48 "WholeMarksModel" "stepMany" "I" ∈ GW := gw4 9 (by decide +kernel) rfl
theorem fk_RX12_55 : Cond.fieldLink RX12 55 "WholeMarksModel" "all" "J" ∈ GW := gw4 10 (by decide +kernel) rfl
theorem fk_RX12_123 : Cond.fieldLink RX12 123 "WholeMarksModel" "at" "I" ∈ GW := gw4 11 (by decide +kernel) rfl
theorem fk_RX12_20 : Cond.fieldLink RX12 20 "WholeMarksModel" "read" "[I" ∈ GW := gw4 12 (by decide +kernel) rfl
theorem fk_RX12_126 : Cond.fieldLink RX12 126 "WholeMarksModel" "readSet" "I" ∈ GW := gw4 13 (by decide +kernel) rfl
theorem fk_RX12_129 : Cond.fieldLink RX12 129 "WholeMarksModel" "readLaw" "I" ∈ GW := gw4 14 (by decide +kernel) rfl
theorem fk_RX12_23 : Cond.fieldLink RX12 23 "WholeMarksModel" "row" "[I" ∈ GW := gw4 15 (by decide +kernel) rfl
theorem fk_RX12_26 : Cond.fieldLink RX12 26 "WholeMarksModel" "best" "[I" ∈ GW := gw4 16 (by decide +kernel) rfl
theorem fk_RX12_163 : Cond.fieldLink RX12 163 "WholeMarksModel" "bestGroups" "I" ∈ GW := gw4 17 (by decide +kernel) rfl
theorem fk_RX12_29 : Cond.fieldLink RX12 29 "WholeMarksModel" "some" "[I" ∈ GW := gw4 18 (by decide +kernel) rfl
theorem fk_RX12_32 : Cond.fieldLink RX12 32 "WholeMarksModel" "lanes" "[I" ∈ GW := gw4 19 (by decide +kernel) rfl
theorem fk_RX12_35 : Cond.fieldLink RX12 35 "WholeMarksModel" "sizes" "[I" ∈ GW := gw4 20 (by decide +kernel) rfl
theorem fk_RX12_38 : Cond.fieldLink RX12 38 "WholeMarksModel" "items" "[J" ∈ GW := gw4 21 (by decide +kernel) rfl
theorem fk_RX12_41 : Cond.fieldLink RX12 41 "WholeMarksModel" "hands" "[J" ∈ GW := gw4 22 (by decide +kernel) rfl
theorem ml_RL_17 : Cond.methodLink RL 17 yX12_measure ∈ GW := gw4 62 (by decide +kernel) rfl
theorem im_yX12_measure : Cond.instanceMethod yX12_measure ∈ GW := gw4 63 (by decide +kernel) rfl
theorem se_yX12_measure : Cond.selects RX12 yX12_measure yX12_measure ∈ GW := gw4 64 (by decide +kernel) rfl
theorem co_yX12_measure : Cond.code yX12_measure cX12_measure 4 (some .int) ∈ GW := gw4 65 (rfl) rfl
theorem cs_RX12_69 : Cond.constantLong RX12 69 (2) ∈ GW := gw4 66 (by decide +kernel) rfl
theorem ml_RX12_71 : Cond.methodLink RX12 71 yX12_in ∈ GW := gw4 67 (by decide +kernel) rfl
theorem st_yX12_in : Cond.static yX12_in ∈ GW := gw4 68 (by decide +kernel) rfl
theorem co_yX12_in : Cond.code yX12_in cX12_in 6 (some .boolean) ∈ GW := gw4 69 (rfl) rfl
theorem cs_RX12_75 : Cond.constantLong RX12 75 (999) ∈ GW := gw4 70 (by decide +kernel) rfl
theorem ml_RL_21 : Cond.methodLink RL 21 yX12_rule ∈ GW := gw4 71 (by decide +kernel) rfl
theorem im_yX12_rule : Cond.instanceMethod yX12_rule ∈ GW := gw4 72 (by decide +kernel) rfl
theorem se_yX12_rule : Cond.selects RX12 yX12_rule yX12_rule ∈ GW := gw4 73 (by decide +kernel) rfl
theorem co_yX12_rule : Cond.code yX12_rule cX12_rule 4 (some .int) ∈ GW := gw4 74 (rfl) rfl
theorem cs_RX12_77 : Cond.constantLong RX12 77 (5) ∈ GW := gw4 75 (by decide +kernel) rfl
theorem cs_RX12_79 : Cond.constantLong RX12 79 (7) ∈ GW := gw4 76 (by decide +kernel) rfl
theorem ml_RL_26 : Cond.methodLink RL 26 yX12_seam ∈ GW := gw4 77 (by decide +kernel) rfl
theorem im_yX12_seam : Cond.instanceMethod yX12_seam ∈ GW := gw4 78 (by decide +kernel) rfl
theorem se_yX12_seam : Cond.selects RX12 yX12_seam yX12_seam ∈ GW := gw4 79 (by decide +kernel) rfl
theorem co_yX12_seam : Cond.code yX12_seam cX12_seam 3 (some .int) ∈ GW := gw4 80 (rfl) rfl
theorem cs_RX12_81 : Cond.constantLong RX12 81 (99) ∈ GW := gw4 81 (by decide +kernel) rfl
theorem ml_RL_31 : Cond.methodLink RL 31 yX12_place ∈ GW := gw4 82 (by decide +kernel) rfl
theorem im_yX12_place : Cond.instanceMethod yX12_place ∈ GW := gw4 83 (by decide +kernel) rfl
theorem se_yX12_place : Cond.selects RX12 yX12_place yX12_place ∈ GW := gw4 84 (by decide +kernel) rfl
theorem co_yX12_place : Cond.code yX12_place cX12_place 8 (some .long) ∈ GW := gw4 85 (rfl) rfl
theorem cs_RX12_83 : Cond.constantLong RX12 83 (999999) ∈ GW := gw4 86 (by decide +kernel) rfl
theorem cs_RX12_85 : Cond.constantLong RX12 85 (-1) ∈ GW := gw4 87 (by decide +kernel) rfl
theorem ml_RX12_87 : Cond.methodLink RX12 87 yX12_layNow ∈ GW := gw4 88 (by decide +kernel) rfl
theorem im_yX12_layNow : Cond.instanceMethod yX12_layNow ∈ GW := gw4 90 (by decide +kernel) rfl
theorem co_yX12_layNow : Cond.code yX12_layNow cX12_layNow 1 none ∈ GW := gw4 91 (rfl) rfl
theorem ml_RX12_59 : Cond.methodLink RX12 59 yX12_lay ∈ GW := gw4 92 (by decide +kernel) rfl
theorem im_yX12_lay : Cond.instanceMethod yX12_lay ∈ GW := gw4 94 (by decide +kernel) rfl
theorem co_yX12_lay : Cond.code yX12_lay cX12_lay 8 none ∈ GW := gw4 95 (rfl) rfl
theorem ml_RX12_52 : Cond.methodLink RX12 52 yX12_common ∈ GW := gw4 96 (by decide +kernel) rfl
theorem st_yX12_common : Cond.static yX12_common ∈ GW := gw4 97 (by decide +kernel) rfl
theorem co_yX12_common : Cond.code yX12_common cX12_common 4 (some .long) ∈ GW := gw4 98 (rfl) rfl
theorem ml_RX12_44 : Cond.methodLink RX12 44 yX12_divisor ∈ GW := gw4 99 (by decide +kernel) rfl
theorem st_yX12_divisor : Cond.static yX12_divisor ∈ GW := gw4 100 (by decide +kernel) rfl
theorem co_yX12_divisor : Cond.code yX12_divisor cX12_divisor 10 (some .long) ∈ GW := gw4 101 (rfl) rfl
theorem ml_RX12_90 : Cond.methodLink RX12 90 yX12_manyUpTo ∈ GW := gw4 102 (by decide +kernel) rfl
theorem im_yX12_manyUpTo : Cond.instanceMethod yX12_manyUpTo ∈ GW := gw4 104 (by decide +kernel) rfl
theorem co_yX12_manyUpTo : Cond.code yX12_manyUpTo cX12_manyUpTo 6 (some .long) ∈ GW := gw4 105 (rfl) rfl
theorem ml_RL_38 : Cond.methodLink RL 38 yX12_places ∈ GW := gw4 106 (by decide +kernel) rfl
theorem im_yX12_places : Cond.instanceMethod yX12_places ∈ GW := gw4 107 (by decide +kernel) rfl
theorem se_yX12_places : Cond.selects RX12 yX12_places yX12_places ∈ GW := gw4 108 (by decide +kernel) rfl
theorem co_yX12_places : Cond.code yX12_places cX12_places 3 (some .long) ∈ GW := gw4 109 (rfl) rfl
theorem cs_RX12_94 : Cond.constantLong RX12 94 (1000000000000000) ∈ GW := gw4 110 (by decide +kernel) rfl
theorem ml_RL_42 : Cond.methodLink RL 42 yX12_bolt ∈ GW := gw4 111 (by decide +kernel) rfl
theorem im_yX12_bolt : Cond.instanceMethod yX12_bolt ∈ GW := gw4 112 (by decide +kernel) rfl
theorem se_yX12_bolt : Cond.selects RX12 yX12_bolt yX12_bolt ∈ GW := gw4 113 (by decide +kernel) rfl
theorem co_yX12_bolt : Cond.code yX12_bolt cX12_bolt 4 (some .int) ∈ GW := gw4 114 (rfl) rfl
theorem cs_RX12_96 : Cond.constantLong RX12 96 (3) ∈ GW := gw4 115 (by decide +kernel) rfl
theorem cs_RX12_98 : Cond.constantLong RX12 98 (99999) ∈ GW := gw4 116 (by decide +kernel) rfl
theorem ml_RL_46 : Cond.methodLink RL 46 yX12_told ∈ GW := gw4 117 (by decide +kernel) rfl
theorem im_yX12_told : Cond.instanceMethod yX12_told ∈ GW := gw4 118 (by decide +kernel) rfl
theorem se_yX12_told : Cond.selects RX12 yX12_told yX12_told ∈ GW := gw4 119 (by decide +kernel) rfl
theorem co_yX12_told : Cond.code yX12_told cX12_told 3 (some .int) ∈ GW := gw4 120 (rfl) rfl
theorem ml_RX12_100 : Cond.methodLink RX12 100 yX12_isBolt ∈ GW := gw4 121 (by decide +kernel) rfl
theorem im_yX12_isBolt : Cond.instanceMethod yX12_isBolt ∈ GW := gw4 123 (by decide +kernel) rfl
theorem co_yX12_isBolt : Cond.code yX12_isBolt cX12_isBolt 2 (some .boolean) ∈ GW := gw4 124 (rfl) rfl
theorem ml_RX12_104 : Cond.methodLink RX12 104 yX12_below ∈ GW := gw4 125 (by decide +kernel) rfl
theorem im_yX12_below : Cond.instanceMethod yX12_below ∈ GW := gw4 127 (by decide +kernel) rfl
theorem co_yX12_below : Cond.code yX12_below cX12_below 6 (some .long) ∈ GW := gw4 128 (rfl) rfl
theorem ml_RX12_63 : Cond.methodLink RX12 63 yX12_greater ∈ GW := gw4 129 (by decide +kernel) rfl
theorem st_yX12_greater : Cond.static yX12_greater ∈ GW := gw4 130 (by decide +kernel) rfl
theorem co_yX12_greater : Cond.code yX12_greater cX12_greater 4 (some .long) ∈ GW := gw4 131 (rfl) rfl
theorem ml_RL_50 : Cond.methodLink RL 50 yX12_cut ∈ GW := gw4 132 (by decide +kernel) rfl
theorem im_yX12_cut : Cond.instanceMethod yX12_cut ∈ GW := gw4 133 (by decide +kernel) rfl
theorem se_yX12_cut : Cond.selects RX12 yX12_cut yX12_cut ∈ GW := gw4 134 (by decide +kernel) rfl
theorem co_yX12_cut : Cond.code yX12_cut cX12_cut 5 (some .int) ∈ GW := gw4 135 (rfl) rfl
theorem ml_RL_54 : Cond.methodLink RL 54 yX12_join ∈ GW := gw4 136 (by decide +kernel) rfl
theorem im_yX12_join : Cond.instanceMethod yX12_join ∈ GW := gw4 137 (by decide +kernel) rfl
theorem se_yX12_join : Cond.selects RX12 yX12_join yX12_join ∈ GW := gw4 138 (by decide +kernel) rfl
theorem co_yX12_join : Cond.code yX12_join cX12_join 6 (some .int) ∈ GW := gw4 139 (rfl) rfl
theorem ml_RX12_107 : Cond.methodLink RX12 107 yX12_seamOf ∈ GW := gw4 140 (by decide +kernel) rfl
theorem im_yX12_seamOf : Cond.instanceMethod yX12_seamOf ∈ GW := gw4 142 (by decide +kernel) rfl
theorem co_yX12_seamOf : Cond.code yX12_seamOf cX12_seamOf 2 (some .int) ∈ GW := gw4 143 (rfl) rfl
theorem cs_RX12_111 : Cond.constant RX12 111 (99999) ∈ GW := gw4 144 (by decide +kernel) rfl
theorem ml_RL_59 : Cond.methodLink RL 59 yX12_type ∈ GW := gw4 145 (by decide +kernel) rfl
theorem im_yX12_type : Cond.instanceMethod yX12_type ∈ GW := gw4 146 (by decide +kernel) rfl
theorem se_yX12_type : Cond.selects RX12 yX12_type yX12_type ∈ GW := gw4 147 (by decide +kernel) rfl
theorem co_yX12_type : Cond.code yX12_type cX12_type 5 (some .int) ∈ GW := gw4 148 (rfl) rfl
theorem cs_RX12_112 : Cond.constantLong RX12 112 (8) ∈ GW := gw4 149 (by decide +kernel) rfl
theorem cs_RX12_114 : Cond.constantLong RX12 114 (255) ∈ GW := gw4 150 (by decide +kernel) rfl
theorem cs_RX12_116 : Cond.constantLong RX12 116 (32) ∈ GW := gw4 151 (by decide +kernel) rfl
theorem cs_RX12_118 : Cond.constantLong RX12 118 (126) ∈ GW := gw4 152 (by decide +kernel) rfl
theorem ml_RL_64 : Cond.methodLink RL 64 yX12_towns ∈ GW := gw4 153 (by decide +kernel) rfl
theorem im_yX12_towns : Cond.instanceMethod yX12_towns ∈ GW := gw4 154 (by decide +kernel) rfl
theorem se_yX12_towns : Cond.selects RX12 yX12_towns yX12_towns ∈ GW := gw4 155 (by decide +kernel) rfl
theorem co_yX12_towns : Cond.code yX12_towns cX12_towns 3 (some .int) ∈ GW := gw4 156 (rfl) rfl
theorem ml_RX12_153 : Cond.methodLink RX12 153 yX12_faultOf ∈ GW := gw4 157 (by decide +kernel) rfl
theorem im_yX12_faultOf : Cond.instanceMethod yX12_faultOf ∈ GW := gw4 159 (by decide +kernel) rfl
theorem co_yX12_faultOf : Cond.code yX12_faultOf cX12_faultOf 4 (some .int) ∈ GW := gw4 160 (rfl) rfl
theorem ml_RX12_132 : Cond.methodLink RX12 132 yX12_ahead ∈ GW := gw4 161 (by decide +kernel) rfl
theorem im_yX12_ahead : Cond.instanceMethod yX12_ahead ∈ GW := gw4 163 (by decide +kernel) rfl
theorem co_yX12_ahead : Cond.code yX12_ahead cX12_ahead 1 (some .int) ∈ GW := gw4 164 (rfl) rfl
theorem cs_RX12_136 : Cond.constantLong RX12 136 (48) ∈ GW := gw4 165 (by decide +kernel) rfl
theorem cs_RX12_138 : Cond.constantLong RX12 138 (57) ∈ GW := gw4 166 (by decide +kernel) rfl
theorem cs_RX12_140 : Cond.constantLong RX12 140 (10) ∈ GW := gw4 167 (by decide +kernel) rfl
theorem cs_RX12_142 : Cond.constantLong RX12 142 (1000) ∈ GW := gw4 168 (by decide +kernel) rfl
theorem ml_RX12_66 : Cond.methodLink RX12 66 yX12_lesser ∈ GW := gw4 169 (by decide +kernel) rfl
theorem st_yX12_lesser : Cond.static yX12_lesser ∈ GW := gw4 170 (by decide +kernel) rfl
theorem co_yX12_lesser : Cond.code yX12_lesser cX12_lesser 4 (some .long) ∈ GW := gw4 171 (rfl) rfl
theorem cs_RX12_144 : Cond.constantLong RX12 144 (50) ∈ GW := gw4 172 (by decide +kernel) rfl
theorem ml_RX12_146 : Cond.methodLink RX12 146 yX12_has ∈ GW := gw4 173 (by decide +kernel) rfl
theorem st_yX12_has : Cond.static yX12_has ∈ GW := gw4 174 (by decide +kernel) rfl
theorem co_yX12_has : Cond.code yX12_has cX12_has 2 (some .boolean) ∈ GW := gw4 175 (rfl) rfl
theorem ml_RX12_150 : Cond.methodLink RX12 150 yX12_ones ∈ GW := gw4 176 (by decide +kernel) rfl
theorem st_yX12_ones : Cond.static yX12_ones ∈ GW := gw4 177 (by decide +kernel) rfl
theorem co_yX12_ones : Cond.code yX12_ones cX12_ones 3 (some .int) ∈ GW := gw4 178 (rfl) rfl
theorem ml_RL_68 : Cond.methodLink RL 68 yX12_count ∈ GW := gw4 179 (by decide +kernel) rfl
theorem im_yX12_count : Cond.instanceMethod yX12_count ∈ GW := gw4 180 (by decide +kernel) rfl
theorem se_yX12_count : Cond.selects RX12 yX12_count yX12_count ∈ GW := gw4 181 (by decide +kernel) rfl
theorem co_yX12_count : Cond.code yX12_count cX12_count 2 (some .int) ∈ GW := gw4 182 (rfl) rfl
theorem ml_RX12_156 : Cond.methodLink RX12 156 yX12_sumOf ∈ GW := gw4 183 (by decide +kernel) rfl
theorem im_yX12_sumOf : Cond.instanceMethod yX12_sumOf ∈ GW := gw4 185 (by decide +kernel) rfl
theorem co_yX12_sumOf : Cond.code yX12_sumOf cX12_sumOf 5 (some .int) ∈ GW := gw4 186 (rfl) rfl
theorem ml_RX12_160 : Cond.methodLink RX12 160 yX12_wasteOf ∈ GW := gw4 187 (by decide +kernel) rfl
theorem im_yX12_wasteOf : Cond.instanceMethod yX12_wasteOf ∈ GW := gw4 189 (by decide +kernel) rfl
theorem co_yX12_wasteOf : Cond.code yX12_wasteOf cX12_wasteOf 3 (some .int) ∈ GW := gw4 190 (rfl) rfl
theorem ml_RL_72 : Cond.methodLink RL 72 yX12_most ∈ GW := gw4 191 (by decide +kernel) rfl
theorem im_yX12_most : Cond.instanceMethod yX12_most ∈ GW := gw4 192 (by decide +kernel) rfl
theorem se_yX12_most : Cond.selects RX12 yX12_most yX12_most ∈ GW := gw4 193 (by decide +kernel) rfl
theorem co_yX12_most : Cond.code yX12_most cX12_most 14 (some .int) ∈ GW := gw4 194 (rfl) rfl
theorem ml_RX12_166 : Cond.methodLink RX12 166 yX12_begin ∈ GW := gw4 195 (by decide +kernel) rfl
theorem im_yX12_begin : Cond.instanceMethod yX12_begin ∈ GW := gw4 197 (by decide +kernel) rfl
theorem co_yX12_begin : Cond.code yX12_begin cX12_begin 2 none ∈ GW := gw4 198 (rfl) rfl
theorem ml_RX12_169 : Cond.methodLink RX12 169 yX12_groupsOf ∈ GW := gw4 199 (by decide +kernel) rfl
theorem im_yX12_groupsOf : Cond.instanceMethod yX12_groupsOf ∈ GW := gw4 201 (by decide +kernel) rfl
theorem co_yX12_groupsOf : Cond.code yX12_groupsOf cX12_groupsOf 4 (some .int) ∈ GW := gw4 202 (rfl) rfl
theorem ml_RX12_172 : Cond.methodLink RX12 172 yX12_take ∈ GW := gw4 203 (by decide +kernel) rfl
theorem im_yX12_take : Cond.instanceMethod yX12_take ∈ GW := gw4 205 (by decide +kernel) rfl
theorem co_yX12_take : Cond.code yX12_take cX12_take 4 none ∈ GW := gw4 206 (rfl) rfl
theorem ml_RX12_176 : Cond.methodLink RX12 176 yX12_goesOn ∈ GW := gw4 207 (by decide +kernel) rfl
theorem im_yX12_goesOn : Cond.instanceMethod yX12_goesOn ∈ GW := gw4 209 (by decide +kernel) rfl
theorem co_yX12_goesOn : Cond.code yX12_goesOn cX12_goesOn 5 (some .boolean) ∈ GW := gw4 210 (rfl) rfl
theorem ml_RL_76 : Cond.methodLink RL 76 yX12_buyer ∈ GW := gw4 211 (by decide +kernel) rfl
theorem im_yX12_buyer : Cond.instanceMethod yX12_buyer ∈ GW := gw4 212 (by decide +kernel) rfl
theorem se_yX12_buyer : Cond.selects RX12 yX12_buyer yX12_buyer ∈ GW := gw4 213 (by decide +kernel) rfl
theorem co_yX12_buyer : Cond.code yX12_buyer cX12_buyer 3 (some .int) ∈ GW := gw4 214 (rfl) rfl
theorem cs_RX12_179 : Cond.constantLong RX12 179 (9999) ∈ GW := gw4 215 (by decide +kernel) rfl
theorem ml_RL_80 : Cond.methodLink RL 80 yX12_home ∈ GW := gw4 216 (by decide +kernel) rfl
theorem im_yX12_home : Cond.instanceMethod yX12_home ∈ GW := gw4 217 (by decide +kernel) rfl
theorem se_yX12_home : Cond.selects RX12 yX12_home yX12_home ∈ GW := gw4 218 (by decide +kernel) rfl
theorem co_yX12_home : Cond.code yX12_home cX12_home 2 (some .int) ∈ GW := gw4 219 (rfl) rfl
theorem ml_RL_84 : Cond.methodLink RL 84 yX12_price ∈ GW := gw4 220 (by decide +kernel) rfl
theorem im_yX12_price : Cond.instanceMethod yX12_price ∈ GW := gw4 221 (by decide +kernel) rfl
theorem se_yX12_price : Cond.selects RX12 yX12_price yX12_price ∈ GW := gw4 222 (by decide +kernel) rfl
theorem co_yX12_price : Cond.code yX12_price cX12_price 2 (some .long) ∈ GW := gw4 223 (rfl) rfl
theorem ml_RX12_184 : Cond.methodLink RX12 184 yX12_priceOf ∈ GW := gw4 224 (by decide +kernel) rfl
theorem im_yX12_priceOf : Cond.instanceMethod yX12_priceOf ∈ GW := gw4 226 (by decide +kernel) rfl
theorem co_yX12_priceOf : Cond.code yX12_priceOf cX12_priceOf 4 (some .long) ∈ GW := gw4 227 (rfl) rfl
theorem ml_RX12_181 : Cond.methodLink RX12 181 yX12_above ∈ GW := gw4 228 (by decide +kernel) rfl
theorem im_yX12_above : Cond.instanceMethod yX12_above ∈ GW := gw4 230 (by decide +kernel) rfl
theorem co_yX12_above : Cond.code yX12_above cX12_above 6 (some .long) ∈ GW := gw4 231 (rfl) rfl
theorem ml_RL_89 : Cond.methodLink RL 89 yX12_parties ∈ GW := gw4 232 (by decide +kernel) rfl
theorem im_yX12_parties : Cond.instanceMethod yX12_parties ∈ GW := gw4 233 (by decide +kernel) rfl
theorem se_yX12_parties : Cond.selects RX12 yX12_parties yX12_parties ∈ GW := gw4 234 (by decide +kernel) rfl
theorem co_yX12_parties : Cond.code yX12_parties cX12_parties 14 (some .long) ∈ GW := gw4 235 (rfl) rfl
theorem cs_RX12_188 : Cond.constantLong RX12 188 (6) ∈ GW := gw4 236 (by decide +kernel) rfl
theorem cs_RX12_190 : Cond.constantLong RX12 190 (-4) ∈ GW := gw4 237 (by decide +kernel) rfl
theorem ml_RL_93 : Cond.methodLink RL 93 yX12_third ∈ GW := gw4 238 (by decide +kernel) rfl
theorem im_yX12_third : Cond.instanceMethod yX12_third ∈ GW := gw4 239 (by decide +kernel) rfl
theorem se_yX12_third : Cond.selects RX12 yX12_third yX12_third ∈ GW := gw5 0 (by decide +kernel) rfl
theorem co_yX12_third : Cond.code yX12_third cX12_third 6 (some .int) ∈ GW := gw5 1 (rfl) rfl
theorem ml_RL_97 : Cond.methodLink RL 97 yX12_worn ∈ GW := gw5 2 (by decide +kernel) rfl
theorem im_yX12_worn : Cond.instanceMethod yX12_worn ∈ GW := gw5 3 (by decide +kernel) rfl
theorem se_yX12_worn : Cond.selects RX12 yX12_worn yX12_worn ∈ GW := gw5 4 (by decide +kernel) rfl
theorem co_yX12_worn : Cond.code yX12_worn cX12_worn 6 (some .int) ∈ GW := gw5 5 (rfl) rfl
theorem cs_RX12_192 : Cond.constantLong RX12 192 (9) ∈ GW := gw5 6 (by decide +kernel) rfl
theorem ml_RL_102 : Cond.methodLink RL 102 yX12_rate ∈ GW := gw5 7 (by decide +kernel) rfl
theorem im_yX12_rate : Cond.instanceMethod yX12_rate ∈ GW := gw5 8 (by decide +kernel) rfl
theorem se_yX12_rate : Cond.selects RX12 yX12_rate yX12_rate ∈ GW := gw5 9 (by decide +kernel) rfl
theorem co_yX12_rate : Cond.code yX12_rate cX12_rate 7 (some .int) ∈ GW := gw5 10 (rfl) rfl
theorem ml_RX12_194 : Cond.methodLink RX12 194 yX12_isCoin ∈ GW := gw5 11 (by decide +kernel) rfl
theorem st_yX12_isCoin : Cond.static yX12_isCoin ∈ GW := gw5 12 (by decide +kernel) rfl
theorem co_yX12_isCoin : Cond.code yX12_isCoin cX12_isCoin 1 (some .boolean) ∈ GW := gw5 13 (rfl) rfl
theorem ml_RX12_197 : Cond.methodLink RX12 197 yX12_rateAt ∈ GW := gw5 14 (by decide +kernel) rfl
theorem st_yX12_rateAt : Cond.static yX12_rateAt ∈ GW := gw5 15 (by decide +kernel) rfl
theorem co_yX12_rateAt : Cond.code yX12_rateAt cX12_rateAt 2 (some .int) ∈ GW := gw5 16 (rfl) rfl
theorem ml_RL_106 : Cond.methodLink RL 106 yX12_rings ∈ GW := gw5 17 (by decide +kernel) rfl
theorem im_yX12_rings : Cond.instanceMethod yX12_rings ∈ GW := gw5 18 (by decide +kernel) rfl
theorem se_yX12_rings : Cond.selects RX12 yX12_rings yX12_rings ∈ GW := gw5 19 (by decide +kernel) rfl
theorem co_yX12_rings : Cond.code yX12_rings cX12_rings 5 (some .int) ∈ GW := gw5 20 (rfl) rfl
theorem ml_RX12_200 : Cond.methodLink RX12 200 yX12_gains ∈ GW := gw5 21 (by decide +kernel) rfl
theorem im_yX12_gains : Cond.instanceMethod yX12_gains ∈ GW := gw5 23 (by decide +kernel) rfl
theorem co_yX12_gains : Cond.code yX12_gains cX12_gains 11 (some .boolean) ∈ GW := gw5 24 (rfl) rfl
theorem ml_RL_111 : Cond.methodLink RL 111 yX12_turn ∈ GW := gw5 25 (by decide +kernel) rfl
theorem im_yX12_turn : Cond.instanceMethod yX12_turn ∈ GW := gw5 26 (by decide +kernel) rfl
theorem se_yX12_turn : Cond.selects RX12 yX12_turn yX12_turn ∈ GW := gw5 27 (by decide +kernel) rfl
theorem co_yX12_turn : Cond.code yX12_turn cX12_turn 15 (some .long) ∈ GW := gw5 28 (rfl) rfl
theorem ml_RL_115 : Cond.methodLink RL 115 yX12_image ∈ GW := gw5 29 (by decide +kernel) rfl
theorem im_yX12_image : Cond.instanceMethod yX12_image ∈ GW := gw5 30 (by decide +kernel) rfl
theorem se_yX12_image : Cond.selects RX12 yX12_image yX12_image ∈ GW := gw5 31 (by decide +kernel) rfl
theorem co_yX12_image : Cond.code yX12_image cX12_image 2 (some .int) ∈ GW := gw5 32 (rfl) rfl
theorem ml_RL_119 : Cond.methodLink RL 119 yX12_restore ∈ GW := gw5 33 (by decide +kernel) rfl
theorem im_yX12_restore : Cond.instanceMethod yX12_restore ∈ GW := gw5 34 (by decide +kernel) rfl
theorem se_yX12_restore : Cond.selects RX12 yX12_restore yX12_restore ∈ GW := gw5 35 (by decide +kernel) rfl
theorem co_yX12_restore : Cond.code yX12_restore cX12_restore 2 (some .int) ∈ GW := gw5 36 (rfl) rfl
theorem ml_RL_124 : Cond.methodLink RL 124 yX12_leaves ∈ GW := gw5 37 (by decide +kernel) rfl
theorem im_yX12_leaves : Cond.instanceMethod yX12_leaves ∈ GW := gw5 38 (by decide +kernel) rfl
theorem se_yX12_leaves : Cond.selects RX12 yX12_leaves yX12_leaves ∈ GW := gw5 39 (by decide +kernel) rfl
theorem co_yX12_leaves : Cond.code yX12_leaves cX12_leaves 11 (some .int) ∈ GW := gw5 40 (rfl) rfl
theorem ml_RX12_207 : Cond.methodLink RX12 207 yX12_isSheet ∈ GW := gw5 41 (by decide +kernel) rfl
theorem st_yX12_isSheet : Cond.static yX12_isSheet ∈ GW := gw5 42 (by decide +kernel) rfl
theorem co_yX12_isSheet : Cond.code yX12_isSheet cX12_isSheet 1 (some .boolean) ∈ GW := gw5 43 (rfl) rfl
theorem ml_RX12_210 : Cond.methodLink RX12 210 yX12_bars ∈ GW := gw5 44 (by decide +kernel) rfl
theorem im_yX12_bars : Cond.instanceMethod yX12_bars ∈ GW := gw5 46 (by decide +kernel) rfl
theorem co_yX12_bars : Cond.code yX12_bars cX12_bars 5 (some .int) ∈ GW := gw5 47 (rfl) rfl
theorem cs_RX12_214 : Cond.constantLong RX12 214 (9999999) ∈ GW := gw5 48 (by decide +kernel) rfl
theorem ml_RL_129 : Cond.methodLink RL 129 yX12_fit ∈ GW := gw5 49 (by decide +kernel) rfl
theorem im_yX12_fit : Cond.instanceMethod yX12_fit ∈ GW := gw5 50 (by decide +kernel) rfl
theorem se_yX12_fit : Cond.selects RX12 yX12_fit yX12_fit ∈ GW := gw5 51 (by decide +kernel) rfl
theorem co_yX12_fit : Cond.code yX12_fit cX12_fit 15 (some .int) ∈ GW := gw5 52 (rfl) rfl
theorem ml_RL_133 : Cond.methodLink RL 133 yX12_film ∈ GW := gw5 53 (by decide +kernel) rfl
theorem im_yX12_film : Cond.instanceMethod yX12_film ∈ GW := gw5 54 (by decide +kernel) rfl
theorem se_yX12_film : Cond.selects RX12 yX12_film yX12_film ∈ GW := gw5 55 (by decide +kernel) rfl
theorem co_yX12_film : Cond.code yX12_film cX12_film 6 (some .int) ∈ GW := gw5 56 (rfl) rfl
theorem ml_RX12_216 : Cond.methodLink RX12 216 yX12_cutTo ∈ GW := gw5 57 (by decide +kernel) rfl
theorem st_yX12_cutTo : Cond.static yX12_cutTo ∈ GW := gw5 58 (by decide +kernel) rfl
theorem co_yX12_cutTo : Cond.code yX12_cutTo cX12_cutTo 3 (some .long) ∈ GW := gw5 59 (rfl) rfl
theorem ml_RL_137 : Cond.methodLink RL 137 yX12_sheet ∈ GW := gw5 60 (by decide +kernel) rfl
theorem im_yX12_sheet : Cond.instanceMethod yX12_sheet ∈ GW := gw5 61 (by decide +kernel) rfl
theorem se_yX12_sheet : Cond.selects RX12 yX12_sheet yX12_sheet ∈ GW := gw5 62 (by decide +kernel) rfl
theorem co_yX12_sheet : Cond.code yX12_sheet cX12_sheet 5 (some .int) ∈ GW := gw5 63 (rfl) rfl
theorem ml_RL_141 : Cond.methodLink RL 141 yX12_drop ∈ GW := gw5 64 (by decide +kernel) rfl
theorem im_yX12_drop : Cond.instanceMethod yX12_drop ∈ GW := gw5 65 (by decide +kernel) rfl
theorem se_yX12_drop : Cond.selects RX12 yX12_drop yX12_drop ∈ GW := gw5 66 (by decide +kernel) rfl
theorem co_yX12_drop : Cond.code yX12_drop cX12_drop 2 (some .int) ∈ GW := gw5 67 (rfl) rfl
theorem ml_RL_146 : Cond.methodLink RL 146 yX12_item ∈ GW := gw5 68 (by decide +kernel) rfl
theorem im_yX12_item : Cond.instanceMethod yX12_item ∈ GW := gw5 69 (by decide +kernel) rfl
theorem se_yX12_item : Cond.selects RX12 yX12_item yX12_item ∈ GW := gw5 70 (by decide +kernel) rfl
theorem co_yX12_item : Cond.code yX12_item cX12_item 7 (some .int) ∈ GW := gw5 71 (rfl) rfl
theorem ml_RL_150 : Cond.methodLink RL 150 yX12_copy ∈ GW := gw5 72 (by decide +kernel) rfl
theorem im_yX12_copy : Cond.instanceMethod yX12_copy ∈ GW := gw5 73 (by decide +kernel) rfl
theorem se_yX12_copy : Cond.selects RX12 yX12_copy yX12_copy ∈ GW := gw5 74 (by decide +kernel) rfl
theorem co_yX12_copy : Cond.code yX12_copy cX12_copy 8 (some .int) ∈ GW := gw5 75 (rfl) rfl
theorem cs_RL_32 : Cond.constantLong RL 32 (4294967295) ∈ GW := gw5 76 (by decide +kernel) rfl
theorem fk_RX0_55 : Cond.fieldLink RX0 55 "WholeMarks$Cloth" "lostByCut" "I" ∈ GW := gw5 77 (by decide +kernel) rfl
theorem fk_RX0_69 : Cond.fieldLink RX0 69 "WholeMarks$Cloth" "losesBySeam" "Z" ∈ GW := gw5 78 (by decide +kernel) rfl
theorem se_yX11_marksNow : Cond.selects RX11 yX11_marksNow yX11_marksNow ∈ GW := gw0 0 (by decide +kernel) rfl
theorem se_yX9_readMeasures : Cond.selects RX9 yX9_readMeasures yX9_readMeasures ∈ GW := gw0 1 (by decide +kernel) rfl
theorem se_yX9_peek : Cond.selects RX9 yX9_peek yX9_peek ∈ GW := gw0 2 (by decide +kernel) rfl
theorem se_yX9_readNumber : Cond.selects RX9 yX9_readNumber yX9_readNumber ∈ GW := gw0 3 (by decide +kernel) rfl
theorem se_yX9_readCounting : Cond.selects RX9 yX9_readCounting yX9_readCounting ∈ GW := gw0 4 (by decide +kernel) rfl
theorem se_yX11_groupBolts : Cond.selects RX11 yX11_groupBolts yX11_groupBolts ∈ GW := gw0 5 (by decide +kernel) rfl
theorem se_yX4_keepIfBetter : Cond.selects RX4 yX4_keepIfBetter yX4_keepIfBetter ∈ GW := gw0 6 (by decide +kernel) rfl
theorem se_yX11_priceOf : Cond.selects RX11 yX11_priceOf yX11_priceOf ∈ GW := gw0 7 (by decide +kernel) rfl
theorem se_yX11_groupBuyers : Cond.selects RX11 yX11_groupBuyers yX11_groupBuyers ∈ GW := gw0 8 (by decide +kernel) rfl
theorem se_yX11_refusal : Cond.selects RX11 yX11_refusal yX11_refusal ∈ GW := gw0 9 (by decide +kernel) rfl
theorem se_yX11_sheetOf : Cond.selects RX11 yX11_sheetOf yX11_sheetOf ∈ GW := gw0 10 (by decide +kernel) rfl
theorem se_yX12_layNow : Cond.selects RX12 yX12_layNow yX12_layNow ∈ GW := gw0 11 (by decide +kernel) rfl
theorem se_yX12_lay : Cond.selects RX12 yX12_lay yX12_lay ∈ GW := gw0 12 (by decide +kernel) rfl
theorem se_yX12_manyUpTo : Cond.selects RX12 yX12_manyUpTo yX12_manyUpTo ∈ GW := gw0 13 (by decide +kernel) rfl
theorem se_yX12_isBolt : Cond.selects RX12 yX12_isBolt yX12_isBolt ∈ GW := gw0 14 (by decide +kernel) rfl
theorem se_yX12_below : Cond.selects RX12 yX12_below yX12_below ∈ GW := gw0 15 (by decide +kernel) rfl
theorem se_yX12_seamOf : Cond.selects RX12 yX12_seamOf yX12_seamOf ∈ GW := gw0 16 (by decide +kernel) rfl
theorem se_yX12_faultOf : Cond.selects RX12 yX12_faultOf yX12_faultOf ∈ GW := gw0 17 (by decide +kernel) rfl
theorem se_yX12_ahead : Cond.selects RX12 yX12_ahead yX12_ahead ∈ GW := gw0 18 (by decide +kernel) rfl
theorem se_yX12_sumOf : Cond.selects RX12 yX12_sumOf yX12_sumOf ∈ GW := gw0 19 (by decide +kernel) rfl
theorem se_yX12_wasteOf : Cond.selects RX12 yX12_wasteOf yX12_wasteOf ∈ GW := gw0 20 (by decide +kernel) rfl
theorem se_yX12_begin : Cond.selects RX12 yX12_begin yX12_begin ∈ GW := gw0 21 (by decide +kernel) rfl
theorem se_yX12_groupsOf : Cond.selects RX12 yX12_groupsOf yX12_groupsOf ∈ GW := gw0 22 (by decide +kernel) rfl
theorem se_yX12_take : Cond.selects RX12 yX12_take yX12_take ∈ GW := gw0 23 (by decide +kernel) rfl
theorem se_yX12_goesOn : Cond.selects RX12 yX12_goesOn yX12_goesOn ∈ GW := gw0 24 (by decide +kernel) rfl
theorem se_yX12_priceOf : Cond.selects RX12 yX12_priceOf yX12_priceOf ∈ GW := gw0 25 (by decide +kernel) rfl
theorem se_yX12_above : Cond.selects RX12 yX12_above yX12_above ∈ GW := gw0 26 (by decide +kernel) rfl
theorem se_yX12_gains : Cond.selects RX12 yX12_gains yX12_gains ∈ GW := gw0 27 (by decide +kernel) rfl
theorem se_yX12_bars : Cond.selects RX12 yX12_bars yX12_bars ∈ GW := gw0 28 (by decide +kernel) rfl
theorem ly_RX0 : ∀ w ∈ u_ws RX0 TX0 6, w ∈ GW := by
  show ∀ w ∈ [u_lay RX0 TX0 0, u_lay RX0 TX0 1, u_lay RX0 TX0 2, u_lay RX0 TX0 3, u_lay RX0 TX0 4, u_lay RX0 TX0 5], w ∈ GW
  exact List.forall_mem_cons.mpr ⟨gw1 69 (by decide +kernel) rfl, List.forall_mem_cons.mpr ⟨gw1 71 (by decide +kernel) rfl, List.forall_mem_cons.mpr ⟨gw1 73 (by decide +kernel) rfl, List.forall_mem_cons.mpr ⟨gw1 75 (by decide +kernel) rfl, List.forall_mem_cons.mpr ⟨gw1 77 (by decide +kernel) rfl, List.forall_mem_cons.mpr ⟨gw1 79 (by decide +kernel) rfl, fun _ h => absurd h List.not_mem_nil⟩⟩⟩⟩⟩⟩
theorem ly_RX1 : ∀ w ∈ u_ws RX1 TX1 2, w ∈ GW := by
  show ∀ w ∈ [u_lay RX1 TX1 0, u_lay RX1 TX1 1], w ∈ GW
  exact List.forall_mem_cons.mpr ⟨gw1 91 (by decide +kernel) rfl, List.forall_mem_cons.mpr ⟨gw1 93 (by decide +kernel) rfl, fun _ h => absurd h List.not_mem_nil⟩⟩
theorem ly_RX3 : ∀ w ∈ u_ws RX3 TX3 2, w ∈ GW := by
  show ∀ w ∈ [u_lay RX3 TX3 0, u_lay RX3 TX3 1], w ∈ GW
  exact List.forall_mem_cons.mpr ⟨gw1 107 (by decide +kernel) rfl, List.forall_mem_cons.mpr ⟨gw1 109 (by decide +kernel) rfl, fun _ h => absurd h List.not_mem_nil⟩⟩
theorem ly_RX4 : ∀ w ∈ u_ws RX4 TX4 9, w ∈ GW := by
  show ∀ w ∈ [u_lay RX4 TX4 0, u_lay RX4 TX4 1, u_lay RX4 TX4 2, u_lay RX4 TX4 3, u_lay RX4 TX4 4, u_lay RX4 TX4 5, u_lay RX4 TX4 6, u_lay RX4 TX4 7, u_lay RX4 TX4 8], w ∈ GW
  exact List.forall_mem_cons.mpr ⟨gw1 195 (by decide +kernel) rfl, List.forall_mem_cons.mpr ⟨gw1 197 (by decide +kernel) rfl, List.forall_mem_cons.mpr ⟨gw1 199 (by decide +kernel) rfl, List.forall_mem_cons.mpr ⟨gw1 201 (by decide +kernel) rfl, List.forall_mem_cons.mpr ⟨gw1 203 (by decide +kernel) rfl, List.forall_mem_cons.mpr ⟨gw1 205 (by decide +kernel) rfl, List.forall_mem_cons.mpr ⟨gw1 207 (by decide +kernel) rfl, List.forall_mem_cons.mpr ⟨gw1 209 (by decide +kernel) rfl, List.forall_mem_cons.mpr ⟨gw1 211 (by decide +kernel) rfl, fun _ h => absurd h List.not_mem_nil⟩⟩⟩⟩⟩⟩⟩⟩⟩
theorem ly_RX5 : ∀ w ∈ u_ws RX5 TX5 4, w ∈ GW := by
  show ∀ w ∈ [u_lay RX5 TX5 0, u_lay RX5 TX5 1, u_lay RX5 TX5 2, u_lay RX5 TX5 3], w ∈ GW
  exact List.forall_mem_cons.mpr ⟨gw1 120 (by decide +kernel) rfl, List.forall_mem_cons.mpr ⟨gw1 122 (by decide +kernel) rfl, List.forall_mem_cons.mpr ⟨gw1 124 (by decide +kernel) rfl, List.forall_mem_cons.mpr ⟨gw1 126 (by decide +kernel) rfl, fun _ h => absurd h List.not_mem_nil⟩⟩⟩⟩
theorem ly_RX6 : ∀ w ∈ u_ws RX6 TX6 3, w ∈ GW := by
  show ∀ w ∈ [u_lay RX6 TX6 0, u_lay RX6 TX6 1, u_lay RX6 TX6 2], w ∈ GW
  exact List.forall_mem_cons.mpr ⟨gw1 169 (by decide +kernel) rfl, List.forall_mem_cons.mpr ⟨gw1 171 (by decide +kernel) rfl, List.forall_mem_cons.mpr ⟨gw1 173 (by decide +kernel) rfl, fun _ h => absurd h List.not_mem_nil⟩⟩⟩
theorem ly_RX8 : ∀ w ∈ u_ws RX8 TX8 4, w ∈ GW := by
  show ∀ w ∈ [u_lay RX8 TX8 0, u_lay RX8 TX8 1, u_lay RX8 TX8 2, u_lay RX8 TX8 3], w ∈ GW
  exact List.forall_mem_cons.mpr ⟨gw1 227 (by decide +kernel) rfl, List.forall_mem_cons.mpr ⟨gw1 229 (by decide +kernel) rfl, List.forall_mem_cons.mpr ⟨gw1 231 (by decide +kernel) rfl, List.forall_mem_cons.mpr ⟨gw1 233 (by decide +kernel) rfl, fun _ h => absurd h List.not_mem_nil⟩⟩⟩⟩
theorem ly_RX9 : ∀ w ∈ u_ws RX9 TX9 6, w ∈ GW := by
  show ∀ w ∈ [u_lay RX9 TX9 0, u_lay RX9 TX9 1, u_lay RX9 TX9 2, u_lay RX9 TX9 3, u_lay RX9 TX9 4, u_lay RX9 TX9 5], w ∈ GW
  exact List.forall_mem_cons.mpr ⟨gw1 145 (by decide +kernel) rfl, List.forall_mem_cons.mpr ⟨gw1 147 (by decide +kernel) rfl, List.forall_mem_cons.mpr ⟨gw1 149 (by decide +kernel) rfl, List.forall_mem_cons.mpr ⟨gw1 151 (by decide +kernel) rfl, List.forall_mem_cons.mpr ⟨gw1 153 (by decide +kernel) rfl, List.forall_mem_cons.mpr ⟨gw1 155 (by decide +kernel) rfl, fun _ h => absurd h List.not_mem_nil⟩⟩⟩⟩⟩⟩
theorem ly_RX10 : ∀ w ∈ u_ws RX10 TX10 3, w ∈ GW := by
  show ∀ w ∈ [u_lay RX10 TX10 0, u_lay RX10 TX10 1, u_lay RX10 TX10 2], w ∈ GW
  exact List.forall_mem_cons.mpr ⟨gw1 44 (by decide +kernel) rfl, List.forall_mem_cons.mpr ⟨gw1 46 (by decide +kernel) rfl, List.forall_mem_cons.mpr ⟨gw1 48 (by decide +kernel) rfl, fun _ h => absurd h List.not_mem_nil⟩⟩⟩
theorem ly_RX11 : ∀ w ∈ u_ws RX11 TX11 7, w ∈ GW := by
  show ∀ w ∈ [u_lay RX11 TX11 0, u_lay RX11 TX11 1, u_lay RX11 TX11 2, u_lay RX11 TX11 3, u_lay RX11 TX11 4, u_lay RX11 TX11 5, u_lay RX11 TX11 6], w ∈ GW
  exact List.forall_mem_cons.mpr ⟨gw2 3 (by decide +kernel) rfl, List.forall_mem_cons.mpr ⟨gw2 5 (by decide +kernel) rfl, List.forall_mem_cons.mpr ⟨gw2 7 (by decide +kernel) rfl, List.forall_mem_cons.mpr ⟨gw2 9 (by decide +kernel) rfl, List.forall_mem_cons.mpr ⟨gw2 11 (by decide +kernel) rfl, List.forall_mem_cons.mpr ⟨gw2 13 (by decide +kernel) rfl, List.forall_mem_cons.mpr ⟨gw2 15 (by decide +kernel) rfl, fun _ h => absurd h List.not_mem_nil⟩⟩⟩⟩⟩⟩⟩
theorem ly_RX12 : ∀ w ∈ u_ws RX12 TX12 19, w ∈ GW := by
  show ∀ w ∈ [u_lay RX12 TX12 0, u_lay RX12 TX12 1, u_lay RX12 TX12 2, u_lay RX12 TX12 3, u_lay RX12 TX12 4, u_lay RX12 TX12 5, u_lay RX12 TX12 6, u_lay RX12 TX12 7, u_lay RX12 TX12 8, u_lay RX12 TX12 9, u_lay RX12 TX12 10, u_lay RX12 TX12 11, u_lay RX12 TX12 12, u_lay RX12 TX12 13, u_lay RX12 TX12 14, u_lay RX12 TX12 15, u_lay RX12 TX12 16, u_lay RX12 TX12 17, u_lay RX12 TX12 18], w ∈ GW
  exact List.forall_mem_cons.mpr ⟨gw4 23 (by decide +kernel) rfl, List.forall_mem_cons.mpr ⟨gw4 25 (by decide +kernel) rfl, List.forall_mem_cons.mpr ⟨gw4 27 (by decide +kernel) rfl, List.forall_mem_cons.mpr ⟨gw4 29 (by decide +kernel) rfl, List.forall_mem_cons.mpr ⟨gw4 31 (by decide +kernel) rfl, List.forall_mem_cons.mpr ⟨gw4 33 (by decide +kernel) rfl, List.forall_mem_cons.mpr ⟨gw4 35 (by decide +kernel) rfl, List.forall_mem_cons.mpr ⟨gw4 37 (by decide +kernel) rfl, List.forall_mem_cons.mpr ⟨gw4 39 (by decide +kernel) rfl, List.forall_mem_cons.mpr ⟨gw4 41 (by decide +kernel) rfl, List.forall_mem_cons.mpr ⟨gw4 43 (by decide +kernel) rfl, List.forall_mem_cons.mpr ⟨gw4 45 (by decide +kernel) rfl, List.forall_mem_cons.mpr ⟨gw4 47 (by decide +kernel) rfl, List.forall_mem_cons.mpr ⟨gw4 49 (by decide +kernel) rfl, List.forall_mem_cons.mpr ⟨gw4 51 (by decide +kernel) rfl, List.forall_mem_cons.mpr ⟨gw4 53 (by decide +kernel) rfl, List.forall_mem_cons.mpr ⟨gw4 55 (by decide +kernel) rfl, List.forall_mem_cons.mpr ⟨gw4 57 (by decide +kernel) rfl, List.forall_mem_cons.mpr ⟨gw4 59 (by decide +kernel) rfl, fun _ h => absurd h List.not_mem_nil⟩⟩⟩⟩⟩⟩⟩⟩⟩⟩⟩⟩⟩⟩⟩⟩⟩⟩⟩
end
section
/-! THE ABSTRACT MACHINE: values are mathematical ints; the heap is ONE function M : cell -> place -> Int; which cells there are, and what stands where in them, is fixed (kd, ft): nothing is made behind the constructors. -/
abbrev AV : Type := Int ⊕ Int ⊕ Option Nat
abbrev MM : Type := Nat → Nat → Int
abbrev FX : Type := (Nat → Nat) × va_G × ClassId × ClassId × ClassId
abbrev MI : Type := MethodName × ByteArray × Nat × Option FieldType
abbrev vi (x : Int) : AV := .inl x
abbrev vj (x : Int) : AV := .inr (.inl x)
abbrev vo (o : Option Nat) : AV := .inr (.inr o)
abbrev vr (k : Nat) : AV := .inr (.inr (some k))
abbrev vn : AV := .inr (.inr none)
def xv (ad : Nat → Nat) : AV → Value
  | .inl x => .int (Int32.ofInt x)
  | .inr (.inl x) => .long (Int64.ofInt x)
  | .inr (.inr none) => .null
  | .inr (.inr (some k)) => .ref (ad k)
def xcat : AV → Nat
  | .inl _ => 1
  | .inr (.inl _) => 2
  | .inr (.inr _) => 1
theorem xv_cat (ad : Nat → Nat) (v : AV) : (xv ad v).category = xcat v := by
  rcases v with x | x | _ | x <;> rfl
/-- a cell's kind: 0 ints, 1 longs, 2 references (each with its length), 3 an object (with its class's place in vwCl) -/
def kd (k : Nat) : Nat × Nat := match k with
  | 0 => (3, 9) | 1 => (3, 4) | 2 => (3, 4)
  | 3 => (3, 8) | 4 => (0, 3) | 5 => (3, 0) | 6 => (0, 8) | 7 => (0, 8) | 8 => (0, 8) | 9 => (3, 1) | 10 => (0, 6) | 11 => (3, 2) | 12 => (0, 16) | 13 => (0, 16)
  | 14 => (3, 8) | 15 => (0, 3) | 16 => (3, 0) | 17 => (0, 8) | 18 => (0, 8) | 19 => (0, 8) | 20 => (3, 1) | 21 => (0, 6) | 22 => (3, 2) | 23 => (0, 16) | 24 => (0, 16)
  | 25 => (3, 7) | 26 => (0, 40) | 27 => (0, 3)
  | 28 => (2, 4) | 29 => (3, 6) | 30 => (3, 6) | 31 => (3, 6) | 32 => (3, 6) | 33 => (1, 16) | 34 => (1, 16) | 35 => (1, 16) | 36 => (1, 16)
  | 37 => (3, 5) | 38 => (1, 3)
  | 39 => (3, 3) | 40 => (1, 256) | 41 => (0, 8) | 42 => (0, 8) | 43 => (0, 8)
  | 44 => (3, 10) | 45 => (0, 140) | 46 => (0, 40) | 47 => (1, 3) | 48 => (0, 3) | 49 => (0, 8) | 50 => (0, 8) | 51 => (0, 8) | 52 => (0, 4) | 53 => (0, 4) | 54 => (1, 64) | 55 => (1, 16)
  | _ => (4, 0)
/-- an object's fields: 0 an int, 1 a long, t + 2 the cell t -/
def ft (k : Nat) : List Nat := match k with
  | 0 => [3, 4, 0, 27, 30, 39, 41]
  | 1 => [5, 7, 11, 13] | 2 => [16, 18, 22, 24]
  | 3 => [6, 0, 0] | 5 => [8, 9, 10, 0, 0, 0] | 9 => [12, 0] | 11 => [14, 15]
  | 14 => [17, 0, 0] | 16 => [19, 20, 21, 0, 0, 0] | 20 => [23, 0] | 22 => [25, 26]
  | 25 => [28, 0, 0, 29, 0, 0]
  | 29 => [35, 0, 0, 0] | 30 => [36, 0, 0, 0] | 31 => [37, 0, 0, 0] | 32 => [38, 0, 0, 0]
  | 37 => [40, 0, 1]
  | 39 => [42, 43, 44, 45, 0, 0, 0, 0, 1]
  | 44 => [47, 0, 48, 0, 49, 0, 1, 0, 50, 0, 0, 51, 52, 0, 53, 54, 55, 56, 57]
  | _ => []
/-- a field's value -/
def fv (M : MM) (k j t : Nat) : AV := match t with
  | 0 => vi (M k j)
  | 1 => vj (M k j)
  | t + 2 => vr t
def fls (ad : Nat → Nat) (M : MM) (k : Nat) : List Value := (ft k).mapIdx (fun j t => xv ad (fv M k j t))
def cel (E : FX) (M : MM) (k : Nat) : va_E := match kd k with
  | (0, n) => .inl (E.2.2.1, n, .inl (fun j => Int32.ofInt (M k j)))
  | (1, n) => .inl (E.2.2.2.1, n, .inr (.inl (fun j => Int64.ofInt (M k j))))
  | (2, n) => .inl (E.2.2.2.2, n, .inr (.inr (.inr (.inr (fun j => some (E.1 (29 + j)))))))
  | (_, ci) => .inr (ci, fls E.1 M k)
def wM (E : FX) (M : MM) : va_W := (List.range 56).map (fun k => (E.1 k, cel E M k))
def tyl (E : FX) : List (ClassId × FieldType) := [(E.2.2.1, .int), (E.2.2.2.1, .long), (E.2.2.2.2, .object "WholeMarks$Sheet")]
/-- the heap with one place anew -/
def up (M : MM) (k j : Nat) (x : Int) : MM := fun k' j' => if k' = k ∧ j' = j then x else M k' j'
theorem wM_at (E : FX) (M : MM) {k : Nat} (h : k < 56) : (wM E M)[k]? = some (E.1 k, cel E M k) := by
  simp [wM, h]
theorem wM_set (E : FX) (M M' : MM) {k : Nat} (h : k < 56) (hk : ∀ k', k' < 56 → k' ≠ k → cel E M' k' = cel E M k') : (wM E M).set k (E.1 k, cel E M' k) = wM E M' := by
  apply List.ext_getElem?
  intro i
  by_cases hi : i < 56
  · rw [List.getElem?_set, wM_at E M' hi]
    by_cases hik : k = i
    · subst hik
      simp [wM, h]
    · rw [if_neg hik, wM_at E M hi, hk i hi (fun e => hik e.symm)]
  · have h1 : (wM E M').length ≤ i := by simp [wM]; omega
    have h2 : ((wM E M).set k (E.1 k, cel E M' k)).length ≤ i := by simp [wM]; omega
    rw [List.getElem?_eq_none h1, List.getElem?_eq_none h2]
theorem fls_up (ad : Nat → Nat) (M : MM) {k k' j : Nat} {x : Int} (h : k' ≠ k) : fls ad (up M k j x) k' = fls ad M k' := by
  unfold fls
  apply List.ext_getElem?
  intro i
  simp only [List.getElem?_mapIdx]
  cases (ft k')[i]? with
  | none => rfl
  | some t =>
    rcases t with _ | _ | t <;> simp [fv, up, h]
theorem cel_up (E : FX) (M : MM) {k j : Nat} {x : Int} (k' : Nat) (h : k' ≠ k) : cel E (up M k j x) k' = cel E M k' := by
  unfold cel
  split <;> first | (simp [up, h]; done) | (rw [fls_up E.1 M h])
theorem wM_up (E : FX) (M : MM) {k j : Nat} {x : Int} (h : k < 56) : (wM E M).set k (E.1 k, cel E (up M k j x) k) = wM E (up M k j x) :=
  wM_set E M _ h (fun k' _ hk => cel_up E M k' hk)
theorem fls_at (ad : Nat → Nat) (M : MM) {k j t : Nat} (h : (ft k)[j]? = some t) : (fls ad M k)[j]? = some (xv ad (fv M k j t)) := by
  simp [fls, List.getElem?_mapIdx, h]
theorem fls_set (ad : Nat → Nat) (M : MM) {k j t : Nat} {x : Int} (h : (ft k)[j]? = some t) (ht : t < 2) : (fls ad M k).set j (xv ad (fv (up M k j x) k j t)) = fls ad (up M k j x) k := by
  unfold fls
  apply List.ext_getElem?
  intro i
  rw [List.getElem?_set]
  simp only [List.getElem?_mapIdx, List.length_mapIdx]
  by_cases hij : j = i
  · subst hij
    rw [if_pos rfl, if_pos (List.getElem?_eq_some_iff.mp h).1, h]
    rfl
  · rw [if_neg hij]
    cases (ft k)[i]? with
    | none => rfl
    | some t' =>
      have h2 : ¬ (i = j) := fun e => hij e.symm
      rcases t' with _ | _ | t' <;> simp [fv, up, h2]
/-- the addresses are apart -/
def Apt (E : FX) : Prop := ∀ i j, i < 56 → j < 56 → E.1 i = E.1 j → i = j
def AW (E : FX) (sz : Nat) : Nat → Prop := fun q => (∃ k, k < 56 ∧ q = E.1 k) ∨ sz ≤ q
theorem wM_D {E : FX} {A : Nat → Prop} (hE : Apt E) (hA : ∀ k, k < 56 → A (E.1 k)) (M : MM) : va_D A (wM E M) := by
  refine ⟨fun i j p q hp hq h => ?_, fun k q hq => ?_⟩
  · have hi : i < 56 := by
      have := (List.getElem?_eq_some_iff.mp hp).1
      simpa [wM] using this
    have hj : j < 56 := by
      have := (List.getElem?_eq_some_iff.mp hq).1
      simpa [wM] using this
    rw [wM_at E M hi] at hp
    rw [wM_at E M hj] at hq
    cases hp
    cases hq
    exact hE i j hi hj h
  · have hk : k < 56 := by
      have := (List.getElem?_eq_some_iff.mp hq).1
      simpa [wM] using this
    rw [wM_at E M hk] at hq
    cases hq
    exact hA k hk
theorem wM_A {E : FX} {M : MM} {sz : Nat} : ∀ q, AW E sz q ↔ va_A (wM E M) sz q := by
  intro q
  constructor
  · rintro (⟨k, hk, rfl⟩ | h)
    · exact Or.inl ⟨k, cel E M k, wM_at E M hk⟩
    · exact Or.inr h
  · rintro (⟨k, e, h⟩ | h)
    · have hk : k < 56 := by
        have := (List.getElem?_eq_some_iff.mp h).1
        simpa [wM] using this
      rw [wM_at E M hk] at h
      cases h
      exact Or.inl ⟨k, hk, rfl⟩
    · exact Or.inr h
/-- the enum: cell 100 is CLOTHS, 101 .. 104 its constants -/
def lbc (i : Nat) : Int := if i = 1 ∨ i = 3 then 1 else 0
def lbs (i : Nat) : Int := if i < 2 then 1 else 0
def EW (E : FX) (A : Nat → Prop) (U : State) (H : Heap) : Prop :=
  va_Z "WholeMarks" "CLOTHS" "[LWholeMarks$Cloth;" (.ref (E.1 100)) A U H ∧
  va_T (.object "WholeMarks$Cloth") (E.1 100) 4 (fun i => .ref (E.1 (101 + i))) A U H ∧
  va_Z "WholeMarks$Cloth" "LINEN" "LWholeMarks$Cloth;" (.ref (E.1 101)) A U H ∧
  va_Ef 4 "WholeMarks$Cloth" "lostByCut" "I" (fun i => .int (Int32.ofInt (lbc i))) (fun i => E.1 (101 + i)) A U H ∧
  va_Ef 4 "WholeMarks$Cloth" "losesBySeam" "Z" (fun i => .int (Int32.ofInt (lbs i))) (fun i => E.1 (101 + i)) A U H ∧
  va_Nw (.fieldLinkNest RX0 79 "WholeMarks" "CLOTHS" "[LWholeMarks$Cloth;" "WholeMarks") U
theorem EW.kept {E : FX} {A : Nat → Prop} {U : State} {H H1 : Heap} (h : EW E A U H) (hq : ∀ a : Nat, a < H.size → ¬ A a → H1[a]? = H[a]?) : EW E A U H1 :=
  ⟨h.1.kept hq, h.2.1.kept hq, h.2.2.1.kept hq, h.2.2.2.1.kept hq, h.2.2.2.2.1.kept hq, h.2.2.2.2.2⟩
theorem EW.narrow {E : FX} {A B : Nat → Prop} {U : State} {H : Heap} (h : EW E A U H) (hAB : ∀ q, B q → A q) : EW E B U H :=
  ⟨h.1.narrow hAB, h.2.1.narrow hAB, h.2.2.1.narrow hAB, h.2.2.2.1.narrow hAB, h.2.2.2.2.1.narrow hAB, h.2.2.2.2.2⟩
theorem EW.moved {E : FX} {A : Nat → Prop} {u U : State} {H : Heap} (hW : u.WarmedH U.vm) (h : EW E A u H) : EW E A U H :=
  ⟨h.1.moved hW.alike, h.2.1.moved hW.alike, h.2.2.1.moved hW.alike, h.2.2.2.1.moved hW.alike, h.2.2.2.2.1.moved hW.alike, h.2.2.2.2.2.warmF hW⟩
end
section
abbrev RT : Type := (Nat → Prop) × Program × Env × Room × State × MethodId × Array Value × List Frame × Method × Code × Nat × Nat × (State → Prop)
abbrev LV : Type := List (Nat × AV)
def xl (ad : Nat → Nat) (L : LV) : List (Nat × Value) := L.map (fun q => (q.1, xv ad q.2))
/-- the machine, at pc with locals L, stack S and heap M, comes to its end -/
def Aj (E : FX) (l : Launch) (z : RT) (pc : Nat) (L : LV) (S : List AV) (M : MM) : Prop :=
  match z with
  | (A, p, e, R, s, m, args, below, meth, c, cells, slots, Q) => ∀ (H : Heap) (locs : List Loc) (ls : Array Slot), va_P E.2.1 vwCl (wM E M) H → va_S A s.heap H locs → lv_has ls c.maxLocals (xl E.1 L) → W p l e R s m args below meth c H locs cells slots Q (F0 m pc ls (S.map (xv E.1)))
/-- what holds all along a method's run -/
def Cx (E : FX) (z : RT) (D : Nat) (own : String) (cc : ByteArray) (nL : Nat) : Prop :=
  match z with
  | (A, p, _, R, s, m, args, _, _, c, cells, slots, _) => p.tables.exec = Jvm.exec ∧ c.code = cc ∧ c.maxLocals = nL ∧ s.vm.findClass own = some m.cls ∧ (∀ w ∈ GW, w.before args s = true) ∧ va_K E.2.1 vwCl (tyl E) s ∧ Apt E ∧ (∀ k, k < 56 → A (E.1 k)) ∧ (∀ q, s.heap.size ≤ q → A q) ∧ EW E A s s.heap ∧ (D ≤ R.frames ∧ 60 * D ≤ R.locals) ∧ cells ≤ R.cells ∧ slots ≤ R.slots
def CQ (E : FX) (post : Option AV → MM → Prop) (A : Nat → Prop) : Array Value → State → Outcome → State → Prop := fun _ st o t =>
  (∃ (r : Option AV) (M' : MM), o = .returned (r.map (xv E.1)) ∧ post r M' ∧ va_P E.2.1 vwCl (wM E M') t.heap) ∧ va_F A st t
def CP (E : FX) (As : List AV) (M : MM) (sz : Nat) : Array Value → State → Prop :=
  va_Pc (As.map (xv E.1)) (fun U => U.heap.size = sz ∧ va_P E.2.1 vwCl (wM E M) U.heap ∧ va_K E.2.1 vwCl (tyl E) U ∧ Apt E ∧ EW E (AW E sz) U U.heap)
def rmD (d : Nat) : Room := { frames := d, cells := 0, slots := 0, locals := 60 * d }
def mw (q : MI) : List Cond := .code q.1 q.2.1 q.2.2.1 q.2.2.2 :: GW
/-- a method's contract: from heap M with arguments As it returns, and post holds of its answer and heap -/
def Con (E : FX) (l : Launch) (D : Nat) (q : MI) (As : List AV) (M : MM) (post : Option AV → MM → Prop) : Prop :=
  ∃ d, d < D ∧ ∀ sz, Met l q.1 (mw q) (rmD d) (CP E As M sz) (CQ E post (AW E sz)) 0 0 (AW E sz)
theorem Con.up {E : FX} {l : Launch} {D D' : Nat} {q : MI} {As : List AV} {M : MM} {post : Option AV → MM → Prop} (h : Con E l D q As M post) (hD : D ≤ D') : Con E l D' q As M post := by
  obtain ⟨d, h1, h2⟩ := h
  exact ⟨d, Nat.lt_of_lt_of_le h1 hD, h2⟩
/-- how a method's run ends -/
def Rt (E : FX) (z : RT) (ret : Option FieldType) (post : Option AV → MM → Prop) : Prop :=
  match z with
  | (A, _, _, _, s, _, args, below, meth, _, cells, slots, Q) => meth.sig.returnType = ret ∧ meth.locks = false ∧ A = AW E s.heap.size ∧ cells = 0 ∧ slots = 0 ∧ Q = MQ below (CQ E post A) args s 0 0 A
theorem FrameBlind_CP {E : FX} {As : List AV} {M : MM} {sz : Nat} : FrameBlind (CP E As M sz) := by
  intro a U g mk q
  obtain ⟨q0, q1, qP, qK, qA, qE⟩ := q
  refine ⟨q0, q1, qP, va_K.moved (u := U) (U := U.calling g mk a) (Vm.Alike.refl U.vm) qK, qA, ?_⟩
  exact ⟨qE.1.moved (Vm.Alike.refl U.vm), qE.2.1.moved (Vm.Alike.refl U.vm), qE.2.2.1.moved (Vm.Alike.refl U.vm), qE.2.2.2.1.moved (Vm.Alike.refl U.vm), qE.2.2.2.2.1.moved (Vm.Alike.refl U.vm), qE.2.2.2.2.2⟩
section ROWS
variable {E : FX} {l : Launch} {z : RT} {D : Nat} {own : String} {cc : ByteArray} {nL pc : Nat} {L : LV} {S : List AV} {M : MM}
theorem xl_at {ad : Nat → Nat} {L : LV} {i n : Nat} {v : AV} (h : L[i]? = some (n, v)) : (xl ad L)[i]? = some (n, xv ad v) := by
  simp [xl, h]
/-- a local is stored anew -/
def stL (i : Nat) (v : AV) (L : LV) : LV := (i, v) :: L.filter (fun q => !(q.1 == i) && !(q.1 + 1 == i && xcat q.2 == 2))
def stL2 (i : Nat) (v : AV) (L : LV) : LV := (i, v) :: L.filter (fun q => !(q.1 == i) && (!(q.1 == i + 1) && !(q.1 + 1 == i && xcat q.2 == 2)))
theorem xl_st {ad : Nat → Nat} {i : Nat} {v : AV} {L : LV} : (i, xv ad v) :: (xl ad L).filter (fun q => !(q.1 == i) && !(q.1 + 1 == i && q.2.category == 2)) = xl ad (stL i v L) := by
  simp only [xl, stL, List.map_cons, List.filter_map]
  congr 2
  apply List.filter_congr
  intro q _
  simp only [Function.comp, xv_cat]
theorem xl_st2 {ad : Nat → Nat} {i : Nat} {v : AV} {L : LV} : (i, xv ad v) :: (xl ad L).filter (fun q => !(q.1 == i) && (!(q.1 == i + 1) && !(q.1 + 1 == i && q.2.category == 2))) = xl ad (stL2 i v L) := by
  simp only [xl, stL2, List.map_cons, List.filter_map]
  congr 2
  apply List.filter_congr
  intro q _
  simp only [Function.comp, xv_cat]
/-- fewer locals are spoken of -/
theorem v_sub {L' : LV} (ks : List Nat) (h : ks.filterMap (fun k => L[k]?) = L') (K : Aj E l z pc L' S M) : Aj E l z pc L S M := by
  obtain ⟨A, p, e, R, s, m, args, below, meth, c, cells, slots, Q⟩ := z
  intro H locs ls hP hS hl
  refine K H locs ls hP hS (lv_sub hl ks ?_)
  subst h
  simp only [lv_pick, xl, List.map_filterMap, List.getElem?_map]
theorem v_iload {i n : Nat} {x : Int} (C : Cx E z D own cc nL) (d : decode cc pc = .ok (.iload n, 2)) (hl : L[i]? = some (n, vi x)) (K : Aj E l z (pc + 2) L (vi x :: S) M) : Aj E l z pc L S M := by
  obtain ⟨A, p, e, R, s, m, args, below, meth, c, cells, slots, Q⟩ := z
  intro H locs ls hP hS hL
  exact lv_iload C.1 C.2.1 d (lv_at hL i (xl_at hl)) (K H locs ls hP hS hL)
theorem v_iload_n {i n : Nat} {k : Fin 4} {x : Int} (C : Cx E z D own cc nL) (d : decode cc pc = .ok (.iload_n k, 1)) (hk : (k : Nat) = n) (hl : L[i]? = some (n, vi x)) (K : Aj E l z (pc + 1) L (vi x :: S) M) : Aj E l z pc L S M := by
  obtain ⟨A, p, e, R, s, m, args, below, meth, c, cells, slots, Q⟩ := z
  intro H locs ls hP hS hL
  exact lv_iload_n C.1 C.2.1 d hk (lv_at hL i (xl_at hl)) (K H locs ls hP hS hL)
theorem v_lload {i n : Nat} {x : Int} (C : Cx E z D own cc nL) (d : decode cc pc = .ok (.lload n, 2)) (hl : L[i]? = some (n, vj x)) (K : Aj E l z (pc + 2) L (vj x :: S) M) : Aj E l z pc L S M := by
  obtain ⟨A, p, e, R, s, m, args, below, meth, c, cells, slots, Q⟩ := z
  intro H locs ls hP hS hL
  exact lv_lload C.1 C.2.1 d (lv_at hL i (xl_at hl)) (K H locs ls hP hS hL)
theorem v_lload_n {i n : Nat} {k : Fin 4} {x : Int} (C : Cx E z D own cc nL) (d : decode cc pc = .ok (.lload_n k, 1)) (hk : (k : Nat) = n) (hl : L[i]? = some (n, vj x)) (K : Aj E l z (pc + 1) L (vj x :: S) M) : Aj E l z pc L S M := by
  obtain ⟨A, p, e, R, s, m, args, below, meth, c, cells, slots, Q⟩ := z
  intro H locs ls hP hS hL
  exact lv_lload_n C.1 C.2.1 d hk (lv_at hL i (xl_at hl)) (K H locs ls hP hS hL)
theorem v_aload {i n : Nat} {o : Option Nat} (C : Cx E z D own cc nL) (d : decode cc pc = .ok (.aload n, 2)) (hl : L[i]? = some (n, vo o)) (K : Aj E l z (pc + 2) L (vo o :: S) M) : Aj E l z pc L S M := by
  obtain ⟨A, p, e, R, s, m, args, below, meth, c, cells, slots, Q⟩ := z
  intro H locs ls hP hS hL
  cases o with
  | none => exact lv_aloadN C.1 C.2.1 d (lv_at hL i (xl_at hl)) (K H locs ls hP hS hL)
  | some x => exact lv_aload C.1 C.2.1 d (lv_at hL i (xl_at hl)) (K H locs ls hP hS hL)
theorem v_aload_n {i n : Nat} {k : Fin 4} {o : Option Nat} (C : Cx E z D own cc nL) (d : decode cc pc = .ok (.aload_n k, 1)) (hk : (k : Nat) = n) (hl : L[i]? = some (n, vo o)) (K : Aj E l z (pc + 1) L (vo o :: S) M) : Aj E l z pc L S M := by
  obtain ⟨A, p, e, R, s, m, args, below, meth, c, cells, slots, Q⟩ := z
  intro H locs ls hP hS hL
  cases o with
  | none => exact lv_aload_nN C.1 C.2.1 d hk (lv_at hL i (xl_at hl)) (K H locs ls hP hS hL)
  | some x => exact lv_aload_n C.1 C.2.1 d hk (lv_at hL i (xl_at hl)) (K H locs ls hP hS hL)
theorem v_istore {n : Nat} {x : Int} {L' : LV} (C : Cx E z D own cc nL) (d : decode cc pc = .ok (.istore n, 2)) (hn : n < nL) (hl : stL n (vi x) L = L') (K : Aj E l z (pc + 2) L' S M) : Aj E l z pc L (vi x :: S) M := by
  obtain ⟨A, p, e, R, s, m, args, below, meth, c, cells, slots, Q⟩ := z
  intro H locs ls hP hS hL
  subst hl
  exact lv_istore C.1 C.2.1 d hL (by rw [C.2.2.1]; exact hn) (xl_st (ad := E.1) (v := vi x) (L := L)) (fun ls' hL' => K H locs ls' hP hS hL')
theorem v_istore_n {n : Nat} {k : Fin 4} {x : Int} {L' : LV} (C : Cx E z D own cc nL) (d : decode cc pc = .ok (.istore_n k, 1)) (hk : (k : Nat) = n) (hn : n < nL) (hl : stL n (vi x) L = L') (K : Aj E l z (pc + 1) L' S M) : Aj E l z pc L (vi x :: S) M := by
  obtain ⟨A, p, e, R, s, m, args, below, meth, c, cells, slots, Q⟩ := z
  intro H locs ls hP hS hL
  subst hl
  exact lv_istore_n C.1 C.2.1 d hk hL (by rw [C.2.2.1]; exact hn) (xl_st (ad := E.1) (v := vi x) (L := L)) (fun ls' hL' => K H locs ls' hP hS hL')
theorem v_astore {n : Nat} {o : Option Nat} {L' : LV} (C : Cx E z D own cc nL) (d : decode cc pc = .ok (.astore n, 2)) (hn : n < nL) (hl : stL n (vo o) L = L') (K : Aj E l z (pc + 2) L' S M) : Aj E l z pc L (vo o :: S) M := by
  obtain ⟨A, p, e, R, s, m, args, below, meth, c, cells, slots, Q⟩ := z
  intro H locs ls hP hS hL
  subst hl
  cases o with
  | none => exact lv_astoreN C.1 C.2.1 d hL (by rw [C.2.2.1]; exact hn) (xl_st (ad := E.1) (v := vn) (L := L)) (fun ls' hL' => K H locs ls' hP hS hL')
  | some x => exact lv_astore C.1 C.2.1 d hL (by rw [C.2.2.1]; exact hn) (xl_st (ad := E.1) (v := vr x) (L := L)) (fun ls' hL' => K H locs ls' hP hS hL')
theorem v_astore_n {n : Nat} {k : Fin 4} {o : Option Nat} {L' : LV} (C : Cx E z D own cc nL) (d : decode cc pc = .ok (.astore_n k, 1)) (hk : (k : Nat) = n) (hn : n < nL) (hl : stL n (vo o) L = L') (K : Aj E l z (pc + 1) L' S M) : Aj E l z pc L (vo o :: S) M := by
  obtain ⟨A, p, e, R, s, m, args, below, meth, c, cells, slots, Q⟩ := z
  intro H locs ls hP hS hL
  subst hl
  cases o with
  | none => exact lv_astore_nN C.1 C.2.1 d hk hL (by rw [C.2.2.1]; exact hn) (xl_st (ad := E.1) (v := vn) (L := L)) (fun ls' hL' => K H locs ls' hP hS hL')
  | some x => exact lv_astore_n C.1 C.2.1 d hk hL (by rw [C.2.2.1]; exact hn) (xl_st (ad := E.1) (v := vr x) (L := L)) (fun ls' hL' => K H locs ls' hP hS hL')
theorem v_lstore {n : Nat} {x : Int} {L' : LV} (C : Cx E z D own cc nL) (d : decode cc pc = .ok (.lstore n, 2)) (hn : n + 1 < nL) (hl : stL2 n (vj x) L = L') (K : Aj E l z (pc + 2) L' S M) : Aj E l z pc L (vj x :: S) M := by
  obtain ⟨A, p, e, R, s, m, args, below, meth, c, cells, slots, Q⟩ := z
  intro H locs ls hP hS hL
  subst hl
  exact lv_lstore C.1 C.2.1 d hL (by rw [C.2.2.1]; exact hn) (xl_st2 (ad := E.1) (v := vj x) (L := L)) (fun ls' hL' => K H locs ls' hP hS hL')
theorem v_lstore_n {n : Nat} {k : Fin 4} {x : Int} {L' : LV} (C : Cx E z D own cc nL) (d : decode cc pc = .ok (.lstore_n k, 1)) (hk : (k : Nat) = n) (hn : n + 1 < nL) (hl : stL2 n (vj x) L = L') (K : Aj E l z (pc + 1) L' S M) : Aj E l z pc L (vj x :: S) M := by
  obtain ⟨A, p, e, R, s, m, args, below, meth, c, cells, slots, Q⟩ := z
  intro H locs ls hP hS hL
  subst hl
  exact lv_lstore_n C.1 C.2.1 d hk hL (by rw [C.2.2.1]; exact hn) (xl_st2 (ad := E.1) (v := vj x) (L := L)) (fun ls' hL' => K H locs ls' hP hS hL')
theorem v_iinc {i n : Nat} {k x : Int} {L' : LV} (C : Cx E z D own cc nL) (d : decode cc pc = .ok (.iinc n k, 3)) (hi : L[i]? = some (n, vi x)) (hn : n < nL) (hl : stL n (vi (x + k)) L = L') (K : Aj E l z (pc + 3) L' S M) : Aj E l z pc L S M := by
  obtain ⟨A, p, e, R, s, m, args, below, meth, c, cells, slots, Q⟩ := z
  intro H locs ls hP hS hL
  subst hl
  exact lv_iinc (k := i) (x := Int32.ofInt x) (v := Int32.ofInt (x + k)) C.1 C.2.1 d hL (xl_at hi) (Int32.ofInt_add x k).symm (by rw [C.2.2.1]; exact hn) (xl_st (ad := E.1) (v := vi (x + k)) (L := L)) (fun ls' hL' => K H locs ls' hP hS hL')
/-! constants -/
theorem v_iconst {n : Int} (C : Cx E z D own cc nL) (d : decode cc pc = .ok (.iconst n, 1)) (K : Aj E l z (pc + 1) L (vi n :: S) M) : Aj E l z pc L S M := by
  obtain ⟨A, p, e, R, s, m, args, below, meth, c, cells, slots, Q⟩ := z
  intro H locs ls hP hS hL
  exact lv_iconst C.1 C.2.1 d rfl (K H locs ls hP hS hL)
theorem v_bipush {n : Int} (C : Cx E z D own cc nL) (d : decode cc pc = .ok (.bipush n, 2)) (hn : (Int8.ofInt n).toInt32 = Int32.ofInt n) (K : Aj E l z (pc + 2) L (vi n :: S) M) : Aj E l z pc L S M := by
  obtain ⟨A, p, e, R, s, m, args, below, meth, c, cells, slots, Q⟩ := z
  intro H locs ls hP hS hL
  exact lv_bipush C.1 C.2.1 d hn (K H locs ls hP hS hL)
theorem v_sipush {n : Int} (C : Cx E z D own cc nL) (d : decode cc pc = .ok (.sipush n, 3)) (hn : (Int16.ofInt n).toInt32 = Int32.ofInt n) (K : Aj E l z (pc + 3) L (vi n :: S) M) : Aj E l z pc L S M := by
  obtain ⟨A, p, e, R, s, m, args, below, meth, c, cells, slots, Q⟩ := z
  intro H locs ls hP hS hL
  exact lv_sipush C.1 C.2.1 d hn (K H locs ls hP hS hL)
theorem v_lconst {n : Fin 2} {x : Int} (C : Cx E z D own cc nL) (d : decode cc pc = .ok (.lconst n, 1)) (hn : Int64.ofNat (n : Nat) = Int64.ofInt x) (K : Aj E l z (pc + 1) L (vj x :: S) M) : Aj E l z pc L S M := by
  obtain ⟨A, p, e, R, s, m, args, below, meth, c, cells, slots, Q⟩ := z
  intro H locs ls hP hS hL
  exact lv_lconst C.1 C.2.1 d hn (K H locs ls hP hS hL)
theorem v_ldc {i : Nat} {v : Int32} {x : Int} (C : Cx E z D own cc nL) (w : Cond.constant own i v ∈ GW) (hv : v = Int32.ofInt x) (d : decode cc pc = .ok (.ldc i, 2)) (K : Aj E l z (pc + 2) L (vi x :: S) M) : Aj E l z pc L S M := by
  obtain ⟨A, p, e, R, s, m, args, below, meth, c, cells, slots, Q⟩ := z
  intro H locs ls hP hS hL
  subst hv
  exact lv_ldc C.1 C.2.1 C.2.2.2.1 (C.2.2.2.2.1 _ w) d (K H locs ls hP hS hL)
theorem v_ldcw {i : Nat} {v : Int32} {x : Int} (C : Cx E z D own cc nL) (w : Cond.constant own i v ∈ GW) (hv : v = Int32.ofInt x) (d : decode cc pc = .ok (.ldc_w i, 3)) (K : Aj E l z (pc + 3) L (vi x :: S) M) : Aj E l z pc L S M := by
  obtain ⟨A, p, e, R, s, m, args, below, meth, c, cells, slots, Q⟩ := z
  intro H locs ls hP hS hL
  subst hv
  exact lv_ldcw C.1 C.2.1 C.2.2.2.1 (C.2.2.2.2.1 _ w) d (K H locs ls hP hS hL)
theorem v_ldc2 {i : Nat} {v : Int64} {x : Int} (C : Cx E z D own cc nL) (w : Cond.constantLong own i v ∈ GW) (hv : v = Int64.ofInt x) (d : decode cc pc = .ok (.ldc2_w i, 3)) (K : Aj E l z (pc + 3) L (vj x :: S) M) : Aj E l z pc L S M := by
  obtain ⟨A, p, e, R, s, m, args, below, meth, c, cells, slots, Q⟩ := z
  intro H locs ls hP hS hL
  subst hv
  exact lv_ldc2 C.1 C.2.1 C.2.2.2.1 (C.2.2.2.2.1 _ w) d (K H locs ls hP hS hL)
end ROWS
end
section
abbrev R32 (a : Int) : Prop := -2147483648 ≤ a ∧ a ≤ 2147483647
abbrev R64 (a : Int) : Prop := -9223372036854775808 ≤ a ∧ a ≤ 9223372036854775807
theorem i32_lt {a b : Int} (ha : R32 a) (hb : R32 b) : Int32.ofInt a < Int32.ofInt b ↔ a < b := Int32.ofInt_lt_iff_lt ha.1 ha.2 hb.1 hb.2
theorem i32_le {a b : Int} (ha : R32 a) (hb : R32 b) : Int32.ofInt a ≤ Int32.ofInt b ↔ a ≤ b := Int32.ofInt_le_iff_le ha.1 ha.2 hb.1 hb.2
theorem i32_eq {a b : Int} (ha : R32 a) (hb : R32 b) : Int32.ofInt a = Int32.ofInt b ↔ a = b := by
  rw [← Int32.toInt_inj, Int32.toInt_ofInt_of_le ha.1 (by have := ha.2; omega), Int32.toInt_ofInt_of_le hb.1 (by have := hb.2; omega)]
theorem i64_lt {a b : Int} (ha : R64 a) (hb : R64 b) : Int64.ofInt a < Int64.ofInt b ↔ a < b := Int64.ofInt_lt_iff_lt ha.1 ha.2 hb.1 hb.2
theorem i64_eq {a b : Int} (ha : R64 a) (hb : R64 b) : Int64.ofInt a = Int64.ofInt b ↔ a = b := by
  rw [← Int64.toInt_inj, Int64.toInt_ofInt_of_le ha.1 (by have := ha.2; omega), Int64.toInt_ofInt_of_le hb.1 (by have := hb.2; omega)]
theorem i32_0 : (0 : Int32) = Int32.ofInt 0 := rfl
theorem r32_0 : R32 0 := by decide
/-! bits, by the machine's own words -/
def iand (a b : Int) : Int := (Int32.ofInt a &&& Int32.ofInt b).toInt
def ior (a b : Int) : Int := (Int32.ofInt a ||| Int32.ofInt b).toInt
def ishl (a b : Int) : Int := (Int32.ofInt a <<< (Int32.ofInt b &&& 31)).toInt
def ishr (a b : Int) : Int := (Int32.ofInt a >>> (Int32.ofInt b &&& 31)).toInt
def jand (a b : Int) : Int := (Int64.ofInt a &&& Int64.ofInt b).toInt
def jor (a b : Int) : Int := (Int64.ofInt a ||| Int64.ofInt b).toInt
def jshl (a b : Int) : Int := (Int64.ofInt a <<< ((Int32.ofInt b).toInt64 &&& 63)).toInt
def jshr (a b : Int) : Int := (Int64.ofInt a >>> ((Int32.ofInt b).toInt64 &&& 63)).toInt
def jushr (a b : Int) : Int := (((Int64.ofInt a).toUInt64 >>> ((Int32.ofInt b).toInt64.toUInt64 &&& Int64.toUInt64 63)).toInt64).toInt
/-- a long's low half; an int's low half -/
def w32 (a : Int) : Int := (Int32.ofInt a).toInt
def w16 (a : Int) : Int := (Int32.ofInt a).toInt16.toInt32.toInt
def lcI (a b : Int) : Int := if b < a then 1 else if a = b then 0 else -1
theorem w32_eq {a : Int} (h : R32 a) : w32 a = a := by
  unfold w32
  rw [Int32.toInt_ofInt_of_le h.1 (by have := h.2; omega)]
theorem w32_R (a : Int) : R32 (w32 a) := by
  have h1 := Int32.le_toInt (Int32.ofInt a)
  have h2 := Int32.toInt_lt (Int32.ofInt a)
  unfold w32 R32
  omega
section OPS
variable {E : FX} {l : Launch} {z : RT} {D : Nat} {own : String} {cc : ByteArray} {nL pc : Nat} {L : LV} {S : List AV} {M : MM} {a b : Int}
theorem v_iadd (C : Cx E z D own cc nL) (d : decode cc pc = .ok (.iadd, 1)) (K : Aj E l z (pc + 1) L (vi (a + b) :: S) M) : Aj E l z pc L (vi b :: vi a :: S) M := by
  obtain ⟨A, p, e, R, s, m, args, below, meth, c, cells, slots, Q⟩ := z
  intro H locs ls hP hS hL
  refine lv_iadd C.1 C.2.1 d ?_
  have K1 := K H locs ls hP hS hL
  simp only [List.map_cons, xv] at K1 ⊢
  rw [← Int32.ofInt_add]
  exact K1
theorem v_isub (C : Cx E z D own cc nL) (d : decode cc pc = .ok (.isub, 1)) (K : Aj E l z (pc + 1) L (vi (a - b) :: S) M) : Aj E l z pc L (vi b :: vi a :: S) M := by
  obtain ⟨A, p, e, R, s, m, args, below, meth, c, cells, slots, Q⟩ := z
  intro H locs ls hP hS hL
  refine lv_isub C.1 C.2.1 d ?_
  have K1 := K H locs ls hP hS hL
  simp only [List.map_cons, xv] at K1 ⊢
  rw [← Int32.ofInt_sub]
  exact K1
theorem v_imul (C : Cx E z D own cc nL) (d : decode cc pc = .ok (.imul, 1)) (K : Aj E l z (pc + 1) L (vi (a * b) :: S) M) : Aj E l z pc L (vi b :: vi a :: S) M := by
  obtain ⟨A, p, e, R, s, m, args, below, meth, c, cells, slots, Q⟩ := z
  intro H locs ls hP hS hL
  refine lv_imul C.1 C.2.1 d ?_
  have K1 := K H locs ls hP hS hL
  simp only [List.map_cons, xv] at K1 ⊢
  rw [← Int32.ofInt_mul]
  exact K1
theorem v_ladd (C : Cx E z D own cc nL) (d : decode cc pc = .ok (.ladd, 1)) (K : Aj E l z (pc + 1) L (vj (a + b) :: S) M) : Aj E l z pc L (vj b :: vj a :: S) M := by
  obtain ⟨A, p, e, R, s, m, args, below, meth, c, cells, slots, Q⟩ := z
  intro H locs ls hP hS hL
  refine lv_ladd C.1 C.2.1 d ?_
  have K1 := K H locs ls hP hS hL
  simp only [List.map_cons, xv] at K1 ⊢
  rw [← Int64.ofInt_add]
  exact K1
theorem v_lsub (C : Cx E z D own cc nL) (d : decode cc pc = .ok (.lsub, 1)) (K : Aj E l z (pc + 1) L (vj (a - b) :: S) M) : Aj E l z pc L (vj b :: vj a :: S) M := by
  obtain ⟨A, p, e, R, s, m, args, below, meth, c, cells, slots, Q⟩ := z
  intro H locs ls hP hS hL
  refine lv_lsub C.1 C.2.1 d ?_
  have K1 := K H locs ls hP hS hL
  simp only [List.map_cons, xv] at K1 ⊢
  rw [← Int64.ofInt_sub]
  exact K1
theorem v_lmul (C : Cx E z D own cc nL) (d : decode cc pc = .ok (.lmul, 1)) (K : Aj E l z (pc + 1) L (vj (a * b) :: S) M) : Aj E l z pc L (vj b :: vj a :: S) M := by
  obtain ⟨A, p, e, R, s, m, args, below, meth, c, cells, slots, Q⟩ := z
  intro H locs ls hP hS hL
  refine lv_lmul C.1 C.2.1 d ?_
  have K1 := K H locs ls hP hS hL
  simp only [List.map_cons, xv] at K1 ⊢
  rw [← Int64.ofInt_mul]
  exact K1
theorem v_iand (C : Cx E z D own cc nL) (d : decode cc pc = .ok (.iand, 1)) (K : Aj E l z (pc + 1) L (vi (iand a b) :: S) M) : Aj E l z pc L (vi b :: vi a :: S) M := by
  obtain ⟨A, p, e, R, s, m, args, below, meth, c, cells, slots, Q⟩ := z
  intro H locs ls hP hS hL
  refine lv_iand C.1 C.2.1 d ?_
  have K1 := K H locs ls hP hS hL
  simp only [List.map_cons, xv] at K1 ⊢
  rw [iand, Int32.ofInt_toInt] at K1
  exact K1
theorem v_ior (C : Cx E z D own cc nL) (d : decode cc pc = .ok (.ior, 1)) (K : Aj E l z (pc + 1) L (vi (ior a b) :: S) M) : Aj E l z pc L (vi b :: vi a :: S) M := by
  obtain ⟨A, p, e, R, s, m, args, below, meth, c, cells, slots, Q⟩ := z
  intro H locs ls hP hS hL
  refine lv_ior C.1 C.2.1 d ?_
  have K1 := K H locs ls hP hS hL
  simp only [List.map_cons, xv] at K1 ⊢
  rw [ior, Int32.ofInt_toInt] at K1
  exact K1
theorem v_ishl (C : Cx E z D own cc nL) (d : decode cc pc = .ok (.ishl, 1)) (K : Aj E l z (pc + 1) L (vi (ishl a b) :: S) M) : Aj E l z pc L (vi b :: vi a :: S) M := by
  obtain ⟨A, p, e, R, s, m, args, below, meth, c, cells, slots, Q⟩ := z
  intro H locs ls hP hS hL
  refine lv_ishl C.1 C.2.1 d ?_
  have K1 := K H locs ls hP hS hL
  simp only [List.map_cons, xv] at K1 ⊢
  rw [ishl, Int32.ofInt_toInt] at K1
  exact K1
theorem v_ishr (C : Cx E z D own cc nL) (d : decode cc pc = .ok (.ishr, 1)) (K : Aj E l z (pc + 1) L (vi (ishr a b) :: S) M) : Aj E l z pc L (vi b :: vi a :: S) M := by
  obtain ⟨A, p, e, R, s, m, args, below, meth, c, cells, slots, Q⟩ := z
  intro H locs ls hP hS hL
  refine lv_ishr C.1 C.2.1 d ?_
  have K1 := K H locs ls hP hS hL
  simp only [List.map_cons, xv] at K1 ⊢
  rw [ishr, Int32.ofInt_toInt] at K1
  exact K1
theorem v_land (C : Cx E z D own cc nL) (d : decode cc pc = .ok (.land, 1)) (K : Aj E l z (pc + 1) L (vj (jand a b) :: S) M) : Aj E l z pc L (vj b :: vj a :: S) M := by
  obtain ⟨A, p, e, R, s, m, args, below, meth, c, cells, slots, Q⟩ := z
  intro H locs ls hP hS hL
  refine lv_land C.1 C.2.1 d ?_
  have K1 := K H locs ls hP hS hL
  simp only [List.map_cons, xv] at K1 ⊢
  rw [jand, Int64.ofInt_toInt] at K1
  exact K1
theorem v_lor (C : Cx E z D own cc nL) (d : decode cc pc = .ok (.lor, 1)) (K : Aj E l z (pc + 1) L (vj (jor a b) :: S) M) : Aj E l z pc L (vj b :: vj a :: S) M := by
  obtain ⟨A, p, e, R, s, m, args, below, meth, c, cells, slots, Q⟩ := z
  intro H locs ls hP hS hL
  refine lv_lor C.1 C.2.1 d ?_
  have K1 := K H locs ls hP hS hL
  simp only [List.map_cons, xv] at K1 ⊢
  rw [jor, Int64.ofInt_toInt] at K1
  exact K1
theorem v_lshl (C : Cx E z D own cc nL) (d : decode cc pc = .ok (.lshl, 1)) (K : Aj E l z (pc + 1) L (vj (jshl a b) :: S) M) : Aj E l z pc L (vi b :: vj a :: S) M := by
  obtain ⟨A, p, e, R, s, m, args, below, meth, c, cells, slots, Q⟩ := z
  intro H locs ls hP hS hL
  refine lv_lshl C.1 C.2.1 d rfl ?_
  have K1 := K H locs ls hP hS hL
  simp only [List.map_cons, xv] at K1 ⊢
  rw [jshl, Int64.ofInt_toInt] at K1
  exact K1
theorem v_lshr (C : Cx E z D own cc nL) (d : decode cc pc = .ok (.lshr, 1)) (K : Aj E l z (pc + 1) L (vj (jshr a b) :: S) M) : Aj E l z pc L (vi b :: vj a :: S) M := by
  obtain ⟨A, p, e, R, s, m, args, below, meth, c, cells, slots, Q⟩ := z
  intro H locs ls hP hS hL
  refine lv_lshr C.1 C.2.1 d rfl ?_
  have K1 := K H locs ls hP hS hL
  simp only [List.map_cons, xv] at K1 ⊢
  rw [jshr, Int64.ofInt_toInt] at K1
  exact K1
theorem v_lushr (C : Cx E z D own cc nL) (d : decode cc pc = .ok (.lushr, 1)) (K : Aj E l z (pc + 1) L (vj (jushr a b) :: S) M) : Aj E l z pc L (vi b :: vj a :: S) M := by
  obtain ⟨A, p, e, R, s, m, args, below, meth, c, cells, slots, Q⟩ := z
  intro H locs ls hP hS hL
  refine lv_lushr C.1 C.2.1 d rfl ?_
  have K1 := K H locs ls hP hS hL
  simp only [List.map_cons, xv] at K1 ⊢
  rw [jushr, Int64.ofInt_toInt] at K1
  exact K1
theorem i32_ne0 {b : Int} (hb : R32 b) (h : b ≠ 0) : ¬ Int32.ofInt b = 0 := fun e => h ((i32_eq hb r32_0).mp e)
theorem i64_ne0 {b : Int} (hb : R64 b) (h : b ≠ 0) : ¬ Int64.ofInt b = 0 := fun e => h ((i64_eq hb (by decide)).mp e)
theorem v_idiv (C : Cx E z D own cc nL) (ha : R32 a) (hb : R32 b) (hb0 : 0 < b) (d : decode cc pc = .ok (.idiv, 1)) (K : Aj E l z (pc + 1) L (vi (a.tdiv b) :: S) M) : Aj E l z pc L (vi b :: vi a :: S) M := by
  obtain ⟨A, p, e, R, s, m, args, below, meth, c, cells, slots, Q⟩ := z
  intro H locs ls hP hS hL
  refine lv_idiv C.1 C.2.1 d (i32_ne0 hb (by omega)) ?_
  have K1 := K H locs ls hP hS hL
  simp only [List.map_cons, xv] at K1 ⊢
  rw [Int32.ofInt_tdiv ha.1 ha.2 hb.1 hb.2] at K1
  exact K1
theorem v_irem (C : Cx E z D own cc nL) (ha : R32 a) (hb : R32 b) (hb0 : 0 < b) (d : decode cc pc = .ok (.irem, 1)) (K : Aj E l z (pc + 1) L (vi (a.tmod b) :: S) M) : Aj E l z pc L (vi b :: vi a :: S) M := by
  obtain ⟨A, p, e, R, s, m, args, below, meth, c, cells, slots, Q⟩ := z
  intro H locs ls hP hS hL
  refine lv_irem C.1 C.2.1 d (i32_ne0 hb (by omega)) ?_
  have K1 := K H locs ls hP hS hL
  simp only [List.map_cons, xv] at K1 ⊢
  have e1 : a.tmod b = a - a.tdiv b * b := by rw [Int.tmod_def, Int.mul_comm]
  rw [e1, Int32.ofInt_sub, Int32.ofInt_mul, Int32.ofInt_tdiv ha.1 ha.2 hb.1 hb.2] at K1
  exact K1
theorem v_ineg (C : Cx E z D own cc nL) (d : decode cc pc = .ok (.ineg, 1)) (K : Aj E l z (pc + 1) L (vi (-a) :: S) M) : Aj E l z pc L (vi a :: S) M := by
  obtain ⟨A, p, e, R, s, m, args, below, meth, c, cells, slots, Q⟩ := z
  intro H locs ls hP hS hL
  refine lv_ineg C.1 C.2.1 d ?_
  have K1 := K H locs ls hP hS hL
  simp only [List.map_cons, xv] at K1 ⊢
  rw [← Int32.ofInt_neg]
  exact K1
theorem v_ldiv (C : Cx E z D own cc nL) (ha : R64 a) (hb : R64 b) (hb0 : 0 < b) (d : decode cc pc = .ok (.ldiv, 1)) (K : Aj E l z (pc + 1) L (vj (a.tdiv b) :: S) M) : Aj E l z pc L (vj b :: vj a :: S) M := by
  obtain ⟨A, p, e, R, s, m, args, below, meth, c, cells, slots, Q⟩ := z
  intro H locs ls hP hS hL
  refine lv_ldiv C.1 C.2.1 d (i64_ne0 hb (by omega)) ?_
  have K1 := K H locs ls hP hS hL
  simp only [List.map_cons, xv] at K1 ⊢
  rw [Int64.ofInt_tdiv ha.1 ha.2 hb.1 hb.2] at K1
  exact K1
theorem v_lrem (C : Cx E z D own cc nL) (ha : R64 a) (hb : R64 b) (hb0 : 0 < b) (d : decode cc pc = .ok (.lrem, 1)) (K : Aj E l z (pc + 1) L (vj (a.tmod b) :: S) M) : Aj E l z pc L (vj b :: vj a :: S) M := by
  obtain ⟨A, p, e, R, s, m, args, below, meth, c, cells, slots, Q⟩ := z
  intro H locs ls hP hS hL
  refine lv_lrem C.1 C.2.1 d (i64_ne0 hb (by omega)) ?_
  have K1 := K H locs ls hP hS hL
  simp only [List.map_cons, xv] at K1 ⊢
  have e1 : a.tmod b = a - a.tdiv b * b := by rw [Int.tmod_def, Int.mul_comm]
  rw [e1, Int64.ofInt_sub, Int64.ofInt_mul, Int64.ofInt_tdiv ha.1 ha.2 hb.1 hb.2] at K1
  exact K1
theorem v_lneg (C : Cx E z D own cc nL) (d : decode cc pc = .ok (.lneg, 1)) (K : Aj E l z (pc + 1) L (vj (-a) :: S) M) : Aj E l z pc L (vj a :: S) M := by
  obtain ⟨A, p, e, R, s, m, args, below, meth, c, cells, slots, Q⟩ := z
  intro H locs ls hP hS hL
  refine lv_lneg C.1 C.2.1 d ?_
  have K1 := K H locs ls hP hS hL
  simp only [List.map_cons, xv] at K1 ⊢
  rw [← Int64.ofInt_neg]
  exact K1
theorem v_i2l (C : Cx E z D own cc nL) (ha : R32 a) (d : decode cc pc = .ok (.i2l, 1)) (K : Aj E l z (pc + 1) L (vj a :: S) M) : Aj E l z pc L (vi a :: S) M := by
  obtain ⟨A, p, e, R, s, m, args, below, meth, c, cells, slots, Q⟩ := z
  intro H locs ls hP hS hL
  exact lv_i2l C.1 C.2.1 d (Int32.toInt64_ofInt ha.1 ha.2) (K H locs ls hP hS hL)
theorem v_l2i (C : Cx E z D own cc nL) (d : decode cc pc = .ok (.l2i, 1)) (K : Aj E l z (pc + 1) L (vi (w32 a) :: S) M) : Aj E l z pc L (vj a :: S) M := by
  obtain ⟨A, p, e, R, s, m, args, below, meth, c, cells, slots, Q⟩ := z
  intro H locs ls hP hS hL
  exact lv_l2i C.1 C.2.1 d (by rw [Int64.toInt32_ofInt, w32, Int32.ofInt_toInt]) (K H locs ls hP hS hL)
theorem v_i2s (C : Cx E z D own cc nL) (d : decode cc pc = .ok (.i2s, 1)) (K : Aj E l z (pc + 1) L (vi (w16 a) :: S) M) : Aj E l z pc L (vi a :: S) M := by
  obtain ⟨A, p, e, R, s, m, args, below, meth, c, cells, slots, Q⟩ := z
  intro H locs ls hP hS hL
  exact lv_i2s C.1 C.2.1 d (by rw [w16, Int32.ofInt_toInt]) (K H locs ls hP hS hL)
theorem lc_lcI {a b : Int} (ha : R64 a) (hb : R64 b) : lg_cmp (Int64.ofInt a) (Int64.ofInt b) = Int32.ofInt (lcI a b) := by
  unfold lg_cmp lcI
  simp only [gt_iff_lt, i64_lt hb ha, i64_eq ha hb]
  split
  · rfl
  · split <;> rfl
theorem v_lcmp (C : Cx E z D own cc nL) (ha : R64 a) (hb : R64 b) (d : decode cc pc = .ok (.lcmp, 1)) (K : Aj E l z (pc + 1) L (vi (lcI a b) :: S) M) : Aj E l z pc L (vj b :: vj a :: S) M := by
  obtain ⟨A, p, e, R, s, m, args, below, meth, c, cells, slots, Q⟩ := z
  intro H locs ls hP hS hL
  refine W.lcmp C.1 C.2.1 d ?_
  have K1 := K H locs ls hP hS hL
  simp only [List.map_cons, xv] at K1 ⊢
  rw [lc_lcI ha hb]
  exact K1
theorem lcI_R (a b : Int) : R32 (lcI a b) := by 
  unfold lcI R32
  split
  · decide
  · split <;> decide
theorem v_dup {v : AV} (C : Cx E z D own cc nL) (hv : xcat v = 1) (d : decode cc pc = .ok (.dup, 1)) (K : Aj E l z (pc + 1) L (v :: v :: S) M) : Aj E l z pc L (v :: S) M := by
  obtain ⟨A, p, e, R, s, m, args, below, meth, c, cells, slots, Q⟩ := z
  intro H locs ls hP hS hL
  exact lv_dup C.1 C.2.1 d (by rw [xv_cat]; exact hv) (K H locs ls hP hS hL)
theorem v_pop {v : AV} (C : Cx E z D own cc nL) (hv : xcat v = 1) (d : decode cc pc = .ok (.pop, 1)) (K : Aj E l z (pc + 1) L S M) : Aj E l z pc L (v :: S) M := by
  obtain ⟨A, p, e, R, s, m, args, below, meth, c, cells, slots, Q⟩ := z
  intro H locs ls hP hS hL
  exact lv_pop C.1 C.2.1 d (by rw [xv_cat]; exact hv) (K H locs ls hP hS hL)
theorem v_dup_x1 {v w : AV} (C : Cx E z D own cc nL) (hv : xcat v = 1) (hw : xcat w = 1) (d : decode cc pc = .ok (.dup_x1, 1)) (K : Aj E l z (pc + 1) L (v :: w :: v :: S) M) : Aj E l z pc L (v :: w :: S) M := by
  obtain ⟨A, p, e, R, s, m, args, below, meth, c, cells, slots, Q⟩ := z
  intro H locs ls hP hS hL
  exact lv_dup_x1 C.1 C.2.1 d (by rw [xv_cat]; exact hv) (by rw [xv_cat]; exact hw) (K H locs ls hP hS hL)
theorem v_dup2 {v w : AV} (C : Cx E z D own cc nL) (hv : xcat v = 1) (hw : xcat w = 1) (d : decode cc pc = .ok (.dup2, 1)) (K : Aj E l z (pc + 1) L (v :: w :: v :: w :: S) M) : Aj E l z pc L (v :: w :: S) M := by
  obtain ⟨A, p, e, R, s, m, args, below, meth, c, cells, slots, Q⟩ := z
  intro H locs ls hP hS hL
  exact lv_dup2_11 C.1 C.2.1 d (by rw [xv_cat]; exact hv) (by rw [xv_cat]; exact hw) (K H locs ls hP hS hL)
theorem v_aconst (C : Cx E z D own cc nL) (d : decode cc pc = .ok (.aconst_null, 1)) (K : Aj E l z (pc + 1) L (vn :: S) M) : Aj E l z pc L S M := by
  obtain ⟨A, p, e, R, s, m, args, below, meth, c, cells, slots, Q⟩ := z
  intro H locs ls hP hS hL
  exact lv_null C.1 C.2.1 d (K H locs ls hP hS hL)
theorem v_icmp_lt {off : Int} {tgt : Nat} (C : Cx E z D own cc nL) (ha : R32 a) (hb : R32 b) (d : decode cc pc = .ok (.if_icmp .lt off, 3)) (ht : (pc : Int) + off = (tgt : Int)) (kt : a < b → Aj E l z tgt L S M) (kf : ¬ (a < b) → Aj E l z (pc + 3) L S M) : Aj E l z pc L (vi b :: vi a :: S) M := by
  obtain ⟨A, p, e, R, s, m, args, below, meth, c, cells, slots, Q⟩ := z
  intro H locs ls hP hS hL
  exact lv_icmp_lt C.1 C.2.1 d ht (fun q => kt ((i32_lt ha hb).mp q) H locs ls hP hS hL) (fun q => kf (fun h => q ((i32_lt ha hb).mpr h)) H locs ls hP hS hL)
theorem v_icmp_ge {off : Int} {tgt : Nat} (C : Cx E z D own cc nL) (ha : R32 a) (hb : R32 b) (d : decode cc pc = .ok (.if_icmp .ge off, 3)) (ht : (pc : Int) + off = (tgt : Int)) (kt : b ≤ a → Aj E l z tgt L S M) (kf : ¬ (b ≤ a) → Aj E l z (pc + 3) L S M) : Aj E l z pc L (vi b :: vi a :: S) M := by
  obtain ⟨A, p, e, R, s, m, args, below, meth, c, cells, slots, Q⟩ := z
  intro H locs ls hP hS hL
  exact lv_icmp_ge C.1 C.2.1 d ht (fun q => kt ((i32_le hb ha).mp q) H locs ls hP hS hL) (fun q => kf (fun h => q ((i32_le hb ha).mpr h)) H locs ls hP hS hL)
theorem v_icmp_gt {off : Int} {tgt : Nat} (C : Cx E z D own cc nL) (ha : R32 a) (hb : R32 b) (d : decode cc pc = .ok (.if_icmp .gt off, 3)) (ht : (pc : Int) + off = (tgt : Int)) (kt : b < a → Aj E l z tgt L S M) (kf : ¬ (b < a) → Aj E l z (pc + 3) L S M) : Aj E l z pc L (vi b :: vi a :: S) M := by
  obtain ⟨A, p, e, R, s, m, args, below, meth, c, cells, slots, Q⟩ := z
  intro H locs ls hP hS hL
  exact lv_icmp_gt C.1 C.2.1 d ht (fun q => kt ((i32_lt hb ha).mp q) H locs ls hP hS hL) (fun q => kf (fun h => q ((i32_lt hb ha).mpr h)) H locs ls hP hS hL)
theorem v_icmp_le {off : Int} {tgt : Nat} (C : Cx E z D own cc nL) (ha : R32 a) (hb : R32 b) (d : decode cc pc = .ok (.if_icmp .le off, 3)) (ht : (pc : Int) + off = (tgt : Int)) (kt : a ≤ b → Aj E l z tgt L S M) (kf : ¬ (a ≤ b) → Aj E l z (pc + 3) L S M) : Aj E l z pc L (vi b :: vi a :: S) M := by
  obtain ⟨A, p, e, R, s, m, args, below, meth, c, cells, slots, Q⟩ := z
  intro H locs ls hP hS hL
  exact lv_icmp_le C.1 C.2.1 d ht (fun q => kt ((i32_le ha hb).mp q) H locs ls hP hS hL) (fun q => kf (fun h => q ((i32_le ha hb).mpr h)) H locs ls hP hS hL)
theorem v_icmp_eq {off : Int} {tgt : Nat} (C : Cx E z D own cc nL) (ha : R32 a) (hb : R32 b) (d : decode cc pc = .ok (.if_icmp .eq off, 3)) (ht : (pc : Int) + off = (tgt : Int)) (kt : a = b → Aj E l z tgt L S M) (kf : ¬ (a = b) → Aj E l z (pc + 3) L S M) : Aj E l z pc L (vi b :: vi a :: S) M := by
  obtain ⟨A, p, e, R, s, m, args, below, meth, c, cells, slots, Q⟩ := z
  intro H locs ls hP hS hL
  exact lv_icmp_eq C.1 C.2.1 d ht (fun q => kt ((i32_eq ha hb).mp q) H locs ls hP hS hL) (fun q => kf (fun h => q ((i32_eq ha hb).mpr h)) H locs ls hP hS hL)
theorem v_if_lt {off : Int} {tgt : Nat} (C : Cx E z D own cc nL) (ha : R32 a) (d : decode cc pc = .ok (.ifCond .lt off, 3)) (ht : (pc : Int) + off = (tgt : Int)) (kt : a < 0 → Aj E l z tgt L S M) (kf : ¬ (a < 0) → Aj E l z (pc + 3) L S M) : Aj E l z pc L (vi a :: S) M := by
  obtain ⟨A, p, e, R, s, m, args, below, meth, c, cells, slots, Q⟩ := z
  intro H locs ls hP hS hL
  exact lv_if_lt C.1 C.2.1 d ht (fun q => kt ((i32_lt ha r32_0).mp q) H locs ls hP hS hL) (fun q => kf (fun h => q ((i32_lt ha r32_0).mpr h)) H locs ls hP hS hL)
theorem v_if_ge {off : Int} {tgt : Nat} (C : Cx E z D own cc nL) (ha : R32 a) (d : decode cc pc = .ok (.ifCond .ge off, 3)) (ht : (pc : Int) + off = (tgt : Int)) (kt : 0 ≤ a → Aj E l z tgt L S M) (kf : ¬ (0 ≤ a) → Aj E l z (pc + 3) L S M) : Aj E l z pc L (vi a :: S) M := by
  obtain ⟨A, p, e, R, s, m, args, below, meth, c, cells, slots, Q⟩ := z
  intro H locs ls hP hS hL
  exact lv_if_ge C.1 C.2.1 d ht (fun q => kt ((i32_le r32_0 ha).mp q) H locs ls hP hS hL) (fun q => kf (fun h => q ((i32_le r32_0 ha).mpr h)) H locs ls hP hS hL)
theorem v_if_gt {off : Int} {tgt : Nat} (C : Cx E z D own cc nL) (ha : R32 a) (d : decode cc pc = .ok (.ifCond .gt off, 3)) (ht : (pc : Int) + off = (tgt : Int)) (kt : 0 < a → Aj E l z tgt L S M) (kf : ¬ (0 < a) → Aj E l z (pc + 3) L S M) : Aj E l z pc L (vi a :: S) M := by
  obtain ⟨A, p, e, R, s, m, args, below, meth, c, cells, slots, Q⟩ := z
  intro H locs ls hP hS hL
  exact lv_if_gt C.1 C.2.1 d ht (fun q => kt ((i32_lt r32_0 ha).mp q) H locs ls hP hS hL) (fun q => kf (fun h => q ((i32_lt r32_0 ha).mpr h)) H locs ls hP hS hL)
theorem v_if_le {off : Int} {tgt : Nat} (C : Cx E z D own cc nL) (ha : R32 a) (d : decode cc pc = .ok (.ifCond .le off, 3)) (ht : (pc : Int) + off = (tgt : Int)) (kt : a ≤ 0 → Aj E l z tgt L S M) (kf : ¬ (a ≤ 0) → Aj E l z (pc + 3) L S M) : Aj E l z pc L (vi a :: S) M := by
  obtain ⟨A, p, e, R, s, m, args, below, meth, c, cells, slots, Q⟩ := z
  intro H locs ls hP hS hL
  exact lv_if_le C.1 C.2.1 d ht (fun q => kt ((i32_le ha r32_0).mp q) H locs ls hP hS hL) (fun q => kf (fun h => q ((i32_le ha r32_0).mpr h)) H locs ls hP hS hL)
theorem v_if_eq {off : Int} {tgt : Nat} (C : Cx E z D own cc nL) (ha : R32 a) (d : decode cc pc = .ok (.ifCond .eq off, 3)) (ht : (pc : Int) + off = (tgt : Int)) (kt : a = 0 → Aj E l z tgt L S M) (kf : ¬ (a = 0) → Aj E l z (pc + 3) L S M) : Aj E l z pc L (vi a :: S) M := by
  obtain ⟨A, p, e, R, s, m, args, below, meth, c, cells, slots, Q⟩ := z
  intro H locs ls hP hS hL
  exact lv_if_eq C.1 C.2.1 d ht (fun q => kt ((i32_eq ha r32_0).mp q) H locs ls hP hS hL) (fun q => kf (fun h => q ((i32_eq ha r32_0).mpr h)) H locs ls hP hS hL)
theorem v_icmp_ne {off : Int} {tgt : Nat} (C : Cx E z D own cc nL) (ha : R32 a) (hb : R32 b) (d : decode cc pc = .ok (.if_icmp .ne off, 3)) (ht : (pc : Int) + off = (tgt : Int)) (kt : ¬ a = b → Aj E l z tgt L S M) (kf : a = b → Aj E l z (pc + 3) L S M) : Aj E l z pc L (vi b :: vi a :: S) M := by
  obtain ⟨A, p, e, R, s, m, args, below, meth, c, cells, slots, Q⟩ := z
  intro H locs ls hP hS hL
  exact lv_icmp_ne C.1 C.2.1 d ht (fun q => kt (fun h => q ((i32_eq ha hb).mpr h)) H locs ls hP hS hL) (fun q => kf ((i32_eq ha hb).mp q) H locs ls hP hS hL)
theorem v_if_ne {off : Int} {tgt : Nat} (C : Cx E z D own cc nL) (ha : R32 a) (d : decode cc pc = .ok (.ifCond .ne off, 3)) (ht : (pc : Int) + off = (tgt : Int)) (kt : ¬ a = 0 → Aj E l z tgt L S M) (kf : a = 0 → Aj E l z (pc + 3) L S M) : Aj E l z pc L (vi a :: S) M := by
  obtain ⟨A, p, e, R, s, m, args, below, meth, c, cells, slots, Q⟩ := z
  intro H locs ls hP hS hL
  exact lv_if_ne C.1 C.2.1 d ht (fun q => kt (fun h => q ((i32_eq ha r32_0).mpr h)) H locs ls hP hS hL) (fun q => kf ((i32_eq ha r32_0).mp q) H locs ls hP hS hL)
theorem v_icmp_same {off : Int} (C : Cx E z D own cc nL) (h : a = b) (d : decode cc pc = .ok (.if_icmp .eq off, 3)) {tgt : Nat} (ht : (pc : Int) + off = (tgt : Int)) (kt : Aj E l z tgt L S M) : Aj E l z pc L (vi b :: vi a :: S) M := by
  obtain ⟨A, p, e, R, s, m, args, below, meth, c, cells, slots, Q⟩ := z
  intro H locs ls hP hS hL
  subst h
  exact lv_icmp_eq C.1 C.2.1 d ht (fun _ => kt H locs ls hP hS hL) (fun q => absurd rfl q)
theorem v_lcmp_same (C : Cx E z D own cc nL) (h : a = b) (d : decode cc pc = .ok (.lcmp, 1)) (K : Aj E l z (pc + 1) L (vi 0 :: S) M) : Aj E l z pc L (vj b :: vj a :: S) M := by
  obtain ⟨A, p, e, R, s, m, args, below, meth, c, cells, slots, Q⟩ := z
  intro H locs ls hP hS hL
  subst h
  refine W.lcmp C.1 C.2.1 d ?_
  have K1 := K H locs ls hP hS hL
  have e0 : lg_cmp (Int64.ofInt a) (Int64.ofInt a) = Int32.ofInt 0 := by
    have h1 : ¬ Int64.ofInt a < Int64.ofInt a := Int64.lt_irrefl
    simp [lg_cmp, h1]
  simp only [List.map_cons, xv] at K1 ⊢
  rw [e0]
  exact K1
theorem lcI_lt {a b : Int} : lcI a b < 0 ↔ a < b := by
  unfold lcI
  by_cases h1 : b < a
  · rw [if_pos h1]; omega
  · rw [if_neg h1]
    by_cases h2 : a = b
    · rw [if_pos h2]; omega
    · rw [if_neg h2]; omega
theorem v_lif_lt {off : Int} {tgt : Nat} (C : Cx E z D own cc nL) (ha : R64 a) (hb : R64 b) (d : decode cc pc = .ok (.lcmp, 1)) (d2 : decode cc (pc + 1) = .ok (.ifCond .lt off, 3)) (ht : ((pc + 1 : Nat) : Int) + off = (tgt : Int)) (kt : a < b → Aj E l z tgt L S M) (kf : ¬ (a < b) → Aj E l z (pc + 4) L S M) : Aj E l z pc L (vj b :: vj a :: S) M :=
  v_lcmp C ha hb d (v_if_lt C (lcI_R a b) d2 ht (fun q => kt (lcI_lt.mp q)) (fun q => kf (fun h => q (lcI_lt.mpr h))))
theorem lcI_ge {a b : Int} : 0 ≤ lcI a b ↔ b ≤ a := by
  unfold lcI
  by_cases h1 : b < a
  · rw [if_pos h1]; omega
  · rw [if_neg h1]
    by_cases h2 : a = b
    · rw [if_pos h2]; omega
    · rw [if_neg h2]; omega
theorem v_lif_ge {off : Int} {tgt : Nat} (C : Cx E z D own cc nL) (ha : R64 a) (hb : R64 b) (d : decode cc pc = .ok (.lcmp, 1)) (d2 : decode cc (pc + 1) = .ok (.ifCond .ge off, 3)) (ht : ((pc + 1 : Nat) : Int) + off = (tgt : Int)) (kt : b ≤ a → Aj E l z tgt L S M) (kf : ¬ (b ≤ a) → Aj E l z (pc + 4) L S M) : Aj E l z pc L (vj b :: vj a :: S) M :=
  v_lcmp C ha hb d (v_if_ge C (lcI_R a b) d2 ht (fun q => kt (lcI_ge.mp q)) (fun q => kf (fun h => q (lcI_ge.mpr h))))
theorem lcI_gt {a b : Int} : 0 < lcI a b ↔ b < a := by
  unfold lcI
  by_cases h1 : b < a
  · rw [if_pos h1]; omega
  · rw [if_neg h1]
    by_cases h2 : a = b
    · rw [if_pos h2]; omega
    · rw [if_neg h2]; omega
theorem v_lif_gt {off : Int} {tgt : Nat} (C : Cx E z D own cc nL) (ha : R64 a) (hb : R64 b) (d : decode cc pc = .ok (.lcmp, 1)) (d2 : decode cc (pc + 1) = .ok (.ifCond .gt off, 3)) (ht : ((pc + 1 : Nat) : Int) + off = (tgt : Int)) (kt : b < a → Aj E l z tgt L S M) (kf : ¬ (b < a) → Aj E l z (pc + 4) L S M) : Aj E l z pc L (vj b :: vj a :: S) M :=
  v_lcmp C ha hb d (v_if_gt C (lcI_R a b) d2 ht (fun q => kt (lcI_gt.mp q)) (fun q => kf (fun h => q (lcI_gt.mpr h))))
theorem lcI_le {a b : Int} : lcI a b ≤ 0 ↔ a ≤ b := by
  unfold lcI
  by_cases h1 : b < a
  · rw [if_pos h1]; omega
  · rw [if_neg h1]
    by_cases h2 : a = b
    · rw [if_pos h2]; omega
    · rw [if_neg h2]; omega
theorem v_lif_le {off : Int} {tgt : Nat} (C : Cx E z D own cc nL) (ha : R64 a) (hb : R64 b) (d : decode cc pc = .ok (.lcmp, 1)) (d2 : decode cc (pc + 1) = .ok (.ifCond .le off, 3)) (ht : ((pc + 1 : Nat) : Int) + off = (tgt : Int)) (kt : a ≤ b → Aj E l z tgt L S M) (kf : ¬ (a ≤ b) → Aj E l z (pc + 4) L S M) : Aj E l z pc L (vj b :: vj a :: S) M :=
  v_lcmp C ha hb d (v_if_le C (lcI_R a b) d2 ht (fun q => kt (lcI_le.mp q)) (fun q => kf (fun h => q (lcI_le.mpr h))))
theorem lcI_eq {a b : Int} : lcI a b = 0 ↔ a = b := by
  unfold lcI
  by_cases h1 : b < a
  · rw [if_pos h1]; omega
  · rw [if_neg h1]
    by_cases h2 : a = b
    · rw [if_pos h2]; omega
    · rw [if_neg h2]; omega
theorem v_lif_eq {off : Int} {tgt : Nat} (C : Cx E z D own cc nL) (ha : R64 a) (hb : R64 b) (d : decode cc pc = .ok (.lcmp, 1)) (d2 : decode cc (pc + 1) = .ok (.ifCond .eq off, 3)) (ht : ((pc + 1 : Nat) : Int) + off = (tgt : Int)) (kt : a = b → Aj E l z tgt L S M) (kf : ¬ (a = b) → Aj E l z (pc + 4) L S M) : Aj E l z pc L (vj b :: vj a :: S) M :=
  v_lcmp C ha hb d (v_if_eq C (lcI_R a b) d2 ht (fun q => kt (lcI_eq.mp q)) (fun q => kf (fun h => q (lcI_eq.mpr h))))
theorem lcI_ne {a b : Int} : ¬ lcI a b = 0 ↔ ¬ a = b := by
  unfold lcI
  by_cases h1 : b < a
  · rw [if_pos h1]; omega
  · rw [if_neg h1]
    by_cases h2 : a = b
    · rw [if_pos h2]; omega
    · rw [if_neg h2]; omega
theorem v_lif_ne {off : Int} {tgt : Nat} (C : Cx E z D own cc nL) (ha : R64 a) (hb : R64 b) (d : decode cc pc = .ok (.lcmp, 1)) (d2 : decode cc (pc + 1) = .ok (.ifCond .ne off, 3)) (ht : ((pc + 1 : Nat) : Int) + off = (tgt : Int)) (kt : ¬ a = b → Aj E l z tgt L S M) (kf : a = b → Aj E l z (pc + 4) L S M) : Aj E l z pc L (vj b :: vj a :: S) M :=
  v_lcmp C ha hb d (v_if_ne C (lcI_R a b) d2 ht (fun q => kt (lcI_ne.mp q)) (fun q => kf (lcI_eq.mp q)))
theorem v_goto {off : Int} {tgt : Nat} (C : Cx E z D own cc nL) (d : decode cc pc = .ok (.goto off, 3)) (ht : (pc : Int) + off = (tgt : Int)) (K : Aj E l z tgt L S M) : Aj E l z pc L S M := by
  obtain ⟨A, p, e, R, s, m, args, below, meth, c, cells, slots, Q⟩ := z
  intro H locs ls hP hS hL
  exact lv_goto C.1 C.2.1 d ht (K H locs ls hP hS hL)
theorem v_ifnull {o : Option Nat} {off : Int} {tgt : Nat} (C : Cx E z D own cc nL) (d : decode cc pc = .ok (.ifnull off, 3)) (ht : (pc : Int) + off = (tgt : Int)) (kt : o = none → Aj E l z tgt L S M) (kf : ∀ t, o = some t → Aj E l z (pc + 3) L S M) : Aj E l z pc L (vo o :: S) M := by
  obtain ⟨A, p, e, R, s, m, args, below, meth, c, cells, slots, Q⟩ := z
  intro H locs ls hP hS hL
  cases o with
  | none => exact lv_ifnullN C.1 C.2.1 d ht (kt rfl H locs ls hP hS hL)
  | some x => exact lv_ifnull C.1 C.2.1 d (kf x rfl H locs ls hP hS hL)
theorem v_ifnonnull {o : Option Nat} {off : Int} {tgt : Nat} (C : Cx E z D own cc nL) (d : decode cc pc = .ok (.ifnonnull off, 3)) (ht : (pc : Int) + off = (tgt : Int)) (kt : ∀ t, o = some t → Aj E l z tgt L S M) (kf : o = none → Aj E l z (pc + 3) L S M) : Aj E l z pc L (vo o :: S) M := by
  obtain ⟨A, p, e, R, s, m, args, below, meth, c, cells, slots, Q⟩ := z
  intro H locs ls hP hS hL
  cases o with
  | none => exact lv_ifnonnullN C.1 C.2.1 d (kf rfl H locs ls hP hS hL)
  | some x => exact lv_ifnonnull C.1 C.2.1 d ht (kt x rfl H locs ls hP hS hL)
end OPS
end
section
/-- a field that is linked: the pool's entry idx of the class own is the j-th field of the ci-th class -/
def FL (own : String) (idx ci j : Nat) : Prop := ∃ (C : String) (T : u_T) (N : Nat), vwCl[ci]? = some (C, T, N) ∧ j < N ∧ Cond.fieldLink own idx (T j).1 (T j).2.1 (T j).2.2.1 ∈ GW
/-- .. that may be written, of a type -/
def FP (own : String) (idx ci j : Nat) (ty : FieldType) : Prop := ∃ (C : String) (T : u_T) (N : Nat), vwCl[ci]? = some (C, T, N) ∧ j < N ∧ Cond.fieldLink own idx (T j).1 (T j).2.1 (T j).2.2.1 ∈ GW ∧ (T j).2.2.2 = false ∧ parseFieldDescriptor (T j).2.2.1 = some ty
def clsOk (q : vw_C) : Prop := (∀ w ∈ u_ws q.1 q.2.1 q.2.2, w ∈ GW) ∧ (∃ ty0 : Nat → FieldType, ∀ k, k < q.2.2 → parseFieldDescriptor (q.2.1 k).2.2.1 = some (ty0 k)) ∧ ∀ a, a < q.2.2 → ∀ b, b < q.2.2 → a ≠ b → (q.2.1 a).2.1 ≠ (q.2.1 b).2.1
theorem cls_ok : ∀ q ∈ vwCl, clsOk q :=
  List.forall_mem_cons.mpr ⟨⟨ly_RX0, ⟨_, tyX0_ok⟩, nmX0⟩, List.forall_mem_cons.mpr ⟨⟨ly_RX1, ⟨_, tyX1_ok⟩, nmX1⟩, List.forall_mem_cons.mpr ⟨⟨ly_RX3, ⟨_, tyX3_ok⟩, nmX3⟩, List.forall_mem_cons.mpr ⟨⟨ly_RX4, ⟨_, tyX4_ok⟩, nmX4⟩, List.forall_mem_cons.mpr ⟨⟨ly_RX5, ⟨_, tyX5_ok⟩, nmX5⟩, List.forall_mem_cons.mpr ⟨⟨ly_RX6, ⟨_, tyX6_ok⟩, nmX6⟩, List.forall_mem_cons.mpr ⟨⟨ly_RX8, ⟨_, tyX8_ok⟩, nmX8⟩, List.forall_mem_cons.mpr ⟨⟨ly_RX9, ⟨_, tyX9_ok⟩, nmX9⟩, List.forall_mem_cons.mpr ⟨⟨ly_RX10, ⟨_, tyX10_ok⟩, nmX10⟩, List.forall_mem_cons.mpr ⟨⟨ly_RX11, ⟨_, tyX11_ok⟩, nmX11⟩, List.forall_mem_cons.mpr ⟨⟨ly_RX12, ⟨_, tyX12_ok⟩, nmX12⟩, fun _ h => absurd h List.not_mem_nil⟩⟩⟩⟩⟩⟩⟩⟩⟩⟩⟩
theorem cel_ob {E : FX} {M : MM} {k ci : Nat} (h : kd k = (3, ci)) : cel E M k = .inr (ci, fls E.1 M k) := by
  unfold cel
  rw [h]
  rfl
theorem cel_i {E : FX} {M : MM} {k n : Nat} (h : kd k = (0, n)) : cel E M k = .inl (E.2.2.1, n, .inl (fun j => Int32.ofInt (M k j))) := by
  unfold cel
  rw [h]
  rfl
theorem cel_j {E : FX} {M : MM} {k n : Nat} (h : kd k = (1, n)) : cel E M k = .inl (E.2.2.2.1, n, .inr (.inl (fun j => Int64.ofInt (M k j)))) := by
  unfold cel
  rw [h]
  rfl
theorem cel_q {E : FX} {M : MM} {k n : Nat} (h : kd k = (2, n)) : cel E M k = .inl (E.2.2.2.2, n, .inr (.inr (.inr (.inr (fun j => some (E.1 (29 + j))))))) := by
  unfold cel
  rw [h]
  rfl
theorem kd_lt {k a b : Nat} (h : kd k = (a, b)) (ha : a < 4) : k < 56 := by
  apply Decidable.byContradiction
  intro hk
  unfold kd at h
  split at h <;> first | omega | (cases h; omega)
theorem nat_i32 {i : Int} {n : Nat} (h0 : 0 ≤ i) (h1 : i < n) (hn : n < 1000) : vp_in (Int32.ofInt i) n ∧ (Int32.ofInt i).toNatClampNeg = i.toNat := by
  have e := Int32.toNatClampNeg_ofInt_of_le (n := i) (by omega) (by omega)
  refine ⟨?_, e⟩
  unfold vp_in
  rw [e]
  intro q
  rcases q with q | q
  · have := (i32_lt (a := i) (b := 0) (by unfold R32; omega) (by decide)).mp q
    omega
  · omega
theorem kd_n {k a b : Nat} (h : kd k = (a, b)) (ha : a < 3) : b < 1000 := by
  unfold kd at h
  split at h <;> (cases h; omega)
section MEM
variable {E : FX} {l : Launch} {z : RT} {D : Nat} {own : String} {cc : ByteArray} {nL pc : Nat} {L : LV} {S : List AV} {M : MM}
theorem v_getf {idx ci j k t : Nat} (C : Cx E z D own cc nL) (f : FL own idx ci j) (hk : kd k = (3, ci)) (ht : (ft k)[j]? = some t) (d : decode cc pc = .ok (.getfield idx, 3)) (K : Aj E l z (pc + 3) L (fv M k j t :: S) M) : Aj E l z pc L (vr k :: S) M := by
  obtain ⟨A, p, e, R, s, m, args, below, meth, c, cells, slots, Q⟩ := z
  obtain ⟨Cn, T, N, hc, hj, hw⟩ := f
  intro H locs ls hP hS hL
  have hkl := kd_lt hk (by decide)
  exact va_get (D := E.2.1) C.1 C.2.1 C.2.2.2.2.1 (cls_ok _ (List.mem_of_getElem? hc)).1 C.2.2.2.1 C.2.2.2.2.2.1 hP k (by rw [wM_at E M hkl, cel_ob hk]) hc j hj (C.2.2.2.2.1 _ hw) (fun _ h => h) (fls_at E.1 M ht) d (K H locs ls hP hS hL)
theorem v_putf {idx ci j k t : Nat} {ty : FieldType} {x : Int} {v : AV} (C : Cx E z D own cc nL) (f : FP own idx ci j ty) (hk : kd k = (3, ci)) (ht : (ft k)[j]? = some t) (ht2 : t < 2) (hv : v = fv (up M k j x) k j t) (hn : narrow ty (xv E.1 v) = xv E.1 v) (hf : fits ty (xv E.1 v) = true) (d : decode cc pc = .ok (.putfield idx, 3)) (K : Aj E l z (pc + 3) L S (up M k j x)) : Aj E l z pc L (v :: vr k :: S) M := by
  obtain ⟨A, p, e, R, s, m, args, below, meth, c, cells, slots, Q⟩ := z
  obtain ⟨Cn, T, N, hc, hj, hw, hfin, hd⟩ := f
  intro H locs ls hP hS hL
  have hkl := kd_lt hk (by decide)
  obtain ⟨o1, ⟨ty0, o2⟩, o3⟩ := cls_ok _ (List.mem_of_getElem? hc)
  refine va_put (D := E.2.1) C.1 C.2.1 C.2.2.2.2.1 o1 ty0 o2 o3 C.2.2.2.1 C.2.2.2.2.2.1 hP (wM_D C.2.2.2.2.2.2.1 C.2.2.2.2.2.2.2.1 M) hS k (by rw [wM_at E M hkl, cel_ob hk]) hc j hj (C.2.2.2.2.1 _ hw) (fun _ h => h) hfin hd hn hf ?_ d (fun H1 locs1 hP1 _ hS1 => ?_)
  · have := (List.getElem?_eq_some_iff.mp (fls_at E.1 M ht)).1
    exact this
  · refine K H1 locs1 ls ?_ hS1 hL
    have e1 : (wM E M).set k (E.1 k, .inr (ci, (fls E.1 M k).set j (xv E.1 v))) = wM E (up M k j x) := by
      rw [← wM_up E M hkl, cel_ob hk, hv, fls_set E.1 M ht ht2]
    rw [← e1]
    exact hP1
theorem v_iald {k n : Nat} {i : Int} (C : Cx E z D own cc nL) (hk : kd k = (0, n)) (h0 : 0 ≤ i) (h1 : i < n) (d : decode cc pc = .ok (.iaload, 1)) (K : Aj E l z (pc + 1) L (vi (M k i.toNat) :: S) M) : Aj E l z pc L (vi i :: vr k :: S) M := by
  obtain ⟨A, p, e, R, s, m, args, below, meth, c, cells, slots, Q⟩ := z
  intro H locs ls hP hS hL
  have hkl := kd_lt hk (by decide)
  obtain ⟨g1, g2⟩ := nat_i32 h0 h1 (kd_n hk (by decide))
  have K1 := K H locs ls hP hS hL
  rw [← g2] at K1
  exact va_iald (D := E.2.1) (f := fun j => Int32.ofInt (M k j)) C.1 C.2.1 C.2.2.2.2.2.1 hP k 0 (by rw [wM_at E M hkl, cel_i hk]) rfl g1 d K1
theorem v_lald {k n : Nat} {i : Int} (C : Cx E z D own cc nL) (hk : kd k = (1, n)) (h0 : 0 ≤ i) (h1 : i < n) (d : decode cc pc = .ok (.laload, 1)) (K : Aj E l z (pc + 1) L (vj (M k i.toNat) :: S) M) : Aj E l z pc L (vi i :: vr k :: S) M := by
  obtain ⟨A, p, e, R, s, m, args, below, meth, c, cells, slots, Q⟩ := z
  intro H locs ls hP hS hL
  have hkl := kd_lt hk (by decide)
  obtain ⟨g1, g2⟩ := nat_i32 h0 h1 (kd_n hk (by decide))
  have K1 := K H locs ls hP hS hL
  rw [← g2] at K1
  exact va_lald (D := E.2.1) (f := fun j => Int64.ofInt (M k j)) C.1 C.2.1 C.2.2.2.2.2.1 hP k 1 (by rw [wM_at E M hkl, cel_j hk]) rfl g1 d K1
theorem v_aald {k n : Nat} {i : Int} (C : Cx E z D own cc nL) (hk : kd k = (2, n)) (h0 : 0 ≤ i) (h1 : i < n) (d : decode cc pc = .ok (.aaload, 1)) (K : Aj E l z (pc + 1) L (vr (29 + i.toNat) :: S) M) : Aj E l z pc L (vi i :: vr k :: S) M := by
  obtain ⟨A, p, e, R, s, m, args, below, meth, c, cells, slots, Q⟩ := z
  intro H locs ls hP hS hL
  have hkl := kd_lt hk (by decide)
  obtain ⟨g1, g2⟩ := nat_i32 h0 h1 (kd_n hk (by decide))
  have K1 := K H locs ls hP hS hL
  rw [← g2] at K1
  exact va_aldq (D := E.2.1) (f := fun j => some (E.1 (29 + j))) C.1 C.2.1 C.2.2.2.2.2.1 hP k 2 (by rw [wM_at E M hkl, cel_q hk]) rfl g1 d K1
theorem up_i (M : MM) (k i : Nat) (x : Int) : (fun j => Int32.ofInt (up M k i x k j)) = upd (fun j => Int32.ofInt (M k j)) i (Int32.ofInt x) := by
  funext j
  unfold upd up
  by_cases h : j = i <;> simp [h]
theorem up_j (M : MM) (k i : Nat) (x : Int) : (fun j => Int64.ofInt (up M k i x k j)) = vp_updL (fun j => Int64.ofInt (M k j)) i (Int64.ofInt x) := by
  funext j
  unfold vp_updL up
  by_cases h : j = i <;> simp [h]
theorem v_iast {k n : Nat} {i x : Int} (C : Cx E z D own cc nL) (hk : kd k = (0, n)) (h0 : 0 ≤ i) (h1 : i < n) (d : decode cc pc = .ok (.iastore, 1)) (K : Aj E l z (pc + 1) L S (up M k i.toNat x)) : Aj E l z pc L (vi x :: vi i :: vr k :: S) M := by
  obtain ⟨A, p, e, R, s, m, args, below, meth, c, cells, slots, Q⟩ := z
  intro H locs ls hP hS hL
  have hkl := kd_lt hk (by decide)
  obtain ⟨g1, g2⟩ := nat_i32 h0 h1 (kd_n hk (by decide))
  refine va_iast (D := E.2.1) C.1 C.2.1 C.2.2.2.2.2.1 hP (wM_D C.2.2.2.2.2.2.1 C.2.2.2.2.2.2.2.1 M) hS k 0 (by rw [wM_at E M hkl, cel_i hk]) rfl g1 d (fun H1 locs1 hP1 _ hS1 => ?_)
  refine K H1 locs1 ls ?_ hS1 hL
  have e1 : (wM E M).set k (E.1 k, .inl (E.2.2.1, n, .inl (upd (fun j => Int32.ofInt (M k j)) (Int32.ofInt i).toNatClampNeg (Int32.ofInt x)))) = wM E (up M k i.toNat x) := by
    rw [← wM_up E M hkl, cel_i hk, up_i, g2]
  rw [← e1]
  exact hP1
theorem v_last {k n : Nat} {i x : Int} (C : Cx E z D own cc nL) (hk : kd k = (1, n)) (h0 : 0 ≤ i) (h1 : i < n) (d : decode cc pc = .ok (.lastore, 1)) (K : Aj E l z (pc + 1) L S (up M k i.toNat x)) : Aj E l z pc L (vj x :: vi i :: vr k :: S) M := by
  obtain ⟨A, p, e, R, s, m, args, below, meth, c, cells, slots, Q⟩ := z
  intro H locs ls hP hS hL
  have hkl := kd_lt hk (by decide)
  obtain ⟨g1, g2⟩ := nat_i32 h0 h1 (kd_n hk (by decide))
  refine va_last (D := E.2.1) C.1 C.2.1 C.2.2.2.2.2.1 hP (wM_D C.2.2.2.2.2.2.1 C.2.2.2.2.2.2.2.1 M) hS k 1 (by rw [wM_at E M hkl, cel_j hk]) rfl g1 d (fun H1 locs1 hP1 _ hS1 => ?_)
  refine K H1 locs1 ls ?_ hS1 hL
  have e1 : (wM E M).set k (E.1 k, .inl (E.2.2.2.1, n, .inr (.inl (vp_updL (fun j => Int64.ofInt (M k j)) (Int32.ofInt i).toNatClampNeg (Int64.ofInt x))))) = wM E (up M k i.toNat x) := by
    rw [← wM_up E M hkl, cel_j hk, up_j, g2]
  rw [← e1]
  exact hP1
theorem v_alen {k a n : Nat} (C : Cx E z D own cc nL) (hk : kd k = (a, n)) (ha : a < 3) (d : decode cc pc = .ok (.arraylength, 1)) (K : Aj E l z (pc + 1) L (vi n :: S) M) : Aj E l z pc L (vr k :: S) M := by
  obtain ⟨A, p, e, R, s, m, args, below, meth, c, cells, slots, Q⟩ := z
  intro H locs ls hP hS hL
  have hkl := kd_lt hk (by omega)
  have K1 := K H locs ls hP hS hL
  have hn : Int32.ofNat n = Int32.ofInt (n : Int) := (Int32.ofInt_eq_ofNat (n := n)).symm
  match a, ha, hk with
  | 0, _, hk => exact va_alen (D := E.2.1) C.1 C.2.1 C.2.2.2.2.2.1 hP k 0 (by rw [wM_at E M hkl, cel_i hk]) rfl hn d K1
  | 1, _, hk => exact va_alen (D := E.2.1) C.1 C.2.1 C.2.2.2.2.2.1 hP k 1 (by rw [wM_at E M hkl, cel_j hk]) rfl hn d K1
  | 2, _, hk => exact va_alen (D := E.2.1) C.1 C.2.1 C.2.2.2.2.2.1 hP k 2 (by rw [wM_at E M hkl, cel_q hk]) rfl hn d K1
/-! the enum -/
theorem Cx.enum {A : Nat → Prop} {p : Program} {e : Env} {R : Room} {s : State} {m : MethodId} {args : Array Value} {below : List Frame} {meth : Method} {c : Code} {cells slots : Nat} {Q : State → Prop} (C : Cx E (A, p, e, R, s, m, args, below, meth, c, cells, slots, Q) D own cc nL) : EW E A s s.heap := C.2.2.2.2.2.2.2.2.2.1
theorem v_gCloths {idx : Nat} (C : Cx E z D own cc nL) (w : Cond.fieldLink own idx "WholeMarks" "CLOTHS" "[LWholeMarks$Cloth;" ∈ GW) (d : decode cc pc = .ok (.getstatic idx, 3)) (K : Aj E l z (pc + 3) L (vr 100 :: S) M) : Aj E l z pc L S M := by
  obtain ⟨A, p, e, R, s, m, args, below, meth, c, cells, slots, Q⟩ := z
  intro H locs ls hP hS hL
  exact va_gets C.1 C.2.1 C.enum.1 hS C.2.2.2.1 (C.2.2.2.2.1 _ w) (fun _ h => h) d (K H locs ls hP hS hL)
theorem v_gClothsN (C : Cx E z D RX0 cc nL) (d : decode cc pc = .ok (.getstatic 79, 3)) (K : Aj E l z (pc + 3) L (vr 100 :: S) M) : Aj E l z pc L S M := by
  obtain ⟨A, p, e, R, s, m, args, below, meth, c, cells, slots, Q⟩ := z
  intro H locs ls hP hS hL
  exact va_getsN C.1 C.2.1 C.enum.1 hS C.2.2.2.1 (va_Nw.use rfl C.enum.2.2.2.2.2) (fun _ h => h) d (K H locs ls hP hS hL)
theorem v_gLinen {idx : Nat} (C : Cx E z D own cc nL) (w : Cond.fieldLink own idx "WholeMarks$Cloth" "LINEN" "LWholeMarks$Cloth;" ∈ GW) (d : decode cc pc = .ok (.getstatic idx, 3)) (K : Aj E l z (pc + 3) L (vr 101 :: S) M) : Aj E l z pc L S M := by
  obtain ⟨A, p, e, R, s, m, args, below, meth, c, cells, slots, Q⟩ := z
  intro H locs ls hP hS hL
  exact va_gets C.1 C.2.1 C.enum.2.2.1 hS C.2.2.2.1 (C.2.2.2.2.1 _ w) (fun _ h => h) d (K H locs ls hP hS hL)
theorem v_clLen (C : Cx E z D own cc nL) (d : decode cc pc = .ok (.arraylength, 1)) (K : Aj E l z (pc + 1) L (vi 4 :: S) M) : Aj E l z pc L (vr 100 :: S) M := by
  obtain ⟨A, p, e, R, s, m, args, below, meth, c, cells, slots, Q⟩ := z
  intro H locs ls hP hS hL
  exact va_tlen C.1 C.2.1 C.enum.2.1 hS rfl d (K H locs ls hP hS hL)
theorem v_clAld {i : Int} (C : Cx E z D own cc nL) (h0 : 0 ≤ i) (h1 : i < 4) (d : decode cc pc = .ok (.aaload, 1)) (K : Aj E l z (pc + 1) L (vr (101 + i.toNat) :: S) M) : Aj E l z pc L (vi i :: vr 100 :: S) M := by
  obtain ⟨A, p, e, R, s, m, args, below, meth, c, cells, slots, Q⟩ := z
  intro H locs ls hP hS hL
  obtain ⟨g1, g2⟩ := nat_i32 (n := 4) h0 h1 (by decide)
  exact vb_tq C.1 C.2.1 C.enum.2.1 hS g1 (by rw [g2]; rfl) d (K H locs ls hP hS hL)
theorem v_clCut {idx i : Nat} (C : Cx E z D own cc nL) (hi : i < 4) (w : Cond.fieldLink own idx "WholeMarks$Cloth" "lostByCut" "I" ∈ GW) (d : decode cc pc = .ok (.getfield idx, 3)) (K : Aj E l z (pc + 3) L (vi (lbc i) :: S) M) : Aj E l z pc L (vr (101 + i) :: S) M := by
  obtain ⟨A, p, e, R, s, m, args, below, meth, c, cells, slots, Q⟩ := z
  intro H locs ls hP hS hL
  exact vk_getf C.1 C.2.1 (C.enum.2.2.2.1 i hi) hS C.2.2.2.1 (C.2.2.2.2.1 _ w) (fun _ h => h) d (K H locs ls hP hS hL)
theorem v_clSeam {idx i : Nat} (C : Cx E z D own cc nL) (hi : i < 4) (w : Cond.fieldLink own idx "WholeMarks$Cloth" "losesBySeam" "Z" ∈ GW) (d : decode cc pc = .ok (.getfield idx, 3)) (K : Aj E l z (pc + 3) L (vi (lbs i) :: S) M) : Aj E l z pc L (vr (101 + i) :: S) M := by
  obtain ⟨A, p, e, R, s, m, args, below, meth, c, cells, slots, Q⟩ := z
  intro H locs ls hP hS hL
  exact vk_getf C.1 C.2.1 (C.enum.2.2.2.2.1 i hi) hS C.2.2.2.1 (C.2.2.2.2.1 _ w) (fun _ h => h) d (K H locs ls hP hS hL)
end MEM
end
section
section RET
variable {E : FX} {l : Launch} {z : RT} {D : Nat} {own : String} {cc : ByteArray} {nL pc : Nat} {L : LV} {S : List AV} {M : MM} {post : Option AV → MM → Prop}
theorem v_iret {a : Int} (C : Cx E z D own cc nL) (r : Rt E z (some .int) post) (d : decode cc pc = .ok (.ireturn, 1)) (h : post (some (vi a)) M) : Aj E l z pc L [vi a] M := by
  obtain ⟨A, p, e, R, s, m, args, below, meth, c, cells, slots, Q⟩ := z
  obtain ⟨hr, hlocks, hA, rfl, rfl, rfl⟩ := r
  intro H locs ls hP hS hL
  exact W.iret C.1 C.2.1 hr (fun t ht _ => ⟨⟨some (vi a), M, rfl, h, by rw [ht]; exact hP⟩, hS.F ht⟩) hS.2.2 d hlocks
theorem v_zret {a : Int} (C : Cx E z D own cc nL) (r : Rt E z (some .boolean) post) (ha : a = 0 ∨ a = 1) (d : decode cc pc = .ok (.ireturn, 1)) (h : post (some (vi a)) M) : Aj E l z pc L [vi a] M := by
  obtain ⟨A, p, e, R, s, m, args, below, meth, c, cells, slots, Q⟩ := z
  obtain ⟨hr, hlocks, hA, rfl, rfl, rfl⟩ := r
  intro H locs ls hP hS hL
  exact W.zret C.1 C.2.1 hr (by rcases ha with rfl | rfl <;> decide) (fun t ht _ => ⟨⟨some (vi a), M, rfl, h, by rw [ht]; exact hP⟩, hS.F ht⟩) hS.2.2 d hlocks
theorem v_lret {a : Int} (C : Cx E z D own cc nL) (r : Rt E z (some .long) post) (d : decode cc pc = .ok (.lreturn, 1)) (h : post (some (vj a)) M) : Aj E l z pc L [vj a] M := by
  obtain ⟨A, p, e, R, s, m, args, below, meth, c, cells, slots, Q⟩ := z
  obtain ⟨hr, hlocks, hA, rfl, rfl, rfl⟩ := r
  intro H locs ls hP hS hL
  exact W.lret C.1 C.2.1 hr (fun t ht _ => ⟨⟨some (vj a), M, rfl, h, by rw [ht]; exact hP⟩, hS.F ht⟩) hS.2.2 d hlocks
theorem v_aret {o : Option Nat} {cn : String} (C : Cx E z D own cc nL) (r : Rt E z (some (.object cn)) post) (d : decode cc pc = .ok (.areturn, 1)) (h : post (some (vo o)) M) : Aj E l z pc L [vo o] M := by
  obtain ⟨A, p, e, R, s, m, args, below, meth, c, cells, slots, Q⟩ := z
  obtain ⟨hr, hlocks, hA, rfl, rfl, rfl⟩ := r
  intro H locs ls hP hS hL
  refine W.aret (v := xv E.1 (vo o)) C.1 C.2.1 hr (Or.inl ⟨cn, rfl⟩) ?_ (fun t ht _ => ⟨⟨some (vo o), M, rfl, h, by rw [ht]; exact hP⟩, hS.F ht⟩) hS.2.2 d hlocks
  cases o with
  | none => exact Or.inl rfl
  | some x => exact Or.inr ⟨_, rfl⟩
theorem v_vret (C : Cx E z D own cc nL) (r : Rt E z none post) (d : decode cc pc = .ok (.return_, 1)) (h : post none M) : Aj E l z pc L [] M := by
  obtain ⟨A, p, e, R, s, m, args, below, meth, c, cells, slots, Q⟩ := z
  obtain ⟨hr, hlocks, hA, rfl, rfl, rfl⟩ := r
  intro H locs ls hP hS hL
  exact W.vret C.1 C.2.1 hr (fun t ht _ => ⟨⟨none, M, rfl, h, by rw [ht]; exact hP⟩, hS.F ht⟩) hS.2.2 d hlocks
end RET
/-- the locals at a method's entry -/
def avA : Nat → List AV → LV
  | _, [] => []
  | i, v :: vs => (i, v) :: avA (if xcat v = 2 then i + 2 else i + 1) vs
theorem avA_xl (ad : Nat → Nat) : ∀ (As : List AV) (i : Nat), lv_args i (As.map (xv ad)) = xl ad (avA i As)
  | [], _ => rfl
  | v :: vs, i => by
    simp only [List.map_cons, lv_args, avA, xl, xv_cat]
    rw [avA_xl ad vs]
    rfl
theorem sl_len (ad : Nat → Nat) : ∀ As : List AV, (lg_sl (As.map (xv ad))).length = (As.map xcat).sum
  | [] => rfl
  | v :: vs => by
    have h := sl_len ad vs
    unfold lg_sl at h ⊢
    simp only [List.map_cons, List.flatMap_cons, List.length_append, List.sum_cons, h, xv_cat]
    rcases v with x | x | x <;> rfl
theorem GoodIn_mw {q : MI} (co : Cond.code q.1 q.2.1 q.2.2.1 q.2.2.2 ∈ GW) : GoodIn GW (mw q) := by
  intro w hw
  rcases List.mem_cons.mp hw with h | h
  · subst h
    exact ⟨co, gw_good _ co⟩
  · exact ⟨h, gw_good _ h⟩
theorem con_of {E : FX} {l : Launch} {D : Nat} {q : MI} {As : List AV} {M : MM} {post : Option AV → MM → Prop} (hy : plainName q.1.cls = true) (hlen : (As.map xcat).sum ≤ q.2.2.1)
    (body : ∀ z : RT, Cx E z D q.1.cls q.2.1 q.2.2.1 → Rt E z q.2.2.2 post → Aj E l z 0 (avA 0 As) [] M) : Con E l (D + 1) q As M post := by
  refine ⟨D, Nat.lt_succ_self D, fun sz => ?_⟩
  refine Met.ofW (cc := q.2.1) (maxL := q.2.2.1) (ret := q.2.2.2) hy rfl ?_
  intro p e s m args below meth c s₁ B hml hv
  obtain ⟨rfl, hsz, hP, hK, hApt, hE⟩ := hv
  subst hsz
  have hts : ∀ w ∈ GW, w.before (As.map (xv E.1)).toArray s = true := fun w hw => atoms_spec (ws := mw q) B.pre w (List.mem_cons_of_mem _ hw)
  have hb := body (AW E s.heap.size, p, e, rmD D, s, m, (As.map (xv E.1)).toArray, below, meth, c, 0, 0, MQ below (CQ E post (AW E s.heap.size)) (As.map (xv E.1)).toArray s 0 0 (AW E s.heap.size)) ⟨B.exec, B.bytes, hml, findClass_of_methodNamed B.named, hts, hK, hApt, fun k hk => Or.inl ⟨k, hk, rfl⟩, fun _ h => Or.inr h, hE, ⟨Nat.le_refl _, Nat.le_refl _⟩, Nat.le_refl _, Nat.le_refl _⟩ ⟨B.returns, B.notSynchronized, rfl, rfl, rfl, rfl⟩
  rw [lg_entry_eq]
  refine hb s.heap [] _ hP va_S.rf ?_
  rw [← avA_xl, hml]
  exact lv_entry _ (by rw [sl_len]; exact hlen)
section CALL
variable {E : FX} {l : Launch} {z : RT} {D : Nat} {own : String} {cc : ByteArray} {nL pc : Nat} {L : LV} {S : List AV} {M : MM}
theorem CP_at {A : Nat → Prop} {p : Program} {e : Env} {R : Room} {s : State} {m : MethodId} {args : Array Value} {below : List Frame} {meth : Method} {c : Code} {cells slots : Nat} {Q : State → Prop} {H : Heap} {locs : List Loc} {As : List AV} (C : Cx E (A, p, e, R, s, m, args, below, meth, c, cells, slots, Q) D own cc nL) (hP : va_P E.2.1 vwCl (wM E M) H) (hS : va_S A s.heap H locs) (U : State) (hU : U.heap = H) (hW : s.WarmedH U.vm) : CP E As M H.size (As.map (xv E.1)).toArray U := by
  refine ⟨rfl, by rw [hU], by rw [hU]; exact hP, va_K.moved hW.alike C.2.2.2.2.2.1, C.2.2.2.2.2.2.1, ?_⟩
  rw [hU]
  refine EW.narrow (A := A) (EW.moved hW (C.enum.kept hS.2.1)) (fun q hq => ?_)
  rcases hq with ⟨k, hk, rfl⟩ | h
  · exact C.2.2.2.2.2.2.2.1 k hk
  · exact C.2.2.2.2.2.2.2.2.1 q (Nat.le_trans hS.1 h)
theorem AW_A {A : Nat → Prop} {p : Program} {e : Env} {R : Room} {s : State} {m : MethodId} {args : Array Value} {below : List Frame} {meth : Method} {c : Code} {cells slots : Nat} {Q : State → Prop} {H : Heap} {locs : List Loc} (C : Cx E (A, p, e, R, s, m, args, below, meth, c, cells, slots, Q) D own cc nL) (hS : va_S A s.heap H locs) : ∀ q, AW E H.size q → A q := by
  intro q hq
  rcases hq with ⟨k, hk, rfl⟩ | h
  · exact C.2.2.2.2.2.2.2.1 k hk
  · exact C.2.2.2.2.2.2.2.2.1 q (Nat.le_trans hS.1 h)
theorem run_on {A : Nat → Prop} {p : Program} {e : Env} {R : Room} {s : State} {m : MethodId} {args a : Array Value} {below : List Frame} {meth : Method} {c : Code} {cells slots : Nat} {Q : State → Prop} {H : Heap} {locs : List Loc} {ls : Array Slot} {st0 : List Value} {S : List AV} (C : Cx E (A, p, e, R, s, m, args, below, meth, c, cells, slots, Q) D own cc nL) (hS : va_S A s.heap H locs) (hL : lv_has ls c.maxLocals (xl E.1 L))
    (hr : va_Run p l e R s m args below meth c H locs cells slots 0 0 (F0 m pc ls st0) (S.map (xv E.1)) (CQ E (fun r M' => Aj E l (A, p, e, R, s, m, args, below, meth, c, cells, slots, Q) (pc + 3) L (r.toList ++ S) M') (AW E H.size) a) (AW E H.size)) : W p l e R s m args below meth c H locs cells slots Q (F0 m pc ls st0) := by
  intro T hT X
  obtain ⟨v, st₀, t, T', L', h0, X', hL', e1, e2, ⟨⟨r, M', hv, hp, hP'⟩, hz, hk⟩, st⟩ := hr T hT X
  cases hv
  rw [h0] at hz hk
  have hA := AW_A C hS
  obtain ⟨t2, a1, b1⟩ := hp T'.heap (locs ++ L') ls (by rw [e1]; exact hP') ⟨Nat.le_trans hS.1 (by rw [e1]; exact hz), fun q h1 h2 => by rw [e1, hk q (Nat.lt_of_lt_of_le h1 hS.1) (fun zz => h2 (hA q zz))]; exact hS.2.1 q h1 h2, fun q hq => by
      rcases List.mem_append.mp hq with h | h
      · exact hS.2.2 q h
      · exact hA _ (hL' q h)⟩ hL T' rfl X'
  have es : (r.toList ++ S).map (xv E.1) = (r.map (xv E.1)).toList ++ S.map (xv E.1) := by
    cases r <;> simp
  rw [es] at a1
  exact ⟨t2, st t2 a1, b1⟩
theorem room_c {S : List AV} (h : (S.map xcat).sum ≤ 8) : ((S.map (xv E.1)).map fun v => v.category).sum ≤ 8 := by
  rw [List.map_map]
  have e : ((fun v : Value => v.category) ∘ xv E.1) = xcat := by
    funext v
    exact xv_cat E.1 v
  rw [e]
  exact h
theorem v_callS {idx : Nat} {q : MI} {As : List AV} {St : List AV} (C : Cx E z D own cc nL) (co : Cond.code q.1 q.2.1 q.2.2.1 q.2.2.2 ∈ GW) (ml : Cond.methodLink own idx q.1 ∈ GW) (st : Cond.static q.1 ∈ GW) (ini : Cond.initialized q.1.cls ∈ GW) (hd : q.1.cls ≠ "java/lang/invoke/MethodHandle" ∧ q.1.cls ≠ "java/lang/invoke/VarHandle" ∧ (parseMethodDescriptor q.1.desc).map (fun d => d.parameters.length) = some As.length) (hmax : q.2.2.1 ≤ 40) (hcat : (S.map xcat).sum ≤ 8) (hst : St = As.reverse ++ S) (d : decode cc pc = .ok (.invokestatic idx, 3))
    (K : Con E l D q As M (fun r M' => Aj E l z (pc + 3) L (r.toList ++ S) M')) : Aj E l z pc L St M := by
  obtain ⟨A, p, e, R, s, m, args, below, meth, c, cells, slots, Q⟩ := z
  obtain ⟨dd, hdd, hM⟩ := K
  intro H locs ls hP hS hL
  have hts := C.2.2.2.2.1
  have hR := C.2.2.2.2.2.2.2.2.2.2
  refine run_on C hS hL (va_runS (cc := cc) (nL := c.maxLocals) (Ts := GW) (own := own) (As := As.map (xv E.1)) ⟨C.1, C.2.1, rfl, C.2.2.2.1, hts⟩ (hM H.size) ⟨callB_of (Ts := GW) (ws := mw q) As.length hts (GoodIn_mw co) rfl rfl rfl (hts _ ini) (hts _ ml) hd ⟨?_, ?_⟩, hts _ st⟩ ⟨FrameBlind_CP, fun U hU hW => CP_at C hP hS U hU hW⟩ rfl (List.length_map ..) hL.1 ?_ (lv_room (room_c hcat)) d ⟨hR.2.1, hR.2.2⟩)
  · show dd + 1 ≤ R.frames
    have := hR.1.1
    omega
  · show 8 + (q.2.2.1 + 11) + 60 * dd ≤ R.locals
    have := hR.1.2
    omega
  · subst hst
    show List.map (xv E.1) (As.reverse ++ S) = _
    rw [List.map_append, List.map_reverse]
theorem v_callV {idx k ci : Nat} {q : MI} {As : List AV} {St : List AV} (C : Cx E z D own cc nL) (co : Cond.code q.1 q.2.1 q.2.2.1 q.2.2.2 ∈ GW) (ml : Cond.methodLink own idx q.1 ∈ GW) (im : Cond.instanceMethod q.1 ∈ GW) (se : Cond.selects q.1.cls q.1 q.1 ∈ GW) (ini : Cond.initialized q.1.cls ∈ GW) (hk : kd k = (3, ci)) (hci : (vwCl[ci]?).map (fun x => x.1) = some q.1.cls) (hd : q.1.cls ≠ "java/lang/invoke/MethodHandle" ∧ q.1.cls ≠ "java/lang/invoke/VarHandle" ∧ (parseMethodDescriptor q.1.desc).map (fun d => d.parameters.length) = some As.length) (hmax : q.2.2.1 ≤ 40) (hcat : (S.map xcat).sum ≤ 8) (hst : St = As.reverse ++ vr k :: S) (d : decode cc pc = .ok (.invokevirtual idx, 3))
    (K : Con E l D q (vr k :: As) M (fun r M' => Aj E l z (pc + 3) L (r.toList ++ S) M')) : Aj E l z pc L St M := by
  obtain ⟨A, p, e, R, s, m, args, below, meth, c, cells, slots, Q⟩ := z
  obtain ⟨dd, hdd, hM⟩ := K
  intro H locs ls hP hS hL
  have hts := C.2.2.2.2.1
  have hR := C.2.2.2.2.2.2.2.2.2.2
  have hkl := kd_lt hk (by decide)
  obtain ⟨qc, hq1, hq2⟩ : ∃ qc, vwCl[ci]? = some qc ∧ qc.1 = q.1.cls := by
    cases hv : vwCl[ci]? with
    | none => rw [hv] at hci; cases hci
    | some qc => rw [hv] at hci; exact ⟨qc, rfl, Option.some.inj hci⟩
  refine run_on C hS hL (va_runV (cc := cc) (nL := c.maxLocals) (Ts := GW) (own := own) (C := q.1.cls) (b := E.1 k) (As := As.map (xv E.1)) (n := As.length) ⟨C.1, C.2.1, rfl, C.2.2.2.1, hts⟩ (hM H.size) ⟨callB_of (Ts := GW) (ws := mw q) As.length hts (GoodIn_mw co) rfl rfl rfl (hts _ ini) (hts _ ml) hd ⟨?_, ?_⟩, hts _ im, hts _ se⟩ ⟨FrameBlind_CP, ?_, fun U hU hW => CP_at C hP hS U hU hW⟩ rfl (List.length_map ..) hL.1 ?_ (lv_room (room_c hcat)) d ⟨hR.2.1, hR.2.2⟩)
  · show dd + 1 ≤ R.frames
    have := hR.1.1
    omega
  · show 8 + (q.2.2.1 + 11) + 60 * dd ≤ R.locals
    have := hR.1.2
    omega
  · rw [← hq2]
    exact va_recv C.2.2.2.2.2.1 hP hq1 (q0 := k) (fs := fls E.1 M k) (by rw [wM_at E M hkl, cel_ob hk])
  · subst hst
    show List.map (xv E.1) (As.reverse ++ vr k :: S) = _
    rw [List.map_append, List.map_reverse]
    rfl
end CALL
end
