-- ===== PART A: goes FIRST, ahead of the names: the tables' words, and 'selects' of the private methods out of them =====
/-- a private method of a class that the tables say can be made, by its rows of tables_1 -/
def lw_okq (q : MethodName × Nat) : Prop := (q.1.cls ≠ "java/lang/invoke/MethodHandle" ∧ q.1.cls ≠ "java/lang/invoke/VarHandle") ∧ Cond.instantiable q.1.cls q.2 ∈ tables_1 ∧ Cond.privateMethod q.1 ∈ tables_1 ∧ Cond.instanceMethod q.1 ∈ tables_1
theorem lw_p0 : lw_okq (⟨"WholeMarks", "marksNow", "()LWholeMarks$Marks;"⟩, 7) := ⟨⟨by decide +kernel, by decide +kernel⟩, List.mem_of_getElem? (i := 19) (by decide +kernel), List.mem_of_getElem? (i := 290) (by decide +kernel), List.mem_of_getElem? (i := 291) (by decide +kernel)⟩
theorem lw_p1 : lw_okq (⟨"WholeMarks$Tape", "readMeasures", "()Z"⟩, 6) := ⟨⟨by decide +kernel, by decide +kernel⟩, List.mem_of_getElem? (i := 130) (by decide +kernel), List.mem_of_getElem? (i := 433) (by decide +kernel), List.mem_of_getElem? (i := 434) (by decide +kernel)⟩
theorem lw_p2 : lw_okq (⟨"WholeMarks$Tape", "peek", "()I"⟩, 6) := ⟨⟨by decide +kernel, by decide +kernel⟩, List.mem_of_getElem? (i := 130) (by decide +kernel), List.mem_of_getElem? (i := 437) (by decide +kernel), List.mem_of_getElem? (i := 438) (by decide +kernel)⟩
theorem lw_p3 : lw_okq (⟨"WholeMarks$Tape", "readNumber", "()I"⟩, 6) := ⟨⟨by decide +kernel, by decide +kernel⟩, List.mem_of_getElem? (i := 130) (by decide +kernel), List.mem_of_getElem? (i := 442) (by decide +kernel), List.mem_of_getElem? (i := 443) (by decide +kernel)⟩
theorem lw_p4 : lw_okq (⟨"WholeMarks$Tape", "readCounting", "()Z"⟩, 6) := ⟨⟨by decide +kernel, by decide +kernel⟩, List.mem_of_getElem? (i := 130) (by decide +kernel), List.mem_of_getElem? (i := 452) (by decide +kernel), List.mem_of_getElem? (i := 453) (by decide +kernel)⟩
theorem lw_p5 : lw_okq (⟨"WholeMarks", "groupBolts", "(I)V"⟩, 7) := ⟨⟨by decide +kernel, by decide +kernel⟩, List.mem_of_getElem? (i := 19) (by decide +kernel), List.mem_of_getElem? (i := 494) (by decide +kernel), List.mem_of_getElem? (i := 495) (by decide +kernel)⟩
theorem lw_p6 : lw_okq (⟨"WholeMarks$Groups", "keepIfBetter", "(IJ)V"⟩, 9) := ⟨⟨by decide +kernel, by decide +kernel⟩, List.mem_of_getElem? (i := 178) (by decide +kernel), List.mem_of_getElem? (i := 520) (by decide +kernel), List.mem_of_getElem? (i := 521) (by decide +kernel)⟩
theorem lw_p7 : lw_okq (⟨"WholeMarks", "priceOf", "(LWholeMarks$Marks;I)J"⟩, 7) := ⟨⟨by decide +kernel, by decide +kernel⟩, List.mem_of_getElem? (i := 19) (by decide +kernel), List.mem_of_getElem? (i := 546) (by decide +kernel), List.mem_of_getElem? (i := 547) (by decide +kernel)⟩
theorem lw_p8 : lw_okq (⟨"WholeMarks", "groupBuyers", "(I)V"⟩, 7) := ⟨⟨by decide +kernel, by decide +kernel⟩, List.mem_of_getElem? (i := 19) (by decide +kernel), List.mem_of_getElem? (i := 559) (by decide +kernel), List.mem_of_getElem? (i := 560) (by decide +kernel)⟩
theorem lw_p9 : lw_okq (⟨"WholeMarks", "refusal", "(IIII)I"⟩, 7) := ⟨⟨by decide +kernel, by decide +kernel⟩, List.mem_of_getElem? (i := 19) (by decide +kernel), List.mem_of_getElem? (i := 647) (by decide +kernel), List.mem_of_getElem? (i := 648) (by decide +kernel)⟩
theorem lw_p10 : lw_okq (⟨"WholeMarks", "sheetOf", "(I)LWholeMarks$Sheet;"⟩, 7) := ⟨⟨by decide +kernel, by decide +kernel⟩, List.mem_of_getElem? (i := 19) (by decide +kernel), List.mem_of_getElem? (i := 651) (by decide +kernel), List.mem_of_getElem? (i := 652) (by decide +kernel)⟩
theorem lw_p11 : lw_okq (⟨"WholeMarksModel", "layNow", "()V"⟩, 19) := ⟨⟨by decide +kernel, by decide +kernel⟩, List.mem_of_getElem? (i := 718) (by decide +kernel), List.mem_of_getElem? (i := 808) (by decide +kernel), List.mem_of_getElem? (i := 809) (by decide +kernel)⟩
theorem lw_p12 : lw_okq (⟨"WholeMarksModel", "lay", "(III)V"⟩, 19) := ⟨⟨by decide +kernel, by decide +kernel⟩, List.mem_of_getElem? (i := 718) (by decide +kernel), List.mem_of_getElem? (i := 812) (by decide +kernel), List.mem_of_getElem? (i := 813) (by decide +kernel)⟩
theorem lw_p13 : lw_okq (⟨"WholeMarksModel", "manyUpTo", "(J)J"⟩, 19) := ⟨⟨by decide +kernel, by decide +kernel⟩, List.mem_of_getElem? (i := 718) (by decide +kernel), List.mem_of_getElem? (i := 822) (by decide +kernel), List.mem_of_getElem? (i := 823) (by decide +kernel)⟩
theorem lw_p14 : lw_okq (⟨"WholeMarksModel", "isBolt", "(I)Z"⟩, 19) := ⟨⟨by decide +kernel, by decide +kernel⟩, List.mem_of_getElem? (i := 718) (by decide +kernel), List.mem_of_getElem? (i := 841) (by decide +kernel), List.mem_of_getElem? (i := 842) (by decide +kernel)⟩
theorem lw_p15 : lw_okq (⟨"WholeMarksModel", "below", "(J)J"⟩, 19) := ⟨⟨by decide +kernel, by decide +kernel⟩, List.mem_of_getElem? (i := 718) (by decide +kernel), List.mem_of_getElem? (i := 845) (by decide +kernel), List.mem_of_getElem? (i := 846) (by decide +kernel)⟩
def lw_privs_1 : List (MethodName × Nat) := [(⟨"WholeMarks", "marksNow", "()LWholeMarks$Marks;"⟩, 7), (⟨"WholeMarks$Tape", "readMeasures", "()Z"⟩, 6), (⟨"WholeMarks$Tape", "peek", "()I"⟩, 6), (⟨"WholeMarks$Tape", "readNumber", "()I"⟩, 6), (⟨"WholeMarks$Tape", "readCounting", "()Z"⟩, 6), (⟨"WholeMarks", "groupBolts", "(I)V"⟩, 7), (⟨"WholeMarks$Groups", "keepIfBetter", "(IJ)V"⟩, 9), (⟨"WholeMarks", "priceOf", "(LWholeMarks$Marks;I)J"⟩, 7), (⟨"WholeMarks", "groupBuyers", "(I)V"⟩, 7), (⟨"WholeMarks", "refusal", "(IIII)I"⟩, 7), (⟨"WholeMarks", "sheetOf", "(I)LWholeMarks$Sheet;"⟩, 7), (⟨"WholeMarksModel", "layNow", "()V"⟩, 19), (⟨"WholeMarksModel", "lay", "(III)V"⟩, 19), (⟨"WholeMarksModel", "manyUpTo", "(J)J"⟩, 19), (⟨"WholeMarksModel", "isBolt", "(I)Z"⟩, 19), (⟨"WholeMarksModel", "below", "(J)J"⟩, 19)]
theorem lw_r1 : ∀ q ∈ lw_privs_1, lw_okq q := List.forall_mem_cons.mpr ⟨lw_p0, List.forall_mem_cons.mpr ⟨lw_p1, List.forall_mem_cons.mpr ⟨lw_p2, List.forall_mem_cons.mpr ⟨lw_p3, List.forall_mem_cons.mpr ⟨lw_p4, List.forall_mem_cons.mpr ⟨lw_p5, List.forall_mem_cons.mpr ⟨lw_p6, List.forall_mem_cons.mpr ⟨lw_p7, List.forall_mem_cons.mpr ⟨lw_p8, List.forall_mem_cons.mpr ⟨lw_p9, List.forall_mem_cons.mpr ⟨lw_p10, List.forall_mem_cons.mpr ⟨lw_p11, List.forall_mem_cons.mpr ⟨lw_p12, List.forall_mem_cons.mpr ⟨lw_p13, List.forall_mem_cons.mpr ⟨lw_p14, List.forall_mem_cons.mpr ⟨lw_p15, fun _ h => absurd h List.not_mem_nil⟩⟩⟩⟩⟩⟩⟩⟩⟩⟩⟩⟩⟩⟩⟩⟩
theorem lw_p16 : lw_okq (⟨"WholeMarksModel", "seamOf", "(I)I"⟩, 19) := ⟨⟨by decide +kernel, by decide +kernel⟩, List.mem_of_getElem? (i := 718) (by decide +kernel), List.mem_of_getElem? (i := 860) (by decide +kernel), List.mem_of_getElem? (i := 861) (by decide +kernel)⟩
theorem lw_p17 : lw_okq (⟨"WholeMarksModel", "faultOf", "()I"⟩, 19) := ⟨⟨by decide +kernel, by decide +kernel⟩, List.mem_of_getElem? (i := 718) (by decide +kernel), List.mem_of_getElem? (i := 877) (by decide +kernel), List.mem_of_getElem? (i := 878) (by decide +kernel)⟩
theorem lw_p18 : lw_okq (⟨"WholeMarksModel", "ahead", "()I"⟩, 19) := ⟨⟨by decide +kernel, by decide +kernel⟩, List.mem_of_getElem? (i := 718) (by decide +kernel), List.mem_of_getElem? (i := 881) (by decide +kernel), List.mem_of_getElem? (i := 882) (by decide +kernel)⟩
theorem lw_p19 : lw_okq (⟨"WholeMarksModel", "sumOf", "(II)I"⟩, 19) := ⟨⟨by decide +kernel, by decide +kernel⟩, List.mem_of_getElem? (i := 718) (by decide +kernel), List.mem_of_getElem? (i := 903) (by decide +kernel), List.mem_of_getElem? (i := 904) (by decide +kernel)⟩
theorem lw_p20 : lw_okq (⟨"WholeMarksModel", "wasteOf", "()I"⟩, 19) := ⟨⟨by decide +kernel, by decide +kernel⟩, List.mem_of_getElem? (i := 718) (by decide +kernel), List.mem_of_getElem? (i := 907) (by decide +kernel), List.mem_of_getElem? (i := 908) (by decide +kernel)⟩
theorem lw_p21 : lw_okq (⟨"WholeMarksModel", "begin", "()V"⟩, 19) := ⟨⟨by decide +kernel, by decide +kernel⟩, List.mem_of_getElem? (i := 718) (by decide +kernel), List.mem_of_getElem? (i := 915) (by decide +kernel), List.mem_of_getElem? (i := 916) (by decide +kernel)⟩
theorem lw_p22 : lw_okq (⟨"WholeMarksModel", "groupsOf", "(I)I"⟩, 19) := ⟨⟨by decide +kernel, by decide +kernel⟩, List.mem_of_getElem? (i := 718) (by decide +kernel), List.mem_of_getElem? (i := 919) (by decide +kernel), List.mem_of_getElem? (i := 920) (by decide +kernel)⟩
theorem lw_p23 : lw_okq (⟨"WholeMarksModel", "take", "(II)V"⟩, 19) := ⟨⟨by decide +kernel, by decide +kernel⟩, List.mem_of_getElem? (i := 718) (by decide +kernel), List.mem_of_getElem? (i := 923) (by decide +kernel), List.mem_of_getElem? (i := 924) (by decide +kernel)⟩
theorem lw_p24 : lw_okq (⟨"WholeMarksModel", "goesOn", "(I)Z"⟩, 19) := ⟨⟨by decide +kernel, by decide +kernel⟩, List.mem_of_getElem? (i := 718) (by decide +kernel), List.mem_of_getElem? (i := 927) (by decide +kernel), List.mem_of_getElem? (i := 928) (by decide +kernel)⟩
theorem lw_p25 : lw_okq (⟨"WholeMarksModel", "priceOf", "(I)J"⟩, 19) := ⟨⟨by decide +kernel, by decide +kernel⟩, List.mem_of_getElem? (i := 718) (by decide +kernel), List.mem_of_getElem? (i := 944) (by decide +kernel), List.mem_of_getElem? (i := 945) (by decide +kernel)⟩
theorem lw_p26 : lw_okq (⟨"WholeMarksModel", "above", "(J)J"⟩, 19) := ⟨⟨by decide +kernel, by decide +kernel⟩, List.mem_of_getElem? (i := 718) (by decide +kernel), List.mem_of_getElem? (i := 948) (by decide +kernel), List.mem_of_getElem? (i := 949) (by decide +kernel)⟩
theorem lw_p27 : lw_okq (⟨"WholeMarksModel", "gains", "(I)Z"⟩, 19) := ⟨⟨by decide +kernel, by decide +kernel⟩, List.mem_of_getElem? (i := 718) (by decide +kernel), List.mem_of_getElem? (i := 981) (by decide +kernel), List.mem_of_getElem? (i := 982) (by decide +kernel)⟩
theorem lw_p28 : lw_okq (⟨"WholeMarksModel", "bars", "(IIII)I"⟩, 19) := ⟨⟨by decide +kernel, by decide +kernel⟩, List.mem_of_getElem? (i := 718) (by decide +kernel), List.mem_of_getElem? (i := 1004) (by decide +kernel), List.mem_of_getElem? (i := 1005) (by decide +kernel)⟩
def lw_privs_2 : List (MethodName × Nat) := [(⟨"WholeMarksModel", "seamOf", "(I)I"⟩, 19), (⟨"WholeMarksModel", "faultOf", "()I"⟩, 19), (⟨"WholeMarksModel", "ahead", "()I"⟩, 19), (⟨"WholeMarksModel", "sumOf", "(II)I"⟩, 19), (⟨"WholeMarksModel", "wasteOf", "()I"⟩, 19), (⟨"WholeMarksModel", "begin", "()V"⟩, 19), (⟨"WholeMarksModel", "groupsOf", "(I)I"⟩, 19), (⟨"WholeMarksModel", "take", "(II)V"⟩, 19), (⟨"WholeMarksModel", "goesOn", "(I)Z"⟩, 19), (⟨"WholeMarksModel", "priceOf", "(I)J"⟩, 19), (⟨"WholeMarksModel", "above", "(J)J"⟩, 19), (⟨"WholeMarksModel", "gains", "(I)Z"⟩, 19), (⟨"WholeMarksModel", "bars", "(IIII)I"⟩, 19)]
theorem lw_r2 : ∀ q ∈ lw_privs_2, lw_okq q := List.forall_mem_cons.mpr ⟨lw_p16, List.forall_mem_cons.mpr ⟨lw_p17, List.forall_mem_cons.mpr ⟨lw_p18, List.forall_mem_cons.mpr ⟨lw_p19, List.forall_mem_cons.mpr ⟨lw_p20, List.forall_mem_cons.mpr ⟨lw_p21, List.forall_mem_cons.mpr ⟨lw_p22, List.forall_mem_cons.mpr ⟨lw_p23, List.forall_mem_cons.mpr ⟨lw_p24, List.forall_mem_cons.mpr ⟨lw_p25, List.forall_mem_cons.mpr ⟨lw_p26, List.forall_mem_cons.mpr ⟨lw_p27, List.forall_mem_cons.mpr ⟨lw_p28, fun _ h => absurd h List.not_mem_nil⟩⟩⟩⟩⟩⟩⟩⟩⟩⟩⟩⟩⟩
def lw_privs : List (MethodName × Nat) := lw_privs_1 ++ (lw_privs_2)
def lw_tbl : List Cond := k2_sels lw_privs ++ tables_1
theorem lw_privs_ok : ∀ q ∈ lw_privs, lw_okq q := by
  show ∀ q ∈ lw_privs_1 ++ (lw_privs_2), lw_okq q
  exact List.forall_mem_append.mpr ⟨lw_r1, lw_r2⟩

def RX0 : String := "WholeMarks$Bolts"
def TX0 : u_T := fun k => match k with
  | 0 => ("WholeMarks$Bolts", "cloths", "[I", true)
  | 1 => ("WholeMarks$Bolts", "lengths", "[I", true)
  | 2 => ("WholeMarks$Bolts", "picked", "[I", true)
  | 3 => ("WholeMarks$Bolts", "held", "I", false)
  | 4 => ("WholeMarks$Bolts", "sold", "I", false)
  | _ => ("WholeMarks$Bolts", "seamInches", "I", false)
def tyX0 : Nat → FieldType := fun k => match k with
  | 0 => .array .int
  | 1 => .array .int
  | 2 => .array .int
  | 3 => .int
  | 4 => .int
  | _ => .int
abbrev wsX00 : List Cond := u_ws RX0 TX0 6
theorem nmX0 : ∀ a, a < 6 → ∀ b, b < 6 → a ≠ b → (TX0 a).2.1 ≠ (TX0 b).2.1 := by decide +kernel
theorem tyX0_ok : ∀ k, k < 6 → parseFieldDescriptor (TX0 k).2.2.1 = some (tyX0 k) := by decide +kernel
abbrev cX0_init : ByteArray := prog_2_method_1_code
def yX0_init : MethodName := ⟨RX0, "<init>", "()V"⟩
abbrev cX0_becomeLike : ByteArray := prog_2_method_2_code
def yX0_becomeLike : MethodName := ⟨RX0, "becomeLike", "(LWholeMarks$Bolts;)V"⟩
abbrev cX0_has : ByteArray := prog_2_method_3_code
def yX0_has : MethodName := ⟨RX0, "has", "(I)Z"⟩
abbrev cX0_add : ByteArray := prog_2_method_4_code
def yX0_add : MethodName := ⟨RX0, "add", "(II)I"⟩
abbrev cX0_inches : ByteArray := prog_2_method_5_code
def yX0_inches : MethodName := ⟨RX0, "inches", "()I"⟩
abbrev cX0_waste : ByteArray := prog_2_method_6_code
def yX0_waste : MethodName := ⟨RX0, "waste", "(LWholeMarks$Marks;)I"⟩
abbrev cX0_sell : ByteArray := prog_2_method_7_code
def yX0_sell : MethodName := ⟨RX0, "sell", "(II)I"⟩
abbrev cX0_canBeSewn : ByteArray := prog_2_method_8_code
def yX0_canBeSewn : MethodName := ⟨RX0, "canBeSewn", "(II)Z"⟩
abbrev cX0_sew : ByteArray := prog_2_method_9_code
def yX0_sew : MethodName := ⟨RX0, "sew", "(III)V"⟩
abbrev cX0_pick : ByteArray := prog_2_method_10_code
def yX0_pick : MethodName := ⟨RX0, "pick", "(I)I"⟩
abbrev cX0_lengthOfPicked : ByteArray := prog_2_method_11_code
def yX0_lengthOfPicked : MethodName := ⟨RX0, "lengthOfPicked", "(II)I"⟩
abbrev cX0_lengthOfAll : ByteArray := prog_2_method_12_code
def yX0_lengthOfAll : MethodName := ⟨RX0, "lengthOfAll", "(II)I"⟩
abbrev cX0_clothOf : ByteArray := prog_2_method_13_code
def yX0_clothOf : MethodName := ⟨RX0, "clothOf", "(I)LWholeMarks$Cloth;"⟩
def RX1 : String := "WholeMarks$Buyers"
def TX1 : u_T := fun k => match k with
  | 0 => ("WholeMarks$Buyers", "wanted", "[I", true)
  | _ => ("WholeMarks$Buyers", "held", "I", false)
def tyX1 : Nat → FieldType := fun k => match k with
  | 0 => .array .int
  | _ => .int
abbrev wsX10 : List Cond := u_ws RX1 TX1 2
theorem nmX1 : ∀ a, a < 2 → ∀ b, b < 2 → a ≠ b → (TX1 a).2.1 ≠ (TX1 b).2.1 := by decide +kernel
theorem tyX1_ok : ∀ k, k < 2 → parseFieldDescriptor (TX1 k).2.2.1 = some (tyX1 k) := by decide +kernel
abbrev cX1_init : ByteArray := prog_3_method_1_code
def yX1_init : MethodName := ⟨RX1, "<init>", "()V"⟩
abbrev cX1_becomeLike : ByteArray := prog_3_method_2_code
def yX1_becomeLike : MethodName := ⟨RX1, "becomeLike", "(LWholeMarks$Buyers;)V"⟩
abbrev cX1_add : ByteArray := prog_3_method_3_code
def yX1_add : MethodName := ⟨RX1, "add", "(I)I"⟩
abbrev cX1_everyone : ByteArray := prog_3_method_4_code
def yX1_everyone : MethodName := ⟨RX1, "everyone", "()I"⟩
abbrev cX1_wantedBy : ByteArray := prog_3_method_5_code
def yX1_wantedBy : MethodName := ⟨RX1, "wantedBy", "(I)I"⟩
def RX2 : String := "WholeMarks$Cloth"
def TX2 : u_T := fun k => match k with
  | _ => ("", "", "", false)
def tyX2 : Nat → FieldType := fun k => match k with
  | _ => .int
abbrev wsX20 : List Cond := u_ws RX2 TX2 0
def RX3 : String := "WholeMarks$Coins"
def TX3 : u_T := fun k => match k with
  | 0 => ("WholeMarks$Coins", "above", "[I", true)
  | _ => ("WholeMarks$Coins", "below", "[I", true)
def tyX3 : Nat → FieldType := fun k => match k with
  | 0 => .array .int
  | _ => .array .int
abbrev wsX30 : List Cond := u_ws RX3 TX3 2
theorem nmX3 : ∀ a, a < 2 → ∀ b, b < 2 → a ≠ b → (TX3 a).2.1 ≠ (TX3 b).2.1 := by decide +kernel
theorem tyX3_ok : ∀ k, k < 2 → parseFieldDescriptor (TX3 k).2.2.1 = some (tyX3 k) := by decide +kernel
abbrev cX3_init : ByteArray := prog_5_method_1_code
def yX3_init : MethodName := ⟨RX3, "<init>", "()V"⟩
abbrev cX3_becomeLike : ByteArray := prog_5_method_2_code
def yX3_becomeLike : MethodName := ⟨RX3, "becomeLike", "(LWholeMarks$Coins;)V"⟩
abbrev cX3_agree : ByteArray := prog_5_method_3_code
def yX3_agree : MethodName := ⟨RX3, "agree", "(IIII)I"⟩
abbrev cX3_digit : ByteArray := prog_5_method_4_code
def yX3_digit : MethodName := ⟨RX3, "digit", "(III)I"⟩
abbrev cX3_isRing : ByteArray := prog_5_method_5_code
def yX3_isRing : MethodName := ⟨RX3, "isRing", "(II)Z"⟩
abbrev cX3_gains : ByteArray := prog_5_method_6_code
def yX3_gains : MethodName := ⟨RX3, "gains", "(II)Z"⟩
abbrev cX3_named : ByteArray := prog_5_method_7_code
def yX3_named : MethodName := ⟨RX3, "named", "(II)I"⟩
abbrev cX3_changed : ByteArray := prog_5_method_8_code
def yX3_changed : MethodName := ⟨RX3, "changed", "(IIII)J"⟩
def RX4 : String := "WholeMarks$Groups"
def TX4 : u_T := fun k => match k with
  | 0 => ("WholeMarks$Groups", "worths", "[J", true)
  | 1 => ("WholeMarks$Groups", "members", "[I", true)
  | 2 => ("WholeMarks$Groups", "trial", "[I", true)
  | 3 => ("WholeMarks$Groups", "row", "[I", true)
  | 4 => ("WholeMarks$Groups", "most", "I", false)
  | 5 => ("WholeMarks$Groups", "largest", "I", false)
  | 6 => ("WholeMarks$Groups", "solved", "Z", false)
  | 7 => ("WholeMarks$Groups", "size", "I", false)
  | _ => ("WholeMarks$Groups", "worth", "J", false)
def tyX4 : Nat → FieldType := fun k => match k with
  | 0 => .array .long
  | 1 => .array .int
  | 2 => .array .int
  | 3 => .array .int
  | 4 => .int
  | 5 => .int
  | 6 => .boolean
  | 7 => .int
  | _ => .long
abbrev wsX40 : List Cond := u_ws RX4 TX4 9
theorem nmX4 : ∀ a, a < 9 → ∀ b, b < 9 → a ≠ b → (TX4 a).2.1 ≠ (TX4 b).2.1 := by decide +kernel
theorem tyX4_ok : ∀ k, k < 9 → parseFieldDescriptor (TX4 k).2.2.1 = some (tyX4 k) := by decide +kernel
abbrev cX4_init : ByteArray := prog_6_method_1_code
def yX4_init : MethodName := ⟨RX4, "<init>", "()V"⟩
abbrev cX4_setWorth : ByteArray := prog_6_method_2_code
def yX4_setWorth : MethodName := ⟨RX4, "setWorth", "(IJ)V"⟩
abbrev cX4_solve : ByteArray := prog_6_method_3_code
def yX4_solve : MethodName := ⟨RX4, "solve", "(II)V"⟩
abbrev cX4_seat : ByteArray := prog_6_method_4_code
def yX4_seat : MethodName := ⟨RX4, "seat", "(LWholeMarks$Groups;IIJ)V"⟩
abbrev cX4_keepIfBetter : ByteArray := prog_6_method_5_code
def yX4_keepIfBetter : MethodName := ⟨RX4, "keepIfBetter", "(IJ)V"⟩
def RX5 : String := "WholeMarks$Market"
def TX5 : u_T := fun k => match k with
  | 0 => ("WholeMarks$Market", "towns", "LWholeMarks$Towns;", true)
  | 1 => ("WholeMarks$Market", "bolts", "LWholeMarks$Bolts;", true)
  | 2 => ("WholeMarks$Market", "buyers", "LWholeMarks$Buyers;", true)
  | _ => ("WholeMarks$Market", "coins", "LWholeMarks$Coins;", true)
def tyX5 : Nat → FieldType := fun k => match k with
  | 0 => .object "WholeMarks$Towns"
  | 1 => .object "WholeMarks$Bolts"
  | 2 => .object "WholeMarks$Buyers"
  | _ => .object "WholeMarks$Coins"
abbrev wsX50 : List Cond := u_ws RX5 TX5 4
theorem nmX5 : ∀ a, a < 4 → ∀ b, b < 4 → a ≠ b → (TX5 a).2.1 ≠ (TX5 b).2.1 := by decide +kernel
theorem tyX5_ok : ∀ k, k < 4 → parseFieldDescriptor (TX5 k).2.2.1 = some (tyX5 k) := by decide +kernel
abbrev cX5_init : ByteArray := prog_7_method_1_code
def yX5_init : MethodName := ⟨RX5, "<init>", "()V"⟩
abbrev cX5_becomeLike : ByteArray := prog_7_method_2_code
def yX5_becomeLike : MethodName := ⟨RX5, "becomeLike", "(LWholeMarks$Market;)V"⟩
def RX6 : String := "WholeMarks$Marks"
def TX6 : u_T := fun k => match k with
  | 0 => ("WholeMarks$Marks", "steps", "[J", true)
  | 1 => ("WholeMarks$Marks", "kinds", "I", false)
  | _ => ("WholeMarks$Marks", "allMeet", "J", false)
def tyX6 : Nat → FieldType := fun k => match k with
  | 0 => .array .long
  | 1 => .int
  | _ => .long
abbrev wsX60 : List Cond := u_ws RX6 TX6 3
theorem nmX6 : ∀ a, a < 3 → ∀ b, b < 3 → a ≠ b → (TX6 a).2.1 ≠ (TX6 b).2.1 := by decide +kernel
theorem tyX6_ok : ∀ k, k < 3 → parseFieldDescriptor (TX6 k).2.2.1 = some (tyX6 k) := by decide +kernel
abbrev cX6_init : ByteArray := prog_8_method_1_code
def yX6_init : MethodName := ⟨RX6, "<init>", "()V"⟩
abbrev cX6_meetEvery : ByteArray := prog_8_method_2_code
def yX6_meetEvery : MethodName := ⟨RX6, "meetEvery", "(J)V"⟩
abbrev cX6_meetTwoOfThree : ByteArray := prog_8_method_3_code
def yX6_meetTwoOfThree : MethodName := ⟨RX6, "meetTwoOfThree", "(III)V"⟩
abbrev cX6_howManyTo : ByteArray := prog_8_method_4_code
def yX6_howManyTo : MethodName := ⟨RX6, "howManyTo", "(J)J"⟩
abbrev cX6_lastTo : ByteArray := prog_8_method_5_code
def yX6_lastTo : MethodName := ⟨RX6, "lastTo", "(J)J"⟩
abbrev cX6_firstFrom : ByteArray := prog_8_method_6_code
def yX6_firstFrom : MethodName := ⟨RX6, "firstFrom", "(J)J"⟩
abbrev cX6_areMetAt : ByteArray := prog_8_method_7_code
def yX6_areMetAt : MethodName := ⟨RX6, "areMetAt", "(J)Z"⟩
abbrev cX6_nth : ByteArray := prog_8_method_8_code
def yX6_nth : MethodName := ⟨RX6, "nth", "(I)J"⟩
def RX7 : String := "WholeMarks$Numbers"
def TX7 : u_T := fun k => match k with
  | _ => ("", "", "", false)
def tyX7 : Nat → FieldType := fun k => match k with
  | _ => .int
abbrev wsX70 : List Cond := u_ws RX7 TX7 0
abbrev cX7_at : ByteArray := prog_9_method_2_code
def yX7_at : MethodName := ⟨RX7, "at", "([II)I"⟩
abbrev cX7_at_ : ByteArray := prog_9_method_3_code
def yX7_at_ : MethodName := ⟨RX7, "at", "([JI)J"⟩
abbrev cX7_put : ByteArray := prog_9_method_4_code
def yX7_put : MethodName := ⟨RX7, "put", "([III)V"⟩
abbrev cX7_put_ : ByteArray := prog_9_method_5_code
def yX7_put_ : MethodName := ⟨RX7, "put", "([JIJ)V"⟩
abbrev cX7_fill : ByteArray := prog_9_method_6_code
def yX7_fill : MethodName := ⟨RX7, "fill", "([I[I)V"⟩
abbrev cX7_quotient : ByteArray := prog_9_method_7_code
def yX7_quotient : MethodName := ⟨RX7, "quotient", "(JJ)J"⟩
abbrev cX7_divides : ByteArray := prog_9_method_8_code
def yX7_divides : MethodName := ⟨RX7, "divides", "(JJ)Z"⟩
abbrev cX7_greatestCommon : ByteArray := prog_9_method_9_code
def yX7_greatestCommon : MethodName := ⟨RX7, "greatestCommon", "(JJ)J"⟩
abbrev cX7_leastCommon : ByteArray := prog_9_method_10_code
def yX7_leastCommon : MethodName := ⟨RX7, "leastCommon", "(JJ)J"⟩
def RX8 : String := "WholeMarks$Sheet"
def TX8 : u_T := fun k => match k with
  | 0 => ("WholeMarks$Sheet", "items", "[J", true)
  | 1 => ("WholeMarks$Sheet", "isThere", "Z", false)
  | 2 => ("WholeMarks$Sheet", "lane", "I", false)
  | _ => ("WholeMarks$Sheet", "length", "I", false)
def tyX8 : Nat → FieldType := fun k => match k with
  | 0 => .array .long
  | 1 => .boolean
  | 2 => .int
  | _ => .int
abbrev wsX80 : List Cond := u_ws RX8 TX8 4
theorem nmX8 : ∀ a, a < 4 → ∀ b, b < 4 → a ≠ b → (TX8 a).2.1 ≠ (TX8 b).2.1 := by decide +kernel
theorem tyX8_ok : ∀ k, k < 4 → parseFieldDescriptor (TX8 k).2.2.1 = some (tyX8 k) := by decide +kernel
abbrev cX8_init : ByteArray := prog_10_method_1_code
def yX8_init : MethodName := ⟨RX8, "<init>", "()V"⟩
abbrev cX8_begin : ByteArray := prog_10_method_2_code
def yX8_begin : MethodName := ⟨RX8, "begin", "(II)V"⟩
abbrev cX8_spans : ByteArray := prog_10_method_3_code
def yX8_spans : MethodName := ⟨RX8, "spans", "(II)Z"⟩
abbrev cX8_write : ByteArray := prog_10_method_4_code
def yX8_write : MethodName := ⟨RX8, "write", "(IJ)V"⟩
abbrev cX8_allWithin : ByteArray := prog_10_method_5_code
def yX8_allWithin : MethodName := ⟨RX8, "allWithin", "(IIII)Z"⟩
abbrev cX8_sumOf : ByteArray := prog_10_method_6_code
def yX8_sumOf : MethodName := ⟨RX8, "sumOf", "(II)J"⟩
abbrev cX8_commonOf : ByteArray := prog_10_method_7_code
def yX8_commonOf : MethodName := ⟨RX8, "commonOf", "(II)J"⟩
def RX9 : String := "WholeMarks$Tape"
def TX9 : u_T := fun k => match k with
  | 0 => ("WholeMarks$Tape", "signs", "[I", true)
  | 1 => ("WholeMarks$Tape", "length", "I", false)
  | 2 => ("WholeMarks$Tape", "at", "I", false)
  | 3 => ("WholeMarks$Tape", "measures", "[I", true)
  | 4 => ("WholeMarks$Tape", "counting", "I", false)
  | _ => ("WholeMarks$Tape", "law", "I", false)
def tyX9 : Nat → FieldType := fun k => match k with
  | 0 => .array .int
  | 1 => .int
  | 2 => .int
  | 3 => .array .int
  | 4 => .int
  | _ => .int
abbrev wsX90 : List Cond := u_ws RX9 TX9 6
theorem nmX9 : ∀ a, a < 6 → ∀ b, b < 6 → a ≠ b → (TX9 a).2.1 ≠ (TX9 b).2.1 := by decide +kernel
theorem tyX9_ok : ∀ k, k < 6 → parseFieldDescriptor (TX9 k).2.2.1 = some (tyX9 k) := by decide +kernel
abbrev cX9_init : ByteArray := prog_11_method_1_code
def yX9_init : MethodName := ⟨RX9, "<init>", "()V"⟩
abbrev cX9_add : ByteArray := prog_11_method_2_code
def yX9_add : MethodName := ⟨RX9, "add", "(I)V"⟩
abbrev cX9_read : ByteArray := prog_11_method_3_code
def yX9_read : MethodName := ⟨RX9, "read", "()I"⟩
abbrev cX9_peek : ByteArray := prog_11_method_4_code
def yX9_peek : MethodName := ⟨RX9, "peek", "()I"⟩
abbrev cX9_readMeasures : ByteArray := prog_11_method_5_code
def yX9_readMeasures : MethodName := ⟨RX9, "readMeasures", "()Z"⟩
abbrev cX9_readNumber : ByteArray := prog_11_method_6_code
def yX9_readNumber : MethodName := ⟨RX9, "readNumber", "()I"⟩
abbrev cX9_isDigit : ByteArray := prog_11_method_7_code
def yX9_isDigit : MethodName := ⟨RX9, "isDigit", "(I)Z"⟩
abbrev cX9_readCounting : ByteArray := prog_11_method_8_code
def yX9_readCounting : MethodName := ⟨RX9, "readCounting", "()Z"⟩
def RX10 : String := "WholeMarks$Towns"
def TX10 : u_T := fun k => match k with
  | 0 => ("WholeMarks$Towns", "measures", "[I", true)
  | 1 => ("WholeMarks$Towns", "counting", "I", false)
  | _ => ("WholeMarks$Towns", "law", "I", false)
def tyX10 : Nat → FieldType := fun k => match k with
  | 0 => .array .int
  | 1 => .int
  | _ => .int
abbrev wsX100 : List Cond := u_ws RX10 TX10 3
theorem nmX10 : ∀ a, a < 3 → ∀ b, b < 3 → a ≠ b → (TX10 a).2.1 ≠ (TX10 b).2.1 := by decide +kernel
theorem tyX10_ok : ∀ k, k < 3 → parseFieldDescriptor (TX10 k).2.2.1 = some (tyX10 k) := by decide +kernel
abbrev cX10_init : ByteArray := prog_12_method_1_code
def yX10_init : MethodName := ⟨RX10, "<init>", "()V"⟩
abbrev cX10_becomeLike : ByteArray := prog_12_method_2_code
def yX10_becomeLike : MethodName := ⟨RX10, "becomeLike", "(LWholeMarks$Towns;)V"⟩
abbrev cX10_take : ByteArray := prog_12_method_3_code
def yX10_take : MethodName := ⟨RX10, "take", "(LWholeMarks$Tape;)V"⟩
abbrev cX10_lay : ByteArray := prog_12_method_4_code
def yX10_lay : MethodName := ⟨RX10, "lay", "(LWholeMarks$Marks;)V"⟩
def RX11 : String := "WholeMarks"
def TX11 : u_T := fun k => match k with
  | 0 => ("WholeMarks", "market", "LWholeMarks$Market;", true)
  | 1 => ("WholeMarks", "kept", "LWholeMarks$Market;", true)
  | 2 => ("WholeMarks", "hasImage", "Z", false)
  | 3 => ("WholeMarks", "tape", "LWholeMarks$Tape;", true)
  | 4 => ("WholeMarks", "sheets", "[LWholeMarks$Sheet;", true)
  | 5 => ("WholeMarks", "marks", "LWholeMarks$Marks;", true)
  | _ => ("WholeMarks", "groups", "LWholeMarks$Groups;", true)
def tyX11 : Nat → FieldType := fun k => match k with
  | 0 => .object "WholeMarks$Market"
  | 1 => .object "WholeMarks$Market"
  | 2 => .boolean
  | 3 => .object "WholeMarks$Tape"
  | 4 => .array (.object "WholeMarks$Sheet")
  | 5 => .object "WholeMarks$Marks"
  | _ => .object "WholeMarks$Groups"
abbrev wsX110 : List Cond := u_ws RX11 TX11 7
theorem nmX11 : ∀ a, a < 7 → ∀ b, b < 7 → a ≠ b → (TX11 a).2.1 ≠ (TX11 b).2.1 := by decide +kernel
theorem tyX11_ok : ∀ k, k < 7 → parseFieldDescriptor (TX11 k).2.2.1 = some (tyX11 k) := by decide +kernel
abbrev cX11_init : ByteArray := prog_1_method_1_code
def yX11_init : MethodName := ⟨RX11, "<init>", "()V"⟩
abbrev cX11_measure : ByteArray := prog_1_method_2_code
def yX11_measure : MethodName := ⟨RX11, "measure", "(II)I"⟩
abbrev cX11_rule : ByteArray := prog_1_method_3_code
def yX11_rule : MethodName := ⟨RX11, "rule", "(II)I"⟩
abbrev cX11_seam : ByteArray := prog_1_method_4_code
def yX11_seam : MethodName := ⟨RX11, "seam", "(I)I"⟩
abbrev cX11_place : ByteArray := prog_1_method_5_code
def yX11_place : MethodName := ⟨RX11, "place", "(I)J"⟩
abbrev cX11_places : ByteArray := prog_1_method_6_code
def yX11_places : MethodName := ⟨RX11, "places", "(J)J"⟩
abbrev cX11_bolt : ByteArray := prog_1_method_7_code
def yX11_bolt : MethodName := ⟨RX11, "bolt", "(II)I"⟩
abbrev cX11_told : ByteArray := prog_1_method_8_code
def yX11_told : MethodName := ⟨RX11, "told", "(II)I"⟩
abbrev cX11_cut : ByteArray := prog_1_method_9_code
def yX11_cut : MethodName := ⟨RX11, "cut", "(II)I"⟩
abbrev cX11_join : ByteArray := prog_1_method_10_code
def yX11_join : MethodName := ⟨RX11, "join", "(II)I"⟩
abbrev cX11_type : ByteArray := prog_1_method_11_code
def yX11_type : MethodName := ⟨RX11, "type", "(JI)I"⟩
abbrev cX11_towns : ByteArray := prog_1_method_12_code
def yX11_towns : MethodName := ⟨RX11, "towns", "()I"⟩
abbrev cX11_count : ByteArray := prog_1_method_13_code
def yX11_count : MethodName := ⟨RX11, "count", "(I)I"⟩
abbrev cX11_most : ByteArray := prog_1_method_14_code
def yX11_most : MethodName := ⟨RX11, "most", "(II)I"⟩
abbrev cX11_buyer : ByteArray := prog_1_method_15_code
def yX11_buyer : MethodName := ⟨RX11, "buyer", "(I)I"⟩
abbrev cX11_home : ByteArray := prog_1_method_16_code
def yX11_home : MethodName := ⟨RX11, "home", "()I"⟩
abbrev cX11_price : ByteArray := prog_1_method_17_code
def yX11_price : MethodName := ⟨RX11, "price", "(I)J"⟩
abbrev cX11_parties : ByteArray := prog_1_method_18_code
def yX11_parties : MethodName := ⟨RX11, "parties", "(II)J"⟩
abbrev cX11_third : ByteArray := prog_1_method_19_code
def yX11_third : MethodName := ⟨RX11, "third", "(I)I"⟩
abbrev cX11_worn : ByteArray := prog_1_method_20_code
def yX11_worn : MethodName := ⟨RX11, "worn", "(I)I"⟩
abbrev cX11_rate : ByteArray := prog_1_method_21_code
def yX11_rate : MethodName := ⟨RX11, "rate", "(IIII)I"⟩
abbrev cX11_rings : ByteArray := prog_1_method_22_code
def yX11_rings : MethodName := ⟨RX11, "rings", "(I)I"⟩
abbrev cX11_turn : ByteArray := prog_1_method_23_code
def yX11_turn : MethodName := ⟨RX11, "turn", "(IIII)J"⟩
abbrev cX11_image : ByteArray := prog_1_method_24_code
def yX11_image : MethodName := ⟨RX11, "image", "()I"⟩
abbrev cX11_restore : ByteArray := prog_1_method_25_code
def yX11_restore : MethodName := ⟨RX11, "restore", "()I"⟩
abbrev cX11_leaves : ByteArray := prog_1_method_26_code
def yX11_leaves : MethodName := ⟨RX11, "leaves", "(III)I"⟩
abbrev cX11_fit : ByteArray := prog_1_method_27_code
def yX11_fit : MethodName := ⟨RX11, "fit", "(IIIII)I"⟩
abbrev cX11_film : ByteArray := prog_1_method_28_code
def yX11_film : MethodName := ⟨RX11, "film", "(III)I"⟩
abbrev cX11_sheet : ByteArray := prog_1_method_29_code
def yX11_sheet : MethodName := ⟨RX11, "sheet", "(III)I"⟩
abbrev cX11_drop : ByteArray := prog_1_method_30_code
def yX11_drop : MethodName := ⟨RX11, "drop", "(I)I"⟩
abbrev cX11_item : ByteArray := prog_1_method_31_code
def yX11_item : MethodName := ⟨RX11, "item", "(IIIJ)I"⟩
abbrev cX11_copy : ByteArray := prog_1_method_32_code
def yX11_copy : MethodName := ⟨RX11, "copy", "(IIIII)I"⟩
abbrev cX11_within : ByteArray := prog_1_method_33_code
def yX11_within : MethodName := ⟨RX11, "within", "(III)Z"⟩
abbrev cX11_isCloth : ByteArray := prog_1_method_34_code
def yX11_isCloth : MethodName := ⟨RX11, "isCloth", "(I)Z"⟩
abbrev cX11_byteOf : ByteArray := prog_1_method_35_code
def yX11_byteOf : MethodName := ⟨RX11, "byteOf", "(JI)I"⟩
abbrev cX11_marksNow : ByteArray := prog_1_method_36_code
def yX11_marksNow : MethodName := ⟨RX11, "marksNow", "()LWholeMarks$Marks;"⟩
abbrev cX11_priceOf : ByteArray := prog_1_method_37_code
def yX11_priceOf : MethodName := ⟨RX11, "priceOf", "(LWholeMarks$Marks;I)J"⟩
abbrev cX11_groupBolts : ByteArray := prog_1_method_38_code
def yX11_groupBolts : MethodName := ⟨RX11, "groupBolts", "(I)V"⟩
abbrev cX11_groupBuyers : ByteArray := prog_1_method_39_code
def yX11_groupBuyers : MethodName := ⟨RX11, "groupBuyers", "(I)V"⟩
abbrev cX11_sheetOf : ByteArray := prog_1_method_40_code
def yX11_sheetOf : MethodName := ⟨RX11, "sheetOf", "(I)LWholeMarks$Sheet;"⟩
abbrev cX11_refusal : ByteArray := prog_1_method_41_code
def yX11_refusal : MethodName := ⟨RX11, "refusal", "(IIII)I"⟩
abbrev cX11_howManyFit : ByteArray := prog_1_method_42_code
def yX11_howManyFit : MethodName := ⟨RX11, "howManyFit", "(J)I"⟩
abbrev cX11_bestFit : ByteArray := prog_1_method_43_code
def yX11_bestFit : MethodName := ⟨RX11, "bestFit", "(J)I"⟩
def RX12 : String := "WholeMarksModel"
def TX12 : u_T := fun k => match k with
  | 0 => ("WholeMarksModel", "w", "[I", true)
  | 1 => ("WholeMarksModel", "isKept", "Z", false)
  | 2 => ("WholeMarksModel", "tape", "[I", true)
  | 3 => ("WholeMarksModel", "taped", "I", false)
  | 4 => ("WholeMarksModel", "steps", "[J", true)
  | 5 => ("WholeMarksModel", "stepMany", "I", false)
  | 6 => ("WholeMarksModel", "all", "J", false)
  | 7 => ("WholeMarksModel", "at", "I", false)
  | 8 => ("WholeMarksModel", "read", "[I", true)
  | 9 => ("WholeMarksModel", "readSet", "I", false)
  | 10 => ("WholeMarksModel", "readLaw", "I", false)
  | 11 => ("WholeMarksModel", "row", "[I", true)
  | 12 => ("WholeMarksModel", "best", "[I", true)
  | 13 => ("WholeMarksModel", "bestGroups", "I", false)
  | 14 => ("WholeMarksModel", "some", "[I", true)
  | 15 => ("WholeMarksModel", "lanes", "[I", true)
  | 16 => ("WholeMarksModel", "sizes", "[I", true)
  | 17 => ("WholeMarksModel", "items", "[J", true)
  | _ => ("WholeMarksModel", "hands", "[J", true)
def tyX12 : Nat → FieldType := fun k => match k with
  | 0 => .array .int
  | 1 => .boolean
  | 2 => .array .int
  | 3 => .int
  | 4 => .array .long
  | 5 => .int
  | 6 => .long
  | 7 => .int
  | 8 => .array .int
  | 9 => .int
  | 10 => .int
  | 11 => .array .int
  | 12 => .array .int
  | 13 => .int
  | 14 => .array .int
  | 15 => .array .int
  | 16 => .array .int
  | 17 => .array .long
  | _ => .array .long
abbrev wsX120 : List Cond := u_ws RX12 TX12 19
theorem nmX12 : ∀ a, a < 19 → ∀ b, b < 19 → a ≠ b → (TX12 a).2.1 ≠ (TX12 b).2.1 := by decide +kernel
theorem tyX12_ok : ∀ k, k < 19 → parseFieldDescriptor (TX12 k).2.2.1 = some (tyX12 k) := by decide +kernel
abbrev cX12_init : ByteArray := prog_14_method_1_code
def yX12_init : MethodName := ⟨RX12, "<init>", "()V"⟩
abbrev cX12_in : ByteArray := prog_14_method_3_code
def yX12_in : MethodName := ⟨RX12, "in", "(JJJ)Z"⟩
abbrev cX12_has : ByteArray := prog_14_method_4_code
def yX12_has : MethodName := ⟨RX12, "has", "(II)Z"⟩
abbrev cX12_lesser : ByteArray := prog_14_method_5_code
def yX12_lesser : MethodName := ⟨RX12, "lesser", "(JJ)J"⟩
abbrev cX12_greater : ByteArray := prog_14_method_6_code
def yX12_greater : MethodName := ⟨RX12, "greater", "(JJ)J"⟩
abbrev cX12_ones : ByteArray := prog_14_method_7_code
def yX12_ones : MethodName := ⟨RX12, "ones", "(I)I"⟩
abbrev cX12_divisor : ByteArray := prog_14_method_8_code
def yX12_divisor : MethodName := ⟨RX12, "divisor", "(JJ)J"⟩
abbrev cX12_common : ByteArray := prog_14_method_9_code
def yX12_common : MethodName := ⟨RX12, "common", "(JJ)J"⟩
abbrev cX12_lay : ByteArray := prog_14_method_10_code
def yX12_lay : MethodName := ⟨RX12, "lay", "(III)V"⟩
abbrev cX12_layNow : ByteArray := prog_14_method_11_code
def yX12_layNow : MethodName := ⟨RX12, "layNow", "()V"⟩
abbrev cX12_below : ByteArray := prog_14_method_12_code
def yX12_below : MethodName := ⟨RX12, "below", "(J)J"⟩
abbrev cX12_above : ByteArray := prog_14_method_13_code
def yX12_above : MethodName := ⟨RX12, "above", "(J)J"⟩
abbrev cX12_manyUpTo : ByteArray := prog_14_method_14_code
def yX12_manyUpTo : MethodName := ⟨RX12, "manyUpTo", "(J)J"⟩
abbrev cX12_measure : ByteArray := prog_14_method_15_code
def yX12_measure : MethodName := ⟨RX12, "measure", "(II)I"⟩
abbrev cX12_rule : ByteArray := prog_14_method_16_code
def yX12_rule : MethodName := ⟨RX12, "rule", "(II)I"⟩
abbrev cX12_seam : ByteArray := prog_14_method_17_code
def yX12_seam : MethodName := ⟨RX12, "seam", "(I)I"⟩
abbrev cX12_place : ByteArray := prog_14_method_18_code
def yX12_place : MethodName := ⟨RX12, "place", "(I)J"⟩
abbrev cX12_places : ByteArray := prog_14_method_19_code
def yX12_places : MethodName := ⟨RX12, "places", "(J)J"⟩
abbrev cX12_isBolt : ByteArray := prog_14_method_20_code
def yX12_isBolt : MethodName := ⟨RX12, "isBolt", "(I)Z"⟩
abbrev cX12_bolt : ByteArray := prog_14_method_21_code
def yX12_bolt : MethodName := ⟨RX12, "bolt", "(II)I"⟩
abbrev cX12_told : ByteArray := prog_14_method_22_code
def yX12_told : MethodName := ⟨RX12, "told", "(II)I"⟩
abbrev cX12_cut : ByteArray := prog_14_method_23_code
def yX12_cut : MethodName := ⟨RX12, "cut", "(II)I"⟩
abbrev cX12_seamOf : ByteArray := prog_14_method_24_code
def yX12_seamOf : MethodName := ⟨RX12, "seamOf", "(I)I"⟩
abbrev cX12_join : ByteArray := prog_14_method_25_code
def yX12_join : MethodName := ⟨RX12, "join", "(II)I"⟩
abbrev cX12_type : ByteArray := prog_14_method_26_code
def yX12_type : MethodName := ⟨RX12, "type", "(JI)I"⟩
abbrev cX12_ahead : ByteArray := prog_14_method_27_code
def yX12_ahead : MethodName := ⟨RX12, "ahead", "()I"⟩
abbrev cX12_faultOf : ByteArray := prog_14_method_28_code
def yX12_faultOf : MethodName := ⟨RX12, "faultOf", "()I"⟩
abbrev cX12_towns : ByteArray := prog_14_method_29_code
def yX12_towns : MethodName := ⟨RX12, "towns", "()I"⟩
abbrev cX12_sumOf : ByteArray := prog_14_method_30_code
def yX12_sumOf : MethodName := ⟨RX12, "sumOf", "(II)I"⟩
abbrev cX12_wasteOf : ByteArray := prog_14_method_31_code
def yX12_wasteOf : MethodName := ⟨RX12, "wasteOf", "()I"⟩
abbrev cX12_count : ByteArray := prog_14_method_32_code
def yX12_count : MethodName := ⟨RX12, "count", "(I)I"⟩
abbrev cX12_goesOn : ByteArray := prog_14_method_33_code
def yX12_goesOn : MethodName := ⟨RX12, "goesOn", "(I)Z"⟩
abbrev cX12_begin : ByteArray := prog_14_method_34_code
def yX12_begin : MethodName := ⟨RX12, "begin", "()V"⟩
abbrev cX12_groupsOf : ByteArray := prog_14_method_35_code
def yX12_groupsOf : MethodName := ⟨RX12, "groupsOf", "(I)I"⟩
abbrev cX12_take : ByteArray := prog_14_method_36_code
def yX12_take : MethodName := ⟨RX12, "take", "(II)V"⟩
abbrev cX12_most : ByteArray := prog_14_method_37_code
def yX12_most : MethodName := ⟨RX12, "most", "(II)I"⟩
abbrev cX12_buyer : ByteArray := prog_14_method_38_code
def yX12_buyer : MethodName := ⟨RX12, "buyer", "(I)I"⟩
abbrev cX12_home : ByteArray := prog_14_method_39_code
def yX12_home : MethodName := ⟨RX12, "home", "()I"⟩
abbrev cX12_priceOf : ByteArray := prog_14_method_40_code
def yX12_priceOf : MethodName := ⟨RX12, "priceOf", "(I)J"⟩
abbrev cX12_price : ByteArray := prog_14_method_41_code
def yX12_price : MethodName := ⟨RX12, "price", "(I)J"⟩
abbrev cX12_parties : ByteArray := prog_14_method_42_code
def yX12_parties : MethodName := ⟨RX12, "parties", "(II)J"⟩
abbrev cX12_third : ByteArray := prog_14_method_43_code
def yX12_third : MethodName := ⟨RX12, "third", "(I)I"⟩
abbrev cX12_worn : ByteArray := prog_14_method_44_code
def yX12_worn : MethodName := ⟨RX12, "worn", "(I)I"⟩
abbrev cX12_rateAt : ByteArray := prog_14_method_45_code
def yX12_rateAt : MethodName := ⟨RX12, "rateAt", "(II)I"⟩
abbrev cX12_isCoin : ByteArray := prog_14_method_46_code
def yX12_isCoin : MethodName := ⟨RX12, "isCoin", "(I)Z"⟩
abbrev cX12_rate : ByteArray := prog_14_method_47_code
def yX12_rate : MethodName := ⟨RX12, "rate", "(IIII)I"⟩
abbrev cX12_gains : ByteArray := prog_14_method_48_code
def yX12_gains : MethodName := ⟨RX12, "gains", "(I)Z"⟩
abbrev cX12_rings : ByteArray := prog_14_method_49_code
def yX12_rings : MethodName := ⟨RX12, "rings", "(I)I"⟩
abbrev cX12_turn : ByteArray := prog_14_method_50_code
def yX12_turn : MethodName := ⟨RX12, "turn", "(IIII)J"⟩
abbrev cX12_image : ByteArray := prog_14_method_51_code
def yX12_image : MethodName := ⟨RX12, "image", "()I"⟩
abbrev cX12_restore : ByteArray := prog_14_method_52_code
def yX12_restore : MethodName := ⟨RX12, "restore", "()I"⟩
abbrev cX12_isSheet : ByteArray := prog_14_method_53_code
def yX12_isSheet : MethodName := ⟨RX12, "isSheet", "(I)Z"⟩
abbrev cX12_bars : ByteArray := prog_14_method_54_code
def yX12_bars : MethodName := ⟨RX12, "bars", "(IIII)I"⟩
abbrev cX12_cutTo : ByteArray := prog_14_method_55_code
def yX12_cutTo : MethodName := ⟨RX12, "cutTo", "(IJ)J"⟩
abbrev cX12_leaves : ByteArray := prog_14_method_56_code
def yX12_leaves : MethodName := ⟨RX12, "leaves", "(III)I"⟩
abbrev cX12_fit : ByteArray := prog_14_method_57_code
def yX12_fit : MethodName := ⟨RX12, "fit", "(IIIII)I"⟩
abbrev cX12_film : ByteArray := prog_14_method_58_code
def yX12_film : MethodName := ⟨RX12, "film", "(III)I"⟩
abbrev cX12_sheet : ByteArray := prog_14_method_59_code
def yX12_sheet : MethodName := ⟨RX12, "sheet", "(III)I"⟩
abbrev cX12_drop : ByteArray := prog_14_method_60_code
def yX12_drop : MethodName := ⟨RX12, "drop", "(I)I"⟩
abbrev cX12_item : ByteArray := prog_14_method_61_code
def yX12_item : MethodName := ⟨RX12, "item", "(IIIJ)I"⟩
abbrev cX12_copy : ByteArray := prog_14_method_62_code
def yX12_copy : MethodName := ⟨RX12, "copy", "(IIIII)I"⟩
def RJx29ce0 : String := "java/lang/Enum"
def TJx29ce0 : u_T := fun k => match k with
  | _ => ("", "", "", false)
def tyJx29ce0 : Nat → FieldType := fun k => match k with
  | _ => .int
theorem nmJx29ce0 : ∀ a, a < 0 → ∀ b, b < 0 → a ≠ b → (TJx29ce0 a).2.1 ≠ (TJx29ce0 b).2.1 := by decide +kernel
theorem tyJx29ce0_ok : ∀ k, k < 0 → parseFieldDescriptor (TJx29ce0 k).2.2.1 = some (tyJx29ce0 k) := by decide +kernel
def RJ6 : String := "java/lang/Integer"
def TJ6 : u_T := fun k => match k with
  | _ => ("", "", "", false)
def tyJ6 : Nat → FieldType := fun k => match k with
  | _ => .int
theorem nmJ6 : ∀ a, a < 0 → ∀ b, b < 0 → a ≠ b → (TJ6 a).2.1 ≠ (TJ6 b).2.1 := by decide +kernel
theorem tyJ6_ok : ∀ k, k < 0 → parseFieldDescriptor (TJ6 k).2.2.1 = some (tyJ6 k) := by decide +kernel
abbrev cJ6_bitCount_0f7a4 : ByteArray := prog_16_method_49_code
def yJ6_bitCount_0f7a4 : MethodName := ⟨RJ6, "bitCount", "(I)I"⟩
def RJ9 : String := "java/lang/Math"
def TJ9 : u_T := fun k => match k with
  | _ => ("", "", "", false)
def tyJ9 : Nat → FieldType := fun k => match k with
  | _ => .int
theorem nmJ9 : ∀ a, a < 0 → ∀ b, b < 0 → a ≠ b → (TJ9 a).2.1 ≠ (TJ9 b).2.1 := by decide +kernel
theorem tyJ9_ok : ∀ k, k < 0 → parseFieldDescriptor (TJ9 k).2.2.1 = some (tyJ9 k) := by decide +kernel
abbrev cJ9_max_7cf53 : ByteArray := prog_17_method_65_code
def yJ9_max_7cf53 : MethodName := ⟨RJ9, "max", "(II)I"⟩
abbrev cJ9_max_f86c9 : ByteArray := prog_17_method_66_code
def yJ9_max_f86c9 : MethodName := ⟨RJ9, "max", "(JJ)J"⟩
abbrev cJ9_min_7cf53 : ByteArray := prog_17_method_69_code
def yJ9_min_7cf53 : MethodName := ⟨RJ9, "min", "(II)I"⟩
abbrev cJ9_min_f86c9 : ByteArray := prog_17_method_70_code
def yJ9_min_f86c9 : MethodName := ⟨RJ9, "min", "(JJ)J"⟩
def RJ10 : String := "java/lang/System"
def TJ10 : u_T := fun k => match k with
  | _ => ("", "", "", false)
def tyJ10 : Nat → FieldType := fun k => match k with
  | _ => .int
theorem nmJ10 : ∀ a, a < 0 → ∀ b, b < 0 → a ≠ b → (TJ10 a).2.1 ≠ (TJ10 b).2.1 := by decide +kernel
theorem tyJ10_ok : ∀ k, k < 0 → parseFieldDescriptor (TJ10 k).2.2.1 = some (tyJ10 k) := by decide +kernel
def RL : String := "WholeMarksLaw"
abbrev cL_law : ByteArray := code
def yL_law : MethodName := ⟨RL, "law", "([I)Z"⟩
abbrev vwCl : List vw_C := [(RX0, TX0, 6), (RX1, TX1, 2), (RX3, TX3, 2), (RX4, TX4, 9), (RX5, TX5, 4), (RX6, TX6, 3), (RX8, TX8, 4), (RX9, TX9, 6), (RX10, TX10, 3), (RX11, TX11, 7), (RX12, TX12, 19)]
