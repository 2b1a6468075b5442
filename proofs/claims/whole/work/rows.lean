section
/-! ===== BEGIN words of one list among another's, by their places ===== -/
theorem goodIn_r {big : List Cond} (ws : List Cond) (ps : List Nat) (hp : ws = ps.filterMap (fun i => big[i]?)) (h : ws.all goodWord = true) : GoodIn big ws := by
  intro w hw
  have h1 := List.all_eq_true.mp h w hw
  rw [hp] at hw
  obtain ⟨i, -, hi⟩ := List.mem_filterMap.mp hw
  have hm : w ∈ big := by first | exact List.mem_of_getElem? hi | exact List.getElem?_mem hi
  exact ⟨hm, good_of_word h1⟩
theorem goodIn_app {big a b : List Cond} (ha : GoodIn big a) (hb : GoodIn big b) : GoodIn big (a ++ b) := fun w h => (List.mem_append.mp h).elim (ha w) (hb w)
theorem goodIn_ca {big a b : List Cond} {c : Cond} (ha : GoodIn big (c :: a)) (hb : GoodIn big b) : GoodIn big (c :: (a ++ b)) := fun w h => (List.mem_cons.mp h).elim (fun e => ha w (List.mem_cons.mpr (Or.inl e))) (fun h => (List.mem_append.mp h).elim (fun h => ha w (List.mem_cons.mpr (Or.inr h))) (hb w))
theorem goodIn_sub {big ws : List Cond} (hm : ∀ w ∈ ws, w ∈ big) (h : ws.all goodWord = true) : GoodIn big ws := fun w hw => ⟨hm w hw, good_of_word (List.all_eq_true.mp h w hw)⟩
/-! ===== END ===== -/

/-! ===== BEGIN printed: names, fields, word lists, decode rows ===== -/
def RX0 : String := "MarginTable$Points"
def TX0 : u_T := fun k => match k with
  | 0 => ("MarginTable$Points", "x", "[I", true)
  | 1 => ("MarginTable$Points", "y", "[I", true)
  | 2 => ("MarginTable$Points", "label", "[I", true)
  | 3 => ("MarginTable$Points", "size", "I", false)
  | _ => ("MarginTable$Points", "power", "I", false)
def tyX0 : Nat → FieldType := fun k => match k with
  | 0 => .array .int
  | 1 => .array .int
  | 2 => .array .int
  | 3 => .int
  | _ => .int
abbrev wsX00 : List Cond := u_ws RX0 TX0 5
theorem nmX0 : ∀ a, a < 5 → ∀ b, b < 5 → a ≠ b → (TX0 a).2.1 ≠ (TX0 b).2.1 := by decide +kernel
theorem tyX0_ok : ∀ k, k < 5 → parseFieldDescriptor (TX0 k).2.2.1 = some (tyX0 k) := by decide +kernel
abbrev cX0_init : ByteArray := prog_2_method_1_code
def yX0_init : MethodName := ⟨RX0, "<init>", "()V"⟩
abbrev cX0_isPlace : ByteArray := prog_2_method_2_code
def yX0_isPlace : MethodName := ⟨RX0, "isPlace", "(II)Z"⟩
abbrev cX0_mostWith : ByteArray := prog_2_method_3_code
def yX0_mostWith : MethodName := ⟨RX0, "mostWith", "(I)I"⟩
abbrev cX0_has : ByteArray := prog_2_method_4_code
def yX0_has : MethodName := ⟨RX0, "has", "(I)Z"⟩
abbrev cX0_add : ByteArray := prog_2_method_5_code
def yX0_add : MethodName := ⟨RX0, "add", "(III)V"⟩
abbrev cX0_kernel : ByteArray := prog_2_method_6_code
def yX0_kernel : MethodName := ⟨RX0, "kernel", "(III)I"⟩
abbrev cX0_product : ByteArray := prog_2_method_7_code
def yX0_product : MethodName := ⟨RX0, "product", "(II)I"⟩
def RX1 : String := "MarginTable$Table"
def TX1 : u_T := fun k => match k with
  | 0 => ("MarginTable$Table", "cell", "[[J", true)
  | 1 => ("MarginTable$Table", "tells", "[I", true)
  | 2 => ("MarginTable$Table", "entered", "[I", true)
  | 3 => ("MarginTable$Table", "left", "[I", true)
  | 4 => ("MarginTable$Table", "turnedAt", "[I", true)
  | 5 => ("MarginTable$Table", "rows", "I", false)
  | 6 => ("MarginTable$Table", "steps", "I", false)
  | 7 => ("MarginTable$Table", "state", "I", false)
  | _ => ("MarginTable$Table", "scale", "J", false)
def tyX1 : Nat → FieldType := fun k => match k with
  | 0 => .array (.array .long)
  | 1 => .array .int
  | 2 => .array .int
  | 3 => .array .int
  | 4 => .array .int
  | 5 => .int
  | 6 => .int
  | 7 => .int
  | _ => .long
abbrev wsX10 : List Cond := u_ws RX1 TX1 9
theorem nmX1 : ∀ a, a < 9 → ∀ b, b < 9 → a ≠ b → (TX1 a).2.1 ≠ (TX1 b).2.1 := by decide +kernel
theorem tyX1_ok : ∀ k, k < 9 → parseFieldDescriptor (TX1 k).2.2.1 = some (tyX1 k) := by decide +kernel
abbrev cX1_init : ByteArray := prog_3_method_1_code
def yX1_init : MethodName := ⟨RX1, "<init>", "()V"⟩
abbrev cX1_forget : ByteArray := prog_3_method_2_code
def yX1_forget : MethodName := ⟨RX1, "forget", "()V"⟩
abbrev cX1_hasRow : ByteArray := prog_3_method_3_code
def yX1_hasRow : MethodName := ⟨RX1, "hasRow", "(I)Z"⟩
abbrev cX1_hasColumn : ByteArray := prog_3_method_4_code
def yX1_hasColumn : MethodName := ⟨RX1, "hasColumn", "(I)Z"⟩
abbrev cX1_columnOfY : ByteArray := prog_3_method_5_code
def yX1_columnOfY : MethodName := ⟨RX1, "columnOfY", "()I"⟩
abbrev cX1_columnOfQ : ByteArray := prog_3_method_6_code
def yX1_columnOfQ : MethodName := ⟨RX1, "columnOfQ", "()I"⟩
abbrev cX1_letter : ByteArray := prog_3_method_7_code
def yX1_letter : MethodName := ⟨RX1, "letter", "(I)I"⟩
abbrev cX1_complement : ByteArray := prog_3_method_8_code
def yX1_complement : MethodName := ⟨RX1, "complement", "(I)I"⟩
abbrev cX1_lay : ByteArray := prog_3_method_9_code
def yX1_lay : MethodName := ⟨RX1, "lay", "(LMarginTable$Points;II)V"⟩
abbrev cX1_matrix : ByteArray := prog_3_method_10_code
def yX1_matrix : MethodName := ⟨RX1, "matrix", "(LMarginTable$Points;II)I"⟩
abbrev cX1_shareOfZ : ByteArray := prog_3_method_11_code
def yX1_shareOfZ : MethodName := ⟨RX1, "shareOfZ", "(I)J"⟩
abbrev cX1_mayStep : ByteArray := prog_3_method_12_code
def yX1_mayStep : MethodName := ⟨RX1, "mayStep", "()Z"⟩
abbrev cX1_makeStep : ByteArray := prog_3_method_13_code
def yX1_makeStep : MethodName := ⟨RX1, "makeStep", "()V"⟩
abbrev cX1_leastRow : ByteArray := prog_3_method_14_code
def yX1_leastRow : MethodName := ⟨RX1, "leastRow", "(I)I"⟩
abbrev cX1_weight : ByteArray := prog_3_method_15_code
def yX1_weight : MethodName := ⟨RX1, "weight", "(II)J"⟩
abbrev cX1_isLess : ByteArray := prog_3_method_16_code
def yX1_isLess : MethodName := ⟨RX1, "isLess", "(III)Z"⟩
abbrev cX1_turn : ByteArray := prog_3_method_17_code
def yX1_turn : MethodName := ⟨RX1, "turn", "(II)V"⟩
abbrev cX1_negate : ByteArray := prog_3_method_18_code
def yX1_negate : MethodName := ⟨RX1, "negate", "(I)V"⟩
abbrev cX1_takeOut : ByteArray := prog_3_method_19_code
def yX1_takeOut : MethodName := ⟨RX1, "takeOut", "(IIIIJ)V"⟩
def RX2 : String := "MarginTable$Whole"
def TX2 : u_T := fun k => match k with
  | _ => ("", "", "", false)
def tyX2 : Nat → FieldType := fun k => match k with
  | _ => .int
abbrev wsX20 : List Cond := u_ws RX2 TX2 0
theorem nmX2 : ∀ a, a < 0 → ∀ b, b < 0 → a ≠ b → (TX2 a).2.1 ≠ (TX2 b).2.1 := by decide +kernel
theorem tyX2_ok : ∀ k, k < 0 → parseFieldDescriptor (TX2 k).2.2.1 = some (tyX2 k) := by decide +kernel
abbrev cX2_part : ByteArray := prog_4_method_2_code
def yX2_part : MethodName := ⟨RX2, "part", "(JJI)J"⟩
abbrev cX2_commonDivisor : ByteArray := prog_4_method_3_code
def yX2_commonDivisor : MethodName := ⟨RX2, "commonDivisor", "(JJ)J"⟩
abbrev cX2_crossSign : ByteArray := prog_4_method_4_code
def yX2_crossSign : MethodName := ⟨RX2, "crossSign", "(JJJJ)I"⟩
abbrev cX2_crossHigh : ByteArray := prog_4_method_5_code
def yX2_crossHigh : MethodName := ⟨RX2, "crossHigh", "(JJJJ)J"⟩
abbrev cX2_highOfProduct : ByteArray := prog_4_method_6_code
def yX2_highOfProduct : MethodName := ⟨RX2, "highOfProduct", "(JJ)J"⟩
abbrev cX2_shiftedLow : ByteArray := prog_4_method_7_code
def yX2_shiftedLow : MethodName := ⟨RX2, "shiftedLow", "(JJI)J"⟩
abbrev cX2_inverseOfOdd : ByteArray := prog_4_method_8_code
def yX2_inverseOfOdd : MethodName := ⟨RX2, "inverseOfOdd", "(J)J"⟩
def RX3 : String := "MarginTable"
def TX3 : u_T := fun k => match k with
  | 0 => ("MarginTable", "points", "LMarginTable$Points;", true)
  | 1 => ("MarginTable", "table", "LMarginTable$Table;", true)
  | 2 => ("MarginTable", "boxAbove", "I", false)
  | _ => ("MarginTable", "boxBelow", "I", false)
def tyX3 : Nat → FieldType := fun k => match k with
  | 0 => .object "MarginTable$Points"
  | 1 => .object "MarginTable$Table"
  | 2 => .int
  | _ => .int
abbrev wsX30 : List Cond := u_ws RX3 TX3 4
theorem nmX3 : ∀ a, a < 4 → ∀ b, b < 4 → a ≠ b → (TX3 a).2.1 ≠ (TX3 b).2.1 := by decide +kernel
theorem tyX3_ok : ∀ k, k < 4 → parseFieldDescriptor (TX3 k).2.2.1 = some (tyX3 k) := by decide +kernel
abbrev cX3_init : ByteArray := prog_1_method_1_code
def yX3_init : MethodName := ⟨RX3, "<init>", "()V"⟩
abbrev cX3_point : ByteArray := prog_1_method_2_code
def yX3_point : MethodName := ⟨RX3, "point", "(III)I"⟩
abbrev cX3_drop : ByteArray := prog_1_method_3_code
def yX3_drop : MethodName := ⟨RX3, "drop", "()I"⟩
abbrev cX3_degree : ByteArray := prog_1_method_4_code
def yX3_degree : MethodName := ⟨RX3, "degree", "(I)I"⟩
abbrev cX3_box : ByteArray := prog_1_method_5_code
def yX3_box : MethodName := ⟨RX3, "box", "(II)I"⟩
abbrev cX3_q : ByteArray := prog_1_method_6_code
def yX3_q : MethodName := ⟨RX3, "q", "(II)I"⟩
abbrev cX3_begin : ByteArray := prog_1_method_7_code
def yX3_begin : MethodName := ⟨RX3, "begin", "()I"⟩
abbrev cX3_go : ByteArray := prog_1_method_8_code
def yX3_go : MethodName := ⟨RX3, "go", "(I)I"⟩
abbrev cX3_step : ByteArray := prog_1_method_9_code
def yX3_step : MethodName := ⟨RX3, "step", "(II)I"⟩
abbrev cX3_told : ByteArray := prog_1_method_10_code
def yX3_told : MethodName := ⟨RX3, "told", "(I)I"⟩
abbrev cX3_at : ByteArray := prog_1_method_11_code
def yX3_at : MethodName := ⟨RX3, "at", "(III)J"⟩
abbrev cX3_multiplier : ByteArray := prog_1_method_12_code
def yX3_multiplier : MethodName := ⟨RX3, "multiplier", "(II)J"⟩
abbrev cX3_lies : ByteArray := prog_1_method_13_code
def yX3_lies : MethodName := ⟨RX3, "lies", "(I)I"⟩
abbrev cX3_slope : ByteArray := prog_1_method_14_code
def yX3_slope : MethodName := ⟨RX3, "slope", "(II)J"⟩
abbrev cX3_check : ByteArray := prog_1_method_15_code
def yX3_check : MethodName := ⟨RX3, "check", "()I"⟩
abbrev cX3_change : ByteArray := prog_1_method_16_code
def yX3_change : MethodName := ⟨RX3, "change", "(III)I"⟩
abbrev cX3_decision : ByteArray := prog_1_method_17_code
def yX3_decision : MethodName := ⟨RX3, "decision", "(III)J"⟩
abbrev cX3_predict : ByteArray := prog_1_method_18_code
def yX3_predict : MethodName := ⟨RX3, "predict", "(II)I"⟩
abbrev cX3_count : ByteArray := prog_1_method_19_code
def yX3_count : MethodName := ⟨RX3, "count", "(I)I"⟩
abbrev cX3_digest : ByteArray := prog_1_method_20_code
def yX3_digest : MethodName := ⟨RX3, "digest", "()J"⟩
abbrev cX3_isPart : ByteArray := prog_1_method_21_code
def yX3_isPart : MethodName := ⟨RX3, "isPart", "(I)Z"⟩
abbrev cX3_isDone : ByteArray := prog_1_method_22_code
def yX3_isDone : MethodName := ⟨RX3, "isDone", "()Z"⟩
abbrev cX3_share : ByteArray := prog_1_method_23_code
def yX3_share : MethodName := ⟨RX3, "share", "(I)J"⟩
abbrev cX3_shareBase : ByteArray := prog_1_method_24_code
def yX3_shareBase : MethodName := ⟨RX3, "shareBase", "()J"⟩
abbrev cX3_fullShare : ByteArray := prog_1_method_25_code
def yX3_fullShare : MethodName := ⟨RX3, "fullShare", "()J"⟩
abbrev cX3_placeInBox : ByteArray := prog_1_method_26_code
def yX3_placeInBox : MethodName := ⟨RX3, "placeInBox", "(I)I"⟩
abbrev cX3_slopeShare : ByteArray := prog_1_method_27_code
def yX3_slopeShare : MethodName := ⟨RX3, "slopeShare", "(I)J"⟩
abbrev cX3_holdsCondition : ByteArray := prog_1_method_28_code
def yX3_holdsCondition : MethodName := ⟨RX3, "holdsCondition", "(I)Z"⟩
abbrev cX3_isInBox : ByteArray := prog_1_method_29_code
def yX3_isInBox : MethodName := ⟨RX3, "isInBox", "(II)Z"⟩
abbrev cX3_worthSign : ByteArray := prog_1_method_30_code
def yX3_worthSign : MethodName := ⟨RX3, "worthSign", "(III)I"⟩
abbrev cX3_decisionShare : ByteArray := prog_1_method_31_code
def yX3_decisionShare : MethodName := ⟨RX3, "decisionShare", "(II)J"⟩
abbrev cX3_supporters : ByteArray := prog_1_method_32_code
def yX3_supporters : MethodName := ⟨RX3, "supporters", "()I"⟩
def RX4 : String := "MarginTableModel"
def TX4 : u_T := fun k => match k with
  | 0 => ("MarginTableModel", "points", "I", false)
  | 1 => ("MarginTableModel", "degree", "I", false)
  | 2 => ("MarginTableModel", "boxAbove", "I", false)
  | 3 => ("MarginTableModel", "boxBelow", "I", false)
  | 4 => ("MarginTableModel", "px", "[I", true)
  | 5 => ("MarginTableModel", "py", "[I", true)
  | 6 => ("MarginTableModel", "label", "[I", true)
  | 7 => ("MarginTableModel", "isBegun", "Z", false)
  | 8 => ("MarginTableModel", "isDone", "Z", false)
  | 9 => ("MarginTableModel", "isRay", "Z", false)
  | 10 => ("MarginTableModel", "rows", "I", false)
  | 11 => ("MarginTableModel", "table", "[J", true)
  | 12 => ("MarginTableModel", "below", "J", false)
  | 13 => ("MarginTableModel", "tells", "[I", true)
  | 14 => ("MarginTableModel", "steps", "I", false)
  | 15 => ("MarginTableModel", "entered", "[I", true)
  | 16 => ("MarginTableModel", "left", "[I", true)
  | 17 => ("MarginTableModel", "leftAt", "[I", true)
  | 18 => ("MarginTableModel", "high", "J", false)
  | _ => ("MarginTableModel", "low", "J", false)
def tyX4 : Nat → FieldType := fun k => match k with
  | 0 => .int
  | 1 => .int
  | 2 => .int
  | 3 => .int
  | 4 => .array .int
  | 5 => .array .int
  | 6 => .array .int
  | 7 => .boolean
  | 8 => .boolean
  | 9 => .boolean
  | 10 => .int
  | 11 => .array .long
  | 12 => .long
  | 13 => .array .int
  | 14 => .int
  | 15 => .array .int
  | 16 => .array .int
  | 17 => .array .int
  | 18 => .long
  | _ => .long
abbrev wsX40 : List Cond := u_ws RX4 TX4 20
theorem nmX4 : ∀ a, a < 20 → ∀ b, b < 20 → a ≠ b → (TX4 a).2.1 ≠ (TX4 b).2.1 := by decide +kernel
theorem tyX4_ok : ∀ k, k < 20 → parseFieldDescriptor (TX4 k).2.2.1 = some (tyX4 k) := by decide +kernel
abbrev cX4_init : ByteArray := prog_6_method_1_code
def yX4_init : MethodName := ⟨RX4, "<init>", "()V"⟩
abbrev cX4_in : ByteArray := prog_6_method_3_code
def yX4_in : MethodName := ⟨RX4, "in", "(III)Z"⟩
abbrev cX4_forgets : ByteArray := prog_6_method_4_code
def yX4_forgets : MethodName := ⟨RX4, "forgets", "()V"⟩
abbrev cX4_isPoint : ByteArray := prog_6_method_5_code
def yX4_isPoint : MethodName := ⟨RX4, "isPoint", "(I)Z"⟩
abbrev cX4_point : ByteArray := prog_6_method_6_code
def yX4_point : MethodName := ⟨RX4, "point", "(III)I"⟩
abbrev cX4_drop : ByteArray := prog_6_method_7_code
def yX4_drop : MethodName := ⟨RX4, "drop", "()I"⟩
abbrev cX4_degree : ByteArray := prog_6_method_8_code
def yX4_degree : MethodName := ⟨RX4, "degree", "(I)I"⟩
abbrev cX4_box : ByteArray := prog_6_method_9_code
def yX4_box : MethodName := ⟨RX4, "box", "(II)I"⟩
abbrev cX4_kernel : ByteArray := prog_6_method_10_code
def yX4_kernel : MethodName := ⟨RX4, "kernel", "(III)I"⟩
abbrev cX4_qOf : ByteArray := prog_6_method_11_code
def yX4_qOf : MethodName := ⟨RX4, "qOf", "(II)I"⟩
abbrev cX4_q : ByteArray := prog_6_method_12_code
def yX4_q : MethodName := ⟨RX4, "q", "(II)I"⟩
abbrev cX4_product : ByteArray := prog_6_method_13_code
def yX4_product : MethodName := ⟨RX4, "product", "(JJ)V"⟩
abbrev cX4_cross : ByteArray := prog_6_method_14_code
def yX4_cross : MethodName := ⟨RX4, "cross", "(JJJJ)V"⟩
abbrev cX4_signOfCross : ByteArray := prog_6_method_15_code
def yX4_signOfCross : MethodName := ⟨RX4, "signOfCross", "(JJJJ)I"⟩
abbrev cX4_shared : ByteArray := prog_6_method_16_code
def yX4_shared : MethodName := ⟨RX4, "shared", "(J)J"⟩
abbrev cX4_size : ByteArray := prog_6_method_17_code
def yX4_size : MethodName := ⟨RX4, "size", "(J)J"⟩
abbrev cX4_divisor : ByteArray := prog_6_method_18_code
def yX4_divisor : MethodName := ⟨RX4, "divisor", "(JJ)J"⟩
abbrev cX4_lowest : ByteArray := prog_6_method_19_code
def yX4_lowest : MethodName := ⟨RX4, "lowest", "(JJI)J"⟩
abbrev cX4_m : ByteArray := prog_6_method_20_code
def yX4_m : MethodName := ⟨RX4, "m", "(II)J"⟩
abbrev cX4_columnQ : ByteArray := prog_6_method_21_code
def yX4_columnQ : MethodName := ⟨RX4, "columnQ", "()I"⟩
abbrev cX4_begin : ByteArray := prog_6_method_22_code
def yX4_begin : MethodName := ⟨RX4, "begin", "()I"⟩
abbrev cX4_isLess : ByteArray := prog_6_method_23_code
def yX4_isLess : MethodName := ⟨RX4, "isLess", "(III)Z"⟩
abbrev cX4_turn : ByteArray := prog_6_method_24_code
def yX4_turn : MethodName := ⟨RX4, "turn", "(II)V"⟩
abbrev cX4_columnOf : ByteArray := prog_6_method_25_code
def yX4_columnOf : MethodName := ⟨RX4, "columnOf", "(I)I"⟩
abbrev cX4_does : ByteArray := prog_6_method_26_code
def yX4_does : MethodName := ⟨RX4, "does", "()V"⟩
abbrev cX4_stands : ByteArray := prog_6_method_27_code
def yX4_stands : MethodName := ⟨RX4, "stands", "()I"⟩
abbrev cX4_go : ByteArray := prog_6_method_28_code
def yX4_go : MethodName := ⟨RX4, "go", "(I)I"⟩
abbrev cX4_step : ByteArray := prog_6_method_29_code
def yX4_step : MethodName := ⟨RX4, "step", "(II)I"⟩
abbrev cX4_told : ByteArray := prog_6_method_30_code
def yX4_told : MethodName := ⟨RX4, "told", "(I)I"⟩
abbrev cX4_at : ByteArray := prog_6_method_31_code
def yX4_at : MethodName := ⟨RX4, "at", "(III)J"⟩
abbrev cX4_worthOf : ByteArray := prog_6_method_32_code
def yX4_worthOf : MethodName := ⟨RX4, "worthOf", "(I)J"⟩
abbrev cX4_multiplier : ByteArray := prog_6_method_33_code
def yX4_multiplier : MethodName := ⟨RX4, "multiplier", "(II)J"⟩
abbrev cX4_liesOf : ByteArray := prog_6_method_34_code
def yX4_liesOf : MethodName := ⟨RX4, "liesOf", "(I)I"⟩
abbrev cX4_lies : ByteArray := prog_6_method_35_code
def yX4_lies : MethodName := ⟨RX4, "lies", "(I)I"⟩
abbrev cX4_slopeOf : ByteArray := prog_6_method_36_code
def yX4_slopeOf : MethodName := ⟨RX4, "slopeOf", "(I)J"⟩
abbrev cX4_slope : ByteArray := prog_6_method_37_code
def yX4_slope : MethodName := ⟨RX4, "slope", "(II)J"⟩
abbrev cX4_check : ByteArray := prog_6_method_38_code
def yX4_check : MethodName := ⟨RX4, "check", "()I"⟩
abbrev cX4_change : ByteArray := prog_6_method_39_code
def yX4_change : MethodName := ⟨RX4, "change", "(III)I"⟩
abbrev cX4_decisionOf : ByteArray := prog_6_method_40_code
def yX4_decisionOf : MethodName := ⟨RX4, "decisionOf", "(II)J"⟩
abbrev cX4_isPlace : ByteArray := prog_6_method_41_code
def yX4_isPlace : MethodName := ⟨RX4, "isPlace", "(II)Z"⟩
abbrev cX4_decision : ByteArray := prog_6_method_42_code
def yX4_decision : MethodName := ⟨RX4, "decision", "(III)J"⟩
abbrev cX4_predict : ByteArray := prog_6_method_43_code
def yX4_predict : MethodName := ⟨RX4, "predict", "(II)I"⟩
abbrev cX4_count : ByteArray := prog_6_method_44_code
def yX4_count : MethodName := ⟨RX4, "count", "(I)I"⟩
abbrev cX4_digest : ByteArray := prog_6_method_45_code
def yX4_digest : MethodName := ⟨RX4, "digest", "()J"⟩
def RJ6 : String := "java/lang/Integer"
def TJ6 : u_T := fun k => match k with
  | _ => ("", "", "", false)
def tyJ6 : Nat → FieldType := fun k => match k with
  | _ => .int
abbrev wsJ60 : List Cond := u_ws RJ6 TJ6 0
theorem nmJ6 : ∀ a, a < 0 → ∀ b, b < 0 → a ≠ b → (TJ6 a).2.1 ≠ (TJ6 b).2.1 := by decide +kernel
theorem tyJ6_ok : ∀ k, k < 0 → parseFieldDescriptor (TJ6 k).2.2.1 = some (tyJ6 k) := by decide +kernel
abbrev cJ6_numberOfTrailingZeros_0f7a4 : ByteArray := prog_7_method_48_code
def yJ6_numberOfTrailingZeros_0f7a4 : MethodName := ⟨RJ6, "numberOfTrailingZeros", "(I)I"⟩
def RJ13 : String := "java/lang/Long"
def TJ13 : u_T := fun k => match k with
  | _ => ("", "", "", false)
def tyJ13 : Nat → FieldType := fun k => match k with
  | _ => .int
abbrev wsJ130 : List Cond := u_ws RJ13 TJ13 0
theorem nmJ13 : ∀ a, a < 0 → ∀ b, b < 0 → a ≠ b → (TJ13 a).2.1 ≠ (TJ13 b).2.1 := by decide +kernel
theorem tyJ13_ok : ∀ k, k < 0 → parseFieldDescriptor (TJ13 k).2.2.1 = some (tyJ13 k) := by decide +kernel
abbrev cJ13_compare_74951 : ByteArray := prog_8_method_42_code
def yJ13_compare_74951 : MethodName := ⟨RJ13, "compare", "(JJ)I"⟩
abbrev cJ13_compareUnsigned_74951 : ByteArray := prog_8_method_43_code
def yJ13_compareUnsigned_74951 : MethodName := ⟨RJ13, "compareUnsigned", "(JJ)I"⟩
abbrev cJ13_numberOfTrailingZeros_95d88 : ByteArray := prog_8_method_49_code
def yJ13_numberOfTrailingZeros_95d88 : MethodName := ⟨RJ13, "numberOfTrailingZeros", "(J)I"⟩
abbrev cJ13_signum_95d88 : ByteArray := prog_8_method_57_code
def yJ13_signum_95d88 : MethodName := ⟨RJ13, "signum", "(J)I"⟩
def RJ9 : String := "java/lang/Math"
def TJ9 : u_T := fun k => match k with
  | _ => ("", "", "", false)
def tyJ9 : Nat → FieldType := fun k => match k with
  | _ => .int
abbrev wsJ90 : List Cond := u_ws RJ9 TJ9 0
theorem nmJ9 : ∀ a, a < 0 → ∀ b, b < 0 → a ≠ b → (TJ9 a).2.1 ≠ (TJ9 b).2.1 := by decide +kernel
theorem tyJ9_ok : ∀ k, k < 0 → parseFieldDescriptor (TJ9 k).2.2.1 = some (tyJ9 k) := by decide +kernel
abbrev cJ9_abs_067f4 : ByteArray := prog_9_method_61_code
def yJ9_abs_067f4 : MethodName := ⟨RJ9, "abs", "(J)J"⟩
def RL : String := "MarginTableLaw"
abbrev cL_law : ByteArray := code
def yL_law : MethodName := ⟨RL, "law", "([I)Z"⟩
def wsX0_init : List Cond := .code yX0_init cX0_init 1 none :: ([.methodLink RX0 1 objectInit, .instanceMethod objectInit, .code objectInit ⟨#[0xb1]⟩ 1 none, .arrayClass .int, .fieldLink RX0 9 "MarginTable$Points" "x" "[I", .fieldLink RX0 13 "MarginTable$Points" "y" "[I", .fieldLink RX0 16 "MarginTable$Points" "label" "[I", .fieldLink RX0 19 "MarginTable$Points" "size" "I", .fieldLink RX0 23 "MarginTable$Points" "power" "I"] ++ wsX00)
def wsX0_isPlace : List Cond := .code yX0_isPlace cX0_isPlace 2 (some .boolean) :: ([])
def wsX0_mostWith : List Cond := .code yX0_mostWith cX0_mostWith 1 (some .int) :: ([])
def wsX0_has : List Cond := .code yX0_has cX0_has 2 (some .boolean) :: ([.fieldLink RX0 19 "MarginTable$Points" "size" "I"] ++ wsX00)
def wsX0_add : List Cond := .code yX0_add cX0_add 4 none :: ([.fieldLink RX0 9 "MarginTable$Points" "x" "[I", .fieldLink RX0 19 "MarginTable$Points" "size" "I", .fieldLink RX0 13 "MarginTable$Points" "y" "[I", .fieldLink RX0 16 "MarginTable$Points" "label" "[I"] ++ wsX00)
def wsX0_kernel : List Cond := .code yX0_kernel cX0_kernel 5 (some .int) :: ([.fieldLink RX0 9 "MarginTable$Points" "x" "[I", .fieldLink RX0 13 "MarginTable$Points" "y" "[I", .fieldLink RX0 23 "MarginTable$Points" "power" "I"] ++ wsX00)
def wsX0_product : List Cond := .code yX0_product cX0_product 3 (some .int) :: ([.fieldLink RX0 16 "MarginTable$Points" "label" "[I", .fieldLink RX0 9 "MarginTable$Points" "x" "[I", .fieldLink RX0 13 "MarginTable$Points" "y" "[I", .methodLink RX0 26 yX0_kernel, .instanceMethod yX0_kernel, .selects RX0 yX0_kernel yX0_kernel, .initialized RX0, .code yX0_kernel cX0_kernel 5 (some .int), .fieldLink RX0 23 "MarginTable$Points" "power" "I"] ++ wsX00)
def wsX1_init : List Cond := .code yX1_init cX1_init 1 none :: ([.methodLink RX1 7 objectInit, .instanceMethod objectInit, .code objectInit ⟨#[0xb1]⟩ 1 none, .classLink RX1 13 "[[J", .arrayClass .long, .fieldLink RX1 15 "MarginTable$Table" "cell" "[[J", .arrayClass .int, .fieldLink RX1 18 "MarginTable$Table" "tells" "[I", .fieldLink RX1 22 "MarginTable$Table" "entered" "[I", .fieldLink RX1 25 "MarginTable$Table" "left" "[I", .fieldLink RX1 28 "MarginTable$Table" "turnedAt" "[I", .fieldLink RX1 31 "MarginTable$Table" "rows" "I", .fieldLink RX1 35 "MarginTable$Table" "steps" "I", .fieldLink RX1 38 "MarginTable$Table" "state" "I", .fieldLink RX1 41 "MarginTable$Table" "scale" "J"] ++ wsX10)
def wsX1_forget : List Cond := .code yX1_forget cX1_forget 1 none :: ([.fieldLink RX1 31 "MarginTable$Table" "rows" "I", .fieldLink RX1 35 "MarginTable$Table" "steps" "I", .fieldLink RX1 38 "MarginTable$Table" "state" "I"] ++ wsX10)
def wsX1_hasRow : List Cond := .code yX1_hasRow cX1_hasRow 2 (some .boolean) :: ([.fieldLink RX1 31 "MarginTable$Table" "rows" "I"] ++ wsX10)
def wsX1_columnOfQ : List Cond := .code yX1_columnOfQ cX1_columnOfQ 1 (some .int) :: ([.fieldLink RX1 31 "MarginTable$Table" "rows" "I"] ++ wsX10)
def wsX1_hasColumn : List Cond := .code yX1_hasColumn cX1_hasColumn 2 (some .boolean) :: ([.methodLink RX1 45 yX1_columnOfQ, .instanceMethod yX1_columnOfQ, .selects RX1 yX1_columnOfQ yX1_columnOfQ, .initialized RX1, .code yX1_columnOfQ cX1_columnOfQ 1 (some .int), .fieldLink RX1 31 "MarginTable$Table" "rows" "I"] ++ wsX10)
def wsX1_columnOfY : List Cond := .code yX1_columnOfY cX1_columnOfY 1 (some .int) :: ([.fieldLink RX1 31 "MarginTable$Table" "rows" "I"] ++ wsX10)
def wsX1_letter : List Cond := .code yX1_letter cX1_letter 2 (some .int) :: ([.fieldLink RX1 31 "MarginTable$Table" "rows" "I", .methodLink RX1 49 yX1_columnOfY, .instanceMethod yX1_columnOfY, .selects RX1 yX1_columnOfY yX1_columnOfY, .initialized RX1, .code yX1_columnOfY cX1_columnOfY 1 (some .int)] ++ wsX10)
def wsX1_complement : List Cond := .code yX1_complement cX1_complement 2 (some .int) :: ([.fieldLink RX1 31 "MarginTable$Table" "rows" "I"] ++ wsX10)
def wsX1_matrix : List Cond := .code yX1_matrix cX1_matrix 4 (some .int) :: ([.fieldLink RX1 52 "MarginTable$Points" "size" "I", .methodLink RX1 61 yX0_product, .instanceMethod yX0_product, .selects RX0 yX0_product yX0_product, .initialized RX0, .code yX0_product cX0_product 3 (some .int), .fieldLink RX0 16 "MarginTable$Points" "label" "[I", .fieldLink RX0 9 "MarginTable$Points" "x" "[I", .fieldLink RX0 13 "MarginTable$Points" "y" "[I", .methodLink RX0 26 yX0_kernel, .instanceMethod yX0_kernel, .selects RX0 yX0_kernel yX0_kernel, .code yX0_kernel cX0_kernel 5 (some .int), .fieldLink RX0 23 "MarginTable$Points" "power" "I"] ++ wsX00)
def wsX1_lay_r1 : List Cond := [Cond.fieldLink RX1 52 "MarginTable$Points" "size" "I", Cond.fieldLink RX1 31 "MarginTable$Table" "rows" "I", Cond.fieldLink RX1 35 "MarginTable$Table" "steps" "I", Cond.fieldLink RX1 38 "MarginTable$Table" "state" "I", Cond.fieldLink RX1 41 "MarginTable$Table" "scale" "J", Cond.fieldLink RX1 18 "MarginTable$Table" "tells" "[I", Cond.fieldLink RX1 15 "MarginTable$Table" "cell" "[[J", Cond.constantLong RX1 59 (-1), Cond.methodLink RX1 55 yX1_matrix, Cond.static yX1_matrix, Cond.initialized RX1, Cond.code yX1_matrix cX1_matrix 4 (some .int), Cond.methodLink RX1 61 yX0_product, Cond.instanceMethod yX0_product, Cond.selects RX0 yX0_product yX0_product, Cond.initialized RX0, Cond.code yX0_product cX0_product 3 (some .int), Cond.fieldLink RX0 16 "MarginTable$Points" "label" "[I", Cond.fieldLink RX0 9 "MarginTable$Points" "x" "[I", Cond.fieldLink RX0 13 "MarginTable$Points" "y" "[I", Cond.methodLink RX0 26 yX0_kernel, Cond.instanceMethod yX0_kernel, Cond.selects RX0 yX0_kernel yX0_kernel, Cond.code yX0_kernel cX0_kernel 5 (some .int)]
def wsX1_lay_r2 : List Cond := [Cond.fieldLink RX0 23 "MarginTable$Points" "power" "I", Cond.methodLink RX1 49 yX1_columnOfY, Cond.instanceMethod yX1_columnOfY, Cond.selects RX1 yX1_columnOfY yX1_columnOfY, Cond.code yX1_columnOfY cX1_columnOfY 1 (some .int), Cond.methodLink RX1 45 yX1_columnOfQ, Cond.instanceMethod yX1_columnOfQ, Cond.selects RX1 yX1_columnOfQ yX1_columnOfQ, Cond.code yX1_columnOfQ cX1_columnOfQ 1 (some .int)]
def wsX1_lay : List Cond := .code yX1_lay cX1_lay 7 none :: ((wsX1_lay_r1 ++ wsX1_lay_r2) ++ wsX00 ++ wsX10)
def wsX1_shareOfZ : List Cond := .code yX1_shareOfZ cX1_shareOfZ 3 (some .long) :: ([.fieldLink RX1 31 "MarginTable$Table" "rows" "I", .fieldLink RX1 18 "MarginTable$Table" "tells" "[I", .fieldLink RX1 15 "MarginTable$Table" "cell" "[[J", .methodLink RX1 45 yX1_columnOfQ, .instanceMethod yX1_columnOfQ, .selects RX1 yX1_columnOfQ yX1_columnOfQ, .initialized RX1, .code yX1_columnOfQ cX1_columnOfQ 1 (some .int)] ++ wsX10)
def wsX1_mayStep : List Cond := .code yX1_mayStep cX1_mayStep 1 (some .boolean) :: ([.fieldLink RX1 38 "MarginTable$Table" "state" "I", .fieldLink RX1 35 "MarginTable$Table" "steps" "I"] ++ wsX10)
def wsX1_weight : List Cond := .code yX1_weight cX1_weight 3 (some .long) :: ([.fieldLink RX1 35 "MarginTable$Table" "steps" "I", .fieldLink RX1 15 "MarginTable$Table" "cell" "[[J"] ++ wsX10)
def wsJ13_compare_74951 : List Cond := .code yJ13_compare_74951 cJ13_compare_74951 4 (some .int) :: ([])
def wsJ13_compareUnsigned_74951 : List Cond := .code yJ13_compareUnsigned_74951 cJ13_compareUnsigned_74951 4 (some .int) :: ([.constantLong RJ13 168 (-9223372036854775808), .methodLink RJ13 302 yJ13_compare_74951, .static yJ13_compare_74951, .initialized RJ13, .code yJ13_compare_74951 cJ13_compare_74951 4 (some .int)])
def wsX2_highOfProduct : List Cond := .code yX2_highOfProduct cX2_highOfProduct 16 (some .long) :: ([.constantLong RX2 36 (4294967295)])
def wsX2_crossHigh : List Cond := .code yX2_crossHigh cX2_crossHigh 10 (some .long) :: ([.methodLink RX2 29 yJ13_compareUnsigned_74951, .static yJ13_compareUnsigned_74951, .initialized RJ13, .code yJ13_compareUnsigned_74951 cJ13_compareUnsigned_74951 4 (some .int), .constantLong RJ13 168 (-9223372036854775808), .methodLink RJ13 302 yJ13_compare_74951, .static yJ13_compare_74951, .code yJ13_compare_74951 cJ13_compare_74951 4 (some .int), .methodLink RX2 33 yX2_highOfProduct, .static yX2_highOfProduct, .initialized RX2, .code yX2_highOfProduct cX2_highOfProduct 16 (some .long), .constantLong RX2 36 (4294967295)])
def wsJ13_signum_95d88 : List Cond := .code yJ13_signum_95d88 cJ13_signum_95d88 2 (some .int) :: ([])
def wsX2_crossSign : List Cond := .code yX2_crossSign cX2_crossSign 10 (some .int) :: ([.methodLink RX2 19 yX2_crossHigh, .static yX2_crossHigh, .initialized RX2, .code yX2_crossHigh cX2_crossHigh 10 (some .long), .methodLink RX2 29 yJ13_compareUnsigned_74951, .static yJ13_compareUnsigned_74951, .initialized RJ13, .code yJ13_compareUnsigned_74951 cJ13_compareUnsigned_74951 4 (some .int), .constantLong RJ13 168 (-9223372036854775808), .methodLink RJ13 302 yJ13_compare_74951, .static yJ13_compare_74951, .code yJ13_compare_74951 cJ13_compare_74951 4 (some .int), .methodLink RX2 33 yX2_highOfProduct, .static yX2_highOfProduct, .code yX2_highOfProduct cX2_highOfProduct 16 (some .long), .constantLong RX2 36 (4294967295), .methodLink RX2 23 yJ13_signum_95d88, .static yJ13_signum_95d88, .code yJ13_signum_95d88 cJ13_signum_95d88 2 (some .int)])
def wsX1_isLess_r1 : List Cond := [Cond.fieldLink RX1 15 "MarginTable$Table" "cell" "[[J", Cond.fieldLink RX1 31 "MarginTable$Table" "rows" "I", Cond.methodLink RX1 76 yX1_weight, Cond.instanceMethod yX1_weight, Cond.selects RX1 yX1_weight yX1_weight, Cond.initialized RX1, Cond.code yX1_weight cX1_weight 3 (some .long), Cond.fieldLink RX1 35 "MarginTable$Table" "steps" "I", Cond.methodLink RX1 45 yX1_columnOfQ, Cond.instanceMethod yX1_columnOfQ, Cond.selects RX1 yX1_columnOfQ yX1_columnOfQ, Cond.code yX1_columnOfQ cX1_columnOfQ 1 (some .int), Cond.methodLink RX1 84 yX2_crossSign, Cond.static yX2_crossSign, Cond.initialized RX2, Cond.code yX2_crossSign cX2_crossSign 10 (some .int), Cond.methodLink RX2 19 yX2_crossHigh, Cond.static yX2_crossHigh, Cond.code yX2_crossHigh cX2_crossHigh 10 (some .long), Cond.methodLink RX2 29 yJ13_compareUnsigned_74951, Cond.static yJ13_compareUnsigned_74951, Cond.initialized RJ13, Cond.code yJ13_compareUnsigned_74951 cJ13_compareUnsigned_74951 4 (some .int), Cond.constantLong RJ13 168 (-9223372036854775808)]
def wsX1_isLess_r2 : List Cond := [Cond.methodLink RJ13 302 yJ13_compare_74951, Cond.static yJ13_compare_74951, Cond.code yJ13_compare_74951 cJ13_compare_74951 4 (some .int), Cond.methodLink RX2 33 yX2_highOfProduct, Cond.static yX2_highOfProduct, Cond.code yX2_highOfProduct cX2_highOfProduct 16 (some .long), Cond.constantLong RX2 36 (4294967295), Cond.methodLink RX2 23 yJ13_signum_95d88, Cond.static yJ13_signum_95d88, Cond.code yJ13_signum_95d88 cJ13_signum_95d88 2 (some .int)]
def wsX1_isLess : List Cond := .code yX1_isLess cX1_isLess 10 (some .boolean) :: ((wsX1_isLess_r1 ++ wsX1_isLess_r2) ++ wsX10)
def wsX1_leastRow_r1 : List Cond := [Cond.fieldLink RX1 31 "MarginTable$Table" "rows" "I", Cond.methodLink RX1 76 yX1_weight, Cond.instanceMethod yX1_weight, Cond.selects RX1 yX1_weight yX1_weight, Cond.initialized RX1, Cond.code yX1_weight cX1_weight 3 (some .long), Cond.fieldLink RX1 35 "MarginTable$Table" "steps" "I", Cond.fieldLink RX1 15 "MarginTable$Table" "cell" "[[J", Cond.methodLink RX1 80 yX1_isLess, Cond.instanceMethod yX1_isLess, Cond.selects RX1 yX1_isLess yX1_isLess, Cond.code yX1_isLess cX1_isLess 10 (some .boolean), Cond.methodLink RX1 45 yX1_columnOfQ, Cond.instanceMethod yX1_columnOfQ, Cond.selects RX1 yX1_columnOfQ yX1_columnOfQ, Cond.code yX1_columnOfQ cX1_columnOfQ 1 (some .int), Cond.methodLink RX1 84 yX2_crossSign, Cond.static yX2_crossSign, Cond.initialized RX2, Cond.code yX2_crossSign cX2_crossSign 10 (some .int), Cond.methodLink RX2 19 yX2_crossHigh, Cond.static yX2_crossHigh, Cond.code yX2_crossHigh cX2_crossHigh 10 (some .long), Cond.methodLink RX2 29 yJ13_compareUnsigned_74951]
def wsX1_leastRow_r2 : List Cond := [Cond.static yJ13_compareUnsigned_74951, Cond.initialized RJ13, Cond.code yJ13_compareUnsigned_74951 cJ13_compareUnsigned_74951 4 (some .int), Cond.constantLong RJ13 168 (-9223372036854775808), Cond.methodLink RJ13 302 yJ13_compare_74951, Cond.static yJ13_compare_74951, Cond.code yJ13_compare_74951 cJ13_compare_74951 4 (some .int), Cond.methodLink RX2 33 yX2_highOfProduct, Cond.static yX2_highOfProduct, Cond.code yX2_highOfProduct cX2_highOfProduct 16 (some .long), Cond.constantLong RX2 36 (4294967295), Cond.methodLink RX2 23 yJ13_signum_95d88, Cond.static yJ13_signum_95d88, Cond.code yJ13_signum_95d88 cJ13_signum_95d88 2 (some .int)]
def wsX1_leastRow : List Cond := .code yX1_leastRow cX1_leastRow 4 (some .int) :: ((wsX1_leastRow_r1 ++ wsX1_leastRow_r2) ++ wsX10)
def wsX1_negate : List Cond := .code yX1_negate cX1_negate 3 none :: ([.fieldLink RX1 15 "MarginTable$Table" "cell" "[[J", .methodLink RX1 45 yX1_columnOfQ, .instanceMethod yX1_columnOfQ, .selects RX1 yX1_columnOfQ yX1_columnOfQ, .initialized RX1, .code yX1_columnOfQ cX1_columnOfQ 1 (some .int), .fieldLink RX1 31 "MarginTable$Table" "rows" "I"] ++ wsX10)
def wsJ6_numberOfTrailingZeros_0f7a4 : List Cond := .code yJ6_numberOfTrailingZeros_0f7a4 cJ6_numberOfTrailingZeros_0f7a4 2 (some .int) :: ([.constant RJ6 264 (65536)])
def wsJ13_numberOfTrailingZeros_95d88 : List Cond := .code yJ13_numberOfTrailingZeros_95d88 cJ13_numberOfTrailingZeros_95d88 3 (some .int) :: ([.methodLink RJ13 311 yJ6_numberOfTrailingZeros_0f7a4, .static yJ6_numberOfTrailingZeros_0f7a4, .initialized RJ6, .code yJ6_numberOfTrailingZeros_0f7a4 cJ6_numberOfTrailingZeros_0f7a4 2 (some .int), .constant RJ6 264 (65536)])
def wsX2_inverseOfOdd : List Cond := .code yX2_inverseOfOdd cX2_inverseOfOdd 5 (some .long) :: ([.constantLong RX2 38 (2)])
def wsX2_shiftedLow : List Cond := .code yX2_shiftedLow cX2_shiftedLow 5 (some .long) :: ([])
def wsX1_takeOut_r1 : List Cond := [Cond.fieldLink RX1 15 "MarginTable$Table" "cell" "[[J", Cond.methodLink RX1 45 yX1_columnOfQ, Cond.instanceMethod yX1_columnOfQ, Cond.selects RX1 yX1_columnOfQ yX1_columnOfQ, Cond.initialized RX1, Cond.code yX1_columnOfQ cX1_columnOfQ 1 (some .int), Cond.fieldLink RX1 31 "MarginTable$Table" "rows" "I", Cond.methodLink RX1 108 yX2_crossHigh, Cond.static yX2_crossHigh, Cond.initialized RX2, Cond.code yX2_crossHigh cX2_crossHigh 10 (some .long), Cond.methodLink RX2 29 yJ13_compareUnsigned_74951, Cond.static yJ13_compareUnsigned_74951, Cond.initialized RJ13, Cond.code yJ13_compareUnsigned_74951 cJ13_compareUnsigned_74951 4 (some .int), Cond.constantLong RJ13 168 (-9223372036854775808), Cond.methodLink RJ13 302 yJ13_compare_74951, Cond.static yJ13_compare_74951, Cond.code yJ13_compare_74951 cJ13_compare_74951 4 (some .int), Cond.methodLink RX2 33 yX2_highOfProduct, Cond.static yX2_highOfProduct, Cond.code yX2_highOfProduct cX2_highOfProduct 16 (some .long), Cond.constantLong RX2 36 (4294967295), Cond.methodLink RX1 112 yX2_shiftedLow]
def wsX1_takeOut_r2 : List Cond := [Cond.static yX2_shiftedLow, Cond.code yX2_shiftedLow cX2_shiftedLow 5 (some .long)]
def wsX1_takeOut : List Cond := .code yX1_takeOut cX1_takeOut 18 none :: ((wsX1_takeOut_r1 ++ wsX1_takeOut_r2) ++ wsX10)
def wsX1_turn_r1 : List Cond := [Cond.fieldLink RX1 15 "MarginTable$Table" "cell" "[[J", Cond.fieldLink RX1 41 "MarginTable$Table" "scale" "J", Cond.fieldLink RX1 31 "MarginTable$Table" "rows" "I", Cond.methodLink RX1 90 yX1_negate, Cond.instanceMethod yX1_negate, Cond.selects RX1 yX1_negate yX1_negate, Cond.initialized RX1, Cond.code yX1_negate cX1_negate 3 none, Cond.methodLink RX1 45 yX1_columnOfQ, Cond.instanceMethod yX1_columnOfQ, Cond.selects RX1 yX1_columnOfQ yX1_columnOfQ, Cond.code yX1_columnOfQ cX1_columnOfQ 1 (some .int), Cond.methodLink RX1 94 yJ13_numberOfTrailingZeros_95d88, Cond.static yJ13_numberOfTrailingZeros_95d88, Cond.initialized RJ13, Cond.code yJ13_numberOfTrailingZeros_95d88 cJ13_numberOfTrailingZeros_95d88 3 (some .int), Cond.methodLink RJ13 311 yJ6_numberOfTrailingZeros_0f7a4, Cond.static yJ6_numberOfTrailingZeros_0f7a4, Cond.initialized RJ6, Cond.code yJ6_numberOfTrailingZeros_0f7a4 cJ6_numberOfTrailingZeros_0f7a4 2 (some .int), Cond.constant RJ6 264 (65536), Cond.methodLink RX1 100 yX2_inverseOfOdd, Cond.static yX2_inverseOfOdd, Cond.initialized RX2]
def wsX1_turn_r2 : List Cond := [Cond.code yX2_inverseOfOdd cX2_inverseOfOdd 5 (some .long), Cond.constantLong RX2 38 (2), Cond.methodLink RX1 104 yX1_takeOut, Cond.instanceMethod yX1_takeOut, Cond.selects RX1 yX1_takeOut yX1_takeOut, Cond.code yX1_takeOut cX1_takeOut 18 none, Cond.methodLink RX1 108 yX2_crossHigh, Cond.static yX2_crossHigh, Cond.code yX2_crossHigh cX2_crossHigh 10 (some .long), Cond.methodLink RX2 29 yJ13_compareUnsigned_74951, Cond.static yJ13_compareUnsigned_74951, Cond.code yJ13_compareUnsigned_74951 cJ13_compareUnsigned_74951 4 (some .int), Cond.constantLong RJ13 168 (-9223372036854775808), Cond.methodLink RJ13 302 yJ13_compare_74951, Cond.static yJ13_compare_74951, Cond.code yJ13_compare_74951 cJ13_compare_74951 4 (some .int), Cond.methodLink RX2 33 yX2_highOfProduct, Cond.static yX2_highOfProduct, Cond.code yX2_highOfProduct cX2_highOfProduct 16 (some .long), Cond.constantLong RX2 36 (4294967295), Cond.methodLink RX1 112 yX2_shiftedLow, Cond.static yX2_shiftedLow, Cond.code yX2_shiftedLow cX2_shiftedLow 5 (some .long)]
def wsX1_turn : List Cond := .code yX1_turn cX1_turn 7 none :: ((wsX1_turn_r1 ++ wsX1_turn_r2) ++ wsX10)
def wsX1_makeStep_r1 : List Cond := [Cond.fieldLink RX1 35 "MarginTable$Table" "steps" "I", Cond.fieldLink RX1 25 "MarginTable$Table" "left" "[I", Cond.fieldLink RX1 38 "MarginTable$Table" "state" "I", Cond.fieldLink RX1 22 "MarginTable$Table" "entered" "[I", Cond.fieldLink RX1 18 "MarginTable$Table" "tells" "[I", Cond.fieldLink RX1 28 "MarginTable$Table" "turnedAt" "[I", Cond.methodLink RX1 49 yX1_columnOfY, Cond.instanceMethod yX1_columnOfY, Cond.selects RX1 yX1_columnOfY yX1_columnOfY, Cond.initialized RX1, Cond.code yX1_columnOfY cX1_columnOfY 1 (some .int), Cond.fieldLink RX1 31 "MarginTable$Table" "rows" "I", Cond.methodLink RX1 65 yX1_complement, Cond.instanceMethod yX1_complement, Cond.selects RX1 yX1_complement yX1_complement, Cond.code yX1_complement cX1_complement 2 (some .int), Cond.methodLink RX1 69 yX1_leastRow, Cond.instanceMethod yX1_leastRow, Cond.selects RX1 yX1_leastRow yX1_leastRow, Cond.code yX1_leastRow cX1_leastRow 4 (some .int), Cond.methodLink RX1 76 yX1_weight, Cond.instanceMethod yX1_weight, Cond.selects RX1 yX1_weight yX1_weight, Cond.code yX1_weight cX1_weight 3 (some .long)]
def wsX1_makeStep_r2 : List Cond := [Cond.fieldLink RX1 15 "MarginTable$Table" "cell" "[[J", Cond.methodLink RX1 80 yX1_isLess, Cond.instanceMethod yX1_isLess, Cond.selects RX1 yX1_isLess yX1_isLess, Cond.code yX1_isLess cX1_isLess 10 (some .boolean), Cond.methodLink RX1 45 yX1_columnOfQ, Cond.instanceMethod yX1_columnOfQ, Cond.selects RX1 yX1_columnOfQ yX1_columnOfQ, Cond.code yX1_columnOfQ cX1_columnOfQ 1 (some .int), Cond.methodLink RX1 84 yX2_crossSign, Cond.static yX2_crossSign, Cond.initialized RX2, Cond.code yX2_crossSign cX2_crossSign 10 (some .int), Cond.methodLink RX2 19 yX2_crossHigh, Cond.static yX2_crossHigh, Cond.code yX2_crossHigh cX2_crossHigh 10 (some .long), Cond.methodLink RX2 29 yJ13_compareUnsigned_74951, Cond.static yJ13_compareUnsigned_74951, Cond.initialized RJ13, Cond.code yJ13_compareUnsigned_74951 cJ13_compareUnsigned_74951 4 (some .int), Cond.constantLong RJ13 168 (-9223372036854775808), Cond.methodLink RJ13 302 yJ13_compare_74951, Cond.static yJ13_compare_74951, Cond.code yJ13_compare_74951 cJ13_compare_74951 4 (some .int)]
def wsX1_makeStep_r3 : List Cond := [Cond.methodLink RX2 33 yX2_highOfProduct, Cond.static yX2_highOfProduct, Cond.code yX2_highOfProduct cX2_highOfProduct 16 (some .long), Cond.constantLong RX2 36 (4294967295), Cond.methodLink RX2 23 yJ13_signum_95d88, Cond.static yJ13_signum_95d88, Cond.code yJ13_signum_95d88 cJ13_signum_95d88 2 (some .int), Cond.methodLink RX1 72 yX1_turn, Cond.instanceMethod yX1_turn, Cond.selects RX1 yX1_turn yX1_turn, Cond.code yX1_turn cX1_turn 7 none, Cond.fieldLink RX1 41 "MarginTable$Table" "scale" "J", Cond.methodLink RX1 90 yX1_negate, Cond.instanceMethod yX1_negate, Cond.selects RX1 yX1_negate yX1_negate, Cond.code yX1_negate cX1_negate 3 none, Cond.methodLink RX1 94 yJ13_numberOfTrailingZeros_95d88, Cond.static yJ13_numberOfTrailingZeros_95d88, Cond.code yJ13_numberOfTrailingZeros_95d88 cJ13_numberOfTrailingZeros_95d88 3 (some .int), Cond.methodLink RJ13 311 yJ6_numberOfTrailingZeros_0f7a4, Cond.static yJ6_numberOfTrailingZeros_0f7a4, Cond.initialized RJ6, Cond.code yJ6_numberOfTrailingZeros_0f7a4 cJ6_numberOfTrailingZeros_0f7a4 2 (some .int), Cond.constant RJ6 264 (65536)]
def wsX1_makeStep_r4 : List Cond := [Cond.methodLink RX1 100 yX2_inverseOfOdd, Cond.static yX2_inverseOfOdd, Cond.code yX2_inverseOfOdd cX2_inverseOfOdd 5 (some .long), Cond.constantLong RX2 38 (2), Cond.methodLink RX1 104 yX1_takeOut, Cond.instanceMethod yX1_takeOut, Cond.selects RX1 yX1_takeOut yX1_takeOut, Cond.code yX1_takeOut cX1_takeOut 18 none, Cond.methodLink RX1 108 yX2_crossHigh, Cond.methodLink RX1 112 yX2_shiftedLow, Cond.static yX2_shiftedLow, Cond.code yX2_shiftedLow cX2_shiftedLow 5 (some .long)]
def wsX1_makeStep : List Cond := .code yX1_makeStep cX1_makeStep 3 none :: ((wsX1_makeStep_r1 ++ (wsX1_makeStep_r2 ++ (wsX1_makeStep_r3 ++ wsX1_makeStep_r4))) ++ wsX10)
def wsX2_commonDivisor : List Cond := .code yX2_commonDivisor cX2_commonDivisor 7 (some .long) :: ([])
def wsX2_part : List Cond := .code yX2_part cX2_part 9 (some .long) :: ([.methodLink RX2 7 Lib.MathLoose.abs_long.x, .static Lib.MathLoose.abs_long.x, .initialized "java/lang/Math", .code Lib.MathLoose.abs_long.x Lib.MathLoose.abs_long.code 2 (some .long), .methodLink RX2 13 yX2_commonDivisor, .static yX2_commonDivisor, .initialized RX2, .code yX2_commonDivisor cX2_commonDivisor 7 (some .long)])
def wsX3_init_r1 : List Cond := [Cond.methodLink RX3 1 objectInit, Cond.instanceMethod objectInit, Cond.code objectInit ⟨#[0xb1]⟩ 1 none, Cond.classLink RX3 7 RX0, Cond.instantiable RX0 5, Cond.initialized RX0, Cond.fieldLink RX3 10 "MarginTable" "points" "LMarginTable$Points;", Cond.classLink RX3 16 RX1, Cond.instantiable RX1 9, Cond.initialized RX1, Cond.fieldLink RX3 19 "MarginTable" "table" "LMarginTable$Table;", Cond.fieldLink RX3 23 "MarginTable" "boxAbove" "I", Cond.fieldLink RX3 27 "MarginTable" "boxBelow" "I", Cond.instanceMethod yX0_init, Cond.code yX0_init cX0_init 1 none, Cond.methodLink RX0 1 objectInit, Cond.arrayClass .int, Cond.fieldLink RX0 9 "MarginTable$Points" "x" "[I", Cond.fieldLink RX0 13 "MarginTable$Points" "y" "[I", Cond.fieldLink RX0 16 "MarginTable$Points" "label" "[I", Cond.fieldLink RX0 19 "MarginTable$Points" "size" "I", Cond.fieldLink RX0 23 "MarginTable$Points" "power" "I", Cond.instanceMethod yX1_init, Cond.code yX1_init cX1_init 1 none]
def wsX3_init_r2 : List Cond := [Cond.methodLink RX1 7 objectInit, Cond.classLink RX1 13 "[[J", Cond.arrayClass .long, Cond.fieldLink RX1 15 "MarginTable$Table" "cell" "[[J", Cond.fieldLink RX1 18 "MarginTable$Table" "tells" "[I", Cond.fieldLink RX1 22 "MarginTable$Table" "entered" "[I", Cond.fieldLink RX1 25 "MarginTable$Table" "left" "[I", Cond.fieldLink RX1 28 "MarginTable$Table" "turnedAt" "[I", Cond.fieldLink RX1 31 "MarginTable$Table" "rows" "I", Cond.fieldLink RX1 35 "MarginTable$Table" "steps" "I", Cond.fieldLink RX1 38 "MarginTable$Table" "state" "I", Cond.fieldLink RX1 41 "MarginTable$Table" "scale" "J"]
def wsX3_init : List Cond := .code yX3_init cX3_init 1 none :: ((wsX3_init_r1 ++ wsX3_init_r2) ++ wsX00 ++ wsX30 ++ wsX10)
def wsX3_point_r1 : List Cond := [Cond.fieldLink RX3 10 "MarginTable" "points" "LMarginTable$Points;", Cond.fieldLink RX3 34 "MarginTable$Points" "size" "I", Cond.fieldLink RX3 37 "MarginTable$Points" "power" "I", Cond.fieldLink RX3 19 "MarginTable" "table" "LMarginTable$Table;", Cond.methodLink RX3 30 yX0_isPlace, Cond.static yX0_isPlace, Cond.initialized RX0, Cond.code yX0_isPlace cX0_isPlace 2 (some .boolean), Cond.methodLink RX3 40 yX0_mostWith, Cond.static yX0_mostWith, Cond.code yX0_mostWith cX0_mostWith 1 (some .int), Cond.methodLink RX3 44 yX0_add, Cond.instanceMethod yX0_add, Cond.selects RX0 yX0_add yX0_add, Cond.code yX0_add cX0_add 4 none, Cond.fieldLink RX0 9 "MarginTable$Points" "x" "[I", Cond.fieldLink RX0 19 "MarginTable$Points" "size" "I", Cond.fieldLink RX0 13 "MarginTable$Points" "y" "[I", Cond.fieldLink RX0 16 "MarginTable$Points" "label" "[I", Cond.methodLink RX3 48 yX1_forget, Cond.instanceMethod yX1_forget, Cond.selects RX1 yX1_forget yX1_forget, Cond.initialized RX1, Cond.code yX1_forget cX1_forget 1 none]
def wsX3_point_r2 : List Cond := [Cond.fieldLink RX1 31 "MarginTable$Table" "rows" "I", Cond.fieldLink RX1 35 "MarginTable$Table" "steps" "I", Cond.fieldLink RX1 38 "MarginTable$Table" "state" "I"]
def wsX3_point : List Cond := .code yX3_point cX3_point 4 (some .int) :: ((wsX3_point_r1 ++ wsX3_point_r2) ++ wsX30 ++ wsX00 ++ wsX10)
def wsX3_drop : List Cond := .code yX3_drop cX3_drop 1 (some .int) :: ([.fieldLink RX3 10 "MarginTable" "points" "LMarginTable$Points;", .fieldLink RX3 34 "MarginTable$Points" "size" "I", .fieldLink RX3 19 "MarginTable" "table" "LMarginTable$Table;", .methodLink RX3 48 yX1_forget, .instanceMethod yX1_forget, .selects RX1 yX1_forget yX1_forget, .initialized RX1, .code yX1_forget cX1_forget 1 none, .fieldLink RX1 31 "MarginTable$Table" "rows" "I", .fieldLink RX1 35 "MarginTable$Table" "steps" "I", .fieldLink RX1 38 "MarginTable$Table" "state" "I"] ++ wsX30 ++ wsX00 ++ wsX10)
def wsX3_degree : List Cond := .code yX3_degree cX3_degree 3 (some .int) :: ([.fieldLink RX3 10 "MarginTable" "points" "LMarginTable$Points;", .fieldLink RX3 34 "MarginTable$Points" "size" "I", .fieldLink RX3 37 "MarginTable$Points" "power" "I", .fieldLink RX3 19 "MarginTable" "table" "LMarginTable$Table;", .methodLink RX3 40 yX0_mostWith, .static yX0_mostWith, .initialized RX0, .code yX0_mostWith cX0_mostWith 1 (some .int), .methodLink RX3 48 yX1_forget, .instanceMethod yX1_forget, .selects RX1 yX1_forget yX1_forget, .initialized RX1, .code yX1_forget cX1_forget 1 none, .fieldLink RX1 31 "MarginTable$Table" "rows" "I", .fieldLink RX1 35 "MarginTable$Table" "steps" "I", .fieldLink RX1 38 "MarginTable$Table" "state" "I"] ++ wsX30 ++ wsX00 ++ wsX10)
def wsX3_box : List Cond := .code yX3_box cX3_box 3 (some .int) :: ([.fieldLink RX3 23 "MarginTable" "boxAbove" "I", .fieldLink RX3 27 "MarginTable" "boxBelow" "I", .fieldLink RX3 19 "MarginTable" "table" "LMarginTable$Table;", .methodLink RX3 48 yX1_forget, .instanceMethod yX1_forget, .selects RX1 yX1_forget yX1_forget, .initialized RX1, .code yX1_forget cX1_forget 1 none, .fieldLink RX1 31 "MarginTable$Table" "rows" "I", .fieldLink RX1 35 "MarginTable$Table" "steps" "I", .fieldLink RX1 38 "MarginTable$Table" "state" "I"] ++ wsX30 ++ wsX10)
def wsX3_q : List Cond := .code yX3_q cX3_q 3 (some .int) :: ([.fieldLink RX3 10 "MarginTable" "points" "LMarginTable$Points;", .constant RX3 59 (1000000), .methodLink RX3 51 yX0_has, .instanceMethod yX0_has, .selects RX0 yX0_has yX0_has, .initialized RX0, .code yX0_has cX0_has 2 (some .boolean), .fieldLink RX0 19 "MarginTable$Points" "size" "I", .methodLink RX3 55 yX0_product, .instanceMethod yX0_product, .selects RX0 yX0_product yX0_product, .code yX0_product cX0_product 3 (some .int), .fieldLink RX0 16 "MarginTable$Points" "label" "[I", .fieldLink RX0 9 "MarginTable$Points" "x" "[I", .fieldLink RX0 13 "MarginTable$Points" "y" "[I", .methodLink RX0 26 yX0_kernel, .instanceMethod yX0_kernel, .selects RX0 yX0_kernel yX0_kernel, .code yX0_kernel cX0_kernel 5 (some .int), .fieldLink RX0 23 "MarginTable$Points" "power" "I"] ++ wsX30 ++ wsX00)
def wsX3_begin_r1 : List Cond := [Cond.fieldLink RX3 10 "MarginTable" "points" "LMarginTable$Points;", Cond.fieldLink RX3 34 "MarginTable$Points" "size" "I", Cond.fieldLink RX3 19 "MarginTable" "table" "LMarginTable$Table;", Cond.fieldLink RX3 23 "MarginTable" "boxAbove" "I", Cond.fieldLink RX3 27 "MarginTable" "boxBelow" "I", Cond.fieldLink RX3 64 "MarginTable$Table" "rows" "I", Cond.methodLink RX3 60 yX1_lay, Cond.instanceMethod yX1_lay, Cond.selects RX1 yX1_lay yX1_lay, Cond.initialized RX1, Cond.code yX1_lay cX1_lay 7 none, Cond.fieldLink RX1 52 "MarginTable$Points" "size" "I", Cond.fieldLink RX1 31 "MarginTable$Table" "rows" "I", Cond.fieldLink RX1 35 "MarginTable$Table" "steps" "I", Cond.fieldLink RX1 38 "MarginTable$Table" "state" "I", Cond.fieldLink RX1 41 "MarginTable$Table" "scale" "J", Cond.fieldLink RX1 18 "MarginTable$Table" "tells" "[I", Cond.fieldLink RX1 15 "MarginTable$Table" "cell" "[[J", Cond.constantLong RX1 59 (-1), Cond.methodLink RX1 55 yX1_matrix, Cond.static yX1_matrix, Cond.code yX1_matrix cX1_matrix 4 (some .int), Cond.methodLink RX1 61 yX0_product, Cond.instanceMethod yX0_product]
def wsX3_begin_r2 : List Cond := [Cond.selects RX0 yX0_product yX0_product, Cond.initialized RX0, Cond.code yX0_product cX0_product 3 (some .int), Cond.fieldLink RX0 16 "MarginTable$Points" "label" "[I", Cond.fieldLink RX0 9 "MarginTable$Points" "x" "[I", Cond.fieldLink RX0 13 "MarginTable$Points" "y" "[I", Cond.methodLink RX0 26 yX0_kernel, Cond.instanceMethod yX0_kernel, Cond.selects RX0 yX0_kernel yX0_kernel, Cond.code yX0_kernel cX0_kernel 5 (some .int), Cond.fieldLink RX0 23 "MarginTable$Points" "power" "I", Cond.methodLink RX1 49 yX1_columnOfY, Cond.instanceMethod yX1_columnOfY, Cond.selects RX1 yX1_columnOfY yX1_columnOfY, Cond.code yX1_columnOfY cX1_columnOfY 1 (some .int), Cond.methodLink RX1 45 yX1_columnOfQ, Cond.instanceMethod yX1_columnOfQ, Cond.selects RX1 yX1_columnOfQ yX1_columnOfQ, Cond.code yX1_columnOfQ cX1_columnOfQ 1 (some .int)]
def wsX3_begin : List Cond := .code yX3_begin cX3_begin 1 (some .int) :: ((wsX3_begin_r1 ++ wsX3_begin_r2) ++ wsX30 ++ wsX00 ++ wsX10)
def wsX3_go_r1 : List Cond := [Cond.fieldLink RX3 19 "MarginTable" "table" "LMarginTable$Table;", Cond.fieldLink RX3 67 "MarginTable$Table" "state" "I", Cond.methodLink RX3 70 yX1_mayStep, Cond.instanceMethod yX1_mayStep, Cond.selects RX1 yX1_mayStep yX1_mayStep, Cond.initialized RX1, Cond.code yX1_mayStep cX1_mayStep 1 (some .boolean), Cond.fieldLink RX1 38 "MarginTable$Table" "state" "I", Cond.fieldLink RX1 35 "MarginTable$Table" "steps" "I", Cond.methodLink RX3 74 yX1_makeStep, Cond.instanceMethod yX1_makeStep, Cond.selects RX1 yX1_makeStep yX1_makeStep, Cond.code yX1_makeStep cX1_makeStep 3 none, Cond.fieldLink RX1 25 "MarginTable$Table" "left" "[I", Cond.fieldLink RX1 22 "MarginTable$Table" "entered" "[I", Cond.fieldLink RX1 18 "MarginTable$Table" "tells" "[I", Cond.fieldLink RX1 28 "MarginTable$Table" "turnedAt" "[I", Cond.methodLink RX1 49 yX1_columnOfY, Cond.instanceMethod yX1_columnOfY, Cond.selects RX1 yX1_columnOfY yX1_columnOfY, Cond.code yX1_columnOfY cX1_columnOfY 1 (some .int), Cond.fieldLink RX1 31 "MarginTable$Table" "rows" "I", Cond.methodLink RX1 65 yX1_complement, Cond.instanceMethod yX1_complement]
def wsX3_go_r2 : List Cond := [Cond.selects RX1 yX1_complement yX1_complement, Cond.code yX1_complement cX1_complement 2 (some .int), Cond.methodLink RX1 69 yX1_leastRow, Cond.instanceMethod yX1_leastRow, Cond.selects RX1 yX1_leastRow yX1_leastRow, Cond.code yX1_leastRow cX1_leastRow 4 (some .int), Cond.methodLink RX1 76 yX1_weight, Cond.instanceMethod yX1_weight, Cond.selects RX1 yX1_weight yX1_weight, Cond.code yX1_weight cX1_weight 3 (some .long), Cond.fieldLink RX1 15 "MarginTable$Table" "cell" "[[J", Cond.methodLink RX1 80 yX1_isLess, Cond.instanceMethod yX1_isLess, Cond.selects RX1 yX1_isLess yX1_isLess, Cond.code yX1_isLess cX1_isLess 10 (some .boolean), Cond.methodLink RX1 45 yX1_columnOfQ, Cond.instanceMethod yX1_columnOfQ, Cond.selects RX1 yX1_columnOfQ yX1_columnOfQ, Cond.code yX1_columnOfQ cX1_columnOfQ 1 (some .int), Cond.methodLink RX1 84 yX2_crossSign, Cond.static yX2_crossSign, Cond.initialized RX2, Cond.code yX2_crossSign cX2_crossSign 10 (some .int), Cond.methodLink RX2 19 yX2_crossHigh]
def wsX3_go_r3 : List Cond := [Cond.static yX2_crossHigh, Cond.code yX2_crossHigh cX2_crossHigh 10 (some .long), Cond.methodLink RX2 29 yJ13_compareUnsigned_74951, Cond.static yJ13_compareUnsigned_74951, Cond.initialized RJ13, Cond.code yJ13_compareUnsigned_74951 cJ13_compareUnsigned_74951 4 (some .int), Cond.constantLong RJ13 168 (-9223372036854775808), Cond.methodLink RJ13 302 yJ13_compare_74951, Cond.static yJ13_compare_74951, Cond.code yJ13_compare_74951 cJ13_compare_74951 4 (some .int), Cond.methodLink RX2 33 yX2_highOfProduct, Cond.static yX2_highOfProduct, Cond.code yX2_highOfProduct cX2_highOfProduct 16 (some .long), Cond.constantLong RX2 36 (4294967295), Cond.methodLink RX2 23 yJ13_signum_95d88, Cond.static yJ13_signum_95d88, Cond.code yJ13_signum_95d88 cJ13_signum_95d88 2 (some .int), Cond.methodLink RX1 72 yX1_turn, Cond.instanceMethod yX1_turn, Cond.selects RX1 yX1_turn yX1_turn, Cond.code yX1_turn cX1_turn 7 none, Cond.fieldLink RX1 41 "MarginTable$Table" "scale" "J", Cond.methodLink RX1 90 yX1_negate, Cond.instanceMethod yX1_negate]
def wsX3_go_r4 : List Cond := [Cond.selects RX1 yX1_negate yX1_negate, Cond.code yX1_negate cX1_negate 3 none, Cond.methodLink RX1 94 yJ13_numberOfTrailingZeros_95d88, Cond.static yJ13_numberOfTrailingZeros_95d88, Cond.code yJ13_numberOfTrailingZeros_95d88 cJ13_numberOfTrailingZeros_95d88 3 (some .int), Cond.methodLink RJ13 311 yJ6_numberOfTrailingZeros_0f7a4, Cond.static yJ6_numberOfTrailingZeros_0f7a4, Cond.initialized RJ6, Cond.code yJ6_numberOfTrailingZeros_0f7a4 cJ6_numberOfTrailingZeros_0f7a4 2 (some .int), Cond.constant RJ6 264 (65536), Cond.methodLink RX1 100 yX2_inverseOfOdd, Cond.static yX2_inverseOfOdd, Cond.code yX2_inverseOfOdd cX2_inverseOfOdd 5 (some .long), Cond.constantLong RX2 38 (2), Cond.methodLink RX1 104 yX1_takeOut, Cond.instanceMethod yX1_takeOut, Cond.selects RX1 yX1_takeOut yX1_takeOut, Cond.code yX1_takeOut cX1_takeOut 18 none, Cond.methodLink RX1 108 yX2_crossHigh, Cond.methodLink RX1 112 yX2_shiftedLow, Cond.static yX2_shiftedLow, Cond.code yX2_shiftedLow cX2_shiftedLow 5 (some .long)]
def wsX3_go : List Cond := .code yX3_go cX3_go 3 (some .int) :: ((wsX3_go_r1 ++ (wsX3_go_r2 ++ (wsX3_go_r3 ++ wsX3_go_r4))) ++ wsX30 ++ wsX10)
def wsX3_step : List Cond := .code yX3_step cX3_step 3 (some .int) :: ([.fieldLink RX3 19 "MarginTable" "table" "LMarginTable$Table;", .fieldLink RX3 77 "MarginTable$Table" "steps" "I", .fieldLink RX3 80 "MarginTable$Table" "turnedAt" "[I", .fieldLink RX3 84 "MarginTable$Table" "entered" "[I", .fieldLink RX3 87 "MarginTable$Table" "left" "[I", .methodLink RX3 90 yX1_letter, .instanceMethod yX1_letter, .selects RX1 yX1_letter yX1_letter, .initialized RX1, .code yX1_letter cX1_letter 2 (some .int), .fieldLink RX1 31 "MarginTable$Table" "rows" "I", .methodLink RX1 49 yX1_columnOfY, .instanceMethod yX1_columnOfY, .selects RX1 yX1_columnOfY yX1_columnOfY, .code yX1_columnOfY cX1_columnOfY 1 (some .int)] ++ wsX30 ++ wsX10)
def wsX3_told : List Cond := .code yX3_told cX3_told 2 (some .int) :: ([.fieldLink RX3 19 "MarginTable" "table" "LMarginTable$Table;", .fieldLink RX3 96 "MarginTable$Table" "tells" "[I", .methodLink RX3 93 yX1_hasRow, .instanceMethod yX1_hasRow, .selects RX1 yX1_hasRow yX1_hasRow, .initialized RX1, .code yX1_hasRow cX1_hasRow 2 (some .boolean), .fieldLink RX1 31 "MarginTable$Table" "rows" "I", .methodLink RX3 90 yX1_letter, .instanceMethod yX1_letter, .selects RX1 yX1_letter yX1_letter, .code yX1_letter cX1_letter 2 (some .int), .methodLink RX1 49 yX1_columnOfY, .instanceMethod yX1_columnOfY, .selects RX1 yX1_columnOfY yX1_columnOfY, .code yX1_columnOfY cX1_columnOfY 1 (some .int)] ++ wsX30 ++ wsX10)
def wsX3_isPart : List Cond := .code yX3_isPart cX3_isPart 1 (some .boolean) :: ([])
def wsX3_at_r1 : List Cond := [Cond.fieldLink RX3 19 "MarginTable" "table" "LMarginTable$Table;", Cond.fieldLink RX3 105 "MarginTable$Table" "cell" "[[J", Cond.fieldLink RX3 109 "MarginTable$Table" "scale" "J", Cond.methodLink RX3 93 yX1_hasRow, Cond.instanceMethod yX1_hasRow, Cond.selects RX1 yX1_hasRow yX1_hasRow, Cond.initialized RX1, Cond.code yX1_hasRow cX1_hasRow 2 (some .boolean), Cond.fieldLink RX1 31 "MarginTable$Table" "rows" "I", Cond.methodLink RX3 99 yX1_hasColumn, Cond.instanceMethod yX1_hasColumn, Cond.selects RX1 yX1_hasColumn yX1_hasColumn, Cond.code yX1_hasColumn cX1_hasColumn 2 (some .boolean), Cond.methodLink RX1 45 yX1_columnOfQ, Cond.instanceMethod yX1_columnOfQ, Cond.selects RX1 yX1_columnOfQ yX1_columnOfQ, Cond.code yX1_columnOfQ cX1_columnOfQ 1 (some .int), Cond.methodLink RX3 102 yX3_isPart, Cond.static yX3_isPart, Cond.initialized RX3, Cond.code yX3_isPart cX3_isPart 1 (some .boolean), Cond.methodLink RX3 113 yX2_part, Cond.static yX2_part, Cond.initialized RX2]
def wsX3_at_r2 : List Cond := [Cond.code yX2_part cX2_part 9 (some .long), Cond.methodLink RX2 7 Lib.MathLoose.abs_long.x, Cond.static Lib.MathLoose.abs_long.x, Cond.initialized "java/lang/Math", Cond.code Lib.MathLoose.abs_long.x Lib.MathLoose.abs_long.code 2 (some .long), Cond.methodLink RX2 13 yX2_commonDivisor, Cond.static yX2_commonDivisor, Cond.code yX2_commonDivisor cX2_commonDivisor 7 (some .long)]
def wsX3_at : List Cond := .code yX3_at cX3_at 4 (some .long) :: ((wsX3_at_r1 ++ wsX3_at_r2) ++ wsX30 ++ wsX10)
def wsX3_isDone : List Cond := .code yX3_isDone cX3_isDone 1 (some .boolean) :: ([.fieldLink RX3 19 "MarginTable" "table" "LMarginTable$Table;", .fieldLink RX3 67 "MarginTable$Table" "state" "I"] ++ wsX30 ++ wsX10)
def wsX3_share : List Cond := .code yX3_share cX3_share 2 (some .long) :: ([.fieldLink RX3 19 "MarginTable" "table" "LMarginTable$Table;", .methodLink RX3 182 yX1_shareOfZ, .instanceMethod yX1_shareOfZ, .selects RX1 yX1_shareOfZ yX1_shareOfZ, .initialized RX1, .code yX1_shareOfZ cX1_shareOfZ 3 (some .long), .fieldLink RX1 31 "MarginTable$Table" "rows" "I", .fieldLink RX1 18 "MarginTable$Table" "tells" "[I", .fieldLink RX1 15 "MarginTable$Table" "cell" "[[J", .methodLink RX1 45 yX1_columnOfQ, .instanceMethod yX1_columnOfQ, .selects RX1 yX1_columnOfQ yX1_columnOfQ, .code yX1_columnOfQ cX1_columnOfQ 1 (some .int)] ++ wsX30 ++ wsX10)
def wsX3_shareBase : List Cond := .code yX3_shareBase cX3_shareBase 1 (some .long) :: ([.fieldLink RX3 19 "MarginTable" "table" "LMarginTable$Table;", .fieldLink RX3 109 "MarginTable$Table" "scale" "J", .fieldLink RX3 27 "MarginTable" "boxBelow" "I"] ++ wsX30 ++ wsX10)
def wsX3_multiplier_r1 : List Cond := [Cond.fieldLink RX3 10 "MarginTable" "points" "LMarginTable$Points;", Cond.methodLink RX3 119 yX3_isDone, Cond.instanceMethod yX3_isDone, Cond.selects RX3 yX3_isDone yX3_isDone, Cond.initialized RX3, Cond.code yX3_isDone cX3_isDone 1 (some .boolean), Cond.fieldLink RX3 19 "MarginTable" "table" "LMarginTable$Table;", Cond.fieldLink RX3 67 "MarginTable$Table" "state" "I", Cond.methodLink RX3 51 yX0_has, Cond.instanceMethod yX0_has, Cond.selects RX0 yX0_has yX0_has, Cond.initialized RX0, Cond.code yX0_has cX0_has 2 (some .boolean), Cond.fieldLink RX0 19 "MarginTable$Points" "size" "I", Cond.methodLink RX3 102 yX3_isPart, Cond.static yX3_isPart, Cond.code yX3_isPart cX3_isPart 1 (some .boolean), Cond.methodLink RX3 122 yX3_share, Cond.instanceMethod yX3_share, Cond.selects RX3 yX3_share yX3_share, Cond.code yX3_share cX3_share 2 (some .long), Cond.methodLink RX3 182 yX1_shareOfZ, Cond.instanceMethod yX1_shareOfZ, Cond.selects RX1 yX1_shareOfZ yX1_shareOfZ]
def wsX3_multiplier_r2 : List Cond := [Cond.initialized RX1, Cond.code yX1_shareOfZ cX1_shareOfZ 3 (some .long), Cond.fieldLink RX1 31 "MarginTable$Table" "rows" "I", Cond.fieldLink RX1 18 "MarginTable$Table" "tells" "[I", Cond.fieldLink RX1 15 "MarginTable$Table" "cell" "[[J", Cond.methodLink RX1 45 yX1_columnOfQ, Cond.instanceMethod yX1_columnOfQ, Cond.selects RX1 yX1_columnOfQ yX1_columnOfQ, Cond.code yX1_columnOfQ cX1_columnOfQ 1 (some .int), Cond.methodLink RX3 126 yX3_shareBase, Cond.instanceMethod yX3_shareBase, Cond.selects RX3 yX3_shareBase yX3_shareBase, Cond.code yX3_shareBase cX3_shareBase 1 (some .long), Cond.fieldLink RX3 109 "MarginTable$Table" "scale" "J", Cond.fieldLink RX3 27 "MarginTable" "boxBelow" "I", Cond.methodLink RX3 113 yX2_part, Cond.static yX2_part, Cond.initialized RX2, Cond.code yX2_part cX2_part 9 (some .long), Cond.methodLink RX2 7 Lib.MathLoose.abs_long.x, Cond.static Lib.MathLoose.abs_long.x, Cond.initialized "java/lang/Math", Cond.code Lib.MathLoose.abs_long.x Lib.MathLoose.abs_long.code 2 (some .long), Cond.methodLink RX2 13 yX2_commonDivisor]
def wsX3_multiplier_r3 : List Cond := [Cond.static yX2_commonDivisor, Cond.code yX2_commonDivisor cX2_commonDivisor 7 (some .long)]
def wsX3_multiplier : List Cond := .code yX3_multiplier cX3_multiplier 3 (some .long) :: ((wsX3_multiplier_r1 ++ (wsX3_multiplier_r2 ++ wsX3_multiplier_r3)) ++ wsX30 ++ wsX10 ++ wsX00)
def wsX3_fullShare : List Cond := .code yX3_fullShare cX3_fullShare 1 (some .long) :: ([.fieldLink RX3 19 "MarginTable" "table" "LMarginTable$Table;", .fieldLink RX3 109 "MarginTable$Table" "scale" "J", .fieldLink RX3 23 "MarginTable" "boxAbove" "I"] ++ wsX30 ++ wsX10)
def wsX3_placeInBox : List Cond := .code yX3_placeInBox cX3_placeInBox 4 (some .int) :: ([.methodLink RX3 122 yX3_share, .instanceMethod yX3_share, .selects RX3 yX3_share yX3_share, .initialized RX3, .code yX3_share cX3_share 2 (some .long), .fieldLink RX3 19 "MarginTable" "table" "LMarginTable$Table;", .methodLink RX3 182 yX1_shareOfZ, .instanceMethod yX1_shareOfZ, .selects RX1 yX1_shareOfZ yX1_shareOfZ, .initialized RX1, .code yX1_shareOfZ cX1_shareOfZ 3 (some .long), .fieldLink RX1 31 "MarginTable$Table" "rows" "I", .fieldLink RX1 18 "MarginTable$Table" "tells" "[I", .fieldLink RX1 15 "MarginTable$Table" "cell" "[[J", .methodLink RX1 45 yX1_columnOfQ, .instanceMethod yX1_columnOfQ, .selects RX1 yX1_columnOfQ yX1_columnOfQ, .code yX1_columnOfQ cX1_columnOfQ 1 (some .int), .methodLink RX3 185 yX3_fullShare, .instanceMethod yX3_fullShare, .selects RX3 yX3_fullShare yX3_fullShare, .code yX3_fullShare cX3_fullShare 1 (some .long), .fieldLink RX3 109 "MarginTable$Table" "scale" "J", .fieldLink RX3 23 "MarginTable" "boxAbove" "I"] ++ wsX30 ++ wsX10)
def wsX3_lies_r1 : List Cond := [Cond.fieldLink RX3 10 "MarginTable" "points" "LMarginTable$Points;", Cond.methodLink RX3 51 yX0_has, Cond.instanceMethod yX0_has, Cond.selects RX0 yX0_has yX0_has, Cond.initialized RX0, Cond.code yX0_has cX0_has 2 (some .boolean), Cond.fieldLink RX0 19 "MarginTable$Points" "size" "I", Cond.methodLink RX3 119 yX3_isDone, Cond.instanceMethod yX3_isDone, Cond.selects RX3 yX3_isDone yX3_isDone, Cond.initialized RX3, Cond.code yX3_isDone cX3_isDone 1 (some .boolean), Cond.fieldLink RX3 19 "MarginTable" "table" "LMarginTable$Table;", Cond.fieldLink RX3 67 "MarginTable$Table" "state" "I", Cond.methodLink RX3 130 yX3_placeInBox, Cond.instanceMethod yX3_placeInBox, Cond.selects RX3 yX3_placeInBox yX3_placeInBox, Cond.code yX3_placeInBox cX3_placeInBox 4 (some .int), Cond.methodLink RX3 122 yX3_share, Cond.instanceMethod yX3_share, Cond.selects RX3 yX3_share yX3_share, Cond.code yX3_share cX3_share 2 (some .long), Cond.methodLink RX3 182 yX1_shareOfZ, Cond.instanceMethod yX1_shareOfZ]
def wsX3_lies_r2 : List Cond := [Cond.selects RX1 yX1_shareOfZ yX1_shareOfZ, Cond.initialized RX1, Cond.code yX1_shareOfZ cX1_shareOfZ 3 (some .long), Cond.fieldLink RX1 31 "MarginTable$Table" "rows" "I", Cond.fieldLink RX1 18 "MarginTable$Table" "tells" "[I", Cond.fieldLink RX1 15 "MarginTable$Table" "cell" "[[J", Cond.methodLink RX1 45 yX1_columnOfQ, Cond.instanceMethod yX1_columnOfQ, Cond.selects RX1 yX1_columnOfQ yX1_columnOfQ, Cond.code yX1_columnOfQ cX1_columnOfQ 1 (some .int), Cond.methodLink RX3 185 yX3_fullShare, Cond.instanceMethod yX3_fullShare, Cond.selects RX3 yX3_fullShare yX3_fullShare, Cond.code yX3_fullShare cX3_fullShare 1 (some .long), Cond.fieldLink RX3 109 "MarginTable$Table" "scale" "J", Cond.fieldLink RX3 23 "MarginTable" "boxAbove" "I"]
def wsX3_lies : List Cond := .code yX3_lies cX3_lies 2 (some .int) :: ((wsX3_lies_r1 ++ wsX3_lies_r2) ++ wsX30 ++ wsX00 ++ wsX10)
def wsX3_slopeShare_r1 : List Cond := [Cond.fieldLink RX3 10 "MarginTable" "points" "LMarginTable$Points;", Cond.fieldLink RX3 34 "MarginTable$Points" "size" "I", Cond.methodLink RX3 126 yX3_shareBase, Cond.instanceMethod yX3_shareBase, Cond.selects RX3 yX3_shareBase yX3_shareBase, Cond.initialized RX3, Cond.code yX3_shareBase cX3_shareBase 1 (some .long), Cond.fieldLink RX3 19 "MarginTable" "table" "LMarginTable$Table;", Cond.fieldLink RX3 109 "MarginTable$Table" "scale" "J", Cond.fieldLink RX3 27 "MarginTable" "boxBelow" "I", Cond.methodLink RX3 55 yX0_product, Cond.instanceMethod yX0_product, Cond.selects RX0 yX0_product yX0_product, Cond.initialized RX0, Cond.code yX0_product cX0_product 3 (some .int), Cond.fieldLink RX0 16 "MarginTable$Points" "label" "[I", Cond.fieldLink RX0 9 "MarginTable$Points" "x" "[I", Cond.fieldLink RX0 13 "MarginTable$Points" "y" "[I", Cond.methodLink RX0 26 yX0_kernel, Cond.instanceMethod yX0_kernel, Cond.selects RX0 yX0_kernel yX0_kernel, Cond.code yX0_kernel cX0_kernel 5 (some .int), Cond.fieldLink RX0 23 "MarginTable$Points" "power" "I", Cond.methodLink RX3 122 yX3_share]
def wsX3_slopeShare_r2 : List Cond := [Cond.instanceMethod yX3_share, Cond.selects RX3 yX3_share yX3_share, Cond.code yX3_share cX3_share 2 (some .long), Cond.methodLink RX3 182 yX1_shareOfZ, Cond.instanceMethod yX1_shareOfZ, Cond.selects RX1 yX1_shareOfZ yX1_shareOfZ, Cond.initialized RX1, Cond.code yX1_shareOfZ cX1_shareOfZ 3 (some .long), Cond.fieldLink RX1 31 "MarginTable$Table" "rows" "I", Cond.fieldLink RX1 18 "MarginTable$Table" "tells" "[I", Cond.fieldLink RX1 15 "MarginTable$Table" "cell" "[[J", Cond.methodLink RX1 45 yX1_columnOfQ, Cond.instanceMethod yX1_columnOfQ, Cond.selects RX1 yX1_columnOfQ yX1_columnOfQ, Cond.code yX1_columnOfQ cX1_columnOfQ 1 (some .int)]
def wsX3_slopeShare : List Cond := .code yX3_slopeShare cX3_slopeShare 5 (some .long) :: ((wsX3_slopeShare_r1 ++ wsX3_slopeShare_r2) ++ wsX30 ++ wsX00 ++ wsX10)
def wsX3_slope_r1 : List Cond := [Cond.fieldLink RX3 10 "MarginTable" "points" "LMarginTable$Points;", Cond.methodLink RX3 119 yX3_isDone, Cond.instanceMethod yX3_isDone, Cond.selects RX3 yX3_isDone yX3_isDone, Cond.initialized RX3, Cond.code yX3_isDone cX3_isDone 1 (some .boolean), Cond.fieldLink RX3 19 "MarginTable" "table" "LMarginTable$Table;", Cond.fieldLink RX3 67 "MarginTable$Table" "state" "I", Cond.methodLink RX3 51 yX0_has, Cond.instanceMethod yX0_has, Cond.selects RX0 yX0_has yX0_has, Cond.initialized RX0, Cond.code yX0_has cX0_has 2 (some .boolean), Cond.fieldLink RX0 19 "MarginTable$Points" "size" "I", Cond.methodLink RX3 102 yX3_isPart, Cond.static yX3_isPart, Cond.code yX3_isPart cX3_isPart 1 (some .boolean), Cond.methodLink RX3 133 yX3_slopeShare, Cond.instanceMethod yX3_slopeShare, Cond.selects RX3 yX3_slopeShare yX3_slopeShare, Cond.code yX3_slopeShare cX3_slopeShare 5 (some .long), Cond.fieldLink RX3 34 "MarginTable$Points" "size" "I", Cond.methodLink RX3 126 yX3_shareBase, Cond.instanceMethod yX3_shareBase]
def wsX3_slope_r2 : List Cond := [Cond.selects RX3 yX3_shareBase yX3_shareBase, Cond.code yX3_shareBase cX3_shareBase 1 (some .long), Cond.fieldLink RX3 109 "MarginTable$Table" "scale" "J", Cond.fieldLink RX3 27 "MarginTable" "boxBelow" "I", Cond.methodLink RX3 55 yX0_product, Cond.instanceMethod yX0_product, Cond.selects RX0 yX0_product yX0_product, Cond.code yX0_product cX0_product 3 (some .int), Cond.fieldLink RX0 16 "MarginTable$Points" "label" "[I", Cond.fieldLink RX0 9 "MarginTable$Points" "x" "[I", Cond.fieldLink RX0 13 "MarginTable$Points" "y" "[I", Cond.methodLink RX0 26 yX0_kernel, Cond.instanceMethod yX0_kernel, Cond.selects RX0 yX0_kernel yX0_kernel, Cond.code yX0_kernel cX0_kernel 5 (some .int), Cond.fieldLink RX0 23 "MarginTable$Points" "power" "I", Cond.methodLink RX3 122 yX3_share, Cond.instanceMethod yX3_share, Cond.selects RX3 yX3_share yX3_share, Cond.code yX3_share cX3_share 2 (some .long), Cond.methodLink RX3 182 yX1_shareOfZ, Cond.instanceMethod yX1_shareOfZ, Cond.selects RX1 yX1_shareOfZ yX1_shareOfZ, Cond.initialized RX1]
def wsX3_slope_r3 : List Cond := [Cond.code yX1_shareOfZ cX1_shareOfZ 3 (some .long), Cond.fieldLink RX1 31 "MarginTable$Table" "rows" "I", Cond.fieldLink RX1 18 "MarginTable$Table" "tells" "[I", Cond.fieldLink RX1 15 "MarginTable$Table" "cell" "[[J", Cond.methodLink RX1 45 yX1_columnOfQ, Cond.instanceMethod yX1_columnOfQ, Cond.selects RX1 yX1_columnOfQ yX1_columnOfQ, Cond.code yX1_columnOfQ cX1_columnOfQ 1 (some .int), Cond.methodLink RX3 113 yX2_part, Cond.static yX2_part, Cond.initialized RX2, Cond.code yX2_part cX2_part 9 (some .long), Cond.methodLink RX2 7 Lib.MathLoose.abs_long.x, Cond.static Lib.MathLoose.abs_long.x, Cond.initialized "java/lang/Math", Cond.code Lib.MathLoose.abs_long.x Lib.MathLoose.abs_long.code 2 (some .long), Cond.methodLink RX2 13 yX2_commonDivisor, Cond.static yX2_commonDivisor, Cond.code yX2_commonDivisor cX2_commonDivisor 7 (some .long)]
def wsX3_slope : List Cond := .code yX3_slope cX3_slope 3 (some .long) :: ((wsX3_slope_r1 ++ (wsX3_slope_r2 ++ wsX3_slope_r3)) ++ wsX30 ++ wsX10 ++ wsX00)
def wsX3_holdsCondition_r1 : List Cond := [Cond.methodLink RX3 133 yX3_slopeShare, Cond.instanceMethod yX3_slopeShare, Cond.selects RX3 yX3_slopeShare yX3_slopeShare, Cond.initialized RX3, Cond.code yX3_slopeShare cX3_slopeShare 5 (some .long), Cond.fieldLink RX3 10 "MarginTable" "points" "LMarginTable$Points;", Cond.fieldLink RX3 34 "MarginTable$Points" "size" "I", Cond.methodLink RX3 126 yX3_shareBase, Cond.instanceMethod yX3_shareBase, Cond.selects RX3 yX3_shareBase yX3_shareBase, Cond.code yX3_shareBase cX3_shareBase 1 (some .long), Cond.fieldLink RX3 19 "MarginTable" "table" "LMarginTable$Table;", Cond.fieldLink RX3 109 "MarginTable$Table" "scale" "J", Cond.fieldLink RX3 27 "MarginTable" "boxBelow" "I", Cond.methodLink RX3 55 yX0_product, Cond.instanceMethod yX0_product, Cond.selects RX0 yX0_product yX0_product, Cond.initialized RX0, Cond.code yX0_product cX0_product 3 (some .int), Cond.fieldLink RX0 16 "MarginTable$Points" "label" "[I", Cond.fieldLink RX0 9 "MarginTable$Points" "x" "[I", Cond.fieldLink RX0 13 "MarginTable$Points" "y" "[I", Cond.methodLink RX0 26 yX0_kernel, Cond.instanceMethod yX0_kernel]
def wsX3_holdsCondition_r2 : List Cond := [Cond.selects RX0 yX0_kernel yX0_kernel, Cond.code yX0_kernel cX0_kernel 5 (some .int), Cond.fieldLink RX0 23 "MarginTable$Points" "power" "I", Cond.methodLink RX3 122 yX3_share, Cond.instanceMethod yX3_share, Cond.selects RX3 yX3_share yX3_share, Cond.code yX3_share cX3_share 2 (some .long), Cond.methodLink RX3 182 yX1_shareOfZ, Cond.instanceMethod yX1_shareOfZ, Cond.selects RX1 yX1_shareOfZ yX1_shareOfZ, Cond.initialized RX1, Cond.code yX1_shareOfZ cX1_shareOfZ 3 (some .long), Cond.fieldLink RX1 31 "MarginTable$Table" "rows" "I", Cond.fieldLink RX1 18 "MarginTable$Table" "tells" "[I", Cond.fieldLink RX1 15 "MarginTable$Table" "cell" "[[J", Cond.methodLink RX1 45 yX1_columnOfQ, Cond.instanceMethod yX1_columnOfQ, Cond.selects RX1 yX1_columnOfQ yX1_columnOfQ, Cond.code yX1_columnOfQ cX1_columnOfQ 1 (some .int), Cond.methodLink RX3 130 yX3_placeInBox, Cond.instanceMethod yX3_placeInBox, Cond.selects RX3 yX3_placeInBox yX3_placeInBox, Cond.code yX3_placeInBox cX3_placeInBox 4 (some .int), Cond.methodLink RX3 185 yX3_fullShare]
def wsX3_holdsCondition_r3 : List Cond := [Cond.instanceMethod yX3_fullShare, Cond.selects RX3 yX3_fullShare yX3_fullShare, Cond.code yX3_fullShare cX3_fullShare 1 (some .long), Cond.fieldLink RX3 23 "MarginTable" "boxAbove" "I"]
def wsX3_holdsCondition : List Cond := .code yX3_holdsCondition cX3_holdsCondition 5 (some .boolean) :: ((wsX3_holdsCondition_r1 ++ (wsX3_holdsCondition_r2 ++ wsX3_holdsCondition_r3)) ++ wsX30 ++ wsX00 ++ wsX10)
def wsX3_check_r1 : List Cond := [Cond.fieldLink RX3 10 "MarginTable" "points" "LMarginTable$Points;", Cond.fieldLink RX3 34 "MarginTable$Points" "size" "I", Cond.methodLink RX3 119 yX3_isDone, Cond.instanceMethod yX3_isDone, Cond.selects RX3 yX3_isDone yX3_isDone, Cond.initialized RX3, Cond.code yX3_isDone cX3_isDone 1 (some .boolean), Cond.fieldLink RX3 19 "MarginTable" "table" "LMarginTable$Table;", Cond.fieldLink RX3 67 "MarginTable$Table" "state" "I", Cond.methodLink RX3 136 yX3_holdsCondition, Cond.instanceMethod yX3_holdsCondition, Cond.selects RX3 yX3_holdsCondition yX3_holdsCondition, Cond.code yX3_holdsCondition cX3_holdsCondition 5 (some .boolean), Cond.methodLink RX3 133 yX3_slopeShare, Cond.instanceMethod yX3_slopeShare, Cond.selects RX3 yX3_slopeShare yX3_slopeShare, Cond.code yX3_slopeShare cX3_slopeShare 5 (some .long), Cond.methodLink RX3 126 yX3_shareBase, Cond.instanceMethod yX3_shareBase, Cond.selects RX3 yX3_shareBase yX3_shareBase, Cond.code yX3_shareBase cX3_shareBase 1 (some .long), Cond.fieldLink RX3 109 "MarginTable$Table" "scale" "J", Cond.fieldLink RX3 27 "MarginTable" "boxBelow" "I", Cond.methodLink RX3 55 yX0_product]
def wsX3_check_r2 : List Cond := [Cond.instanceMethod yX0_product, Cond.selects RX0 yX0_product yX0_product, Cond.initialized RX0, Cond.code yX0_product cX0_product 3 (some .int), Cond.fieldLink RX0 16 "MarginTable$Points" "label" "[I", Cond.fieldLink RX0 9 "MarginTable$Points" "x" "[I", Cond.fieldLink RX0 13 "MarginTable$Points" "y" "[I", Cond.methodLink RX0 26 yX0_kernel, Cond.instanceMethod yX0_kernel, Cond.selects RX0 yX0_kernel yX0_kernel, Cond.code yX0_kernel cX0_kernel 5 (some .int), Cond.fieldLink RX0 23 "MarginTable$Points" "power" "I", Cond.methodLink RX3 122 yX3_share, Cond.instanceMethod yX3_share, Cond.selects RX3 yX3_share yX3_share, Cond.code yX3_share cX3_share 2 (some .long), Cond.methodLink RX3 182 yX1_shareOfZ, Cond.instanceMethod yX1_shareOfZ, Cond.selects RX1 yX1_shareOfZ yX1_shareOfZ, Cond.initialized RX1, Cond.code yX1_shareOfZ cX1_shareOfZ 3 (some .long), Cond.fieldLink RX1 31 "MarginTable$Table" "rows" "I", Cond.fieldLink RX1 18 "MarginTable$Table" "tells" "[I", Cond.fieldLink RX1 15 "MarginTable$Table" "cell" "[[J"]
def wsX3_check_r3 : List Cond := [Cond.methodLink RX1 45 yX1_columnOfQ, Cond.instanceMethod yX1_columnOfQ, Cond.selects RX1 yX1_columnOfQ yX1_columnOfQ, Cond.code yX1_columnOfQ cX1_columnOfQ 1 (some .int), Cond.methodLink RX3 130 yX3_placeInBox, Cond.instanceMethod yX3_placeInBox, Cond.selects RX3 yX3_placeInBox yX3_placeInBox, Cond.code yX3_placeInBox cX3_placeInBox 4 (some .int), Cond.methodLink RX3 185 yX3_fullShare, Cond.instanceMethod yX3_fullShare, Cond.selects RX3 yX3_fullShare yX3_fullShare, Cond.code yX3_fullShare cX3_fullShare 1 (some .long), Cond.fieldLink RX3 23 "MarginTable" "boxAbove" "I"]
def wsX3_check : List Cond := .code yX3_check cX3_check 2 (some .int) :: ((wsX3_check_r1 ++ (wsX3_check_r2 ++ wsX3_check_r3)) ++ wsX30 ++ wsX00 ++ wsX10)
def wsX3_isInBox : List Cond := .code yX3_isInBox cX3_isInBox 3 (some .boolean) :: ([.fieldLink RX3 27 "MarginTable" "boxBelow" "I", .fieldLink RX3 23 "MarginTable" "boxAbove" "I"] ++ wsX30)
def wsX3_worthSign_r1 : List Cond := [Cond.fieldLink RX3 10 "MarginTable" "points" "LMarginTable$Points;", Cond.methodLink RX3 126 yX3_shareBase, Cond.instanceMethod yX3_shareBase, Cond.selects RX3 yX3_shareBase yX3_shareBase, Cond.initialized RX3, Cond.code yX3_shareBase cX3_shareBase 1 (some .long), Cond.fieldLink RX3 19 "MarginTable" "table" "LMarginTable$Table;", Cond.fieldLink RX3 109 "MarginTable$Table" "scale" "J", Cond.fieldLink RX3 27 "MarginTable" "boxBelow" "I", Cond.methodLink RX3 122 yX3_share, Cond.instanceMethod yX3_share, Cond.selects RX3 yX3_share yX3_share, Cond.code yX3_share cX3_share 2 (some .long), Cond.methodLink RX3 182 yX1_shareOfZ, Cond.instanceMethod yX1_shareOfZ, Cond.selects RX1 yX1_shareOfZ yX1_shareOfZ, Cond.initialized RX1, Cond.code yX1_shareOfZ cX1_shareOfZ 3 (some .long), Cond.fieldLink RX1 31 "MarginTable$Table" "rows" "I", Cond.fieldLink RX1 18 "MarginTable$Table" "tells" "[I", Cond.fieldLink RX1 15 "MarginTable$Table" "cell" "[[J", Cond.methodLink RX1 45 yX1_columnOfQ, Cond.instanceMethod yX1_columnOfQ, Cond.selects RX1 yX1_columnOfQ yX1_columnOfQ]
def wsX3_worthSign_r2 : List Cond := [Cond.code yX1_columnOfQ cX1_columnOfQ 1 (some .int), Cond.methodLink RX3 133 yX3_slopeShare, Cond.instanceMethod yX3_slopeShare, Cond.selects RX3 yX3_slopeShare yX3_slopeShare, Cond.code yX3_slopeShare cX3_slopeShare 5 (some .long), Cond.fieldLink RX3 34 "MarginTable$Points" "size" "I", Cond.methodLink RX3 55 yX0_product, Cond.instanceMethod yX0_product, Cond.selects RX0 yX0_product yX0_product, Cond.initialized RX0, Cond.code yX0_product cX0_product 3 (some .int), Cond.fieldLink RX0 16 "MarginTable$Points" "label" "[I", Cond.fieldLink RX0 9 "MarginTable$Points" "x" "[I", Cond.fieldLink RX0 13 "MarginTable$Points" "y" "[I", Cond.methodLink RX0 26 yX0_kernel, Cond.instanceMethod yX0_kernel, Cond.selects RX0 yX0_kernel yX0_kernel, Cond.code yX0_kernel cX0_kernel 5 (some .int), Cond.fieldLink RX0 23 "MarginTable$Points" "power" "I", Cond.methodLink RX3 150 yJ13_signum_95d88, Cond.static yJ13_signum_95d88, Cond.initialized RJ13, Cond.code yJ13_signum_95d88 cJ13_signum_95d88 2 (some .int)]
def wsX3_worthSign : List Cond := .code yX3_worthSign cX3_worthSign 8 (some .int) :: ((wsX3_worthSign_r1 ++ wsX3_worthSign_r2) ++ wsX30 ++ wsX10 ++ wsX00)
def wsX3_change_r1 : List Cond := [Cond.fieldLink RX3 10 "MarginTable" "points" "LMarginTable$Points;", Cond.methodLink RX3 51 yX0_has, Cond.instanceMethod yX0_has, Cond.selects RX0 yX0_has yX0_has, Cond.initialized RX0, Cond.code yX0_has cX0_has 2 (some .boolean), Cond.fieldLink RX0 19 "MarginTable$Points" "size" "I", Cond.methodLink RX3 139 yX3_isInBox, Cond.instanceMethod yX3_isInBox, Cond.selects RX3 yX3_isInBox yX3_isInBox, Cond.initialized RX3, Cond.code yX3_isInBox cX3_isInBox 3 (some .boolean), Cond.fieldLink RX3 27 "MarginTable" "boxBelow" "I", Cond.fieldLink RX3 23 "MarginTable" "boxAbove" "I", Cond.methodLink RX3 119 yX3_isDone, Cond.instanceMethod yX3_isDone, Cond.selects RX3 yX3_isDone yX3_isDone, Cond.code yX3_isDone cX3_isDone 1 (some .boolean), Cond.fieldLink RX3 19 "MarginTable" "table" "LMarginTable$Table;", Cond.fieldLink RX3 67 "MarginTable$Table" "state" "I", Cond.methodLink RX3 142 yX3_worthSign, Cond.instanceMethod yX3_worthSign, Cond.selects RX3 yX3_worthSign yX3_worthSign, Cond.code yX3_worthSign cX3_worthSign 8 (some .int)]
def wsX3_change_r2 : List Cond := [Cond.methodLink RX3 126 yX3_shareBase, Cond.instanceMethod yX3_shareBase, Cond.selects RX3 yX3_shareBase yX3_shareBase, Cond.code yX3_shareBase cX3_shareBase 1 (some .long), Cond.fieldLink RX3 109 "MarginTable$Table" "scale" "J", Cond.methodLink RX3 122 yX3_share, Cond.instanceMethod yX3_share, Cond.selects RX3 yX3_share yX3_share, Cond.code yX3_share cX3_share 2 (some .long), Cond.methodLink RX3 182 yX1_shareOfZ, Cond.instanceMethod yX1_shareOfZ, Cond.selects RX1 yX1_shareOfZ yX1_shareOfZ, Cond.initialized RX1, Cond.code yX1_shareOfZ cX1_shareOfZ 3 (some .long), Cond.fieldLink RX1 31 "MarginTable$Table" "rows" "I", Cond.fieldLink RX1 18 "MarginTable$Table" "tells" "[I", Cond.fieldLink RX1 15 "MarginTable$Table" "cell" "[[J", Cond.methodLink RX1 45 yX1_columnOfQ, Cond.instanceMethod yX1_columnOfQ, Cond.selects RX1 yX1_columnOfQ yX1_columnOfQ, Cond.code yX1_columnOfQ cX1_columnOfQ 1 (some .int), Cond.methodLink RX3 133 yX3_slopeShare, Cond.instanceMethod yX3_slopeShare, Cond.selects RX3 yX3_slopeShare yX3_slopeShare]
def wsX3_change_r3 : List Cond := [Cond.code yX3_slopeShare cX3_slopeShare 5 (some .long), Cond.fieldLink RX3 34 "MarginTable$Points" "size" "I", Cond.methodLink RX3 55 yX0_product, Cond.instanceMethod yX0_product, Cond.selects RX0 yX0_product yX0_product, Cond.code yX0_product cX0_product 3 (some .int), Cond.fieldLink RX0 16 "MarginTable$Points" "label" "[I", Cond.fieldLink RX0 9 "MarginTable$Points" "x" "[I", Cond.fieldLink RX0 13 "MarginTable$Points" "y" "[I", Cond.methodLink RX0 26 yX0_kernel, Cond.instanceMethod yX0_kernel, Cond.selects RX0 yX0_kernel yX0_kernel, Cond.code yX0_kernel cX0_kernel 5 (some .int), Cond.fieldLink RX0 23 "MarginTable$Points" "power" "I", Cond.methodLink RX3 150 yJ13_signum_95d88, Cond.static yJ13_signum_95d88, Cond.initialized RJ13, Cond.code yJ13_signum_95d88 cJ13_signum_95d88 2 (some .int)]
def wsX3_change : List Cond := .code yX3_change cX3_change 4 (some .int) :: ((wsX3_change_r1 ++ (wsX3_change_r2 ++ wsX3_change_r3)) ++ wsX30 ++ wsX00 ++ wsX10)
def wsX3_decisionShare_r1 : List Cond := [Cond.fieldLink RX3 10 "MarginTable" "points" "LMarginTable$Points;", Cond.fieldLink RX3 34 "MarginTable$Points" "size" "I", Cond.fieldLink RX3 173 "MarginTable$Points" "label" "[I", Cond.methodLink RX3 122 yX3_share, Cond.instanceMethod yX3_share, Cond.selects RX3 yX3_share yX3_share, Cond.initialized RX3, Cond.code yX3_share cX3_share 2 (some .long), Cond.fieldLink RX3 19 "MarginTable" "table" "LMarginTable$Table;", Cond.methodLink RX3 182 yX1_shareOfZ, Cond.instanceMethod yX1_shareOfZ, Cond.selects RX1 yX1_shareOfZ yX1_shareOfZ, Cond.initialized RX1, Cond.code yX1_shareOfZ cX1_shareOfZ 3 (some .long), Cond.fieldLink RX1 31 "MarginTable$Table" "rows" "I", Cond.fieldLink RX1 18 "MarginTable$Table" "tells" "[I", Cond.fieldLink RX1 15 "MarginTable$Table" "cell" "[[J", Cond.methodLink RX1 45 yX1_columnOfQ, Cond.instanceMethod yX1_columnOfQ, Cond.selects RX1 yX1_columnOfQ yX1_columnOfQ, Cond.code yX1_columnOfQ cX1_columnOfQ 1 (some .int), Cond.methodLink RX3 188 yX0_kernel, Cond.instanceMethod yX0_kernel, Cond.selects RX0 yX0_kernel yX0_kernel]
def wsX3_decisionShare_r2 : List Cond := [Cond.initialized RX0, Cond.code yX0_kernel cX0_kernel 5 (some .int), Cond.fieldLink RX0 9 "MarginTable$Points" "x" "[I", Cond.fieldLink RX0 13 "MarginTable$Points" "y" "[I", Cond.fieldLink RX0 23 "MarginTable$Points" "power" "I"]
def wsX3_decisionShare : List Cond := .code yX3_decisionShare cX3_decisionShare 6 (some .long) :: ((wsX3_decisionShare_r1 ++ wsX3_decisionShare_r2) ++ wsX30 ++ wsX00 ++ wsX10)
def wsX3_decision_r1 : List Cond := [Cond.methodLink RX3 119 yX3_isDone, Cond.instanceMethod yX3_isDone, Cond.selects RX3 yX3_isDone yX3_isDone, Cond.initialized RX3, Cond.code yX3_isDone cX3_isDone 1 (some .boolean), Cond.fieldLink RX3 19 "MarginTable" "table" "LMarginTable$Table;", Cond.fieldLink RX3 67 "MarginTable$Table" "state" "I", Cond.methodLink RX3 30 yX0_isPlace, Cond.static yX0_isPlace, Cond.initialized RX0, Cond.code yX0_isPlace cX0_isPlace 2 (some .boolean), Cond.methodLink RX3 102 yX3_isPart, Cond.static yX3_isPart, Cond.code yX3_isPart cX3_isPart 1 (some .boolean), Cond.methodLink RX3 146 yX3_decisionShare, Cond.instanceMethod yX3_decisionShare, Cond.selects RX3 yX3_decisionShare yX3_decisionShare, Cond.code yX3_decisionShare cX3_decisionShare 6 (some .long), Cond.fieldLink RX3 10 "MarginTable" "points" "LMarginTable$Points;", Cond.fieldLink RX3 34 "MarginTable$Points" "size" "I", Cond.fieldLink RX3 173 "MarginTable$Points" "label" "[I", Cond.methodLink RX3 122 yX3_share, Cond.instanceMethod yX3_share, Cond.selects RX3 yX3_share yX3_share]
def wsX3_decision_r2 : List Cond := [Cond.code yX3_share cX3_share 2 (some .long), Cond.methodLink RX3 182 yX1_shareOfZ, Cond.instanceMethod yX1_shareOfZ, Cond.selects RX1 yX1_shareOfZ yX1_shareOfZ, Cond.initialized RX1, Cond.code yX1_shareOfZ cX1_shareOfZ 3 (some .long), Cond.fieldLink RX1 31 "MarginTable$Table" "rows" "I", Cond.fieldLink RX1 18 "MarginTable$Table" "tells" "[I", Cond.fieldLink RX1 15 "MarginTable$Table" "cell" "[[J", Cond.methodLink RX1 45 yX1_columnOfQ, Cond.instanceMethod yX1_columnOfQ, Cond.selects RX1 yX1_columnOfQ yX1_columnOfQ, Cond.code yX1_columnOfQ cX1_columnOfQ 1 (some .int), Cond.methodLink RX3 188 yX0_kernel, Cond.instanceMethod yX0_kernel, Cond.selects RX0 yX0_kernel yX0_kernel, Cond.code yX0_kernel cX0_kernel 5 (some .int), Cond.fieldLink RX0 9 "MarginTable$Points" "x" "[I", Cond.fieldLink RX0 13 "MarginTable$Points" "y" "[I", Cond.fieldLink RX0 23 "MarginTable$Points" "power" "I", Cond.methodLink RX3 126 yX3_shareBase, Cond.instanceMethod yX3_shareBase, Cond.selects RX3 yX3_shareBase yX3_shareBase, Cond.code yX3_shareBase cX3_shareBase 1 (some .long)]
def wsX3_decision_r3 : List Cond := [Cond.fieldLink RX3 109 "MarginTable$Table" "scale" "J", Cond.fieldLink RX3 27 "MarginTable" "boxBelow" "I", Cond.methodLink RX3 113 yX2_part, Cond.static yX2_part, Cond.initialized RX2, Cond.code yX2_part cX2_part 9 (some .long), Cond.methodLink RX2 7 Lib.MathLoose.abs_long.x, Cond.static Lib.MathLoose.abs_long.x, Cond.initialized "java/lang/Math", Cond.code Lib.MathLoose.abs_long.x Lib.MathLoose.abs_long.code 2 (some .long), Cond.methodLink RX2 13 yX2_commonDivisor, Cond.static yX2_commonDivisor, Cond.code yX2_commonDivisor cX2_commonDivisor 7 (some .long)]
def wsX3_decision : List Cond := .code yX3_decision cX3_decision 4 (some .long) :: ((wsX3_decision_r1 ++ (wsX3_decision_r2 ++ wsX3_decision_r3)) ++ wsX30 ++ wsX10 ++ wsX00)
def wsX3_predict_r1 : List Cond := [Cond.methodLink RX3 30 yX0_isPlace, Cond.static yX0_isPlace, Cond.initialized RX0, Cond.code yX0_isPlace cX0_isPlace 2 (some .boolean), Cond.methodLink RX3 119 yX3_isDone, Cond.instanceMethod yX3_isDone, Cond.selects RX3 yX3_isDone yX3_isDone, Cond.initialized RX3, Cond.code yX3_isDone cX3_isDone 1 (some .boolean), Cond.fieldLink RX3 19 "MarginTable" "table" "LMarginTable$Table;", Cond.fieldLink RX3 67 "MarginTable$Table" "state" "I", Cond.methodLink RX3 146 yX3_decisionShare, Cond.instanceMethod yX3_decisionShare, Cond.selects RX3 yX3_decisionShare yX3_decisionShare, Cond.code yX3_decisionShare cX3_decisionShare 6 (some .long), Cond.fieldLink RX3 10 "MarginTable" "points" "LMarginTable$Points;", Cond.fieldLink RX3 34 "MarginTable$Points" "size" "I", Cond.fieldLink RX3 173 "MarginTable$Points" "label" "[I", Cond.methodLink RX3 122 yX3_share, Cond.instanceMethod yX3_share, Cond.selects RX3 yX3_share yX3_share, Cond.code yX3_share cX3_share 2 (some .long), Cond.methodLink RX3 182 yX1_shareOfZ, Cond.instanceMethod yX1_shareOfZ]
def wsX3_predict_r2 : List Cond := [Cond.selects RX1 yX1_shareOfZ yX1_shareOfZ, Cond.initialized RX1, Cond.code yX1_shareOfZ cX1_shareOfZ 3 (some .long), Cond.fieldLink RX1 31 "MarginTable$Table" "rows" "I", Cond.fieldLink RX1 18 "MarginTable$Table" "tells" "[I", Cond.fieldLink RX1 15 "MarginTable$Table" "cell" "[[J", Cond.methodLink RX1 45 yX1_columnOfQ, Cond.instanceMethod yX1_columnOfQ, Cond.selects RX1 yX1_columnOfQ yX1_columnOfQ, Cond.code yX1_columnOfQ cX1_columnOfQ 1 (some .int), Cond.methodLink RX3 188 yX0_kernel, Cond.instanceMethod yX0_kernel, Cond.selects RX0 yX0_kernel yX0_kernel, Cond.code yX0_kernel cX0_kernel 5 (some .int), Cond.fieldLink RX0 9 "MarginTable$Points" "x" "[I", Cond.fieldLink RX0 13 "MarginTable$Points" "y" "[I", Cond.fieldLink RX0 23 "MarginTable$Points" "power" "I", Cond.methodLink RX3 150 yJ13_signum_95d88, Cond.static yJ13_signum_95d88, Cond.initialized RJ13, Cond.code yJ13_signum_95d88 cJ13_signum_95d88 2 (some .int)]
def wsX3_predict : List Cond := .code yX3_predict cX3_predict 3 (some .int) :: ((wsX3_predict_r1 ++ wsX3_predict_r2) ++ wsX30 ++ wsX10 ++ wsX00)
def wsX3_supporters : List Cond := .code yX3_supporters cX3_supporters 3 (some .int) :: ([.fieldLink RX3 10 "MarginTable" "points" "LMarginTable$Points;", .fieldLink RX3 34 "MarginTable$Points" "size" "I", .methodLink RX3 122 yX3_share, .instanceMethod yX3_share, .selects RX3 yX3_share yX3_share, .initialized RX3, .code yX3_share cX3_share 2 (some .long), .fieldLink RX3 19 "MarginTable" "table" "LMarginTable$Table;", .methodLink RX3 182 yX1_shareOfZ, .instanceMethod yX1_shareOfZ, .selects RX1 yX1_shareOfZ yX1_shareOfZ, .initialized RX1, .code yX1_shareOfZ cX1_shareOfZ 3 (some .long), .fieldLink RX1 31 "MarginTable$Table" "rows" "I", .fieldLink RX1 18 "MarginTable$Table" "tells" "[I", .fieldLink RX1 15 "MarginTable$Table" "cell" "[[J", .methodLink RX1 45 yX1_columnOfQ, .instanceMethod yX1_columnOfQ, .selects RX1 yX1_columnOfQ yX1_columnOfQ, .code yX1_columnOfQ cX1_columnOfQ 1 (some .int)] ++ wsX30 ++ wsX00 ++ wsX10)
def wsX3_count_r1 : List Cond := [Cond.fieldLink RX3 10 "MarginTable" "points" "LMarginTable$Points;", Cond.fieldLink RX3 34 "MarginTable$Points" "size" "I", Cond.fieldLink RX3 37 "MarginTable$Points" "power" "I", Cond.fieldLink RX3 23 "MarginTable" "boxAbove" "I", Cond.fieldLink RX3 27 "MarginTable" "boxBelow" "I", Cond.fieldLink RX3 19 "MarginTable" "table" "LMarginTable$Table;", Cond.fieldLink RX3 77 "MarginTable$Table" "steps" "I", Cond.fieldLink RX3 67 "MarginTable$Table" "state" "I", Cond.methodLink RX3 119 yX3_isDone, Cond.instanceMethod yX3_isDone, Cond.selects RX3 yX3_isDone yX3_isDone, Cond.initialized RX3, Cond.code yX3_isDone cX3_isDone 1 (some .boolean), Cond.methodLink RX3 156 yX3_supporters, Cond.instanceMethod yX3_supporters, Cond.selects RX3 yX3_supporters yX3_supporters, Cond.code yX3_supporters cX3_supporters 3 (some .int), Cond.methodLink RX3 122 yX3_share, Cond.instanceMethod yX3_share, Cond.selects RX3 yX3_share yX3_share, Cond.code yX3_share cX3_share 2 (some .long), Cond.methodLink RX3 182 yX1_shareOfZ, Cond.instanceMethod yX1_shareOfZ, Cond.selects RX1 yX1_shareOfZ yX1_shareOfZ]
def wsX3_count_r2 : List Cond := [Cond.initialized RX1, Cond.code yX1_shareOfZ cX1_shareOfZ 3 (some .long), Cond.fieldLink RX1 31 "MarginTable$Table" "rows" "I", Cond.fieldLink RX1 18 "MarginTable$Table" "tells" "[I", Cond.fieldLink RX1 15 "MarginTable$Table" "cell" "[[J", Cond.methodLink RX1 45 yX1_columnOfQ, Cond.instanceMethod yX1_columnOfQ, Cond.selects RX1 yX1_columnOfQ yX1_columnOfQ, Cond.code yX1_columnOfQ cX1_columnOfQ 1 (some .int)]
def wsX3_count : List Cond := .code yX3_count cX3_count 2 (some .int) :: ((wsX3_count_r1 ++ wsX3_count_r2) ++ wsX30 ++ wsX00 ++ wsX10)
def wsX3_digest_r1 : List Cond := [Cond.constantLong RX3 160 (73), Cond.constantLong RX3 162 (31), Cond.fieldLink RX3 10 "MarginTable" "points" "LMarginTable$Points;", Cond.fieldLink RX3 34 "MarginTable$Points" "size" "I", Cond.fieldLink RX3 167 "MarginTable$Points" "x" "[I", Cond.fieldLink RX3 170 "MarginTable$Points" "y" "[I", Cond.fieldLink RX3 173 "MarginTable$Points" "label" "[I", Cond.fieldLink RX3 19 "MarginTable" "table" "LMarginTable$Table;", Cond.fieldLink RX3 77 "MarginTable$Table" "steps" "I", Cond.methodLink RX3 164 yX3_count, Cond.instanceMethod yX3_count, Cond.selects RX3 yX3_count yX3_count, Cond.initialized RX3, Cond.code yX3_count cX3_count 2 (some .int), Cond.fieldLink RX3 37 "MarginTable$Points" "power" "I", Cond.fieldLink RX3 23 "MarginTable" "boxAbove" "I", Cond.fieldLink RX3 27 "MarginTable" "boxBelow" "I", Cond.fieldLink RX3 67 "MarginTable$Table" "state" "I", Cond.methodLink RX3 119 yX3_isDone, Cond.instanceMethod yX3_isDone, Cond.selects RX3 yX3_isDone yX3_isDone, Cond.code yX3_isDone cX3_isDone 1 (some .boolean), Cond.methodLink RX3 156 yX3_supporters, Cond.instanceMethod yX3_supporters]
def wsX3_digest_r2 : List Cond := [Cond.selects RX3 yX3_supporters yX3_supporters, Cond.code yX3_supporters cX3_supporters 3 (some .int), Cond.methodLink RX3 122 yX3_share, Cond.instanceMethod yX3_share, Cond.selects RX3 yX3_share yX3_share, Cond.code yX3_share cX3_share 2 (some .long), Cond.methodLink RX3 182 yX1_shareOfZ, Cond.instanceMethod yX1_shareOfZ, Cond.selects RX1 yX1_shareOfZ yX1_shareOfZ, Cond.initialized RX1, Cond.code yX1_shareOfZ cX1_shareOfZ 3 (some .long), Cond.fieldLink RX1 31 "MarginTable$Table" "rows" "I", Cond.fieldLink RX1 18 "MarginTable$Table" "tells" "[I", Cond.fieldLink RX1 15 "MarginTable$Table" "cell" "[[J", Cond.methodLink RX1 45 yX1_columnOfQ, Cond.instanceMethod yX1_columnOfQ, Cond.selects RX1 yX1_columnOfQ yX1_columnOfQ, Cond.code yX1_columnOfQ cX1_columnOfQ 1 (some .int), Cond.methodLink RX3 176 yX3_step, Cond.instanceMethod yX3_step, Cond.selects RX3 yX3_step yX3_step, Cond.code yX3_step cX3_step 3 (some .int), Cond.fieldLink RX3 80 "MarginTable$Table" "turnedAt" "[I", Cond.fieldLink RX3 84 "MarginTable$Table" "entered" "[I"]
def wsX3_digest_r3 : List Cond := [Cond.fieldLink RX3 87 "MarginTable$Table" "left" "[I", Cond.methodLink RX3 90 yX1_letter, Cond.instanceMethod yX1_letter, Cond.selects RX1 yX1_letter yX1_letter, Cond.code yX1_letter cX1_letter 2 (some .int), Cond.methodLink RX1 49 yX1_columnOfY, Cond.instanceMethod yX1_columnOfY, Cond.selects RX1 yX1_columnOfY yX1_columnOfY, Cond.code yX1_columnOfY cX1_columnOfY 1 (some .int), Cond.methodLink RX3 179 yX3_multiplier, Cond.instanceMethod yX3_multiplier, Cond.selects RX3 yX3_multiplier yX3_multiplier, Cond.code yX3_multiplier cX3_multiplier 3 (some .long), Cond.methodLink RX3 51 yX0_has, Cond.instanceMethod yX0_has, Cond.selects RX0 yX0_has yX0_has, Cond.initialized RX0, Cond.code yX0_has cX0_has 2 (some .boolean), Cond.fieldLink RX0 19 "MarginTable$Points" "size" "I", Cond.methodLink RX3 102 yX3_isPart, Cond.static yX3_isPart, Cond.code yX3_isPart cX3_isPart 1 (some .boolean), Cond.methodLink RX3 126 yX3_shareBase, Cond.instanceMethod yX3_shareBase]
def wsX3_digest_r4 : List Cond := [Cond.selects RX3 yX3_shareBase yX3_shareBase, Cond.code yX3_shareBase cX3_shareBase 1 (some .long), Cond.fieldLink RX3 109 "MarginTable$Table" "scale" "J", Cond.methodLink RX3 113 yX2_part, Cond.static yX2_part, Cond.initialized RX2, Cond.code yX2_part cX2_part 9 (some .long), Cond.methodLink RX2 7 Lib.MathLoose.abs_long.x, Cond.static Lib.MathLoose.abs_long.x, Cond.initialized "java/lang/Math", Cond.code Lib.MathLoose.abs_long.x Lib.MathLoose.abs_long.code 2 (some .long), Cond.methodLink RX2 13 yX2_commonDivisor, Cond.static yX2_commonDivisor, Cond.code yX2_commonDivisor cX2_commonDivisor 7 (some .long)]
def wsX3_digest : List Cond := .code yX3_digest cX3_digest 5 (some .long) :: ((wsX3_digest_r1 ++ (wsX3_digest_r2 ++ (wsX3_digest_r3 ++ wsX3_digest_r4))) ++ wsX30 ++ wsX00 ++ wsX10)
def wsX4_init : List Cond := .code yX4_init cX4_init 1 none :: ([.methodLink RX4 1 objectInit, .instanceMethod objectInit, .code objectInit ⟨#[0xb1]⟩ 1 none, .fieldLink RX4 7 "MarginTableModel" "degree" "I", .fieldLink RX4 13 "MarginTableModel" "boxAbove" "I", .fieldLink RX4 16 "MarginTableModel" "boxBelow" "I", .arrayClass .int, .fieldLink RX4 19 "MarginTableModel" "px" "[I", .fieldLink RX4 23 "MarginTableModel" "py" "[I", .fieldLink RX4 26 "MarginTableModel" "label" "[I", .arrayClass .long, .fieldLink RX4 29 "MarginTableModel" "table" "[J", .fieldLink RX4 33 "MarginTableModel" "tells" "[I", .fieldLink RX4 36 "MarginTableModel" "entered" "[I", .fieldLink RX4 39 "MarginTableModel" "left" "[I", .fieldLink RX4 42 "MarginTableModel" "leftAt" "[I"] ++ wsX40)
def wsX4_in : List Cond := .code yX4_in cX4_in 3 (some .boolean) :: ([])
def wsX4_forgets : List Cond := .code yX4_forgets cX4_forgets 1 none :: ([.fieldLink RX4 45 "MarginTableModel" "isBegun" "Z", .fieldLink RX4 49 "MarginTableModel" "isDone" "Z", .fieldLink RX4 52 "MarginTableModel" "isRay" "Z", .fieldLink RX4 55 "MarginTableModel" "steps" "I"] ++ wsX40)
def wsX4_isPoint : List Cond := .code yX4_isPoint cX4_isPoint 2 (some .boolean) :: ([.fieldLink RX4 58 "MarginTableModel" "points" "I", .methodLink RX4 61 yX4_in, .static yX4_in, .initialized RX4, .code yX4_in cX4_in 3 (some .boolean)] ++ wsX40)
def wsX4_point : List Cond := .code yX4_point cX4_point 4 (some .int) :: ([.fieldLink RX4 58 "MarginTableModel" "points" "I", .fieldLink RX4 7 "MarginTableModel" "degree" "I", .fieldLink RX4 19 "MarginTableModel" "px" "[I", .fieldLink RX4 23 "MarginTableModel" "py" "[I", .fieldLink RX4 26 "MarginTableModel" "label" "[I", .methodLink RX4 61 yX4_in, .static yX4_in, .initialized RX4, .code yX4_in cX4_in 3 (some .boolean), .methodLink RX4 65 yX4_forgets, .instanceMethod yX4_forgets, .selects RX4 yX4_forgets yX4_forgets, .code yX4_forgets cX4_forgets 1 none, .fieldLink RX4 45 "MarginTableModel" "isBegun" "Z", .fieldLink RX4 49 "MarginTableModel" "isDone" "Z", .fieldLink RX4 52 "MarginTableModel" "isRay" "Z", .fieldLink RX4 55 "MarginTableModel" "steps" "I"] ++ wsX40)
def wsX4_drop : List Cond := .code yX4_drop cX4_drop 1 (some .int) :: ([.fieldLink RX4 58 "MarginTableModel" "points" "I", .methodLink RX4 65 yX4_forgets, .instanceMethod yX4_forgets, .selects RX4 yX4_forgets yX4_forgets, .initialized RX4, .code yX4_forgets cX4_forgets 1 none, .fieldLink RX4 45 "MarginTableModel" "isBegun" "Z", .fieldLink RX4 49 "MarginTableModel" "isDone" "Z", .fieldLink RX4 52 "MarginTableModel" "isRay" "Z", .fieldLink RX4 55 "MarginTableModel" "steps" "I"] ++ wsX40)
def wsX4_degree : List Cond := .code yX4_degree cX4_degree 3 (some .int) :: ([.fieldLink RX4 58 "MarginTableModel" "points" "I", .fieldLink RX4 7 "MarginTableModel" "degree" "I", .methodLink RX4 61 yX4_in, .static yX4_in, .initialized RX4, .code yX4_in cX4_in 3 (some .boolean), .methodLink RX4 65 yX4_forgets, .instanceMethod yX4_forgets, .selects RX4 yX4_forgets yX4_forgets, .code yX4_forgets cX4_forgets 1 none, .fieldLink RX4 45 "MarginTableModel" "isBegun" "Z", .fieldLink RX4 49 "MarginTableModel" "isDone" "Z", .fieldLink RX4 52 "MarginTableModel" "isRay" "Z", .fieldLink RX4 55 "MarginTableModel" "steps" "I"] ++ wsX40)
def wsX4_box : List Cond := .code yX4_box cX4_box 3 (some .int) :: ([.fieldLink RX4 13 "MarginTableModel" "boxAbove" "I", .fieldLink RX4 16 "MarginTableModel" "boxBelow" "I", .methodLink RX4 61 yX4_in, .static yX4_in, .initialized RX4, .code yX4_in cX4_in 3 (some .boolean), .methodLink RX4 65 yX4_forgets, .instanceMethod yX4_forgets, .selects RX4 yX4_forgets yX4_forgets, .code yX4_forgets cX4_forgets 1 none, .fieldLink RX4 45 "MarginTableModel" "isBegun" "Z", .fieldLink RX4 49 "MarginTableModel" "isDone" "Z", .fieldLink RX4 52 "MarginTableModel" "isRay" "Z", .fieldLink RX4 55 "MarginTableModel" "steps" "I"] ++ wsX40)
def wsX4_kernel : List Cond := .code yX4_kernel cX4_kernel 5 (some .int) :: ([.fieldLink RX4 19 "MarginTableModel" "px" "[I", .fieldLink RX4 23 "MarginTableModel" "py" "[I", .fieldLink RX4 7 "MarginTableModel" "degree" "I"] ++ wsX40)
def wsX4_qOf : List Cond := .code yX4_qOf cX4_qOf 3 (some .int) :: ([.fieldLink RX4 26 "MarginTableModel" "label" "[I", .fieldLink RX4 19 "MarginTableModel" "px" "[I", .fieldLink RX4 23 "MarginTableModel" "py" "[I", .methodLink RX4 68 yX4_kernel, .instanceMethod yX4_kernel, .selects RX4 yX4_kernel yX4_kernel, .initialized RX4, .code yX4_kernel cX4_kernel 5 (some .int), .fieldLink RX4 7 "MarginTableModel" "degree" "I"] ++ wsX40)
def wsX4_q : List Cond := .code yX4_q cX4_q 3 (some .int) :: ([.constant RX4 80 (1000000), .methodLink RX4 72 yX4_isPoint, .instanceMethod yX4_isPoint, .selects RX4 yX4_isPoint yX4_isPoint, .initialized RX4, .code yX4_isPoint cX4_isPoint 2 (some .boolean), .fieldLink RX4 58 "MarginTableModel" "points" "I", .methodLink RX4 61 yX4_in, .static yX4_in, .code yX4_in cX4_in 3 (some .boolean), .methodLink RX4 76 yX4_qOf, .instanceMethod yX4_qOf, .selects RX4 yX4_qOf yX4_qOf, .code yX4_qOf cX4_qOf 3 (some .int), .fieldLink RX4 26 "MarginTableModel" "label" "[I", .fieldLink RX4 19 "MarginTableModel" "px" "[I", .fieldLink RX4 23 "MarginTableModel" "py" "[I", .methodLink RX4 68 yX4_kernel, .instanceMethod yX4_kernel, .selects RX4 yX4_kernel yX4_kernel, .code yX4_kernel cX4_kernel 5 (some .int), .fieldLink RX4 7 "MarginTableModel" "degree" "I"] ++ wsX40)
def wsX4_product : List Cond := .code yX4_product cX4_product 19 none :: ([.constantLong RX4 81 (4294967295), .fieldLink RX4 83 "MarginTableModel" "high" "J", .fieldLink RX4 87 "MarginTableModel" "low" "J"] ++ wsX40)
def wsX4_cross : List Cond := .code yX4_cross cX4_cross 16 none :: ([.fieldLink RX4 83 "MarginTableModel" "high" "J", .fieldLink RX4 87 "MarginTableModel" "low" "J", .constantLong RX4 94 (-9223372036854775808), .methodLink RX4 90 yX4_product, .instanceMethod yX4_product, .selects RX4 yX4_product yX4_product, .initialized RX4, .code yX4_product cX4_product 19 none, .constantLong RX4 81 (4294967295)] ++ wsX40)
def wsX4_signOfCross : List Cond := .code yX4_signOfCross cX4_signOfCross 9 (some .int) :: ([.fieldLink RX4 83 "MarginTableModel" "high" "J", .fieldLink RX4 87 "MarginTableModel" "low" "J", .methodLink RX4 96 yX4_cross, .instanceMethod yX4_cross, .selects RX4 yX4_cross yX4_cross, .initialized RX4, .code yX4_cross cX4_cross 16 none, .constantLong RX4 94 (-9223372036854775808), .methodLink RX4 90 yX4_product, .instanceMethod yX4_product, .selects RX4 yX4_product yX4_product, .code yX4_product cX4_product 19 none, .constantLong RX4 81 (4294967295)] ++ wsX40)
def wsX4_shared : List Cond := .code yX4_shared cX4_shared 11 (some .long) :: ([.fieldLink RX4 87 "MarginTableModel" "low" "J", .fieldLink RX4 83 "MarginTableModel" "high" "J", .constantLong RX4 100 (2)] ++ wsX40)
def wsX4_size : List Cond := .code yX4_size cX4_size 2 (some .long) :: ([])
def wsX4_divisor : List Cond := .code yX4_divisor cX4_divisor 10 (some .long) :: ([.methodLink RX4 102 yX4_size, .static yX4_size, .initialized RX4, .code yX4_size cX4_size 2 (some .long)])
def wsX4_lowest : List Cond := .code yX4_lowest cX4_lowest 7 (some .long) :: ([.methodLink RX4 106 yX4_divisor, .static yX4_divisor, .initialized RX4, .code yX4_divisor cX4_divisor 10 (some .long), .methodLink RX4 102 yX4_size, .static yX4_size, .code yX4_size cX4_size 2 (some .long)])
def wsX4_m : List Cond := .code yX4_m cX4_m 3 (some .long) :: ([.fieldLink RX4 58 "MarginTableModel" "points" "I", .constantLong RX4 110 (-1), .methodLink RX4 76 yX4_qOf, .instanceMethod yX4_qOf, .selects RX4 yX4_qOf yX4_qOf, .initialized RX4, .code yX4_qOf cX4_qOf 3 (some .int), .fieldLink RX4 26 "MarginTableModel" "label" "[I", .fieldLink RX4 19 "MarginTableModel" "px" "[I", .fieldLink RX4 23 "MarginTableModel" "py" "[I", .methodLink RX4 68 yX4_kernel, .instanceMethod yX4_kernel, .selects RX4 yX4_kernel yX4_kernel, .code yX4_kernel cX4_kernel 5 (some .int), .fieldLink RX4 7 "MarginTableModel" "degree" "I"] ++ wsX40)
def wsX4_columnQ : List Cond := .code yX4_columnQ cX4_columnQ 1 (some .int) :: ([.fieldLink RX4 112 "MarginTableModel" "rows" "I"] ++ wsX40)
def wsX4_begin_r1 : List Cond := [Cond.fieldLink RX4 58 "MarginTableModel" "points" "I", Cond.fieldLink RX4 45 "MarginTableModel" "isBegun" "Z", Cond.fieldLink RX4 112 "MarginTableModel" "rows" "I", Cond.fieldLink RX4 115 "MarginTableModel" "below" "J", Cond.fieldLink RX4 33 "MarginTableModel" "tells" "[I", Cond.fieldLink RX4 29 "MarginTableModel" "table" "[J", Cond.constantLong RX4 110 (-1), Cond.fieldLink RX4 16 "MarginTableModel" "boxBelow" "I", Cond.fieldLink RX4 13 "MarginTableModel" "boxAbove" "I", Cond.methodLink RX4 65 yX4_forgets, Cond.instanceMethod yX4_forgets, Cond.selects RX4 yX4_forgets yX4_forgets, Cond.initialized RX4, Cond.code yX4_forgets cX4_forgets 1 none, Cond.fieldLink RX4 49 "MarginTableModel" "isDone" "Z", Cond.fieldLink RX4 52 "MarginTableModel" "isRay" "Z", Cond.fieldLink RX4 55 "MarginTableModel" "steps" "I", Cond.methodLink RX4 118 yX4_m, Cond.instanceMethod yX4_m, Cond.selects RX4 yX4_m yX4_m, Cond.code yX4_m cX4_m 3 (some .long), Cond.methodLink RX4 76 yX4_qOf, Cond.instanceMethod yX4_qOf, Cond.selects RX4 yX4_qOf yX4_qOf]
def wsX4_begin_r2 : List Cond := [Cond.code yX4_qOf cX4_qOf 3 (some .int), Cond.fieldLink RX4 26 "MarginTableModel" "label" "[I", Cond.fieldLink RX4 19 "MarginTableModel" "px" "[I", Cond.fieldLink RX4 23 "MarginTableModel" "py" "[I", Cond.methodLink RX4 68 yX4_kernel, Cond.instanceMethod yX4_kernel, Cond.selects RX4 yX4_kernel yX4_kernel, Cond.code yX4_kernel cX4_kernel 5 (some .int), Cond.fieldLink RX4 7 "MarginTableModel" "degree" "I", Cond.methodLink RX4 122 yX4_columnQ, Cond.instanceMethod yX4_columnQ, Cond.selects RX4 yX4_columnQ yX4_columnQ, Cond.code yX4_columnQ cX4_columnQ 1 (some .int)]
def wsX4_begin : List Cond := .code yX4_begin cX4_begin 3 (some .int) :: ((wsX4_begin_r1 ++ wsX4_begin_r2) ++ wsX40)
def wsX4_isLess : List Cond := .code yX4_isLess cX4_isLess 11 (some .boolean) :: ([.fieldLink RX4 29 "MarginTableModel" "table" "[J", .fieldLink RX4 112 "MarginTableModel" "rows" "I", .methodLink RX4 122 yX4_columnQ, .instanceMethod yX4_columnQ, .selects RX4 yX4_columnQ yX4_columnQ, .initialized RX4, .code yX4_columnQ cX4_columnQ 1 (some .int), .methodLink RX4 126 yX4_signOfCross, .instanceMethod yX4_signOfCross, .selects RX4 yX4_signOfCross yX4_signOfCross, .code yX4_signOfCross cX4_signOfCross 9 (some .int), .fieldLink RX4 83 "MarginTableModel" "high" "J", .fieldLink RX4 87 "MarginTableModel" "low" "J", .methodLink RX4 96 yX4_cross, .instanceMethod yX4_cross, .selects RX4 yX4_cross yX4_cross, .code yX4_cross cX4_cross 16 none, .constantLong RX4 94 (-9223372036854775808), .methodLink RX4 90 yX4_product, .instanceMethod yX4_product, .selects RX4 yX4_product yX4_product, .code yX4_product cX4_product 19 none, .constantLong RX4 81 (4294967295)] ++ wsX40)
def wsX4_turn_r1 : List Cond := [Cond.fieldLink RX4 29 "MarginTableModel" "table" "[J", Cond.fieldLink RX4 112 "MarginTableModel" "rows" "I", Cond.fieldLink RX4 115 "MarginTableModel" "below" "J", Cond.methodLink RX4 122 yX4_columnQ, Cond.instanceMethod yX4_columnQ, Cond.selects RX4 yX4_columnQ yX4_columnQ, Cond.initialized RX4, Cond.code yX4_columnQ cX4_columnQ 1 (some .int), Cond.methodLink RX4 96 yX4_cross, Cond.instanceMethod yX4_cross, Cond.selects RX4 yX4_cross yX4_cross, Cond.code yX4_cross cX4_cross 16 none, Cond.fieldLink RX4 83 "MarginTableModel" "high" "J", Cond.fieldLink RX4 87 "MarginTableModel" "low" "J", Cond.constantLong RX4 94 (-9223372036854775808), Cond.methodLink RX4 90 yX4_product, Cond.instanceMethod yX4_product, Cond.selects RX4 yX4_product yX4_product, Cond.code yX4_product cX4_product 19 none, Cond.constantLong RX4 81 (4294967295), Cond.methodLink RX4 130 yX4_shared, Cond.instanceMethod yX4_shared, Cond.selects RX4 yX4_shared yX4_shared, Cond.code yX4_shared cX4_shared 11 (some .long)]
def wsX4_turn_r2 : List Cond := [Cond.constantLong RX4 100 (2)]
def wsX4_turn : List Cond := .code yX4_turn cX4_turn 9 none :: ((wsX4_turn_r1 ++ wsX4_turn_r2) ++ wsX40)
def wsX4_columnOf : List Cond := .code yX4_columnOf cX4_columnOf 2 (some .int) :: ([.fieldLink RX4 112 "MarginTableModel" "rows" "I"] ++ wsX40)
def wsX4_does_r1 : List Cond := [Cond.fieldLink RX4 55 "MarginTableModel" "steps" "I", Cond.fieldLink RX4 39 "MarginTableModel" "left" "[I", Cond.fieldLink RX4 112 "MarginTableModel" "rows" "I", Cond.fieldLink RX4 29 "MarginTableModel" "table" "[J", Cond.fieldLink RX4 52 "MarginTableModel" "isRay" "Z", Cond.fieldLink RX4 36 "MarginTableModel" "entered" "[I", Cond.fieldLink RX4 33 "MarginTableModel" "tells" "[I", Cond.fieldLink RX4 42 "MarginTableModel" "leftAt" "[I", Cond.fieldLink RX4 49 "MarginTableModel" "isDone" "Z", Cond.methodLink RX4 133 yX4_columnOf, Cond.instanceMethod yX4_columnOf, Cond.selects RX4 yX4_columnOf yX4_columnOf, Cond.initialized RX4, Cond.code yX4_columnOf cX4_columnOf 2 (some .int), Cond.methodLink RX4 137 yX4_isLess, Cond.instanceMethod yX4_isLess, Cond.selects RX4 yX4_isLess yX4_isLess, Cond.code yX4_isLess cX4_isLess 11 (some .boolean), Cond.methodLink RX4 122 yX4_columnQ, Cond.instanceMethod yX4_columnQ, Cond.selects RX4 yX4_columnQ yX4_columnQ, Cond.code yX4_columnQ cX4_columnQ 1 (some .int), Cond.methodLink RX4 126 yX4_signOfCross, Cond.instanceMethod yX4_signOfCross]
def wsX4_does_r2 : List Cond := [Cond.selects RX4 yX4_signOfCross yX4_signOfCross, Cond.code yX4_signOfCross cX4_signOfCross 9 (some .int), Cond.fieldLink RX4 83 "MarginTableModel" "high" "J", Cond.fieldLink RX4 87 "MarginTableModel" "low" "J", Cond.methodLink RX4 96 yX4_cross, Cond.instanceMethod yX4_cross, Cond.selects RX4 yX4_cross yX4_cross, Cond.code yX4_cross cX4_cross 16 none, Cond.constantLong RX4 94 (-9223372036854775808), Cond.methodLink RX4 90 yX4_product, Cond.instanceMethod yX4_product, Cond.selects RX4 yX4_product yX4_product, Cond.code yX4_product cX4_product 19 none, Cond.constantLong RX4 81 (4294967295), Cond.methodLink RX4 140 yX4_turn, Cond.instanceMethod yX4_turn, Cond.selects RX4 yX4_turn yX4_turn, Cond.code yX4_turn cX4_turn 9 none, Cond.fieldLink RX4 115 "MarginTableModel" "below" "J", Cond.methodLink RX4 130 yX4_shared, Cond.instanceMethod yX4_shared, Cond.selects RX4 yX4_shared yX4_shared, Cond.code yX4_shared cX4_shared 11 (some .long), Cond.constantLong RX4 100 (2)]
def wsX4_does : List Cond := .code yX4_does cX4_does 5 none :: ((wsX4_does_r1 ++ wsX4_does_r2) ++ wsX40)
def wsX4_stands : List Cond := .code yX4_stands cX4_stands 1 (some .int) :: ([.fieldLink RX4 49 "MarginTableModel" "isDone" "Z", .fieldLink RX4 52 "MarginTableModel" "isRay" "Z"] ++ wsX40)
def wsX4_go_r1 : List Cond := [Cond.fieldLink RX4 45 "MarginTableModel" "isBegun" "Z", Cond.fieldLink RX4 55 "MarginTableModel" "steps" "I", Cond.methodLink RX4 61 yX4_in, Cond.static yX4_in, Cond.initialized RX4, Cond.code yX4_in cX4_in 3 (some .boolean), Cond.methodLink RX4 144 yX4_stands, Cond.instanceMethod yX4_stands, Cond.selects RX4 yX4_stands yX4_stands, Cond.code yX4_stands cX4_stands 1 (some .int), Cond.fieldLink RX4 49 "MarginTableModel" "isDone" "Z", Cond.fieldLink RX4 52 "MarginTableModel" "isRay" "Z", Cond.methodLink RX4 147 yX4_does, Cond.instanceMethod yX4_does, Cond.selects RX4 yX4_does yX4_does, Cond.code yX4_does cX4_does 5 none, Cond.fieldLink RX4 39 "MarginTableModel" "left" "[I", Cond.fieldLink RX4 112 "MarginTableModel" "rows" "I", Cond.fieldLink RX4 29 "MarginTableModel" "table" "[J", Cond.fieldLink RX4 36 "MarginTableModel" "entered" "[I", Cond.fieldLink RX4 33 "MarginTableModel" "tells" "[I", Cond.fieldLink RX4 42 "MarginTableModel" "leftAt" "[I", Cond.methodLink RX4 133 yX4_columnOf, Cond.instanceMethod yX4_columnOf]
def wsX4_go_r2 : List Cond := [Cond.selects RX4 yX4_columnOf yX4_columnOf, Cond.code yX4_columnOf cX4_columnOf 2 (some .int), Cond.methodLink RX4 137 yX4_isLess, Cond.instanceMethod yX4_isLess, Cond.selects RX4 yX4_isLess yX4_isLess, Cond.code yX4_isLess cX4_isLess 11 (some .boolean), Cond.methodLink RX4 122 yX4_columnQ, Cond.instanceMethod yX4_columnQ, Cond.selects RX4 yX4_columnQ yX4_columnQ, Cond.code yX4_columnQ cX4_columnQ 1 (some .int), Cond.methodLink RX4 126 yX4_signOfCross, Cond.instanceMethod yX4_signOfCross, Cond.selects RX4 yX4_signOfCross yX4_signOfCross, Cond.code yX4_signOfCross cX4_signOfCross 9 (some .int), Cond.fieldLink RX4 83 "MarginTableModel" "high" "J", Cond.fieldLink RX4 87 "MarginTableModel" "low" "J", Cond.methodLink RX4 96 yX4_cross, Cond.instanceMethod yX4_cross, Cond.selects RX4 yX4_cross yX4_cross, Cond.code yX4_cross cX4_cross 16 none, Cond.constantLong RX4 94 (-9223372036854775808), Cond.methodLink RX4 90 yX4_product, Cond.instanceMethod yX4_product, Cond.selects RX4 yX4_product yX4_product]
def wsX4_go_r3 : List Cond := [Cond.code yX4_product cX4_product 19 none, Cond.constantLong RX4 81 (4294967295), Cond.methodLink RX4 140 yX4_turn, Cond.instanceMethod yX4_turn, Cond.selects RX4 yX4_turn yX4_turn, Cond.code yX4_turn cX4_turn 9 none, Cond.fieldLink RX4 115 "MarginTableModel" "below" "J", Cond.methodLink RX4 130 yX4_shared, Cond.instanceMethod yX4_shared, Cond.selects RX4 yX4_shared yX4_shared, Cond.code yX4_shared cX4_shared 11 (some .long), Cond.constantLong RX4 100 (2)]
def wsX4_go : List Cond := .code yX4_go cX4_go 3 (some .int) :: ((wsX4_go_r1 ++ (wsX4_go_r2 ++ wsX4_go_r3)) ++ wsX40)
def wsX4_step : List Cond := .code yX4_step cX4_step 3 (some .int) :: ([.fieldLink RX4 55 "MarginTableModel" "steps" "I", .fieldLink RX4 36 "MarginTableModel" "entered" "[I", .fieldLink RX4 39 "MarginTableModel" "left" "[I", .fieldLink RX4 42 "MarginTableModel" "leftAt" "[I", .methodLink RX4 61 yX4_in, .static yX4_in, .initialized RX4, .code yX4_in cX4_in 3 (some .boolean)] ++ wsX40)
def wsX4_told : List Cond := .code yX4_told cX4_told 2 (some .int) :: ([.fieldLink RX4 45 "MarginTableModel" "isBegun" "Z", .fieldLink RX4 112 "MarginTableModel" "rows" "I", .fieldLink RX4 33 "MarginTableModel" "tells" "[I", .methodLink RX4 61 yX4_in, .static yX4_in, .initialized RX4, .code yX4_in cX4_in 3 (some .boolean)] ++ wsX40)
def wsX4_at : List Cond := .code yX4_at cX4_at 4 (some .long) :: ([.fieldLink RX4 45 "MarginTableModel" "isBegun" "Z", .fieldLink RX4 112 "MarginTableModel" "rows" "I", .fieldLink RX4 29 "MarginTableModel" "table" "[J", .fieldLink RX4 115 "MarginTableModel" "below" "J", .methodLink RX4 61 yX4_in, .static yX4_in, .initialized RX4, .code yX4_in cX4_in 3 (some .boolean), .methodLink RX4 122 yX4_columnQ, .instanceMethod yX4_columnQ, .selects RX4 yX4_columnQ yX4_columnQ, .code yX4_columnQ cX4_columnQ 1 (some .int), .methodLink RX4 150 yX4_lowest, .static yX4_lowest, .code yX4_lowest cX4_lowest 7 (some .long), .methodLink RX4 106 yX4_divisor, .static yX4_divisor, .code yX4_divisor cX4_divisor 10 (some .long), .methodLink RX4 102 yX4_size, .static yX4_size, .code yX4_size cX4_size 2 (some .long)] ++ wsX40)
def wsX4_worthOf : List Cond := .code yX4_worthOf cX4_worthOf 3 (some .long) :: ([.fieldLink RX4 112 "MarginTableModel" "rows" "I", .fieldLink RX4 33 "MarginTableModel" "tells" "[I", .fieldLink RX4 29 "MarginTableModel" "table" "[J", .methodLink RX4 122 yX4_columnQ, .instanceMethod yX4_columnQ, .selects RX4 yX4_columnQ yX4_columnQ, .initialized RX4, .code yX4_columnQ cX4_columnQ 1 (some .int)] ++ wsX40)
def wsX4_multiplier_r1 : List Cond := [Cond.fieldLink RX4 49 "MarginTableModel" "isDone" "Z", Cond.fieldLink RX4 115 "MarginTableModel" "below" "J", Cond.fieldLink RX4 16 "MarginTableModel" "boxBelow" "I", Cond.methodLink RX4 72 yX4_isPoint, Cond.instanceMethod yX4_isPoint, Cond.selects RX4 yX4_isPoint yX4_isPoint, Cond.initialized RX4, Cond.code yX4_isPoint cX4_isPoint 2 (some .boolean), Cond.fieldLink RX4 58 "MarginTableModel" "points" "I", Cond.methodLink RX4 61 yX4_in, Cond.static yX4_in, Cond.code yX4_in cX4_in 3 (some .boolean), Cond.methodLink RX4 154 yX4_worthOf, Cond.instanceMethod yX4_worthOf, Cond.selects RX4 yX4_worthOf yX4_worthOf, Cond.code yX4_worthOf cX4_worthOf 3 (some .long), Cond.fieldLink RX4 112 "MarginTableModel" "rows" "I", Cond.fieldLink RX4 33 "MarginTableModel" "tells" "[I", Cond.fieldLink RX4 29 "MarginTableModel" "table" "[J", Cond.methodLink RX4 122 yX4_columnQ, Cond.instanceMethod yX4_columnQ, Cond.selects RX4 yX4_columnQ yX4_columnQ, Cond.code yX4_columnQ cX4_columnQ 1 (some .int), Cond.methodLink RX4 150 yX4_lowest]
def wsX4_multiplier_r2 : List Cond := [Cond.static yX4_lowest, Cond.code yX4_lowest cX4_lowest 7 (some .long), Cond.methodLink RX4 106 yX4_divisor, Cond.static yX4_divisor, Cond.code yX4_divisor cX4_divisor 10 (some .long), Cond.methodLink RX4 102 yX4_size, Cond.static yX4_size, Cond.code yX4_size cX4_size 2 (some .long)]
def wsX4_multiplier : List Cond := .code yX4_multiplier cX4_multiplier 3 (some .long) :: ((wsX4_multiplier_r1 ++ wsX4_multiplier_r2) ++ wsX40)
def wsX4_liesOf : List Cond := .code yX4_liesOf cX4_liesOf 4 (some .int) :: ([.fieldLink RX4 13 "MarginTableModel" "boxAbove" "I", .fieldLink RX4 115 "MarginTableModel" "below" "J", .methodLink RX4 154 yX4_worthOf, .instanceMethod yX4_worthOf, .selects RX4 yX4_worthOf yX4_worthOf, .initialized RX4, .code yX4_worthOf cX4_worthOf 3 (some .long), .fieldLink RX4 112 "MarginTableModel" "rows" "I", .fieldLink RX4 33 "MarginTableModel" "tells" "[I", .fieldLink RX4 29 "MarginTableModel" "table" "[J", .methodLink RX4 122 yX4_columnQ, .instanceMethod yX4_columnQ, .selects RX4 yX4_columnQ yX4_columnQ, .code yX4_columnQ cX4_columnQ 1 (some .int)] ++ wsX40)
def wsX4_lies_r1 : List Cond := [Cond.fieldLink RX4 49 "MarginTableModel" "isDone" "Z", Cond.methodLink RX4 72 yX4_isPoint, Cond.instanceMethod yX4_isPoint, Cond.selects RX4 yX4_isPoint yX4_isPoint, Cond.initialized RX4, Cond.code yX4_isPoint cX4_isPoint 2 (some .boolean), Cond.fieldLink RX4 58 "MarginTableModel" "points" "I", Cond.methodLink RX4 61 yX4_in, Cond.static yX4_in, Cond.code yX4_in cX4_in 3 (some .boolean), Cond.methodLink RX4 158 yX4_liesOf, Cond.instanceMethod yX4_liesOf, Cond.selects RX4 yX4_liesOf yX4_liesOf, Cond.code yX4_liesOf cX4_liesOf 4 (some .int), Cond.fieldLink RX4 13 "MarginTableModel" "boxAbove" "I", Cond.fieldLink RX4 115 "MarginTableModel" "below" "J", Cond.methodLink RX4 154 yX4_worthOf, Cond.instanceMethod yX4_worthOf, Cond.selects RX4 yX4_worthOf yX4_worthOf, Cond.code yX4_worthOf cX4_worthOf 3 (some .long), Cond.fieldLink RX4 112 "MarginTableModel" "rows" "I", Cond.fieldLink RX4 33 "MarginTableModel" "tells" "[I", Cond.fieldLink RX4 29 "MarginTableModel" "table" "[J", Cond.methodLink RX4 122 yX4_columnQ]
def wsX4_lies_r2 : List Cond := [Cond.instanceMethod yX4_columnQ, Cond.selects RX4 yX4_columnQ yX4_columnQ, Cond.code yX4_columnQ cX4_columnQ 1 (some .int)]
def wsX4_lies : List Cond := .code yX4_lies cX4_lies 2 (some .int) :: ((wsX4_lies_r1 ++ wsX4_lies_r2) ++ wsX40)
def wsX4_slopeOf_r1 : List Cond := [Cond.fieldLink RX4 115 "MarginTableModel" "below" "J", Cond.fieldLink RX4 16 "MarginTableModel" "boxBelow" "I", Cond.fieldLink RX4 58 "MarginTableModel" "points" "I", Cond.methodLink RX4 76 yX4_qOf, Cond.instanceMethod yX4_qOf, Cond.selects RX4 yX4_qOf yX4_qOf, Cond.initialized RX4, Cond.code yX4_qOf cX4_qOf 3 (some .int), Cond.fieldLink RX4 26 "MarginTableModel" "label" "[I", Cond.fieldLink RX4 19 "MarginTableModel" "px" "[I", Cond.fieldLink RX4 23 "MarginTableModel" "py" "[I", Cond.methodLink RX4 68 yX4_kernel, Cond.instanceMethod yX4_kernel, Cond.selects RX4 yX4_kernel yX4_kernel, Cond.code yX4_kernel cX4_kernel 5 (some .int), Cond.fieldLink RX4 7 "MarginTableModel" "degree" "I", Cond.methodLink RX4 154 yX4_worthOf, Cond.instanceMethod yX4_worthOf, Cond.selects RX4 yX4_worthOf yX4_worthOf, Cond.code yX4_worthOf cX4_worthOf 3 (some .long), Cond.fieldLink RX4 112 "MarginTableModel" "rows" "I", Cond.fieldLink RX4 33 "MarginTableModel" "tells" "[I", Cond.fieldLink RX4 29 "MarginTableModel" "table" "[J", Cond.methodLink RX4 122 yX4_columnQ]
def wsX4_slopeOf_r2 : List Cond := [Cond.instanceMethod yX4_columnQ, Cond.selects RX4 yX4_columnQ yX4_columnQ, Cond.code yX4_columnQ cX4_columnQ 1 (some .int)]
def wsX4_slopeOf : List Cond := .code yX4_slopeOf cX4_slopeOf 5 (some .long) :: ((wsX4_slopeOf_r1 ++ wsX4_slopeOf_r2) ++ wsX40)
def wsX4_slope_r1 : List Cond := [Cond.fieldLink RX4 49 "MarginTableModel" "isDone" "Z", Cond.fieldLink RX4 115 "MarginTableModel" "below" "J", Cond.fieldLink RX4 16 "MarginTableModel" "boxBelow" "I", Cond.methodLink RX4 72 yX4_isPoint, Cond.instanceMethod yX4_isPoint, Cond.selects RX4 yX4_isPoint yX4_isPoint, Cond.initialized RX4, Cond.code yX4_isPoint cX4_isPoint 2 (some .boolean), Cond.fieldLink RX4 58 "MarginTableModel" "points" "I", Cond.methodLink RX4 61 yX4_in, Cond.static yX4_in, Cond.code yX4_in cX4_in 3 (some .boolean), Cond.methodLink RX4 161 yX4_slopeOf, Cond.instanceMethod yX4_slopeOf, Cond.selects RX4 yX4_slopeOf yX4_slopeOf, Cond.code yX4_slopeOf cX4_slopeOf 5 (some .long), Cond.methodLink RX4 76 yX4_qOf, Cond.instanceMethod yX4_qOf, Cond.selects RX4 yX4_qOf yX4_qOf, Cond.code yX4_qOf cX4_qOf 3 (some .int), Cond.fieldLink RX4 26 "MarginTableModel" "label" "[I", Cond.fieldLink RX4 19 "MarginTableModel" "px" "[I", Cond.fieldLink RX4 23 "MarginTableModel" "py" "[I", Cond.methodLink RX4 68 yX4_kernel]
def wsX4_slope_r2 : List Cond := [Cond.instanceMethod yX4_kernel, Cond.selects RX4 yX4_kernel yX4_kernel, Cond.code yX4_kernel cX4_kernel 5 (some .int), Cond.fieldLink RX4 7 "MarginTableModel" "degree" "I", Cond.methodLink RX4 154 yX4_worthOf, Cond.instanceMethod yX4_worthOf, Cond.selects RX4 yX4_worthOf yX4_worthOf, Cond.code yX4_worthOf cX4_worthOf 3 (some .long), Cond.fieldLink RX4 112 "MarginTableModel" "rows" "I", Cond.fieldLink RX4 33 "MarginTableModel" "tells" "[I", Cond.fieldLink RX4 29 "MarginTableModel" "table" "[J", Cond.methodLink RX4 122 yX4_columnQ, Cond.instanceMethod yX4_columnQ, Cond.selects RX4 yX4_columnQ yX4_columnQ, Cond.code yX4_columnQ cX4_columnQ 1 (some .int), Cond.methodLink RX4 150 yX4_lowest, Cond.static yX4_lowest, Cond.code yX4_lowest cX4_lowest 7 (some .long), Cond.methodLink RX4 106 yX4_divisor, Cond.static yX4_divisor, Cond.code yX4_divisor cX4_divisor 10 (some .long), Cond.methodLink RX4 102 yX4_size, Cond.static yX4_size, Cond.code yX4_size cX4_size 2 (some .long)]
def wsX4_slope : List Cond := .code yX4_slope cX4_slope 3 (some .long) :: ((wsX4_slope_r1 ++ wsX4_slope_r2) ++ wsX40)
def wsX4_check_r1 : List Cond := [Cond.fieldLink RX4 49 "MarginTableModel" "isDone" "Z", Cond.fieldLink RX4 58 "MarginTableModel" "points" "I", Cond.methodLink RX4 158 yX4_liesOf, Cond.instanceMethod yX4_liesOf, Cond.selects RX4 yX4_liesOf yX4_liesOf, Cond.initialized RX4, Cond.code yX4_liesOf cX4_liesOf 4 (some .int), Cond.fieldLink RX4 13 "MarginTableModel" "boxAbove" "I", Cond.fieldLink RX4 115 "MarginTableModel" "below" "J", Cond.methodLink RX4 154 yX4_worthOf, Cond.instanceMethod yX4_worthOf, Cond.selects RX4 yX4_worthOf yX4_worthOf, Cond.code yX4_worthOf cX4_worthOf 3 (some .long), Cond.fieldLink RX4 112 "MarginTableModel" "rows" "I", Cond.fieldLink RX4 33 "MarginTableModel" "tells" "[I", Cond.fieldLink RX4 29 "MarginTableModel" "table" "[J", Cond.methodLink RX4 122 yX4_columnQ, Cond.instanceMethod yX4_columnQ, Cond.selects RX4 yX4_columnQ yX4_columnQ, Cond.code yX4_columnQ cX4_columnQ 1 (some .int), Cond.methodLink RX4 161 yX4_slopeOf, Cond.instanceMethod yX4_slopeOf, Cond.selects RX4 yX4_slopeOf yX4_slopeOf, Cond.code yX4_slopeOf cX4_slopeOf 5 (some .long)]
def wsX4_check_r2 : List Cond := [Cond.fieldLink RX4 16 "MarginTableModel" "boxBelow" "I", Cond.methodLink RX4 76 yX4_qOf, Cond.instanceMethod yX4_qOf, Cond.selects RX4 yX4_qOf yX4_qOf, Cond.code yX4_qOf cX4_qOf 3 (some .int), Cond.fieldLink RX4 26 "MarginTableModel" "label" "[I", Cond.fieldLink RX4 19 "MarginTableModel" "px" "[I", Cond.fieldLink RX4 23 "MarginTableModel" "py" "[I", Cond.methodLink RX4 68 yX4_kernel, Cond.instanceMethod yX4_kernel, Cond.selects RX4 yX4_kernel yX4_kernel, Cond.code yX4_kernel cX4_kernel 5 (some .int), Cond.fieldLink RX4 7 "MarginTableModel" "degree" "I"]
def wsX4_check : List Cond := .code yX4_check cX4_check 5 (some .int) :: ((wsX4_check_r1 ++ wsX4_check_r2) ++ wsX40)
def wsX4_change_r1 : List Cond := [Cond.fieldLink RX4 16 "MarginTableModel" "boxBelow" "I", Cond.fieldLink RX4 13 "MarginTableModel" "boxAbove" "I", Cond.fieldLink RX4 49 "MarginTableModel" "isDone" "Z", Cond.fieldLink RX4 115 "MarginTableModel" "below" "J", Cond.constantLong RX4 100 (2), Cond.methodLink RX4 72 yX4_isPoint, Cond.instanceMethod yX4_isPoint, Cond.selects RX4 yX4_isPoint yX4_isPoint, Cond.initialized RX4, Cond.code yX4_isPoint cX4_isPoint 2 (some .boolean), Cond.fieldLink RX4 58 "MarginTableModel" "points" "I", Cond.methodLink RX4 61 yX4_in, Cond.static yX4_in, Cond.code yX4_in cX4_in 3 (some .boolean), Cond.methodLink RX4 154 yX4_worthOf, Cond.instanceMethod yX4_worthOf, Cond.selects RX4 yX4_worthOf yX4_worthOf, Cond.code yX4_worthOf cX4_worthOf 3 (some .long), Cond.fieldLink RX4 112 "MarginTableModel" "rows" "I", Cond.fieldLink RX4 33 "MarginTableModel" "tells" "[I", Cond.fieldLink RX4 29 "MarginTableModel" "table" "[J", Cond.methodLink RX4 122 yX4_columnQ, Cond.instanceMethod yX4_columnQ, Cond.selects RX4 yX4_columnQ yX4_columnQ]
def wsX4_change_r2 : List Cond := [Cond.code yX4_columnQ cX4_columnQ 1 (some .int), Cond.methodLink RX4 161 yX4_slopeOf, Cond.instanceMethod yX4_slopeOf, Cond.selects RX4 yX4_slopeOf yX4_slopeOf, Cond.code yX4_slopeOf cX4_slopeOf 5 (some .long), Cond.methodLink RX4 76 yX4_qOf, Cond.instanceMethod yX4_qOf, Cond.selects RX4 yX4_qOf yX4_qOf, Cond.code yX4_qOf cX4_qOf 3 (some .int), Cond.fieldLink RX4 26 "MarginTableModel" "label" "[I", Cond.fieldLink RX4 19 "MarginTableModel" "px" "[I", Cond.fieldLink RX4 23 "MarginTableModel" "py" "[I", Cond.methodLink RX4 68 yX4_kernel, Cond.instanceMethod yX4_kernel, Cond.selects RX4 yX4_kernel yX4_kernel, Cond.code yX4_kernel cX4_kernel 5 (some .int), Cond.fieldLink RX4 7 "MarginTableModel" "degree" "I", Cond.methodLink RX4 126 yX4_signOfCross, Cond.instanceMethod yX4_signOfCross, Cond.selects RX4 yX4_signOfCross yX4_signOfCross, Cond.code yX4_signOfCross cX4_signOfCross 9 (some .int), Cond.fieldLink RX4 83 "MarginTableModel" "high" "J", Cond.fieldLink RX4 87 "MarginTableModel" "low" "J", Cond.methodLink RX4 96 yX4_cross]
def wsX4_change_r3 : List Cond := [Cond.instanceMethod yX4_cross, Cond.selects RX4 yX4_cross yX4_cross, Cond.code yX4_cross cX4_cross 16 none, Cond.constantLong RX4 94 (-9223372036854775808), Cond.methodLink RX4 90 yX4_product, Cond.instanceMethod yX4_product, Cond.selects RX4 yX4_product yX4_product, Cond.code yX4_product cX4_product 19 none, Cond.constantLong RX4 81 (4294967295)]
def wsX4_change : List Cond := .code yX4_change cX4_change 7 (some .int) :: ((wsX4_change_r1 ++ (wsX4_change_r2 ++ wsX4_change_r3)) ++ wsX40)
def wsX4_decisionOf : List Cond := .code yX4_decisionOf cX4_decisionOf 6 (some .long) :: ([.fieldLink RX4 58 "MarginTableModel" "points" "I", .fieldLink RX4 26 "MarginTableModel" "label" "[I", .methodLink RX4 154 yX4_worthOf, .instanceMethod yX4_worthOf, .selects RX4 yX4_worthOf yX4_worthOf, .initialized RX4, .code yX4_worthOf cX4_worthOf 3 (some .long), .fieldLink RX4 112 "MarginTableModel" "rows" "I", .fieldLink RX4 33 "MarginTableModel" "tells" "[I", .fieldLink RX4 29 "MarginTableModel" "table" "[J", .methodLink RX4 122 yX4_columnQ, .instanceMethod yX4_columnQ, .selects RX4 yX4_columnQ yX4_columnQ, .code yX4_columnQ cX4_columnQ 1 (some .int), .methodLink RX4 68 yX4_kernel, .instanceMethod yX4_kernel, .selects RX4 yX4_kernel yX4_kernel, .code yX4_kernel cX4_kernel 5 (some .int), .fieldLink RX4 19 "MarginTableModel" "px" "[I", .fieldLink RX4 23 "MarginTableModel" "py" "[I", .fieldLink RX4 7 "MarginTableModel" "degree" "I"] ++ wsX40)
def wsX4_isPlace : List Cond := .code yX4_isPlace cX4_isPlace 2 (some .boolean) :: ([.methodLink RX4 61 yX4_in, .static yX4_in, .initialized RX4, .code yX4_in cX4_in 3 (some .boolean)])
def wsX4_decision_r1 : List Cond := [Cond.fieldLink RX4 49 "MarginTableModel" "isDone" "Z", Cond.fieldLink RX4 115 "MarginTableModel" "below" "J", Cond.fieldLink RX4 16 "MarginTableModel" "boxBelow" "I", Cond.methodLink RX4 164 yX4_isPlace, Cond.static yX4_isPlace, Cond.initialized RX4, Cond.code yX4_isPlace cX4_isPlace 2 (some .boolean), Cond.methodLink RX4 61 yX4_in, Cond.static yX4_in, Cond.code yX4_in cX4_in 3 (some .boolean), Cond.methodLink RX4 168 yX4_decisionOf, Cond.instanceMethod yX4_decisionOf, Cond.selects RX4 yX4_decisionOf yX4_decisionOf, Cond.code yX4_decisionOf cX4_decisionOf 6 (some .long), Cond.fieldLink RX4 58 "MarginTableModel" "points" "I", Cond.fieldLink RX4 26 "MarginTableModel" "label" "[I", Cond.methodLink RX4 154 yX4_worthOf, Cond.instanceMethod yX4_worthOf, Cond.selects RX4 yX4_worthOf yX4_worthOf, Cond.code yX4_worthOf cX4_worthOf 3 (some .long), Cond.fieldLink RX4 112 "MarginTableModel" "rows" "I", Cond.fieldLink RX4 33 "MarginTableModel" "tells" "[I", Cond.fieldLink RX4 29 "MarginTableModel" "table" "[J", Cond.methodLink RX4 122 yX4_columnQ]
def wsX4_decision_r2 : List Cond := [Cond.instanceMethod yX4_columnQ, Cond.selects RX4 yX4_columnQ yX4_columnQ, Cond.code yX4_columnQ cX4_columnQ 1 (some .int), Cond.methodLink RX4 68 yX4_kernel, Cond.instanceMethod yX4_kernel, Cond.selects RX4 yX4_kernel yX4_kernel, Cond.code yX4_kernel cX4_kernel 5 (some .int), Cond.fieldLink RX4 19 "MarginTableModel" "px" "[I", Cond.fieldLink RX4 23 "MarginTableModel" "py" "[I", Cond.fieldLink RX4 7 "MarginTableModel" "degree" "I", Cond.methodLink RX4 150 yX4_lowest, Cond.static yX4_lowest, Cond.code yX4_lowest cX4_lowest 7 (some .long), Cond.methodLink RX4 106 yX4_divisor, Cond.static yX4_divisor, Cond.code yX4_divisor cX4_divisor 10 (some .long), Cond.methodLink RX4 102 yX4_size, Cond.static yX4_size, Cond.code yX4_size cX4_size 2 (some .long)]
def wsX4_decision : List Cond := .code yX4_decision cX4_decision 4 (some .long) :: ((wsX4_decision_r1 ++ wsX4_decision_r2) ++ wsX40)
def wsX4_predict_r1 : List Cond := [Cond.fieldLink RX4 49 "MarginTableModel" "isDone" "Z", Cond.methodLink RX4 164 yX4_isPlace, Cond.static yX4_isPlace, Cond.initialized RX4, Cond.code yX4_isPlace cX4_isPlace 2 (some .boolean), Cond.methodLink RX4 61 yX4_in, Cond.static yX4_in, Cond.code yX4_in cX4_in 3 (some .boolean), Cond.methodLink RX4 168 yX4_decisionOf, Cond.instanceMethod yX4_decisionOf, Cond.selects RX4 yX4_decisionOf yX4_decisionOf, Cond.code yX4_decisionOf cX4_decisionOf 6 (some .long), Cond.fieldLink RX4 58 "MarginTableModel" "points" "I", Cond.fieldLink RX4 26 "MarginTableModel" "label" "[I", Cond.methodLink RX4 154 yX4_worthOf, Cond.instanceMethod yX4_worthOf, Cond.selects RX4 yX4_worthOf yX4_worthOf, Cond.code yX4_worthOf cX4_worthOf 3 (some .long), Cond.fieldLink RX4 112 "MarginTableModel" "rows" "I", Cond.fieldLink RX4 33 "MarginTableModel" "tells" "[I", Cond.fieldLink RX4 29 "MarginTableModel" "table" "[J", Cond.methodLink RX4 122 yX4_columnQ, Cond.instanceMethod yX4_columnQ, Cond.selects RX4 yX4_columnQ yX4_columnQ]
def wsX4_predict_r2 : List Cond := [Cond.code yX4_columnQ cX4_columnQ 1 (some .int), Cond.methodLink RX4 68 yX4_kernel, Cond.instanceMethod yX4_kernel, Cond.selects RX4 yX4_kernel yX4_kernel, Cond.code yX4_kernel cX4_kernel 5 (some .int), Cond.fieldLink RX4 19 "MarginTableModel" "px" "[I", Cond.fieldLink RX4 23 "MarginTableModel" "py" "[I", Cond.fieldLink RX4 7 "MarginTableModel" "degree" "I"]
def wsX4_predict : List Cond := .code yX4_predict cX4_predict 5 (some .int) :: ((wsX4_predict_r1 ++ wsX4_predict_r2) ++ wsX40)
def wsX4_count : List Cond := .code yX4_count cX4_count 4 (some .int) :: ([.fieldLink RX4 58 "MarginTableModel" "points" "I", .fieldLink RX4 7 "MarginTableModel" "degree" "I", .fieldLink RX4 13 "MarginTableModel" "boxAbove" "I", .fieldLink RX4 16 "MarginTableModel" "boxBelow" "I", .fieldLink RX4 55 "MarginTableModel" "steps" "I", .fieldLink RX4 45 "MarginTableModel" "isBegun" "Z", .fieldLink RX4 49 "MarginTableModel" "isDone" "Z", .methodLink RX4 144 yX4_stands, .instanceMethod yX4_stands, .selects RX4 yX4_stands yX4_stands, .initialized RX4, .code yX4_stands cX4_stands 1 (some .int), .fieldLink RX4 52 "MarginTableModel" "isRay" "Z", .methodLink RX4 154 yX4_worthOf, .instanceMethod yX4_worthOf, .selects RX4 yX4_worthOf yX4_worthOf, .code yX4_worthOf cX4_worthOf 3 (some .long), .fieldLink RX4 112 "MarginTableModel" "rows" "I", .fieldLink RX4 33 "MarginTableModel" "tells" "[I", .fieldLink RX4 29 "MarginTableModel" "table" "[J", .methodLink RX4 122 yX4_columnQ, .instanceMethod yX4_columnQ, .selects RX4 yX4_columnQ yX4_columnQ, .code yX4_columnQ cX4_columnQ 1 (some .int)] ++ wsX40)
def wsX4_digest_r1 : List Cond := [Cond.constantLong RX4 171 (73), Cond.constantLong RX4 173 (31), Cond.fieldLink RX4 58 "MarginTableModel" "points" "I", Cond.fieldLink RX4 19 "MarginTableModel" "px" "[I", Cond.fieldLink RX4 23 "MarginTableModel" "py" "[I", Cond.fieldLink RX4 26 "MarginTableModel" "label" "[I", Cond.fieldLink RX4 55 "MarginTableModel" "steps" "I", Cond.fieldLink RX4 36 "MarginTableModel" "entered" "[I", Cond.fieldLink RX4 39 "MarginTableModel" "left" "[I", Cond.fieldLink RX4 42 "MarginTableModel" "leftAt" "[I", Cond.methodLink RX4 175 yX4_count, Cond.instanceMethod yX4_count, Cond.selects RX4 yX4_count yX4_count, Cond.initialized RX4, Cond.code yX4_count cX4_count 4 (some .int), Cond.fieldLink RX4 7 "MarginTableModel" "degree" "I", Cond.fieldLink RX4 13 "MarginTableModel" "boxAbove" "I", Cond.fieldLink RX4 16 "MarginTableModel" "boxBelow" "I", Cond.fieldLink RX4 45 "MarginTableModel" "isBegun" "Z", Cond.fieldLink RX4 49 "MarginTableModel" "isDone" "Z", Cond.methodLink RX4 144 yX4_stands, Cond.instanceMethod yX4_stands, Cond.selects RX4 yX4_stands yX4_stands, Cond.code yX4_stands cX4_stands 1 (some .int)]
def wsX4_digest_r2 : List Cond := [Cond.fieldLink RX4 52 "MarginTableModel" "isRay" "Z", Cond.methodLink RX4 154 yX4_worthOf, Cond.instanceMethod yX4_worthOf, Cond.selects RX4 yX4_worthOf yX4_worthOf, Cond.code yX4_worthOf cX4_worthOf 3 (some .long), Cond.fieldLink RX4 112 "MarginTableModel" "rows" "I", Cond.fieldLink RX4 33 "MarginTableModel" "tells" "[I", Cond.fieldLink RX4 29 "MarginTableModel" "table" "[J", Cond.methodLink RX4 122 yX4_columnQ, Cond.instanceMethod yX4_columnQ, Cond.selects RX4 yX4_columnQ yX4_columnQ, Cond.code yX4_columnQ cX4_columnQ 1 (some .int), Cond.methodLink RX4 178 yX4_multiplier, Cond.instanceMethod yX4_multiplier, Cond.selects RX4 yX4_multiplier yX4_multiplier, Cond.code yX4_multiplier cX4_multiplier 3 (some .long), Cond.fieldLink RX4 115 "MarginTableModel" "below" "J", Cond.methodLink RX4 72 yX4_isPoint, Cond.instanceMethod yX4_isPoint, Cond.selects RX4 yX4_isPoint yX4_isPoint, Cond.code yX4_isPoint cX4_isPoint 2 (some .boolean), Cond.methodLink RX4 61 yX4_in, Cond.static yX4_in, Cond.code yX4_in cX4_in 3 (some .boolean)]
def wsX4_digest_r3 : List Cond := [Cond.methodLink RX4 150 yX4_lowest, Cond.static yX4_lowest, Cond.code yX4_lowest cX4_lowest 7 (some .long), Cond.methodLink RX4 106 yX4_divisor, Cond.static yX4_divisor, Cond.code yX4_divisor cX4_divisor 10 (some .long), Cond.methodLink RX4 102 yX4_size, Cond.static yX4_size, Cond.code yX4_size cX4_size 2 (some .long)]
def wsX4_digest : List Cond := .code yX4_digest cX4_digest 4 (some .long) :: ((wsX4_digest_r1 ++ (wsX4_digest_r2 ++ wsX4_digest_r3)) ++ wsX40)
def wsJ9_abs_067f4 : List Cond := .code yJ9_abs_067f4 cJ9_abs_067f4 2 (some .long) :: ([])
abbrev vwCl : List vw_C := [(RX0, TX0, 5), (RX1, TX1, 9), (RX3, TX3, 4), (RX4, TX4, 20)]
end
section
theorem dX0_init_0 : decode cX0_init 0 = .ok (.aload_n 0, 1) := by decide +kernel
theorem dX0_init_1 : decode cX0_init 1 = .ok (.invokespecial 1, 3) := by decide +kernel
theorem dX0_init_4 : decode cX0_init 4 = .ok (.aload_n 0, 1) := by decide +kernel
theorem dX0_init_5 : decode cX0_init 5 = .ok (.bipush 6, 2) := by decide +kernel
theorem dX0_init_7 : decode cX0_init 7 = .ok (.newarray .int, 2) := by decide +kernel
theorem dX0_init_9 : decode cX0_init 9 = .ok (.putfield 9, 3) := by decide +kernel
theorem dX0_init_12 : decode cX0_init 12 = .ok (.aload_n 0, 1) := by decide +kernel
theorem dX0_init_13 : decode cX0_init 13 = .ok (.bipush 6, 2) := by decide +kernel
theorem dX0_init_15 : decode cX0_init 15 = .ok (.newarray .int, 2) := by decide +kernel
theorem dX0_init_17 : decode cX0_init 17 = .ok (.putfield 13, 3) := by decide +kernel
theorem dX0_init_20 : decode cX0_init 20 = .ok (.aload_n 0, 1) := by decide +kernel
theorem dX0_init_21 : decode cX0_init 21 = .ok (.bipush 6, 2) := by decide +kernel
theorem dX0_init_23 : decode cX0_init 23 = .ok (.newarray .int, 2) := by decide +kernel
theorem dX0_init_25 : decode cX0_init 25 = .ok (.putfield 16, 3) := by decide +kernel
theorem dX0_init_28 : decode cX0_init 28 = .ok (.aload_n 0, 1) := by decide +kernel
theorem dX0_init_29 : decode cX0_init 29 = .ok (.iconst 0, 1) := by decide +kernel
theorem dX0_init_30 : decode cX0_init 30 = .ok (.putfield 19, 3) := by decide +kernel
theorem dX0_init_33 : decode cX0_init 33 = .ok (.aload_n 0, 1) := by decide +kernel
theorem dX0_init_34 : decode cX0_init 34 = .ok (.iconst 1, 1) := by decide +kernel
theorem dX0_init_35 : decode cX0_init 35 = .ok (.putfield 23, 3) := by decide +kernel
theorem dX0_init_38 : decode cX0_init 38 = .ok (.return_, 1) := by decide +kernel
theorem dX0_isPlace_0 : decode cX0_isPlace 0 = .ok (.iload_n 0, 1) := by decide +kernel
theorem dX0_isPlace_1 : decode cX0_isPlace 1 = .ok (.bipush (-4), 2) := by decide +kernel
theorem dX0_isPlace_3 : decode cX0_isPlace 3 = .ok (.if_icmp .lt 23, 3) := by decide +kernel
theorem dX0_isPlace_6 : decode cX0_isPlace 6 = .ok (.iload_n 0, 1) := by decide +kernel
theorem dX0_isPlace_7 : decode cX0_isPlace 7 = .ok (.iconst 4, 1) := by decide +kernel
theorem dX0_isPlace_8 : decode cX0_isPlace 8 = .ok (.if_icmp .gt 18, 3) := by decide +kernel
theorem dX0_isPlace_11 : decode cX0_isPlace 11 = .ok (.iload_n 1, 1) := by decide +kernel
theorem dX0_isPlace_12 : decode cX0_isPlace 12 = .ok (.bipush (-4), 2) := by decide +kernel
theorem dX0_isPlace_14 : decode cX0_isPlace 14 = .ok (.if_icmp .lt 12, 3) := by decide +kernel
theorem dX0_isPlace_17 : decode cX0_isPlace 17 = .ok (.iload_n 1, 1) := by decide +kernel
theorem dX0_isPlace_18 : decode cX0_isPlace 18 = .ok (.iconst 4, 1) := by decide +kernel
theorem dX0_isPlace_19 : decode cX0_isPlace 19 = .ok (.if_icmp .gt 7, 3) := by decide +kernel
theorem dX0_isPlace_22 : decode cX0_isPlace 22 = .ok (.iconst 1, 1) := by decide +kernel
theorem dX0_isPlace_23 : decode cX0_isPlace 23 = .ok (.goto 4, 3) := by decide +kernel
theorem dX0_isPlace_26 : decode cX0_isPlace 26 = .ok (.iconst 0, 1) := by decide +kernel
theorem dX0_isPlace_27 : decode cX0_isPlace 27 = .ok (.ireturn, 1) := by decide +kernel
theorem dX0_mostWith_0 : decode cX0_mostWith 0 = .ok (.iload_n 0, 1) := by decide +kernel
theorem dX0_mostWith_1 : decode cX0_mostWith 1 = .ok (.iconst 1, 1) := by decide +kernel
theorem dX0_mostWith_2 : decode cX0_mostWith 2 = .ok (.if_icmp .ne 8, 3) := by decide +kernel
theorem dX0_mostWith_5 : decode cX0_mostWith 5 = .ok (.bipush 6, 2) := by decide +kernel
theorem dX0_mostWith_7 : decode cX0_mostWith 7 = .ok (.goto 4, 3) := by decide +kernel
theorem dX0_mostWith_10 : decode cX0_mostWith 10 = .ok (.iconst 4, 1) := by decide +kernel
theorem dX0_mostWith_11 : decode cX0_mostWith 11 = .ok (.ireturn, 1) := by decide +kernel
theorem dX0_has_0 : decode cX0_has 0 = .ok (.iload_n 1, 1) := by decide +kernel
theorem dX0_has_1 : decode cX0_has 1 = .ok (.ifCond .lt 15, 3) := by decide +kernel
theorem dX0_has_4 : decode cX0_has 4 = .ok (.iload_n 1, 1) := by decide +kernel
theorem dX0_has_5 : decode cX0_has 5 = .ok (.aload_n 0, 1) := by decide +kernel
theorem dX0_has_6 : decode cX0_has 6 = .ok (.getfield 19, 3) := by decide +kernel
theorem dX0_has_9 : decode cX0_has 9 = .ok (.if_icmp .ge 7, 3) := by decide +kernel
theorem dX0_has_12 : decode cX0_has 12 = .ok (.iconst 1, 1) := by decide +kernel
theorem dX0_has_13 : decode cX0_has 13 = .ok (.goto 4, 3) := by decide +kernel
theorem dX0_has_16 : decode cX0_has 16 = .ok (.iconst 0, 1) := by decide +kernel
theorem dX0_has_17 : decode cX0_has 17 = .ok (.ireturn, 1) := by decide +kernel
theorem dX0_add_0 : decode cX0_add 0 = .ok (.aload_n 0, 1) := by decide +kernel
theorem dX0_add_1 : decode cX0_add 1 = .ok (.getfield 9, 3) := by decide +kernel
theorem dX0_add_4 : decode cX0_add 4 = .ok (.aload_n 0, 1) := by decide +kernel
theorem dX0_add_5 : decode cX0_add 5 = .ok (.getfield 19, 3) := by decide +kernel
theorem dX0_add_8 : decode cX0_add 8 = .ok (.iload_n 1, 1) := by decide +kernel
theorem dX0_add_9 : decode cX0_add 9 = .ok (.iastore, 1) := by decide +kernel
theorem dX0_add_10 : decode cX0_add 10 = .ok (.aload_n 0, 1) := by decide +kernel
theorem dX0_add_11 : decode cX0_add 11 = .ok (.getfield 13, 3) := by decide +kernel
theorem dX0_add_14 : decode cX0_add 14 = .ok (.aload_n 0, 1) := by decide +kernel
theorem dX0_add_15 : decode cX0_add 15 = .ok (.getfield 19, 3) := by decide +kernel
theorem dX0_add_18 : decode cX0_add 18 = .ok (.iload_n 2, 1) := by decide +kernel
theorem dX0_add_19 : decode cX0_add 19 = .ok (.iastore, 1) := by decide +kernel
theorem dX0_add_20 : decode cX0_add 20 = .ok (.aload_n 0, 1) := by decide +kernel
theorem dX0_add_21 : decode cX0_add 21 = .ok (.getfield 16, 3) := by decide +kernel
theorem dX0_add_24 : decode cX0_add 24 = .ok (.aload_n 0, 1) := by decide +kernel
theorem dX0_add_25 : decode cX0_add 25 = .ok (.getfield 19, 3) := by decide +kernel
theorem dX0_add_28 : decode cX0_add 28 = .ok (.iload_n 3, 1) := by decide +kernel
theorem dX0_add_29 : decode cX0_add 29 = .ok (.iastore, 1) := by decide +kernel
theorem dX0_add_30 : decode cX0_add 30 = .ok (.aload_n 0, 1) := by decide +kernel
theorem dX0_add_31 : decode cX0_add 31 = .ok (.dup, 1) := by decide +kernel
theorem dX0_add_32 : decode cX0_add 32 = .ok (.getfield 19, 3) := by decide +kernel
theorem dX0_add_35 : decode cX0_add 35 = .ok (.iconst 1, 1) := by decide +kernel
theorem dX0_add_36 : decode cX0_add 36 = .ok (.iadd, 1) := by decide +kernel
theorem dX0_add_37 : decode cX0_add 37 = .ok (.putfield 19, 3) := by decide +kernel
theorem dX0_add_40 : decode cX0_add 40 = .ok (.return_, 1) := by decide +kernel
theorem dX0_kernel_0 : decode cX0_kernel 0 = .ok (.aload_n 0, 1) := by decide +kernel
theorem dX0_kernel_1 : decode cX0_kernel 1 = .ok (.getfield 9, 3) := by decide +kernel
theorem dX0_kernel_4 : decode cX0_kernel 4 = .ok (.iload_n 1, 1) := by decide +kernel
theorem dX0_kernel_5 : decode cX0_kernel 5 = .ok (.iaload, 1) := by decide +kernel
theorem dX0_kernel_6 : decode cX0_kernel 6 = .ok (.iload_n 2, 1) := by decide +kernel
theorem dX0_kernel_7 : decode cX0_kernel 7 = .ok (.imul, 1) := by decide +kernel
theorem dX0_kernel_8 : decode cX0_kernel 8 = .ok (.aload_n 0, 1) := by decide +kernel
theorem dX0_kernel_9 : decode cX0_kernel 9 = .ok (.getfield 13, 3) := by decide +kernel
theorem dX0_kernel_12 : decode cX0_kernel 12 = .ok (.iload_n 1, 1) := by decide +kernel
theorem dX0_kernel_13 : decode cX0_kernel 13 = .ok (.iaload, 1) := by decide +kernel
theorem dX0_kernel_14 : decode cX0_kernel 14 = .ok (.iload_n 3, 1) := by decide +kernel
theorem dX0_kernel_15 : decode cX0_kernel 15 = .ok (.imul, 1) := by decide +kernel
theorem dX0_kernel_16 : decode cX0_kernel 16 = .ok (.iadd, 1) := by decide +kernel
theorem dX0_kernel_17 : decode cX0_kernel 17 = .ok (.iconst 1, 1) := by decide +kernel
theorem dX0_kernel_18 : decode cX0_kernel 18 = .ok (.iadd, 1) := by decide +kernel
theorem dX0_kernel_19 : decode cX0_kernel 19 = .ok (.istore 4, 2) := by decide +kernel
theorem dX0_kernel_21 : decode cX0_kernel 21 = .ok (.aload_n 0, 1) := by decide +kernel
theorem dX0_kernel_22 : decode cX0_kernel 22 = .ok (.getfield 23, 3) := by decide +kernel
theorem dX0_kernel_25 : decode cX0_kernel 25 = .ok (.iconst 1, 1) := by decide +kernel
theorem dX0_kernel_26 : decode cX0_kernel 26 = .ok (.if_icmp .ne 8, 3) := by decide +kernel
theorem dX0_kernel_29 : decode cX0_kernel 29 = .ok (.iload 4, 2) := by decide +kernel
theorem dX0_kernel_31 : decode cX0_kernel 31 = .ok (.goto 8, 3) := by decide +kernel
theorem dX0_kernel_34 : decode cX0_kernel 34 = .ok (.iload 4, 2) := by decide +kernel
theorem dX0_kernel_36 : decode cX0_kernel 36 = .ok (.iload 4, 2) := by decide +kernel
theorem dX0_kernel_38 : decode cX0_kernel 38 = .ok (.imul, 1) := by decide +kernel
theorem dX0_kernel_39 : decode cX0_kernel 39 = .ok (.ireturn, 1) := by decide +kernel
set_option maxRecDepth 20000 in
theorem ggX0_product_X0_kernel : GoodIn wsX0_product wsX0_kernel := goodIn_r _ [8, 2, 3, 9, 10, 11, 12, 13, 14] (by decide +kernel) (by decide +kernel)
set_option maxRecDepth 20000 in
theorem gX0_product_X0_kernel : GoodIn wsX0_product (wsV RX0 26 RX0 yX0_kernel wsX0_kernel) := goodIn_app (goodIn_of _ (by decide +kernel)) ggX0_product_X0_kernel
theorem dX0_product_0 : decode cX0_product 0 = .ok (.aload_n 0, 1) := by decide +kernel
theorem dX0_product_1 : decode cX0_product 1 = .ok (.getfield 16, 3) := by decide +kernel
theorem dX0_product_4 : decode cX0_product 4 = .ok (.iload_n 1, 1) := by decide +kernel
theorem dX0_product_5 : decode cX0_product 5 = .ok (.iaload, 1) := by decide +kernel
theorem dX0_product_6 : decode cX0_product 6 = .ok (.aload_n 0, 1) := by decide +kernel
theorem dX0_product_7 : decode cX0_product 7 = .ok (.getfield 16, 3) := by decide +kernel
theorem dX0_product_10 : decode cX0_product 10 = .ok (.iload_n 2, 1) := by decide +kernel
theorem dX0_product_11 : decode cX0_product 11 = .ok (.iaload, 1) := by decide +kernel
theorem dX0_product_12 : decode cX0_product 12 = .ok (.imul, 1) := by decide +kernel
theorem dX0_product_13 : decode cX0_product 13 = .ok (.aload_n 0, 1) := by decide +kernel
theorem dX0_product_14 : decode cX0_product 14 = .ok (.iload_n 1, 1) := by decide +kernel
theorem dX0_product_15 : decode cX0_product 15 = .ok (.aload_n 0, 1) := by decide +kernel
theorem dX0_product_16 : decode cX0_product 16 = .ok (.getfield 9, 3) := by decide +kernel
theorem dX0_product_19 : decode cX0_product 19 = .ok (.iload_n 2, 1) := by decide +kernel
theorem dX0_product_20 : decode cX0_product 20 = .ok (.iaload, 1) := by decide +kernel
theorem dX0_product_21 : decode cX0_product 21 = .ok (.aload_n 0, 1) := by decide +kernel
theorem dX0_product_22 : decode cX0_product 22 = .ok (.getfield 13, 3) := by decide +kernel
theorem dX0_product_25 : decode cX0_product 25 = .ok (.iload_n 2, 1) := by decide +kernel
theorem dX0_product_26 : decode cX0_product 26 = .ok (.iaload, 1) := by decide +kernel
theorem dX0_product_27 : decode cX0_product 27 = .ok (.invokevirtual 26, 3) := by decide +kernel
theorem dX0_product_30 : decode cX0_product 30 = .ok (.imul, 1) := by decide +kernel
theorem dX0_product_31 : decode cX0_product 31 = .ok (.ireturn, 1) := by decide +kernel
theorem dX1_init_0 : decode cX1_init 0 = .ok (.aload_n 0, 1) := by decide +kernel
theorem dX1_init_1 : decode cX1_init 1 = .ok (.invokespecial 7, 3) := by decide +kernel
theorem dX1_init_4 : decode cX1_init 4 = .ok (.aload_n 0, 1) := by decide +kernel
theorem dX1_init_5 : decode cX1_init 5 = .ok (.bipush 12, 2) := by decide +kernel
theorem dX1_init_7 : decode cX1_init 7 = .ok (.bipush 26, 2) := by decide +kernel
theorem dX1_init_9 : decode cX1_init 9 = .ok (.multianewarray 13 2, 4) := by decide +kernel
theorem dX1_init_13 : decode cX1_init 13 = .ok (.putfield 15, 3) := by decide +kernel
theorem dX1_init_16 : decode cX1_init 16 = .ok (.aload_n 0, 1) := by decide +kernel
theorem dX1_init_17 : decode cX1_init 17 = .ok (.bipush 12, 2) := by decide +kernel
theorem dX1_init_19 : decode cX1_init 19 = .ok (.newarray .int, 2) := by decide +kernel
theorem dX1_init_21 : decode cX1_init 21 = .ok (.putfield 18, 3) := by decide +kernel
theorem dX1_init_24 : decode cX1_init 24 = .ok (.aload_n 0, 1) := by decide +kernel
theorem dX1_init_25 : decode cX1_init 25 = .ok (.sipush 200, 3) := by decide +kernel
theorem dX1_init_28 : decode cX1_init 28 = .ok (.newarray .int, 2) := by decide +kernel
theorem dX1_init_30 : decode cX1_init 30 = .ok (.putfield 22, 3) := by decide +kernel
theorem dX1_init_33 : decode cX1_init 33 = .ok (.aload_n 0, 1) := by decide +kernel
theorem dX1_init_34 : decode cX1_init 34 = .ok (.sipush 200, 3) := by decide +kernel
theorem dX1_init_37 : decode cX1_init 37 = .ok (.newarray .int, 2) := by decide +kernel
theorem dX1_init_39 : decode cX1_init 39 = .ok (.putfield 25, 3) := by decide +kernel
theorem dX1_init_42 : decode cX1_init 42 = .ok (.aload_n 0, 1) := by decide +kernel
theorem dX1_init_43 : decode cX1_init 43 = .ok (.sipush 200, 3) := by decide +kernel
theorem dX1_init_46 : decode cX1_init 46 = .ok (.newarray .int, 2) := by decide +kernel
theorem dX1_init_48 : decode cX1_init 48 = .ok (.putfield 28, 3) := by decide +kernel
theorem dX1_init_51 : decode cX1_init 51 = .ok (.aload_n 0, 1) := by decide +kernel
theorem dX1_init_52 : decode cX1_init 52 = .ok (.iconst 0, 1) := by decide +kernel
theorem dX1_init_53 : decode cX1_init 53 = .ok (.putfield 31, 3) := by decide +kernel
theorem dX1_init_56 : decode cX1_init 56 = .ok (.aload_n 0, 1) := by decide +kernel
theorem dX1_init_57 : decode cX1_init 57 = .ok (.iconst 0, 1) := by decide +kernel
theorem dX1_init_58 : decode cX1_init 58 = .ok (.putfield 35, 3) := by decide +kernel
theorem dX1_init_61 : decode cX1_init 61 = .ok (.aload_n 0, 1) := by decide +kernel
theorem dX1_init_62 : decode cX1_init 62 = .ok (.iconst (-1), 1) := by decide +kernel
theorem dX1_init_63 : decode cX1_init 63 = .ok (.putfield 38, 3) := by decide +kernel
theorem dX1_init_66 : decode cX1_init 66 = .ok (.aload_n 0, 1) := by decide +kernel
theorem dX1_init_67 : decode cX1_init 67 = .ok (.lconst 1, 1) := by decide +kernel
theorem dX1_init_68 : decode cX1_init 68 = .ok (.putfield 41, 3) := by decide +kernel
theorem dX1_init_71 : decode cX1_init 71 = .ok (.return_, 1) := by decide +kernel
theorem dX1_forget_0 : decode cX1_forget 0 = .ok (.aload_n 0, 1) := by decide +kernel
theorem dX1_forget_1 : decode cX1_forget 1 = .ok (.iconst 0, 1) := by decide +kernel
theorem dX1_forget_2 : decode cX1_forget 2 = .ok (.putfield 31, 3) := by decide +kernel
theorem dX1_forget_5 : decode cX1_forget 5 = .ok (.aload_n 0, 1) := by decide +kernel
theorem dX1_forget_6 : decode cX1_forget 6 = .ok (.iconst 0, 1) := by decide +kernel
theorem dX1_forget_7 : decode cX1_forget 7 = .ok (.putfield 35, 3) := by decide +kernel
theorem dX1_forget_10 : decode cX1_forget 10 = .ok (.aload_n 0, 1) := by decide +kernel
theorem dX1_forget_11 : decode cX1_forget 11 = .ok (.iconst (-1), 1) := by decide +kernel
theorem dX1_forget_12 : decode cX1_forget 12 = .ok (.putfield 38, 3) := by decide +kernel
theorem dX1_forget_15 : decode cX1_forget 15 = .ok (.return_, 1) := by decide +kernel
theorem dX1_hasRow_0 : decode cX1_hasRow 0 = .ok (.iload_n 1, 1) := by decide +kernel
theorem dX1_hasRow_1 : decode cX1_hasRow 1 = .ok (.ifCond .lt 15, 3) := by decide +kernel
theorem dX1_hasRow_4 : decode cX1_hasRow 4 = .ok (.iload_n 1, 1) := by decide +kernel
theorem dX1_hasRow_5 : decode cX1_hasRow 5 = .ok (.aload_n 0, 1) := by decide +kernel
theorem dX1_hasRow_6 : decode cX1_hasRow 6 = .ok (.getfield 31, 3) := by decide +kernel
theorem dX1_hasRow_9 : decode cX1_hasRow 9 = .ok (.if_icmp .ge 7, 3) := by decide +kernel
theorem dX1_hasRow_12 : decode cX1_hasRow 12 = .ok (.iconst 1, 1) := by decide +kernel
theorem dX1_hasRow_13 : decode cX1_hasRow 13 = .ok (.goto 4, 3) := by decide +kernel
theorem dX1_hasRow_16 : decode cX1_hasRow 16 = .ok (.iconst 0, 1) := by decide +kernel
theorem dX1_hasRow_17 : decode cX1_hasRow 17 = .ok (.ireturn, 1) := by decide +kernel
set_option maxRecDepth 20000 in
theorem ggX1_hasColumn_X1_columnOfQ : GoodIn wsX1_hasColumn wsX1_columnOfQ := goodIn_r _ [5, 6, 7, 8, 9, 10, 11, 12, 13, 14, 15] (by decide +kernel) (by decide +kernel)
set_option maxRecDepth 20000 in
theorem gX1_hasColumn_X1_columnOfQ : GoodIn wsX1_hasColumn (wsV RX1 45 RX1 yX1_columnOfQ wsX1_columnOfQ) := goodIn_app (goodIn_of _ (by decide +kernel)) ggX1_hasColumn_X1_columnOfQ
theorem dX1_hasColumn_0 : decode cX1_hasColumn 0 = .ok (.iload_n 1, 1) := by decide +kernel
theorem dX1_hasColumn_1 : decode cX1_hasColumn 1 = .ok (.ifCond .lt 15, 3) := by decide +kernel
theorem dX1_hasColumn_4 : decode cX1_hasColumn 4 = .ok (.iload_n 1, 1) := by decide +kernel
theorem dX1_hasColumn_5 : decode cX1_hasColumn 5 = .ok (.aload_n 0, 1) := by decide +kernel
theorem dX1_hasColumn_6 : decode cX1_hasColumn 6 = .ok (.invokevirtual 45, 3) := by decide +kernel
theorem dX1_hasColumn_9 : decode cX1_hasColumn 9 = .ok (.if_icmp .gt 7, 3) := by decide +kernel
theorem dX1_hasColumn_12 : decode cX1_hasColumn 12 = .ok (.iconst 1, 1) := by decide +kernel
theorem dX1_hasColumn_13 : decode cX1_hasColumn 13 = .ok (.goto 4, 3) := by decide +kernel
theorem dX1_hasColumn_16 : decode cX1_hasColumn 16 = .ok (.iconst 0, 1) := by decide +kernel
theorem dX1_hasColumn_17 : decode cX1_hasColumn 17 = .ok (.ireturn, 1) := by decide +kernel
theorem dX1_columnOfY_0 : decode cX1_columnOfY 0 = .ok (.iconst 2, 1) := by decide +kernel
theorem dX1_columnOfY_1 : decode cX1_columnOfY 1 = .ok (.aload_n 0, 1) := by decide +kernel
theorem dX1_columnOfY_2 : decode cX1_columnOfY 2 = .ok (.getfield 31, 3) := by decide +kernel
theorem dX1_columnOfY_5 : decode cX1_columnOfY 5 = .ok (.imul, 1) := by decide +kernel
theorem dX1_columnOfY_6 : decode cX1_columnOfY 6 = .ok (.ireturn, 1) := by decide +kernel
theorem dX1_columnOfQ_0 : decode cX1_columnOfQ 0 = .ok (.iconst 2, 1) := by decide +kernel
theorem dX1_columnOfQ_1 : decode cX1_columnOfQ 1 = .ok (.aload_n 0, 1) := by decide +kernel
theorem dX1_columnOfQ_2 : decode cX1_columnOfQ 2 = .ok (.getfield 31, 3) := by decide +kernel
theorem dX1_columnOfQ_5 : decode cX1_columnOfQ 5 = .ok (.imul, 1) := by decide +kernel
theorem dX1_columnOfQ_6 : decode cX1_columnOfQ 6 = .ok (.iconst 1, 1) := by decide +kernel
theorem dX1_columnOfQ_7 : decode cX1_columnOfQ 7 = .ok (.iadd, 1) := by decide +kernel
theorem dX1_columnOfQ_8 : decode cX1_columnOfQ 8 = .ok (.ireturn, 1) := by decide +kernel
set_option maxRecDepth 20000 in
theorem ggX1_letter_X1_columnOfY : GoodIn wsX1_letter wsX1_columnOfY := goodIn_r _ [6, 1, 7, 8, 9, 10, 11, 12, 13, 14, 15] (by decide +kernel) (by decide +kernel)
set_option maxRecDepth 20000 in
theorem gX1_letter_X1_columnOfY : GoodIn wsX1_letter (wsV RX1 49 RX1 yX1_columnOfY wsX1_columnOfY) := goodIn_app (goodIn_of _ (by decide +kernel)) ggX1_letter_X1_columnOfY
theorem dX1_letter_0 : decode cX1_letter 0 = .ok (.iload_n 1, 1) := by decide +kernel
theorem dX1_letter_1 : decode cX1_letter 1 = .ok (.aload_n 0, 1) := by decide +kernel
theorem dX1_letter_2 : decode cX1_letter 2 = .ok (.getfield 31, 3) := by decide +kernel
theorem dX1_letter_5 : decode cX1_letter 5 = .ok (.if_icmp .ge 5, 3) := by decide +kernel
theorem dX1_letter_8 : decode cX1_letter 8 = .ok (.iload_n 1, 1) := by decide +kernel
theorem dX1_letter_9 : decode cX1_letter 9 = .ok (.ireturn, 1) := by decide +kernel
theorem dX1_letter_10 : decode cX1_letter 10 = .ok (.iload_n 1, 1) := by decide +kernel
theorem dX1_letter_11 : decode cX1_letter 11 = .ok (.aload_n 0, 1) := by decide +kernel
theorem dX1_letter_12 : decode cX1_letter 12 = .ok (.invokevirtual 49, 3) := by decide +kernel
theorem dX1_letter_15 : decode cX1_letter 15 = .ok (.if_icmp .ge 15, 3) := by decide +kernel
theorem dX1_letter_18 : decode cX1_letter 18 = .ok (.bipush 100, 2) := by decide +kernel
theorem dX1_letter_20 : decode cX1_letter 20 = .ok (.iload_n 1, 1) := by decide +kernel
theorem dX1_letter_21 : decode cX1_letter 21 = .ok (.iadd, 1) := by decide +kernel
theorem dX1_letter_22 : decode cX1_letter 22 = .ok (.aload_n 0, 1) := by decide +kernel
theorem dX1_letter_23 : decode cX1_letter 23 = .ok (.getfield 31, 3) := by decide +kernel
theorem dX1_letter_26 : decode cX1_letter 26 = .ok (.isub, 1) := by decide +kernel
theorem dX1_letter_27 : decode cX1_letter 27 = .ok (.goto 6, 3) := by decide +kernel
theorem dX1_letter_30 : decode cX1_letter 30 = .ok (.sipush 200, 3) := by decide +kernel
theorem dX1_letter_33 : decode cX1_letter 33 = .ok (.ireturn, 1) := by decide +kernel
theorem dX1_complement_0 : decode cX1_complement 0 = .ok (.iload_n 1, 1) := by decide +kernel
theorem dX1_complement_1 : decode cX1_complement 1 = .ok (.aload_n 0, 1) := by decide +kernel
theorem dX1_complement_2 : decode cX1_complement 2 = .ok (.getfield 31, 3) := by decide +kernel
theorem dX1_complement_5 : decode cX1_complement 5 = .ok (.if_icmp .ge 12, 3) := by decide +kernel
theorem dX1_complement_8 : decode cX1_complement 8 = .ok (.iload_n 1, 1) := by decide +kernel
theorem dX1_complement_9 : decode cX1_complement 9 = .ok (.aload_n 0, 1) := by decide +kernel
theorem dX1_complement_10 : decode cX1_complement 10 = .ok (.getfield 31, 3) := by decide +kernel
theorem dX1_complement_13 : decode cX1_complement 13 = .ok (.iadd, 1) := by decide +kernel
theorem dX1_complement_14 : decode cX1_complement 14 = .ok (.goto 9, 3) := by decide +kernel
theorem dX1_complement_17 : decode cX1_complement 17 = .ok (.iload_n 1, 1) := by decide +kernel
theorem dX1_complement_18 : decode cX1_complement 18 = .ok (.aload_n 0, 1) := by decide +kernel
theorem dX1_complement_19 : decode cX1_complement 19 = .ok (.getfield 31, 3) := by decide +kernel
theorem dX1_complement_22 : decode cX1_complement 22 = .ok (.isub, 1) := by decide +kernel
theorem dX1_complement_23 : decode cX1_complement 23 = .ok (.ireturn, 1) := by decide +kernel
set_option maxRecDepth 20000 in
theorem ggX1_lay_X1_matrix : GoodIn wsX1_lay wsX1_matrix := goodIn_r _ [12, 1, 13, 14, 15, 16, 17, 18, 19, 20, 21, 22, 23, 24, 25, 34, 35, 36, 37, 38] (by decide +kernel) (by decide +kernel)
set_option maxRecDepth 20000 in
theorem gX1_lay_X1_matrix : GoodIn wsX1_lay (va_wsS RX1 55 yX1_matrix wsX1_matrix) := goodIn_app (goodIn_of _ (by decide +kernel)) ggX1_lay_X1_matrix
set_option maxRecDepth 20000 in
theorem ggX1_lay_X1_columnOfY : GoodIn wsX1_lay wsX1_columnOfY := goodIn_r _ [29, 2, 39, 40, 41, 42, 43, 44, 45, 46, 47] (by decide +kernel) (by decide +kernel)
set_option maxRecDepth 20000 in
theorem gX1_lay_X1_columnOfY : GoodIn wsX1_lay (wsV RX1 49 RX1 yX1_columnOfY wsX1_columnOfY) := goodIn_app (goodIn_of _ (by decide +kernel)) ggX1_lay_X1_columnOfY
set_option maxRecDepth 20000 in
theorem ggX1_lay_X1_columnOfQ : GoodIn wsX1_lay wsX1_columnOfQ := goodIn_r _ [33, 2, 39, 40, 41, 42, 43, 44, 45, 46, 47] (by decide +kernel) (by decide +kernel)
set_option maxRecDepth 20000 in
theorem gX1_lay_X1_columnOfQ : GoodIn wsX1_lay (wsV RX1 45 RX1 yX1_columnOfQ wsX1_columnOfQ) := goodIn_app (goodIn_of _ (by decide +kernel)) ggX1_lay_X1_columnOfQ
theorem dX1_lay_0 : decode cX1_lay 0 = .ok (.aload_n 1, 1) := by decide +kernel
theorem dX1_lay_1 : decode cX1_lay 1 = .ok (.getfield 52, 3) := by decide +kernel
theorem dX1_lay_4 : decode cX1_lay 4 = .ok (.istore 4, 2) := by decide +kernel
theorem dX1_lay_6 : decode cX1_lay 6 = .ok (.aload_n 0, 1) := by decide +kernel
theorem dX1_lay_7 : decode cX1_lay 7 = .ok (.iconst 2, 1) := by decide +kernel
theorem dX1_lay_8 : decode cX1_lay 8 = .ok (.iload 4, 2) := by decide +kernel
theorem dX1_lay_10 : decode cX1_lay 10 = .ok (.imul, 1) := by decide +kernel
theorem dX1_lay_11 : decode cX1_lay 11 = .ok (.putfield 31, 3) := by decide +kernel
theorem dX1_lay_14 : decode cX1_lay 14 = .ok (.aload_n 0, 1) := by decide +kernel
theorem dX1_lay_15 : decode cX1_lay 15 = .ok (.iconst 0, 1) := by decide +kernel
theorem dX1_lay_16 : decode cX1_lay 16 = .ok (.putfield 35, 3) := by decide +kernel
theorem dX1_lay_19 : decode cX1_lay 19 = .ok (.aload_n 0, 1) := by decide +kernel
theorem dX1_lay_20 : decode cX1_lay 20 = .ok (.iconst 0, 1) := by decide +kernel
theorem dX1_lay_21 : decode cX1_lay 21 = .ok (.putfield 38, 3) := by decide +kernel
theorem dX1_lay_24 : decode cX1_lay 24 = .ok (.aload_n 0, 1) := by decide +kernel
theorem dX1_lay_25 : decode cX1_lay 25 = .ok (.lconst 1, 1) := by decide +kernel
theorem dX1_lay_26 : decode cX1_lay 26 = .ok (.putfield 41, 3) := by decide +kernel
theorem dX1_lay_29 : decode cX1_lay 29 = .ok (.iconst 0, 1) := by decide +kernel
theorem dX1_lay_30 : decode cX1_lay 30 = .ok (.istore 5, 2) := by decide +kernel
theorem dX1_lay_32 : decode cX1_lay 32 = .ok (.iload 5, 2) := by decide +kernel
theorem dX1_lay_34 : decode cX1_lay 34 = .ok (.aload_n 0, 1) := by decide +kernel
theorem dX1_lay_35 : decode cX1_lay 35 = .ok (.getfield 31, 3) := by decide +kernel
theorem dX1_lay_38 : decode cX1_lay 38 = .ok (.if_icmp .ge 125, 3) := by decide +kernel
theorem dX1_lay_41 : decode cX1_lay 41 = .ok (.aload_n 0, 1) := by decide +kernel
theorem dX1_lay_42 : decode cX1_lay 42 = .ok (.getfield 18, 3) := by decide +kernel
theorem dX1_lay_45 : decode cX1_lay 45 = .ok (.iload 5, 2) := by decide +kernel
theorem dX1_lay_47 : decode cX1_lay 47 = .ok (.iload 5, 2) := by decide +kernel
theorem dX1_lay_49 : decode cX1_lay 49 = .ok (.iastore, 1) := by decide +kernel
theorem dX1_lay_50 : decode cX1_lay 50 = .ok (.iconst 0, 1) := by decide +kernel
theorem dX1_lay_51 : decode cX1_lay 51 = .ok (.istore 6, 2) := by decide +kernel
theorem dX1_lay_53 : decode cX1_lay 53 = .ok (.iload 6, 2) := by decide +kernel
theorem dX1_lay_55 : decode cX1_lay 55 = .ok (.aload_n 0, 1) := by decide +kernel
theorem dX1_lay_56 : decode cX1_lay 56 = .ok (.getfield 31, 3) := by decide +kernel
theorem dX1_lay_59 : decode cX1_lay 59 = .ok (.if_icmp .ge 56, 3) := by decide +kernel
theorem dX1_lay_62 : decode cX1_lay 62 = .ok (.aload_n 0, 1) := by decide +kernel
theorem dX1_lay_63 : decode cX1_lay 63 = .ok (.getfield 15, 3) := by decide +kernel
theorem dX1_lay_66 : decode cX1_lay 66 = .ok (.iload 5, 2) := by decide +kernel
theorem dX1_lay_68 : decode cX1_lay 68 = .ok (.aaload, 1) := by decide +kernel
theorem dX1_lay_69 : decode cX1_lay 69 = .ok (.iload 6, 2) := by decide +kernel
theorem dX1_lay_71 : decode cX1_lay 71 = .ok (.iload 6, 2) := by decide +kernel
theorem dX1_lay_73 : decode cX1_lay 73 = .ok (.iload 5, 2) := by decide +kernel
theorem dX1_lay_75 : decode cX1_lay 75 = .ok (.if_icmp .ne 7, 3) := by decide +kernel
theorem dX1_lay_78 : decode cX1_lay 78 = .ok (.lconst 1, 1) := by decide +kernel
theorem dX1_lay_79 : decode cX1_lay 79 = .ok (.goto 4, 3) := by decide +kernel
theorem dX1_lay_82 : decode cX1_lay 82 = .ok (.lconst 0, 1) := by decide +kernel
theorem dX1_lay_83 : decode cX1_lay 83 = .ok (.lastore, 1) := by decide +kernel
theorem dX1_lay_84 : decode cX1_lay 84 = .ok (.aload_n 0, 1) := by decide +kernel
theorem dX1_lay_85 : decode cX1_lay 85 = .ok (.getfield 15, 3) := by decide +kernel
theorem dX1_lay_88 : decode cX1_lay 88 = .ok (.iload 5, 2) := by decide +kernel
theorem dX1_lay_90 : decode cX1_lay 90 = .ok (.aaload, 1) := by decide +kernel
theorem dX1_lay_91 : decode cX1_lay 91 = .ok (.aload_n 0, 1) := by decide +kernel
theorem dX1_lay_92 : decode cX1_lay 92 = .ok (.getfield 31, 3) := by decide +kernel
theorem dX1_lay_95 : decode cX1_lay 95 = .ok (.iload 6, 2) := by decide +kernel
theorem dX1_lay_97 : decode cX1_lay 97 = .ok (.iadd, 1) := by decide +kernel
theorem dX1_lay_98 : decode cX1_lay 98 = .ok (.aload_n 1, 1) := by decide +kernel
theorem dX1_lay_99 : decode cX1_lay 99 = .ok (.iload 5, 2) := by decide +kernel
theorem dX1_lay_101 : decode cX1_lay 101 = .ok (.iload 6, 2) := by decide +kernel
theorem dX1_lay_103 : decode cX1_lay 103 = .ok (.invokestatic 55, 3) := by decide +kernel
theorem dX1_lay_106 : decode cX1_lay 106 = .ok (.ineg, 1) := by decide +kernel
theorem dX1_lay_107 : decode cX1_lay 107 = .ok (.i2l, 1) := by decide +kernel
theorem dX1_lay_108 : decode cX1_lay 108 = .ok (.lastore, 1) := by decide +kernel
theorem dX1_lay_109 : decode cX1_lay 109 = .ok (.iinc 6 1, 3) := by decide +kernel
theorem dX1_lay_112 : decode cX1_lay 112 = .ok (.goto (-59), 3) := by decide +kernel
theorem dX1_lay_115 : decode cX1_lay 115 = .ok (.aload_n 0, 1) := by decide +kernel
theorem dX1_lay_116 : decode cX1_lay 116 = .ok (.getfield 15, 3) := by decide +kernel
theorem dX1_lay_119 : decode cX1_lay 119 = .ok (.iload 5, 2) := by decide +kernel
theorem dX1_lay_121 : decode cX1_lay 121 = .ok (.aaload, 1) := by decide +kernel
theorem dX1_lay_122 : decode cX1_lay 122 = .ok (.aload_n 0, 1) := by decide +kernel
theorem dX1_lay_123 : decode cX1_lay 123 = .ok (.invokevirtual 49, 3) := by decide +kernel
theorem dX1_lay_126 : decode cX1_lay 126 = .ok (.ldc2_w 59, 3) := by decide +kernel
theorem dX1_lay_129 : decode cX1_lay 129 = .ok (.lastore, 1) := by decide +kernel
theorem dX1_lay_130 : decode cX1_lay 130 = .ok (.aload_n 0, 1) := by decide +kernel
theorem dX1_lay_131 : decode cX1_lay 131 = .ok (.getfield 15, 3) := by decide +kernel
theorem dX1_lay_134 : decode cX1_lay 134 = .ok (.iload 5, 2) := by decide +kernel
theorem dX1_lay_136 : decode cX1_lay 136 = .ok (.aaload, 1) := by decide +kernel
theorem dX1_lay_137 : decode cX1_lay 137 = .ok (.aload_n 0, 1) := by decide +kernel
theorem dX1_lay_138 : decode cX1_lay 138 = .ok (.invokevirtual 45, 3) := by decide +kernel
theorem dX1_lay_141 : decode cX1_lay 141 = .ok (.iload 5, 2) := by decide +kernel
theorem dX1_lay_143 : decode cX1_lay 143 = .ok (.iload 4, 2) := by decide +kernel
theorem dX1_lay_145 : decode cX1_lay 145 = .ok (.if_icmp .ge 9, 3) := by decide +kernel
theorem dX1_lay_148 : decode cX1_lay 148 = .ok (.iload_n 3, 1) := by decide +kernel
theorem dX1_lay_149 : decode cX1_lay 149 = .ok (.ineg, 1) := by decide +kernel
theorem dX1_lay_150 : decode cX1_lay 150 = .ok (.i2l, 1) := by decide +kernel
theorem dX1_lay_151 : decode cX1_lay 151 = .ok (.goto 5, 3) := by decide +kernel
theorem dX1_lay_154 : decode cX1_lay 154 = .ok (.iload_n 2, 1) := by decide +kernel
theorem dX1_lay_155 : decode cX1_lay 155 = .ok (.i2l, 1) := by decide +kernel
theorem dX1_lay_156 : decode cX1_lay 156 = .ok (.lastore, 1) := by decide +kernel
theorem dX1_lay_157 : decode cX1_lay 157 = .ok (.iinc 5 1, 3) := by decide +kernel
theorem dX1_lay_160 : decode cX1_lay 160 = .ok (.goto (-128), 3) := by decide +kernel
theorem dX1_lay_163 : decode cX1_lay 163 = .ok (.return_, 1) := by decide +kernel
set_option maxRecDepth 20000 in
theorem ggX1_matrix_X0_product : GoodIn wsX1_matrix wsX0_product := goodIn_r _ [6, 7, 8, 9, 10, 11, 12, 5, 13, 14, 15, 16, 17, 18, 19] (by decide +kernel) (by decide +kernel)
set_option maxRecDepth 20000 in
theorem gX1_matrix_X0_product : GoodIn wsX1_matrix (wsV RX1 61 RX0 yX0_product wsX0_product) := goodIn_app (goodIn_of _ (by decide +kernel)) ggX1_matrix_X0_product
theorem dX1_matrix_0 : decode cX1_matrix 0 = .ok (.aload_n 0, 1) := by decide +kernel
theorem dX1_matrix_1 : decode cX1_matrix 1 = .ok (.getfield 52, 3) := by decide +kernel
theorem dX1_matrix_4 : decode cX1_matrix 4 = .ok (.istore_n 3, 1) := by decide +kernel
theorem dX1_matrix_5 : decode cX1_matrix 5 = .ok (.iload_n 1, 1) := by decide +kernel
theorem dX1_matrix_6 : decode cX1_matrix 6 = .ok (.iload_n 3, 1) := by decide +kernel
theorem dX1_matrix_7 : decode cX1_matrix 7 = .ok (.if_icmp .ge 15, 3) := by decide +kernel
theorem dX1_matrix_10 : decode cX1_matrix 10 = .ok (.iload_n 2, 1) := by decide +kernel
theorem dX1_matrix_11 : decode cX1_matrix 11 = .ok (.iload_n 3, 1) := by decide +kernel
theorem dX1_matrix_12 : decode cX1_matrix 12 = .ok (.if_icmp .ge 10, 3) := by decide +kernel
theorem dX1_matrix_15 : decode cX1_matrix 15 = .ok (.aload_n 0, 1) := by decide +kernel
theorem dX1_matrix_16 : decode cX1_matrix 16 = .ok (.iload_n 1, 1) := by decide +kernel
theorem dX1_matrix_17 : decode cX1_matrix 17 = .ok (.iload_n 2, 1) := by decide +kernel
theorem dX1_matrix_18 : decode cX1_matrix 18 = .ok (.invokevirtual 61, 3) := by decide +kernel
theorem dX1_matrix_21 : decode cX1_matrix 21 = .ok (.ireturn, 1) := by decide +kernel
theorem dX1_matrix_22 : decode cX1_matrix 22 = .ok (.iload_n 2, 1) := by decide +kernel
theorem dX1_matrix_23 : decode cX1_matrix 23 = .ok (.iload_n 3, 1) := by decide +kernel
theorem dX1_matrix_24 : decode cX1_matrix 24 = .ok (.iload_n 1, 1) := by decide +kernel
theorem dX1_matrix_25 : decode cX1_matrix 25 = .ok (.iadd, 1) := by decide +kernel
theorem dX1_matrix_26 : decode cX1_matrix 26 = .ok (.if_icmp .ne 5, 3) := by decide +kernel
theorem dX1_matrix_29 : decode cX1_matrix 29 = .ok (.iconst 1, 1) := by decide +kernel
theorem dX1_matrix_30 : decode cX1_matrix 30 = .ok (.ireturn, 1) := by decide +kernel
theorem dX1_matrix_31 : decode cX1_matrix 31 = .ok (.iload_n 1, 1) := by decide +kernel
theorem dX1_matrix_32 : decode cX1_matrix 32 = .ok (.iload_n 3, 1) := by decide +kernel
theorem dX1_matrix_33 : decode cX1_matrix 33 = .ok (.iload_n 2, 1) := by decide +kernel
theorem dX1_matrix_34 : decode cX1_matrix 34 = .ok (.iadd, 1) := by decide +kernel
theorem dX1_matrix_35 : decode cX1_matrix 35 = .ok (.if_icmp .ne 7, 3) := by decide +kernel
theorem dX1_matrix_38 : decode cX1_matrix 38 = .ok (.iconst (-1), 1) := by decide +kernel
theorem dX1_matrix_39 : decode cX1_matrix 39 = .ok (.goto 4, 3) := by decide +kernel
theorem dX1_matrix_42 : decode cX1_matrix 42 = .ok (.iconst 0, 1) := by decide +kernel
theorem dX1_matrix_43 : decode cX1_matrix 43 = .ok (.ireturn, 1) := by decide +kernel
set_option maxRecDepth 20000 in
theorem ggX1_shareOfZ_X1_columnOfQ : GoodIn wsX1_shareOfZ wsX1_columnOfQ := goodIn_r _ [8, 1, 9, 10, 11, 12, 13, 14, 15, 16, 17] (by decide +kernel) (by decide +kernel)
set_option maxRecDepth 20000 in
theorem gX1_shareOfZ_X1_columnOfQ : GoodIn wsX1_shareOfZ (wsV RX1 45 RX1 yX1_columnOfQ wsX1_columnOfQ) := goodIn_app (goodIn_of _ (by decide +kernel)) ggX1_shareOfZ_X1_columnOfQ
theorem dX1_shareOfZ_0 : decode cX1_shareOfZ 0 = .ok (.iconst 0, 1) := by decide +kernel
theorem dX1_shareOfZ_1 : decode cX1_shareOfZ 1 = .ok (.istore_n 2, 1) := by decide +kernel
theorem dX1_shareOfZ_2 : decode cX1_shareOfZ 2 = .ok (.iload_n 2, 1) := by decide +kernel
theorem dX1_shareOfZ_3 : decode cX1_shareOfZ 3 = .ok (.aload_n 0, 1) := by decide +kernel
theorem dX1_shareOfZ_4 : decode cX1_shareOfZ 4 = .ok (.getfield 31, 3) := by decide +kernel
theorem dX1_shareOfZ_7 : decode cX1_shareOfZ 7 = .ok (.if_icmp .ge 36, 3) := by decide +kernel
theorem dX1_shareOfZ_10 : decode cX1_shareOfZ 10 = .ok (.aload_n 0, 1) := by decide +kernel
theorem dX1_shareOfZ_11 : decode cX1_shareOfZ 11 = .ok (.getfield 18, 3) := by decide +kernel
theorem dX1_shareOfZ_14 : decode cX1_shareOfZ 14 = .ok (.iload_n 2, 1) := by decide +kernel
theorem dX1_shareOfZ_15 : decode cX1_shareOfZ 15 = .ok (.iaload, 1) := by decide +kernel
theorem dX1_shareOfZ_16 : decode cX1_shareOfZ 16 = .ok (.aload_n 0, 1) := by decide +kernel
theorem dX1_shareOfZ_17 : decode cX1_shareOfZ 17 = .ok (.getfield 31, 3) := by decide +kernel
theorem dX1_shareOfZ_20 : decode cX1_shareOfZ 20 = .ok (.iload_n 1, 1) := by decide +kernel
theorem dX1_shareOfZ_21 : decode cX1_shareOfZ 21 = .ok (.iadd, 1) := by decide +kernel
theorem dX1_shareOfZ_22 : decode cX1_shareOfZ 22 = .ok (.if_icmp .ne 15, 3) := by decide +kernel
theorem dX1_shareOfZ_25 : decode cX1_shareOfZ 25 = .ok (.aload_n 0, 1) := by decide +kernel
theorem dX1_shareOfZ_26 : decode cX1_shareOfZ 26 = .ok (.getfield 15, 3) := by decide +kernel
theorem dX1_shareOfZ_29 : decode cX1_shareOfZ 29 = .ok (.iload_n 2, 1) := by decide +kernel
theorem dX1_shareOfZ_30 : decode cX1_shareOfZ 30 = .ok (.aaload, 1) := by decide +kernel
theorem dX1_shareOfZ_31 : decode cX1_shareOfZ 31 = .ok (.aload_n 0, 1) := by decide +kernel
theorem dX1_shareOfZ_32 : decode cX1_shareOfZ 32 = .ok (.invokevirtual 45, 3) := by decide +kernel
theorem dX1_shareOfZ_35 : decode cX1_shareOfZ 35 = .ok (.laload, 1) := by decide +kernel
theorem dX1_shareOfZ_36 : decode cX1_shareOfZ 36 = .ok (.lreturn, 1) := by decide +kernel
theorem dX1_shareOfZ_37 : decode cX1_shareOfZ 37 = .ok (.iinc 2 1, 3) := by decide +kernel
theorem dX1_shareOfZ_40 : decode cX1_shareOfZ 40 = .ok (.goto (-38), 3) := by decide +kernel
theorem dX1_shareOfZ_43 : decode cX1_shareOfZ 43 = .ok (.lconst 0, 1) := by decide +kernel
theorem dX1_shareOfZ_44 : decode cX1_shareOfZ 44 = .ok (.lreturn, 1) := by decide +kernel
theorem dX1_mayStep_0 : decode cX1_mayStep 0 = .ok (.aload_n 0, 1) := by decide +kernel
theorem dX1_mayStep_1 : decode cX1_mayStep 1 = .ok (.getfield 38, 3) := by decide +kernel
theorem dX1_mayStep_4 : decode cX1_mayStep 4 = .ok (.ifCond .ne 17, 3) := by decide +kernel
theorem dX1_mayStep_7 : decode cX1_mayStep 7 = .ok (.aload_n 0, 1) := by decide +kernel
theorem dX1_mayStep_8 : decode cX1_mayStep 8 = .ok (.getfield 35, 3) := by decide +kernel
theorem dX1_mayStep_11 : decode cX1_mayStep 11 = .ok (.sipush 200, 3) := by decide +kernel
theorem dX1_mayStep_14 : decode cX1_mayStep 14 = .ok (.if_icmp .ge 7, 3) := by decide +kernel
theorem dX1_mayStep_17 : decode cX1_mayStep 17 = .ok (.iconst 1, 1) := by decide +kernel
theorem dX1_mayStep_18 : decode cX1_mayStep 18 = .ok (.goto 4, 3) := by decide +kernel
theorem dX1_mayStep_21 : decode cX1_mayStep 21 = .ok (.iconst 0, 1) := by decide +kernel
theorem dX1_mayStep_22 : decode cX1_mayStep 22 = .ok (.ireturn, 1) := by decide +kernel
set_option maxRecDepth 20000 in
theorem ggX1_makeStep_X1_columnOfY : GoodIn wsX1_makeStep wsX1_columnOfY := goodIn_r _ [11, 12, 85, 86, 87, 88, 89, 90, 91, 92, 93] (by decide +kernel) (by decide +kernel)
set_option maxRecDepth 20000 in
theorem gX1_makeStep_X1_columnOfY : GoodIn wsX1_makeStep (wsV RX1 49 RX1 yX1_columnOfY wsX1_columnOfY) := goodIn_app (goodIn_of _ (by decide +kernel)) ggX1_makeStep_X1_columnOfY
set_option maxRecDepth 20000 in
theorem ggX1_makeStep_X1_complement : GoodIn wsX1_makeStep wsX1_complement := goodIn_r _ [16, 12, 85, 86, 87, 88, 89, 90, 91, 92, 93] (by decide +kernel) (by decide +kernel)
set_option maxRecDepth 20000 in
theorem gX1_makeStep_X1_complement : GoodIn wsX1_makeStep (wsV RX1 65 RX1 yX1_complement wsX1_complement) := goodIn_app (goodIn_of _ (by decide +kernel)) ggX1_makeStep_X1_complement
set_option maxRecDepth 20000 in
theorem ggX1_makeStep_X1_leastRow : GoodIn wsX1_makeStep wsX1_leastRow := goodIn_r _ [20, 12, 21, 22, 23, 10, 24, 1, 25, 26, 27, 28, 29, 30, 31, 32, 33, 34, 35, 36, 37, 38, 39, 40, 41, 42, 43, 44, 45, 46, 47, 48, 49, 50, 51, 52, 53, 54, 55, 85, 86, 87, 88, 89, 90, 91, 92, 93] (by decide +kernel) (by decide +kernel)
set_option maxRecDepth 20000 in
theorem gX1_makeStep_X1_leastRow : GoodIn wsX1_makeStep (wsV RX1 69 RX1 yX1_leastRow wsX1_leastRow) := goodIn_app (goodIn_of _ (by decide +kernel)) ggX1_makeStep_X1_leastRow
set_option maxRecDepth 20000 in
theorem ggX1_makeStep_X1_turn : GoodIn wsX1_makeStep wsX1_turn := goodIn_r _ [59, 25, 60, 12, 61, 62, 63, 10, 64, 30, 31, 32, 33, 65, 66, 43, 67, 68, 69, 70, 71, 72, 73, 74, 36, 75, 76, 77, 78, 79, 80, 81, 39, 40, 41, 42, 44, 45, 46, 47, 48, 49, 50, 51, 52, 82, 83, 84, 85, 86, 87, 88, 89, 90, 91, 92, 93] (by decide +kernel) (by decide +kernel)
set_option maxRecDepth 20000 in
theorem gX1_makeStep_X1_turn : GoodIn wsX1_makeStep (wsV RX1 72 RX1 yX1_turn wsX1_turn) := goodIn_app (goodIn_of _ (by decide +kernel)) ggX1_makeStep_X1_turn
theorem dX1_makeStep_0 : decode cX1_makeStep 0 = .ok (.aload_n 0, 1) := by decide +kernel
theorem dX1_makeStep_1 : decode cX1_makeStep 1 = .ok (.getfield 35, 3) := by decide +kernel
theorem dX1_makeStep_4 : decode cX1_makeStep 4 = .ok (.ifCond .ne 10, 3) := by decide +kernel
theorem dX1_makeStep_7 : decode cX1_makeStep 7 = .ok (.aload_n 0, 1) := by decide +kernel
theorem dX1_makeStep_8 : decode cX1_makeStep 8 = .ok (.invokevirtual 49, 3) := by decide +kernel
theorem dX1_makeStep_11 : decode cX1_makeStep 11 = .ok (.goto 18, 3) := by decide +kernel
theorem dX1_makeStep_14 : decode cX1_makeStep 14 = .ok (.aload_n 0, 1) := by decide +kernel
theorem dX1_makeStep_15 : decode cX1_makeStep 15 = .ok (.aload_n 0, 1) := by decide +kernel
theorem dX1_makeStep_16 : decode cX1_makeStep 16 = .ok (.getfield 25, 3) := by decide +kernel
theorem dX1_makeStep_19 : decode cX1_makeStep 19 = .ok (.aload_n 0, 1) := by decide +kernel
theorem dX1_makeStep_20 : decode cX1_makeStep 20 = .ok (.getfield 35, 3) := by decide +kernel
theorem dX1_makeStep_23 : decode cX1_makeStep 23 = .ok (.iconst 1, 1) := by decide +kernel
theorem dX1_makeStep_24 : decode cX1_makeStep 24 = .ok (.isub, 1) := by decide +kernel
theorem dX1_makeStep_25 : decode cX1_makeStep 25 = .ok (.iaload, 1) := by decide +kernel
theorem dX1_makeStep_26 : decode cX1_makeStep 26 = .ok (.invokevirtual 65, 3) := by decide +kernel
theorem dX1_makeStep_29 : decode cX1_makeStep 29 = .ok (.istore_n 1, 1) := by decide +kernel
theorem dX1_makeStep_30 : decode cX1_makeStep 30 = .ok (.aload_n 0, 1) := by decide +kernel
theorem dX1_makeStep_31 : decode cX1_makeStep 31 = .ok (.iload_n 1, 1) := by decide +kernel
theorem dX1_makeStep_32 : decode cX1_makeStep 32 = .ok (.invokevirtual 69, 3) := by decide +kernel
theorem dX1_makeStep_35 : decode cX1_makeStep 35 = .ok (.istore_n 2, 1) := by decide +kernel
theorem dX1_makeStep_36 : decode cX1_makeStep 36 = .ok (.iload_n 2, 1) := by decide +kernel
theorem dX1_makeStep_37 : decode cX1_makeStep 37 = .ok (.iconst (-1), 1) := by decide +kernel
theorem dX1_makeStep_38 : decode cX1_makeStep 38 = .ok (.if_icmp .ne 9, 3) := by decide +kernel
theorem dX1_makeStep_41 : decode cX1_makeStep 41 = .ok (.aload_n 0, 1) := by decide +kernel
theorem dX1_makeStep_42 : decode cX1_makeStep 42 = .ok (.iconst 2, 1) := by decide +kernel
theorem dX1_makeStep_43 : decode cX1_makeStep 43 = .ok (.putfield 38, 3) := by decide +kernel
theorem dX1_makeStep_46 : decode cX1_makeStep 46 = .ok (.return_, 1) := by decide +kernel
theorem dX1_makeStep_47 : decode cX1_makeStep 47 = .ok (.aload_n 0, 1) := by decide +kernel
theorem dX1_makeStep_48 : decode cX1_makeStep 48 = .ok (.getfield 22, 3) := by decide +kernel
theorem dX1_makeStep_51 : decode cX1_makeStep 51 = .ok (.aload_n 0, 1) := by decide +kernel
theorem dX1_makeStep_52 : decode cX1_makeStep 52 = .ok (.getfield 35, 3) := by decide +kernel
theorem dX1_makeStep_55 : decode cX1_makeStep 55 = .ok (.iload_n 1, 1) := by decide +kernel
theorem dX1_makeStep_56 : decode cX1_makeStep 56 = .ok (.iastore, 1) := by decide +kernel
theorem dX1_makeStep_57 : decode cX1_makeStep 57 = .ok (.aload_n 0, 1) := by decide +kernel
theorem dX1_makeStep_58 : decode cX1_makeStep 58 = .ok (.getfield 25, 3) := by decide +kernel
theorem dX1_makeStep_61 : decode cX1_makeStep 61 = .ok (.aload_n 0, 1) := by decide +kernel
theorem dX1_makeStep_62 : decode cX1_makeStep 62 = .ok (.getfield 35, 3) := by decide +kernel
theorem dX1_makeStep_65 : decode cX1_makeStep 65 = .ok (.aload_n 0, 1) := by decide +kernel
theorem dX1_makeStep_66 : decode cX1_makeStep 66 = .ok (.getfield 18, 3) := by decide +kernel
theorem dX1_makeStep_69 : decode cX1_makeStep 69 = .ok (.iload_n 2, 1) := by decide +kernel
theorem dX1_makeStep_70 : decode cX1_makeStep 70 = .ok (.iaload, 1) := by decide +kernel
theorem dX1_makeStep_71 : decode cX1_makeStep 71 = .ok (.iastore, 1) := by decide +kernel
theorem dX1_makeStep_72 : decode cX1_makeStep 72 = .ok (.aload_n 0, 1) := by decide +kernel
theorem dX1_makeStep_73 : decode cX1_makeStep 73 = .ok (.getfield 28, 3) := by decide +kernel
theorem dX1_makeStep_76 : decode cX1_makeStep 76 = .ok (.aload_n 0, 1) := by decide +kernel
theorem dX1_makeStep_77 : decode cX1_makeStep 77 = .ok (.getfield 35, 3) := by decide +kernel
theorem dX1_makeStep_80 : decode cX1_makeStep 80 = .ok (.iload_n 2, 1) := by decide +kernel
theorem dX1_makeStep_81 : decode cX1_makeStep 81 = .ok (.iastore, 1) := by decide +kernel
theorem dX1_makeStep_82 : decode cX1_makeStep 82 = .ok (.aload_n 0, 1) := by decide +kernel
theorem dX1_makeStep_83 : decode cX1_makeStep 83 = .ok (.dup, 1) := by decide +kernel
theorem dX1_makeStep_84 : decode cX1_makeStep 84 = .ok (.getfield 35, 3) := by decide +kernel
theorem dX1_makeStep_87 : decode cX1_makeStep 87 = .ok (.iconst 1, 1) := by decide +kernel
theorem dX1_makeStep_88 : decode cX1_makeStep 88 = .ok (.iadd, 1) := by decide +kernel
theorem dX1_makeStep_89 : decode cX1_makeStep 89 = .ok (.putfield 35, 3) := by decide +kernel
theorem dX1_makeStep_92 : decode cX1_makeStep 92 = .ok (.aload_n 0, 1) := by decide +kernel
theorem dX1_makeStep_93 : decode cX1_makeStep 93 = .ok (.getfield 18, 3) := by decide +kernel
theorem dX1_makeStep_96 : decode cX1_makeStep 96 = .ok (.iload_n 2, 1) := by decide +kernel
theorem dX1_makeStep_97 : decode cX1_makeStep 97 = .ok (.iaload, 1) := by decide +kernel
theorem dX1_makeStep_98 : decode cX1_makeStep 98 = .ok (.aload_n 0, 1) := by decide +kernel
theorem dX1_makeStep_99 : decode cX1_makeStep 99 = .ok (.invokevirtual 49, 3) := by decide +kernel
theorem dX1_makeStep_102 : decode cX1_makeStep 102 = .ok (.if_icmp .ne 8, 3) := by decide +kernel
theorem dX1_makeStep_105 : decode cX1_makeStep 105 = .ok (.aload_n 0, 1) := by decide +kernel
theorem dX1_makeStep_106 : decode cX1_makeStep 106 = .ok (.iconst 1, 1) := by decide +kernel
theorem dX1_makeStep_107 : decode cX1_makeStep 107 = .ok (.putfield 38, 3) := by decide +kernel
theorem dX1_makeStep_110 : decode cX1_makeStep 110 = .ok (.aload_n 0, 1) := by decide +kernel
theorem dX1_makeStep_111 : decode cX1_makeStep 111 = .ok (.iload_n 2, 1) := by decide +kernel
theorem dX1_makeStep_112 : decode cX1_makeStep 112 = .ok (.iload_n 1, 1) := by decide +kernel
theorem dX1_makeStep_113 : decode cX1_makeStep 113 = .ok (.invokevirtual 72, 3) := by decide +kernel
theorem dX1_makeStep_116 : decode cX1_makeStep 116 = .ok (.aload_n 0, 1) := by decide +kernel
theorem dX1_makeStep_117 : decode cX1_makeStep 117 = .ok (.getfield 18, 3) := by decide +kernel
theorem dX1_makeStep_120 : decode cX1_makeStep 120 = .ok (.iload_n 2, 1) := by decide +kernel
theorem dX1_makeStep_121 : decode cX1_makeStep 121 = .ok (.iload_n 1, 1) := by decide +kernel
theorem dX1_makeStep_122 : decode cX1_makeStep 122 = .ok (.iastore, 1) := by decide +kernel
theorem dX1_makeStep_123 : decode cX1_makeStep 123 = .ok (.return_, 1) := by decide +kernel
set_option maxRecDepth 20000 in
theorem ggX1_leastRow_X1_weight : GoodIn wsX1_leastRow wsX1_weight := goodIn_r _ [6, 7, 8, 39, 40, 41, 42, 43, 44, 45, 46, 47] (by decide +kernel) (by decide +kernel)
set_option maxRecDepth 20000 in
theorem gX1_leastRow_X1_weight : GoodIn wsX1_leastRow (wsV RX1 76 RX1 yX1_weight wsX1_weight) := goodIn_app (goodIn_of _ (by decide +kernel)) ggX1_leastRow_X1_weight
set_option maxRecDepth 20000 in
theorem ggX1_leastRow_X1_isLess : GoodIn wsX1_leastRow wsX1_isLess := goodIn_r _ [12, 8, 1, 2, 3, 4, 5, 6, 7, 13, 14, 15, 16, 17, 18, 19, 20, 21, 22, 23, 24, 25, 26, 27, 28, 29, 30, 31, 32, 33, 34, 35, 36, 37, 38, 39, 40, 41, 42, 43, 44, 45, 46, 47] (by decide +kernel) (by decide +kernel)
set_option maxRecDepth 20000 in
theorem gX1_leastRow_X1_isLess : GoodIn wsX1_leastRow (wsV RX1 80 RX1 yX1_isLess wsX1_isLess) := goodIn_app (goodIn_of _ (by decide +kernel)) ggX1_leastRow_X1_isLess
theorem dX1_leastRow_0 : decode cX1_leastRow 0 = .ok (.iconst (-1), 1) := by decide +kernel
theorem dX1_leastRow_1 : decode cX1_leastRow 1 = .ok (.istore_n 2, 1) := by decide +kernel
theorem dX1_leastRow_2 : decode cX1_leastRow 2 = .ok (.iconst 0, 1) := by decide +kernel
theorem dX1_leastRow_3 : decode cX1_leastRow 3 = .ok (.istore_n 3, 1) := by decide +kernel
theorem dX1_leastRow_4 : decode cX1_leastRow 4 = .ok (.iload_n 3, 1) := by decide +kernel
theorem dX1_leastRow_5 : decode cX1_leastRow 5 = .ok (.aload_n 0, 1) := by decide +kernel
theorem dX1_leastRow_6 : decode cX1_leastRow 6 = .ok (.getfield 31, 3) := by decide +kernel
theorem dX1_leastRow_9 : decode cX1_leastRow 9 = .ok (.if_icmp .ge 37, 3) := by decide +kernel
theorem dX1_leastRow_12 : decode cX1_leastRow 12 = .ok (.aload_n 0, 1) := by decide +kernel
theorem dX1_leastRow_13 : decode cX1_leastRow 13 = .ok (.iload_n 3, 1) := by decide +kernel
theorem dX1_leastRow_14 : decode cX1_leastRow 14 = .ok (.iload_n 1, 1) := by decide +kernel
theorem dX1_leastRow_15 : decode cX1_leastRow 15 = .ok (.invokevirtual 76, 3) := by decide +kernel
theorem dX1_leastRow_18 : decode cX1_leastRow 18 = .ok (.lconst 0, 1) := by decide +kernel
theorem dX1_leastRow_19 : decode cX1_leastRow 19 = .ok (.lcmp, 1) := by decide +kernel
theorem dX1_leastRow_20 : decode cX1_leastRow 20 = .ok (.ifCond .le 20, 3) := by decide +kernel
theorem dX1_leastRow_23 : decode cX1_leastRow 23 = .ok (.iload_n 2, 1) := by decide +kernel
theorem dX1_leastRow_24 : decode cX1_leastRow 24 = .ok (.iconst (-1), 1) := by decide +kernel
theorem dX1_leastRow_25 : decode cX1_leastRow 25 = .ok (.if_icmp .eq 13, 3) := by decide +kernel
theorem dX1_leastRow_28 : decode cX1_leastRow 28 = .ok (.aload_n 0, 1) := by decide +kernel
theorem dX1_leastRow_29 : decode cX1_leastRow 29 = .ok (.iload_n 3, 1) := by decide +kernel
theorem dX1_leastRow_30 : decode cX1_leastRow 30 = .ok (.iload_n 2, 1) := by decide +kernel
theorem dX1_leastRow_31 : decode cX1_leastRow 31 = .ok (.iload_n 1, 1) := by decide +kernel
theorem dX1_leastRow_32 : decode cX1_leastRow 32 = .ok (.invokevirtual 80, 3) := by decide +kernel
theorem dX1_leastRow_35 : decode cX1_leastRow 35 = .ok (.ifCond .eq 5, 3) := by decide +kernel
theorem dX1_leastRow_38 : decode cX1_leastRow 38 = .ok (.iload_n 3, 1) := by decide +kernel
theorem dX1_leastRow_39 : decode cX1_leastRow 39 = .ok (.istore_n 2, 1) := by decide +kernel
theorem dX1_leastRow_40 : decode cX1_leastRow 40 = .ok (.iinc 3 1, 3) := by decide +kernel
theorem dX1_leastRow_43 : decode cX1_leastRow 43 = .ok (.goto (-39), 3) := by decide +kernel
theorem dX1_leastRow_46 : decode cX1_leastRow 46 = .ok (.iload_n 2, 1) := by decide +kernel
theorem dX1_leastRow_47 : decode cX1_leastRow 47 = .ok (.ireturn, 1) := by decide +kernel
theorem dX1_weight_0 : decode cX1_weight 0 = .ok (.aload_n 0, 1) := by decide +kernel
theorem dX1_weight_1 : decode cX1_weight 1 = .ok (.getfield 35, 3) := by decide +kernel
theorem dX1_weight_4 : decode cX1_weight 4 = .ok (.ifCond .ne 7, 3) := by decide +kernel
theorem dX1_weight_7 : decode cX1_weight 7 = .ok (.lconst 1, 1) := by decide +kernel
theorem dX1_weight_8 : decode cX1_weight 8 = .ok (.goto 11, 3) := by decide +kernel
theorem dX1_weight_11 : decode cX1_weight 11 = .ok (.aload_n 0, 1) := by decide +kernel
theorem dX1_weight_12 : decode cX1_weight 12 = .ok (.getfield 15, 3) := by decide +kernel
theorem dX1_weight_15 : decode cX1_weight 15 = .ok (.iload_n 1, 1) := by decide +kernel
theorem dX1_weight_16 : decode cX1_weight 16 = .ok (.aaload, 1) := by decide +kernel
theorem dX1_weight_17 : decode cX1_weight 17 = .ok (.iload_n 2, 1) := by decide +kernel
theorem dX1_weight_18 : decode cX1_weight 18 = .ok (.laload, 1) := by decide +kernel
theorem dX1_weight_19 : decode cX1_weight 19 = .ok (.lreturn, 1) := by decide +kernel
set_option maxRecDepth 20000 in
theorem ggX1_isLess_X1_weight : GoodIn wsX1_isLess wsX1_weight := goodIn_r _ [7, 8, 1, 35, 36, 37, 38, 39, 40, 41, 42, 43] (by decide +kernel) (by decide +kernel)
set_option maxRecDepth 20000 in
theorem gX1_isLess_X1_weight : GoodIn wsX1_isLess (wsV RX1 76 RX1 yX1_weight wsX1_weight) := goodIn_app (goodIn_of _ (by decide +kernel)) ggX1_isLess_X1_weight
set_option maxRecDepth 20000 in
theorem ggX1_isLess_X1_columnOfQ : GoodIn wsX1_isLess wsX1_columnOfQ := goodIn_r _ [12, 2, 35, 36, 37, 38, 39, 40, 41, 42, 43] (by decide +kernel) (by decide +kernel)
set_option maxRecDepth 20000 in
theorem gX1_isLess_X1_columnOfQ : GoodIn wsX1_isLess (wsV RX1 45 RX1 yX1_columnOfQ wsX1_columnOfQ) := goodIn_app (goodIn_of _ (by decide +kernel)) ggX1_isLess_X1_columnOfQ
set_option maxRecDepth 20000 in
theorem ggX1_isLess_X2_crossSign : GoodIn wsX1_isLess wsX2_crossSign := goodIn_r _ [16, 17, 18, 15, 19, 20, 21, 22, 23, 24, 25, 26, 27, 28, 29, 30, 31, 32, 33, 34] (by decide +kernel) (by decide +kernel)
set_option maxRecDepth 20000 in
theorem gX1_isLess_X2_crossSign : GoodIn wsX1_isLess (va_wsS RX1 84 yX2_crossSign wsX2_crossSign) := goodIn_app (goodIn_of _ (by decide +kernel)) ggX1_isLess_X2_crossSign
theorem dX1_isLess_0 : decode cX1_isLess 0 = .ok (.aload_n 0, 1) := by decide +kernel
theorem dX1_isLess_1 : decode cX1_isLess 1 = .ok (.iload_n 1, 1) := by decide +kernel
theorem dX1_isLess_2 : decode cX1_isLess 2 = .ok (.iload_n 3, 1) := by decide +kernel
theorem dX1_isLess_3 : decode cX1_isLess 3 = .ok (.invokevirtual 76, 3) := by decide +kernel
theorem dX1_isLess_6 : decode cX1_isLess 6 = .ok (.lstore 4, 2) := by decide +kernel
theorem dX1_isLess_8 : decode cX1_isLess 8 = .ok (.aload_n 0, 1) := by decide +kernel
theorem dX1_isLess_9 : decode cX1_isLess 9 = .ok (.iload_n 2, 1) := by decide +kernel
theorem dX1_isLess_10 : decode cX1_isLess 10 = .ok (.iload_n 3, 1) := by decide +kernel
theorem dX1_isLess_11 : decode cX1_isLess 11 = .ok (.invokevirtual 76, 3) := by decide +kernel
theorem dX1_isLess_14 : decode cX1_isLess 14 = .ok (.lstore 6, 2) := by decide +kernel
theorem dX1_isLess_16 : decode cX1_isLess 16 = .ok (.aload_n 0, 1) := by decide +kernel
theorem dX1_isLess_17 : decode cX1_isLess 17 = .ok (.getfield 15, 3) := by decide +kernel
theorem dX1_isLess_20 : decode cX1_isLess 20 = .ok (.iload_n 1, 1) := by decide +kernel
theorem dX1_isLess_21 : decode cX1_isLess 21 = .ok (.aaload, 1) := by decide +kernel
theorem dX1_isLess_22 : decode cX1_isLess 22 = .ok (.aload_n 0, 1) := by decide +kernel
theorem dX1_isLess_23 : decode cX1_isLess 23 = .ok (.invokevirtual 45, 3) := by decide +kernel
theorem dX1_isLess_26 : decode cX1_isLess 26 = .ok (.laload, 1) := by decide +kernel
theorem dX1_isLess_27 : decode cX1_isLess 27 = .ok (.lload 6, 2) := by decide +kernel
theorem dX1_isLess_29 : decode cX1_isLess 29 = .ok (.aload_n 0, 1) := by decide +kernel
theorem dX1_isLess_30 : decode cX1_isLess 30 = .ok (.getfield 15, 3) := by decide +kernel
theorem dX1_isLess_33 : decode cX1_isLess 33 = .ok (.iload_n 2, 1) := by decide +kernel
theorem dX1_isLess_34 : decode cX1_isLess 34 = .ok (.aaload, 1) := by decide +kernel
theorem dX1_isLess_35 : decode cX1_isLess 35 = .ok (.aload_n 0, 1) := by decide +kernel
theorem dX1_isLess_36 : decode cX1_isLess 36 = .ok (.invokevirtual 45, 3) := by decide +kernel
theorem dX1_isLess_39 : decode cX1_isLess 39 = .ok (.laload, 1) := by decide +kernel
theorem dX1_isLess_40 : decode cX1_isLess 40 = .ok (.lload 4, 2) := by decide +kernel
theorem dX1_isLess_42 : decode cX1_isLess 42 = .ok (.invokestatic 84, 3) := by decide +kernel
theorem dX1_isLess_45 : decode cX1_isLess 45 = .ok (.istore 8, 2) := by decide +kernel
theorem dX1_isLess_47 : decode cX1_isLess 47 = .ok (.iconst 0, 1) := by decide +kernel
theorem dX1_isLess_48 : decode cX1_isLess 48 = .ok (.istore 9, 2) := by decide +kernel
theorem dX1_isLess_50 : decode cX1_isLess 50 = .ok (.iload 9, 2) := by decide +kernel
theorem dX1_isLess_52 : decode cX1_isLess 52 = .ok (.aload_n 0, 1) := by decide +kernel
theorem dX1_isLess_53 : decode cX1_isLess 53 = .ok (.getfield 31, 3) := by decide +kernel
theorem dX1_isLess_56 : decode cX1_isLess 56 = .ok (.if_icmp .ge 41, 3) := by decide +kernel
theorem dX1_isLess_59 : decode cX1_isLess 59 = .ok (.iload 8, 2) := by decide +kernel
theorem dX1_isLess_61 : decode cX1_isLess 61 = .ok (.ifCond .ne 36, 3) := by decide +kernel
theorem dX1_isLess_64 : decode cX1_isLess 64 = .ok (.aload_n 0, 1) := by decide +kernel
theorem dX1_isLess_65 : decode cX1_isLess 65 = .ok (.getfield 15, 3) := by decide +kernel
theorem dX1_isLess_68 : decode cX1_isLess 68 = .ok (.iload_n 1, 1) := by decide +kernel
theorem dX1_isLess_69 : decode cX1_isLess 69 = .ok (.aaload, 1) := by decide +kernel
theorem dX1_isLess_70 : decode cX1_isLess 70 = .ok (.iload 9, 2) := by decide +kernel
theorem dX1_isLess_72 : decode cX1_isLess 72 = .ok (.laload, 1) := by decide +kernel
theorem dX1_isLess_73 : decode cX1_isLess 73 = .ok (.lload 6, 2) := by decide +kernel
theorem dX1_isLess_75 : decode cX1_isLess 75 = .ok (.aload_n 0, 1) := by decide +kernel
theorem dX1_isLess_76 : decode cX1_isLess 76 = .ok (.getfield 15, 3) := by decide +kernel
theorem dX1_isLess_79 : decode cX1_isLess 79 = .ok (.iload_n 2, 1) := by decide +kernel
theorem dX1_isLess_80 : decode cX1_isLess 80 = .ok (.aaload, 1) := by decide +kernel
theorem dX1_isLess_81 : decode cX1_isLess 81 = .ok (.iload 9, 2) := by decide +kernel
theorem dX1_isLess_83 : decode cX1_isLess 83 = .ok (.laload, 1) := by decide +kernel
theorem dX1_isLess_84 : decode cX1_isLess 84 = .ok (.lload 4, 2) := by decide +kernel
theorem dX1_isLess_86 : decode cX1_isLess 86 = .ok (.invokestatic 84, 3) := by decide +kernel
theorem dX1_isLess_89 : decode cX1_isLess 89 = .ok (.istore 8, 2) := by decide +kernel
theorem dX1_isLess_91 : decode cX1_isLess 91 = .ok (.iinc 9 1, 3) := by decide +kernel
theorem dX1_isLess_94 : decode cX1_isLess 94 = .ok (.goto (-44), 3) := by decide +kernel
theorem dX1_isLess_97 : decode cX1_isLess 97 = .ok (.iload 8, 2) := by decide +kernel
theorem dX1_isLess_99 : decode cX1_isLess 99 = .ok (.ifCond .ge 7, 3) := by decide +kernel
theorem dX1_isLess_102 : decode cX1_isLess 102 = .ok (.iconst 1, 1) := by decide +kernel
theorem dX1_isLess_103 : decode cX1_isLess 103 = .ok (.goto 4, 3) := by decide +kernel
theorem dX1_isLess_106 : decode cX1_isLess 106 = .ok (.iconst 0, 1) := by decide +kernel
theorem dX1_isLess_107 : decode cX1_isLess 107 = .ok (.ireturn, 1) := by decide +kernel
set_option maxRecDepth 20000 in
theorem ggX1_turn_X1_negate : GoodIn wsX1_turn wsX1_negate := goodIn_r _ [8, 1, 9, 10, 11, 7, 12, 3, 48, 49, 50, 51, 52, 53, 54, 55, 56] (by decide +kernel) (by decide +kernel)
set_option maxRecDepth 20000 in
theorem gX1_turn_X1_negate : GoodIn wsX1_turn (wsV RX1 90 RX1 yX1_negate wsX1_negate) := goodIn_app (goodIn_of _ (by decide +kernel)) ggX1_turn_X1_negate
set_option maxRecDepth 20000 in
theorem ggX1_turn_J13_numberOfTrailingZeros_95d88 : GoodIn wsX1_turn wsJ13_numberOfTrailingZeros_95d88 := goodIn_r _ [16, 17, 18, 19, 20, 21] (by decide +kernel) (by decide +kernel)
set_option maxRecDepth 20000 in
theorem gX1_turn_J13_numberOfTrailingZeros_95d88 : GoodIn wsX1_turn (va_wsS RX1 94 yJ13_numberOfTrailingZeros_95d88 wsJ13_numberOfTrailingZeros_95d88) := goodIn_app (goodIn_of _ (by decide +kernel)) ggX1_turn_J13_numberOfTrailingZeros_95d88
set_option maxRecDepth 20000 in
theorem ggX1_turn_X2_inverseOfOdd : GoodIn wsX1_turn wsX2_inverseOfOdd := goodIn_r _ [25, 26] (by decide +kernel) (by decide +kernel)
set_option maxRecDepth 20000 in
theorem gX1_turn_X2_inverseOfOdd : GoodIn wsX1_turn (va_wsS RX1 100 yX2_inverseOfOdd wsX2_inverseOfOdd) := goodIn_app (goodIn_of _ (by decide +kernel)) ggX1_turn_X2_inverseOfOdd
set_option maxRecDepth 20000 in
theorem ggX1_turn_X1_takeOut : GoodIn wsX1_turn wsX1_takeOut := goodIn_r _ [30, 1, 9, 10, 11, 7, 12, 3, 31, 32, 24, 33, 34, 35, 15, 36, 37, 38, 39, 40, 41, 42, 43, 44, 45, 46, 47, 48, 49, 50, 51, 52, 53, 54, 55, 56] (by decide +kernel) (by decide +kernel)
set_option maxRecDepth 20000 in
theorem gX1_turn_X1_takeOut : GoodIn wsX1_turn (wsV RX1 104 RX1 yX1_takeOut wsX1_takeOut) := goodIn_app (goodIn_of _ (by decide +kernel)) ggX1_turn_X1_takeOut
theorem dX1_turn_0 : decode cX1_turn 0 = .ok (.aload_n 0, 1) := by decide +kernel
theorem dX1_turn_1 : decode cX1_turn 1 = .ok (.getfield 15, 3) := by decide +kernel
theorem dX1_turn_4 : decode cX1_turn 4 = .ok (.iload_n 1, 1) := by decide +kernel
theorem dX1_turn_5 : decode cX1_turn 5 = .ok (.aaload, 1) := by decide +kernel
theorem dX1_turn_6 : decode cX1_turn 6 = .ok (.iload_n 2, 1) := by decide +kernel
theorem dX1_turn_7 : decode cX1_turn 7 = .ok (.laload, 1) := by decide +kernel
theorem dX1_turn_8 : decode cX1_turn 8 = .ok (.lconst 0, 1) := by decide +kernel
theorem dX1_turn_9 : decode cX1_turn 9 = .ok (.lcmp, 1) := by decide +kernel
theorem dX1_turn_10 : decode cX1_turn 10 = .ok (.ifCond .ge 8, 3) := by decide +kernel
theorem dX1_turn_13 : decode cX1_turn 13 = .ok (.aload_n 0, 1) := by decide +kernel
theorem dX1_turn_14 : decode cX1_turn 14 = .ok (.iload_n 1, 1) := by decide +kernel
theorem dX1_turn_15 : decode cX1_turn 15 = .ok (.invokevirtual 90, 3) := by decide +kernel
theorem dX1_turn_18 : decode cX1_turn 18 = .ok (.aload_n 0, 1) := by decide +kernel
theorem dX1_turn_19 : decode cX1_turn 19 = .ok (.getfield 41, 3) := by decide +kernel
theorem dX1_turn_22 : decode cX1_turn 22 = .ok (.invokestatic 94, 3) := by decide +kernel
theorem dX1_turn_25 : decode cX1_turn 25 = .ok (.istore_n 3, 1) := by decide +kernel
theorem dX1_turn_26 : decode cX1_turn 26 = .ok (.aload_n 0, 1) := by decide +kernel
theorem dX1_turn_27 : decode cX1_turn 27 = .ok (.getfield 41, 3) := by decide +kernel
theorem dX1_turn_30 : decode cX1_turn 30 = .ok (.iload_n 3, 1) := by decide +kernel
theorem dX1_turn_31 : decode cX1_turn 31 = .ok (.lshr, 1) := by decide +kernel
theorem dX1_turn_32 : decode cX1_turn 32 = .ok (.invokestatic 100, 3) := by decide +kernel
theorem dX1_turn_35 : decode cX1_turn 35 = .ok (.lstore 4, 2) := by decide +kernel
theorem dX1_turn_37 : decode cX1_turn 37 = .ok (.iconst 0, 1) := by decide +kernel
theorem dX1_turn_38 : decode cX1_turn 38 = .ok (.istore 6, 2) := by decide +kernel
theorem dX1_turn_40 : decode cX1_turn 40 = .ok (.iload 6, 2) := by decide +kernel
theorem dX1_turn_42 : decode cX1_turn 42 = .ok (.aload_n 0, 1) := by decide +kernel
theorem dX1_turn_43 : decode cX1_turn 43 = .ok (.getfield 31, 3) := by decide +kernel
theorem dX1_turn_46 : decode cX1_turn 46 = .ok (.if_icmp .ge 26, 3) := by decide +kernel
theorem dX1_turn_49 : decode cX1_turn 49 = .ok (.iload 6, 2) := by decide +kernel
theorem dX1_turn_51 : decode cX1_turn 51 = .ok (.iload_n 1, 1) := by decide +kernel
theorem dX1_turn_52 : decode cX1_turn 52 = .ok (.if_icmp .eq 14, 3) := by decide +kernel
theorem dX1_turn_55 : decode cX1_turn 55 = .ok (.aload_n 0, 1) := by decide +kernel
theorem dX1_turn_56 : decode cX1_turn 56 = .ok (.iload 6, 2) := by decide +kernel
theorem dX1_turn_58 : decode cX1_turn 58 = .ok (.iload_n 1, 1) := by decide +kernel
theorem dX1_turn_59 : decode cX1_turn 59 = .ok (.iload_n 2, 1) := by decide +kernel
theorem dX1_turn_60 : decode cX1_turn 60 = .ok (.iload_n 3, 1) := by decide +kernel
theorem dX1_turn_61 : decode cX1_turn 61 = .ok (.lload 4, 2) := by decide +kernel
theorem dX1_turn_63 : decode cX1_turn 63 = .ok (.invokevirtual 104, 3) := by decide +kernel
theorem dX1_turn_66 : decode cX1_turn 66 = .ok (.iinc 6 1, 3) := by decide +kernel
theorem dX1_turn_69 : decode cX1_turn 69 = .ok (.goto (-29), 3) := by decide +kernel
theorem dX1_turn_72 : decode cX1_turn 72 = .ok (.aload_n 0, 1) := by decide +kernel
theorem dX1_turn_73 : decode cX1_turn 73 = .ok (.aload_n 0, 1) := by decide +kernel
theorem dX1_turn_74 : decode cX1_turn 74 = .ok (.getfield 15, 3) := by decide +kernel
theorem dX1_turn_77 : decode cX1_turn 77 = .ok (.iload_n 1, 1) := by decide +kernel
theorem dX1_turn_78 : decode cX1_turn 78 = .ok (.aaload, 1) := by decide +kernel
theorem dX1_turn_79 : decode cX1_turn 79 = .ok (.iload_n 2, 1) := by decide +kernel
theorem dX1_turn_80 : decode cX1_turn 80 = .ok (.laload, 1) := by decide +kernel
theorem dX1_turn_81 : decode cX1_turn 81 = .ok (.putfield 41, 3) := by decide +kernel
theorem dX1_turn_84 : decode cX1_turn 84 = .ok (.return_, 1) := by decide +kernel
set_option maxRecDepth 20000 in
theorem ggX1_negate_X1_columnOfQ : GoodIn wsX1_negate wsX1_columnOfQ := goodIn_r _ [6, 7, 8, 9, 10, 11, 12, 13, 14, 15, 16] (by decide +kernel) (by decide +kernel)
set_option maxRecDepth 20000 in
theorem gX1_negate_X1_columnOfQ : GoodIn wsX1_negate (wsV RX1 45 RX1 yX1_columnOfQ wsX1_columnOfQ) := goodIn_app (goodIn_of _ (by decide +kernel)) ggX1_negate_X1_columnOfQ
theorem dX1_negate_0 : decode cX1_negate 0 = .ok (.iconst 0, 1) := by decide +kernel
theorem dX1_negate_1 : decode cX1_negate 1 = .ok (.istore_n 2, 1) := by decide +kernel
theorem dX1_negate_2 : decode cX1_negate 2 = .ok (.iload_n 2, 1) := by decide +kernel
theorem dX1_negate_3 : decode cX1_negate 3 = .ok (.aload_n 0, 1) := by decide +kernel
theorem dX1_negate_4 : decode cX1_negate 4 = .ok (.invokevirtual 45, 3) := by decide +kernel
theorem dX1_negate_7 : decode cX1_negate 7 = .ok (.if_icmp .gt 26, 3) := by decide +kernel
theorem dX1_negate_10 : decode cX1_negate 10 = .ok (.aload_n 0, 1) := by decide +kernel
theorem dX1_negate_11 : decode cX1_negate 11 = .ok (.getfield 15, 3) := by decide +kernel
theorem dX1_negate_14 : decode cX1_negate 14 = .ok (.iload_n 1, 1) := by decide +kernel
theorem dX1_negate_15 : decode cX1_negate 15 = .ok (.aaload, 1) := by decide +kernel
theorem dX1_negate_16 : decode cX1_negate 16 = .ok (.iload_n 2, 1) := by decide +kernel
theorem dX1_negate_17 : decode cX1_negate 17 = .ok (.aload_n 0, 1) := by decide +kernel
theorem dX1_negate_18 : decode cX1_negate 18 = .ok (.getfield 15, 3) := by decide +kernel
theorem dX1_negate_21 : decode cX1_negate 21 = .ok (.iload_n 1, 1) := by decide +kernel
theorem dX1_negate_22 : decode cX1_negate 22 = .ok (.aaload, 1) := by decide +kernel
theorem dX1_negate_23 : decode cX1_negate 23 = .ok (.iload_n 2, 1) := by decide +kernel
theorem dX1_negate_24 : decode cX1_negate 24 = .ok (.laload, 1) := by decide +kernel
theorem dX1_negate_25 : decode cX1_negate 25 = .ok (.lneg, 1) := by decide +kernel
theorem dX1_negate_26 : decode cX1_negate 26 = .ok (.lastore, 1) := by decide +kernel
theorem dX1_negate_27 : decode cX1_negate 27 = .ok (.iinc 2 1, 3) := by decide +kernel
theorem dX1_negate_30 : decode cX1_negate 30 = .ok (.goto (-28), 3) := by decide +kernel
theorem dX1_negate_33 : decode cX1_negate 33 = .ok (.return_, 1) := by decide +kernel
set_option maxRecDepth 20000 in
theorem ggX1_takeOut_X1_columnOfQ : GoodIn wsX1_takeOut wsX1_columnOfQ := goodIn_r _ [6, 7, 27, 28, 29, 30, 31, 32, 33, 34, 35] (by decide +kernel) (by decide +kernel)
set_option maxRecDepth 20000 in
theorem gX1_takeOut_X1_columnOfQ : GoodIn wsX1_takeOut (wsV RX1 45 RX1 yX1_columnOfQ wsX1_columnOfQ) := goodIn_app (goodIn_of _ (by decide +kernel)) ggX1_takeOut_X1_columnOfQ
set_option maxRecDepth 20000 in
theorem ggX1_takeOut_X2_crossHigh : GoodIn wsX1_takeOut wsX2_crossHigh := goodIn_r _ [11, 12, 13, 14, 15, 16, 17, 18, 19, 20, 21, 10, 22, 23] (by decide +kernel) (by decide +kernel)
set_option maxRecDepth 20000 in
theorem gX1_takeOut_X2_crossHigh : GoodIn wsX1_takeOut (va_wsS RX1 108 yX2_crossHigh wsX2_crossHigh) := goodIn_app (goodIn_of _ (by decide +kernel)) ggX1_takeOut_X2_crossHigh
set_option maxRecDepth 20000 in
theorem ggX1_takeOut_X2_shiftedLow : GoodIn wsX1_takeOut wsX2_shiftedLow := goodIn_r _ [26] (by decide +kernel) (by decide +kernel)
set_option maxRecDepth 20000 in
theorem gX1_takeOut_X2_shiftedLow : GoodIn wsX1_takeOut (va_wsS RX1 112 yX2_shiftedLow wsX2_shiftedLow) := goodIn_app (goodIn_of _ (by decide +kernel)) ggX1_takeOut_X2_shiftedLow
theorem dX1_takeOut_0 : decode cX1_takeOut 0 = .ok (.aload_n 0, 1) := by decide +kernel
theorem dX1_takeOut_1 : decode cX1_takeOut 1 = .ok (.getfield 15, 3) := by decide +kernel
theorem dX1_takeOut_4 : decode cX1_takeOut 4 = .ok (.iload_n 1, 1) := by decide +kernel
theorem dX1_takeOut_5 : decode cX1_takeOut 5 = .ok (.aaload, 1) := by decide +kernel
theorem dX1_takeOut_6 : decode cX1_takeOut 6 = .ok (.astore 7, 2) := by decide +kernel
theorem dX1_takeOut_8 : decode cX1_takeOut 8 = .ok (.aload_n 0, 1) := by decide +kernel
theorem dX1_takeOut_9 : decode cX1_takeOut 9 = .ok (.getfield 15, 3) := by decide +kernel
theorem dX1_takeOut_12 : decode cX1_takeOut 12 = .ok (.iload_n 2, 1) := by decide +kernel
theorem dX1_takeOut_13 : decode cX1_takeOut 13 = .ok (.aaload, 1) := by decide +kernel
theorem dX1_takeOut_14 : decode cX1_takeOut 14 = .ok (.astore 8, 2) := by decide +kernel
theorem dX1_takeOut_16 : decode cX1_takeOut 16 = .ok (.aload 8, 2) := by decide +kernel
theorem dX1_takeOut_18 : decode cX1_takeOut 18 = .ok (.iload_n 3, 1) := by decide +kernel
theorem dX1_takeOut_19 : decode cX1_takeOut 19 = .ok (.laload, 1) := by decide +kernel
theorem dX1_takeOut_20 : decode cX1_takeOut 20 = .ok (.lstore 9, 2) := by decide +kernel
theorem dX1_takeOut_22 : decode cX1_takeOut 22 = .ok (.aload 7, 2) := by decide +kernel
theorem dX1_takeOut_24 : decode cX1_takeOut 24 = .ok (.iload_n 3, 1) := by decide +kernel
theorem dX1_takeOut_25 : decode cX1_takeOut 25 = .ok (.laload, 1) := by decide +kernel
theorem dX1_takeOut_26 : decode cX1_takeOut 26 = .ok (.lstore 11, 2) := by decide +kernel
theorem dX1_takeOut_28 : decode cX1_takeOut 28 = .ok (.iconst 0, 1) := by decide +kernel
theorem dX1_takeOut_29 : decode cX1_takeOut 29 = .ok (.istore 13, 2) := by decide +kernel
theorem dX1_takeOut_31 : decode cX1_takeOut 31 = .ok (.iload 13, 2) := by decide +kernel
theorem dX1_takeOut_33 : decode cX1_takeOut 33 = .ok (.aload_n 0, 1) := by decide +kernel
theorem dX1_takeOut_34 : decode cX1_takeOut 34 = .ok (.invokevirtual 45, 3) := by decide +kernel
theorem dX1_takeOut_37 : decode cX1_takeOut 37 = .ok (.if_icmp .gt 64, 3) := by decide +kernel
theorem dX1_takeOut_40 : decode cX1_takeOut 40 = .ok (.lload 9, 2) := by decide +kernel
theorem dX1_takeOut_42 : decode cX1_takeOut 42 = .ok (.aload 7, 2) := by decide +kernel
theorem dX1_takeOut_44 : decode cX1_takeOut 44 = .ok (.iload 13, 2) := by decide +kernel
theorem dX1_takeOut_46 : decode cX1_takeOut 46 = .ok (.laload, 1) := by decide +kernel
theorem dX1_takeOut_47 : decode cX1_takeOut 47 = .ok (.lload 11, 2) := by decide +kernel
theorem dX1_takeOut_49 : decode cX1_takeOut 49 = .ok (.aload 8, 2) := by decide +kernel
theorem dX1_takeOut_51 : decode cX1_takeOut 51 = .ok (.iload 13, 2) := by decide +kernel
theorem dX1_takeOut_53 : decode cX1_takeOut 53 = .ok (.laload, 1) := by decide +kernel
theorem dX1_takeOut_54 : decode cX1_takeOut 54 = .ok (.invokestatic 108, 3) := by decide +kernel
theorem dX1_takeOut_57 : decode cX1_takeOut 57 = .ok (.lstore 14, 2) := by decide +kernel
theorem dX1_takeOut_59 : decode cX1_takeOut 59 = .ok (.lload 9, 2) := by decide +kernel
theorem dX1_takeOut_61 : decode cX1_takeOut 61 = .ok (.aload 7, 2) := by decide +kernel
theorem dX1_takeOut_63 : decode cX1_takeOut 63 = .ok (.iload 13, 2) := by decide +kernel
theorem dX1_takeOut_65 : decode cX1_takeOut 65 = .ok (.laload, 1) := by decide +kernel
theorem dX1_takeOut_66 : decode cX1_takeOut 66 = .ok (.lmul, 1) := by decide +kernel
theorem dX1_takeOut_67 : decode cX1_takeOut 67 = .ok (.lload 11, 2) := by decide +kernel
theorem dX1_takeOut_69 : decode cX1_takeOut 69 = .ok (.aload 8, 2) := by decide +kernel
theorem dX1_takeOut_71 : decode cX1_takeOut 71 = .ok (.iload 13, 2) := by decide +kernel
theorem dX1_takeOut_73 : decode cX1_takeOut 73 = .ok (.laload, 1) := by decide +kernel
theorem dX1_takeOut_74 : decode cX1_takeOut 74 = .ok (.lmul, 1) := by decide +kernel
theorem dX1_takeOut_75 : decode cX1_takeOut 75 = .ok (.lsub, 1) := by decide +kernel
theorem dX1_takeOut_76 : decode cX1_takeOut 76 = .ok (.lstore 16, 2) := by decide +kernel
theorem dX1_takeOut_78 : decode cX1_takeOut 78 = .ok (.aload 7, 2) := by decide +kernel
theorem dX1_takeOut_80 : decode cX1_takeOut 80 = .ok (.iload 13, 2) := by decide +kernel
theorem dX1_takeOut_82 : decode cX1_takeOut 82 = .ok (.lload 14, 2) := by decide +kernel
theorem dX1_takeOut_84 : decode cX1_takeOut 84 = .ok (.lload 16, 2) := by decide +kernel
theorem dX1_takeOut_86 : decode cX1_takeOut 86 = .ok (.iload 4, 2) := by decide +kernel
theorem dX1_takeOut_88 : decode cX1_takeOut 88 = .ok (.invokestatic 112, 3) := by decide +kernel
theorem dX1_takeOut_91 : decode cX1_takeOut 91 = .ok (.lload 5, 2) := by decide +kernel
theorem dX1_takeOut_93 : decode cX1_takeOut 93 = .ok (.lmul, 1) := by decide +kernel
theorem dX1_takeOut_94 : decode cX1_takeOut 94 = .ok (.lastore, 1) := by decide +kernel
theorem dX1_takeOut_95 : decode cX1_takeOut 95 = .ok (.iinc 13 1, 3) := by decide +kernel
theorem dX1_takeOut_98 : decode cX1_takeOut 98 = .ok (.goto (-67), 3) := by decide +kernel
theorem dX1_takeOut_101 : decode cX1_takeOut 101 = .ok (.return_, 1) := by decide +kernel
set_option maxRecDepth 20000 in
theorem ggX2_part_X2_commonDivisor : GoodIn wsX2_part wsX2_commonDivisor := goodIn_r _ [8] (by decide +kernel) (by decide +kernel)
set_option maxRecDepth 20000 in
theorem gX2_part_X2_commonDivisor : GoodIn wsX2_part (va_wsS RX2 13 yX2_commonDivisor wsX2_commonDivisor) := goodIn_app (goodIn_of _ (by decide +kernel)) ggX2_part_X2_commonDivisor
theorem dX2_part_0 : decode cX2_part 0 = .ok (.iload 4, 2) := by decide +kernel
theorem dX2_part_2 : decode cX2_part 2 = .ok (.ifCond .ne 7, 3) := by decide +kernel
theorem dX2_part_5 : decode cX2_part 5 = .ok (.lload_n 0, 1) := by decide +kernel
theorem dX2_part_6 : decode cX2_part 6 = .ok (.goto 4, 3) := by decide +kernel
theorem dX2_part_9 : decode cX2_part 9 = .ok (.lload_n 2, 1) := by decide +kernel
theorem dX2_part_10 : decode cX2_part 10 = .ok (.lstore 5, 2) := by decide +kernel
theorem dX2_part_12 : decode cX2_part 12 = .ok (.lload_n 0, 1) := by decide +kernel
theorem dX2_part_13 : decode cX2_part 13 = .ok (.invokestatic 7, 3) := by decide +kernel
theorem dX2_part_16 : decode cX2_part 16 = .ok (.lload_n 2, 1) := by decide +kernel
theorem dX2_part_17 : decode cX2_part 17 = .ok (.invokestatic 13, 3) := by decide +kernel
theorem dX2_part_20 : decode cX2_part 20 = .ok (.lstore 7, 2) := by decide +kernel
theorem dX2_part_22 : decode cX2_part 22 = .ok (.lload 7, 2) := by decide +kernel
theorem dX2_part_24 : decode cX2_part 24 = .ok (.lconst 1, 1) := by decide +kernel
theorem dX2_part_25 : decode cX2_part 25 = .ok (.lcmp, 1) := by decide +kernel
theorem dX2_part_26 : decode cX2_part 26 = .ok (.ifCond .le 11, 3) := by decide +kernel
theorem dX2_part_29 : decode cX2_part 29 = .ok (.lload 5, 2) := by decide +kernel
theorem dX2_part_31 : decode cX2_part 31 = .ok (.lload 7, 2) := by decide +kernel
theorem dX2_part_33 : decode cX2_part 33 = .ok (.ldiv, 1) := by decide +kernel
theorem dX2_part_34 : decode cX2_part 34 = .ok (.goto 5, 3) := by decide +kernel
theorem dX2_part_37 : decode cX2_part 37 = .ok (.lload 5, 2) := by decide +kernel
theorem dX2_part_39 : decode cX2_part 39 = .ok (.lreturn, 1) := by decide +kernel
theorem dX2_commonDivisor_0 : decode cX2_commonDivisor 0 = .ok (.iconst 0, 1) := by decide +kernel
theorem dX2_commonDivisor_1 : decode cX2_commonDivisor 1 = .ok (.istore 4, 2) := by decide +kernel
theorem dX2_commonDivisor_3 : decode cX2_commonDivisor 3 = .ok (.iload 4, 2) := by decide +kernel
theorem dX2_commonDivisor_5 : decode cX2_commonDivisor 5 = .ok (.bipush 100, 2) := by decide +kernel
theorem dX2_commonDivisor_7 : decode cX2_commonDivisor 7 = .ok (.if_icmp .ge 25, 3) := by decide +kernel
theorem dX2_commonDivisor_10 : decode cX2_commonDivisor 10 = .ok (.lload_n 2, 1) := by decide +kernel
theorem dX2_commonDivisor_11 : decode cX2_commonDivisor 11 = .ok (.lconst 0, 1) := by decide +kernel
theorem dX2_commonDivisor_12 : decode cX2_commonDivisor 12 = .ok (.lcmp, 1) := by decide +kernel
theorem dX2_commonDivisor_13 : decode cX2_commonDivisor 13 = .ok (.ifCond .eq 19, 3) := by decide +kernel
theorem dX2_commonDivisor_16 : decode cX2_commonDivisor 16 = .ok (.lload_n 0, 1) := by decide +kernel
theorem dX2_commonDivisor_17 : decode cX2_commonDivisor 17 = .ok (.lload_n 2, 1) := by decide +kernel
theorem dX2_commonDivisor_18 : decode cX2_commonDivisor 18 = .ok (.lrem, 1) := by decide +kernel
theorem dX2_commonDivisor_19 : decode cX2_commonDivisor 19 = .ok (.lstore 5, 2) := by decide +kernel
theorem dX2_commonDivisor_21 : decode cX2_commonDivisor 21 = .ok (.lload_n 2, 1) := by decide +kernel
theorem dX2_commonDivisor_22 : decode cX2_commonDivisor 22 = .ok (.lstore_n 0, 1) := by decide +kernel
theorem dX2_commonDivisor_23 : decode cX2_commonDivisor 23 = .ok (.lload 5, 2) := by decide +kernel
theorem dX2_commonDivisor_25 : decode cX2_commonDivisor 25 = .ok (.lstore_n 2, 1) := by decide +kernel
theorem dX2_commonDivisor_26 : decode cX2_commonDivisor 26 = .ok (.iinc 4 1, 3) := by decide +kernel
theorem dX2_commonDivisor_29 : decode cX2_commonDivisor 29 = .ok (.goto (-26), 3) := by decide +kernel
theorem dX2_commonDivisor_32 : decode cX2_commonDivisor 32 = .ok (.lload_n 0, 1) := by decide +kernel
theorem dX2_commonDivisor_33 : decode cX2_commonDivisor 33 = .ok (.lreturn, 1) := by decide +kernel
set_option maxRecDepth 20000 in
theorem ggX2_crossSign_X2_crossHigh : GoodIn wsX2_crossSign wsX2_crossHigh := goodIn_r _ [4, 5, 6, 7, 8, 9, 10, 11, 12, 13, 14, 3, 15, 16] (by decide +kernel) (by decide +kernel)
set_option maxRecDepth 20000 in
theorem gX2_crossSign_X2_crossHigh : GoodIn wsX2_crossSign (va_wsS RX2 19 yX2_crossHigh wsX2_crossHigh) := goodIn_app (goodIn_of _ (by decide +kernel)) ggX2_crossSign_X2_crossHigh
set_option maxRecDepth 20000 in
theorem ggX2_crossSign_J13_signum_95d88 : GoodIn wsX2_crossSign wsJ13_signum_95d88 := goodIn_r _ [19] (by decide +kernel) (by decide +kernel)
set_option maxRecDepth 20000 in
theorem gX2_crossSign_J13_signum_95d88 : GoodIn wsX2_crossSign (va_wsS RX2 23 yJ13_signum_95d88 wsJ13_signum_95d88) := goodIn_app (goodIn_of _ (by decide +kernel)) ggX2_crossSign_J13_signum_95d88
theorem dX2_crossSign_0 : decode cX2_crossSign 0 = .ok (.lload_n 0, 1) := by decide +kernel
theorem dX2_crossSign_1 : decode cX2_crossSign 1 = .ok (.lload_n 2, 1) := by decide +kernel
theorem dX2_crossSign_2 : decode cX2_crossSign 2 = .ok (.lload 4, 2) := by decide +kernel
theorem dX2_crossSign_4 : decode cX2_crossSign 4 = .ok (.lload 6, 2) := by decide +kernel
theorem dX2_crossSign_6 : decode cX2_crossSign 6 = .ok (.invokestatic 19, 3) := by decide +kernel
theorem dX2_crossSign_9 : decode cX2_crossSign 9 = .ok (.lstore 8, 2) := by decide +kernel
theorem dX2_crossSign_11 : decode cX2_crossSign 11 = .ok (.lload 8, 2) := by decide +kernel
theorem dX2_crossSign_13 : decode cX2_crossSign 13 = .ok (.lconst 0, 1) := by decide +kernel
theorem dX2_crossSign_14 : decode cX2_crossSign 14 = .ok (.lcmp, 1) := by decide +kernel
theorem dX2_crossSign_15 : decode cX2_crossSign 15 = .ok (.ifCond .eq 9, 3) := by decide +kernel
theorem dX2_crossSign_18 : decode cX2_crossSign 18 = .ok (.lload 8, 2) := by decide +kernel
theorem dX2_crossSign_20 : decode cX2_crossSign 20 = .ok (.invokestatic 23, 3) := by decide +kernel
theorem dX2_crossSign_23 : decode cX2_crossSign 23 = .ok (.ireturn, 1) := by decide +kernel
theorem dX2_crossSign_24 : decode cX2_crossSign 24 = .ok (.lload_n 0, 1) := by decide +kernel
theorem dX2_crossSign_25 : decode cX2_crossSign 25 = .ok (.lload_n 2, 1) := by decide +kernel
theorem dX2_crossSign_26 : decode cX2_crossSign 26 = .ok (.lmul, 1) := by decide +kernel
theorem dX2_crossSign_27 : decode cX2_crossSign 27 = .ok (.lload 4, 2) := by decide +kernel
theorem dX2_crossSign_29 : decode cX2_crossSign 29 = .ok (.lload 6, 2) := by decide +kernel
theorem dX2_crossSign_31 : decode cX2_crossSign 31 = .ok (.lmul, 1) := by decide +kernel
theorem dX2_crossSign_32 : decode cX2_crossSign 32 = .ok (.lcmp, 1) := by decide +kernel
theorem dX2_crossSign_33 : decode cX2_crossSign 33 = .ok (.ifCond .ne 7, 3) := by decide +kernel
theorem dX2_crossSign_36 : decode cX2_crossSign 36 = .ok (.iconst 0, 1) := by decide +kernel
theorem dX2_crossSign_37 : decode cX2_crossSign 37 = .ok (.goto 4, 3) := by decide +kernel
theorem dX2_crossSign_40 : decode cX2_crossSign 40 = .ok (.iconst 1, 1) := by decide +kernel
theorem dX2_crossSign_41 : decode cX2_crossSign 41 = .ok (.ireturn, 1) := by decide +kernel
set_option maxRecDepth 20000 in
theorem ggX2_crossHigh_J13_compareUnsigned_74951 : GoodIn wsX2_crossHigh wsJ13_compareUnsigned_74951 := goodIn_r _ [4, 5, 6, 7, 3, 8] (by decide +kernel) (by decide +kernel)
set_option maxRecDepth 20000 in
theorem gX2_crossHigh_J13_compareUnsigned_74951 : GoodIn wsX2_crossHigh (va_wsS RX2 29 yJ13_compareUnsigned_74951 wsJ13_compareUnsigned_74951) := goodIn_app (goodIn_of _ (by decide +kernel)) ggX2_crossHigh_J13_compareUnsigned_74951
set_option maxRecDepth 20000 in
theorem ggX2_crossHigh_X2_highOfProduct : GoodIn wsX2_crossHigh wsX2_highOfProduct := goodIn_r _ [12, 13] (by decide +kernel) (by decide +kernel)
set_option maxRecDepth 20000 in
theorem gX2_crossHigh_X2_highOfProduct : GoodIn wsX2_crossHigh (va_wsS RX2 33 yX2_highOfProduct wsX2_highOfProduct) := goodIn_app (goodIn_of _ (by decide +kernel)) ggX2_crossHigh_X2_highOfProduct
theorem dX2_crossHigh_0 : decode cX2_crossHigh 0 = .ok (.lload_n 0, 1) := by decide +kernel
theorem dX2_crossHigh_1 : decode cX2_crossHigh 1 = .ok (.lload_n 2, 1) := by decide +kernel
theorem dX2_crossHigh_2 : decode cX2_crossHigh 2 = .ok (.lmul, 1) := by decide +kernel
theorem dX2_crossHigh_3 : decode cX2_crossHigh 3 = .ok (.lload 4, 2) := by decide +kernel
theorem dX2_crossHigh_5 : decode cX2_crossHigh 5 = .ok (.lload 6, 2) := by decide +kernel
theorem dX2_crossHigh_7 : decode cX2_crossHigh 7 = .ok (.lmul, 1) := by decide +kernel
theorem dX2_crossHigh_8 : decode cX2_crossHigh 8 = .ok (.invokestatic 29, 3) := by decide +kernel
theorem dX2_crossHigh_11 : decode cX2_crossHigh 11 = .ok (.ifCond .ge 7, 3) := by decide +kernel
theorem dX2_crossHigh_14 : decode cX2_crossHigh 14 = .ok (.lconst 1, 1) := by decide +kernel
theorem dX2_crossHigh_15 : decode cX2_crossHigh 15 = .ok (.goto 4, 3) := by decide +kernel
theorem dX2_crossHigh_18 : decode cX2_crossHigh 18 = .ok (.lconst 0, 1) := by decide +kernel
theorem dX2_crossHigh_19 : decode cX2_crossHigh 19 = .ok (.lstore 8, 2) := by decide +kernel
theorem dX2_crossHigh_21 : decode cX2_crossHigh 21 = .ok (.lload_n 0, 1) := by decide +kernel
theorem dX2_crossHigh_22 : decode cX2_crossHigh 22 = .ok (.lload_n 2, 1) := by decide +kernel
theorem dX2_crossHigh_23 : decode cX2_crossHigh 23 = .ok (.invokestatic 33, 3) := by decide +kernel
theorem dX2_crossHigh_26 : decode cX2_crossHigh 26 = .ok (.lload 4, 2) := by decide +kernel
theorem dX2_crossHigh_28 : decode cX2_crossHigh 28 = .ok (.lload 6, 2) := by decide +kernel
theorem dX2_crossHigh_30 : decode cX2_crossHigh 30 = .ok (.invokestatic 33, 3) := by decide +kernel
theorem dX2_crossHigh_33 : decode cX2_crossHigh 33 = .ok (.lsub, 1) := by decide +kernel
theorem dX2_crossHigh_34 : decode cX2_crossHigh 34 = .ok (.lload 8, 2) := by decide +kernel
theorem dX2_crossHigh_36 : decode cX2_crossHigh 36 = .ok (.lsub, 1) := by decide +kernel
theorem dX2_crossHigh_37 : decode cX2_crossHigh 37 = .ok (.lreturn, 1) := by decide +kernel
theorem dX2_highOfProduct_0 : decode cX2_highOfProduct 0 = .ok (.lload_n 0, 1) := by decide +kernel
theorem dX2_highOfProduct_1 : decode cX2_highOfProduct 1 = .ok (.ldc2_w 36, 3) := by decide +kernel
theorem dX2_highOfProduct_4 : decode cX2_highOfProduct 4 = .ok (.land, 1) := by decide +kernel
theorem dX2_highOfProduct_5 : decode cX2_highOfProduct 5 = .ok (.lstore 4, 2) := by decide +kernel
theorem dX2_highOfProduct_7 : decode cX2_highOfProduct 7 = .ok (.lload_n 0, 1) := by decide +kernel
theorem dX2_highOfProduct_8 : decode cX2_highOfProduct 8 = .ok (.bipush 32, 2) := by decide +kernel
theorem dX2_highOfProduct_10 : decode cX2_highOfProduct 10 = .ok (.lshr, 1) := by decide +kernel
theorem dX2_highOfProduct_11 : decode cX2_highOfProduct 11 = .ok (.lstore 6, 2) := by decide +kernel
theorem dX2_highOfProduct_13 : decode cX2_highOfProduct 13 = .ok (.lload_n 2, 1) := by decide +kernel
theorem dX2_highOfProduct_14 : decode cX2_highOfProduct 14 = .ok (.ldc2_w 36, 3) := by decide +kernel
theorem dX2_highOfProduct_17 : decode cX2_highOfProduct 17 = .ok (.land, 1) := by decide +kernel
theorem dX2_highOfProduct_18 : decode cX2_highOfProduct 18 = .ok (.lstore 8, 2) := by decide +kernel
theorem dX2_highOfProduct_20 : decode cX2_highOfProduct 20 = .ok (.lload_n 2, 1) := by decide +kernel
theorem dX2_highOfProduct_21 : decode cX2_highOfProduct 21 = .ok (.bipush 32, 2) := by decide +kernel
theorem dX2_highOfProduct_23 : decode cX2_highOfProduct 23 = .ok (.lshr, 1) := by decide +kernel
theorem dX2_highOfProduct_24 : decode cX2_highOfProduct 24 = .ok (.lstore 10, 2) := by decide +kernel
theorem dX2_highOfProduct_26 : decode cX2_highOfProduct 26 = .ok (.lload 6, 2) := by decide +kernel
theorem dX2_highOfProduct_28 : decode cX2_highOfProduct 28 = .ok (.lload 8, 2) := by decide +kernel
theorem dX2_highOfProduct_30 : decode cX2_highOfProduct 30 = .ok (.lmul, 1) := by decide +kernel
theorem dX2_highOfProduct_31 : decode cX2_highOfProduct 31 = .ok (.lload 4, 2) := by decide +kernel
theorem dX2_highOfProduct_33 : decode cX2_highOfProduct 33 = .ok (.lload 8, 2) := by decide +kernel
theorem dX2_highOfProduct_35 : decode cX2_highOfProduct 35 = .ok (.lmul, 1) := by decide +kernel
theorem dX2_highOfProduct_36 : decode cX2_highOfProduct 36 = .ok (.bipush 32, 2) := by decide +kernel
theorem dX2_highOfProduct_38 : decode cX2_highOfProduct 38 = .ok (.lushr, 1) := by decide +kernel
theorem dX2_highOfProduct_39 : decode cX2_highOfProduct 39 = .ok (.ladd, 1) := by decide +kernel
theorem dX2_highOfProduct_40 : decode cX2_highOfProduct 40 = .ok (.lstore 12, 2) := by decide +kernel
theorem dX2_highOfProduct_42 : decode cX2_highOfProduct 42 = .ok (.lload 4, 2) := by decide +kernel
theorem dX2_highOfProduct_44 : decode cX2_highOfProduct 44 = .ok (.lload 10, 2) := by decide +kernel
theorem dX2_highOfProduct_46 : decode cX2_highOfProduct 46 = .ok (.lmul, 1) := by decide +kernel
theorem dX2_highOfProduct_47 : decode cX2_highOfProduct 47 = .ok (.lload 12, 2) := by decide +kernel
theorem dX2_highOfProduct_49 : decode cX2_highOfProduct 49 = .ok (.ldc2_w 36, 3) := by decide +kernel
theorem dX2_highOfProduct_52 : decode cX2_highOfProduct 52 = .ok (.land, 1) := by decide +kernel
theorem dX2_highOfProduct_53 : decode cX2_highOfProduct 53 = .ok (.ladd, 1) := by decide +kernel
theorem dX2_highOfProduct_54 : decode cX2_highOfProduct 54 = .ok (.lstore 14, 2) := by decide +kernel
theorem dX2_highOfProduct_56 : decode cX2_highOfProduct 56 = .ok (.lload 6, 2) := by decide +kernel
theorem dX2_highOfProduct_58 : decode cX2_highOfProduct 58 = .ok (.lload 10, 2) := by decide +kernel
theorem dX2_highOfProduct_60 : decode cX2_highOfProduct 60 = .ok (.lmul, 1) := by decide +kernel
theorem dX2_highOfProduct_61 : decode cX2_highOfProduct 61 = .ok (.lload 12, 2) := by decide +kernel
theorem dX2_highOfProduct_63 : decode cX2_highOfProduct 63 = .ok (.bipush 32, 2) := by decide +kernel
theorem dX2_highOfProduct_65 : decode cX2_highOfProduct 65 = .ok (.lshr, 1) := by decide +kernel
theorem dX2_highOfProduct_66 : decode cX2_highOfProduct 66 = .ok (.ladd, 1) := by decide +kernel
theorem dX2_highOfProduct_67 : decode cX2_highOfProduct 67 = .ok (.lload 14, 2) := by decide +kernel
theorem dX2_highOfProduct_69 : decode cX2_highOfProduct 69 = .ok (.bipush 32, 2) := by decide +kernel
theorem dX2_highOfProduct_71 : decode cX2_highOfProduct 71 = .ok (.lshr, 1) := by decide +kernel
theorem dX2_highOfProduct_72 : decode cX2_highOfProduct 72 = .ok (.ladd, 1) := by decide +kernel
theorem dX2_highOfProduct_73 : decode cX2_highOfProduct 73 = .ok (.lreturn, 1) := by decide +kernel
theorem dX2_shiftedLow_0 : decode cX2_shiftedLow 0 = .ok (.iload 4, 2) := by decide +kernel
theorem dX2_shiftedLow_2 : decode cX2_shiftedLow 2 = .ok (.ifCond .ne 7, 3) := by decide +kernel
theorem dX2_shiftedLow_5 : decode cX2_shiftedLow 5 = .ok (.lload_n 2, 1) := by decide +kernel
theorem dX2_shiftedLow_6 : decode cX2_shiftedLow 6 = .ok (.goto 15, 3) := by decide +kernel
theorem dX2_shiftedLow_9 : decode cX2_shiftedLow 9 = .ok (.lload_n 2, 1) := by decide +kernel
theorem dX2_shiftedLow_10 : decode cX2_shiftedLow 10 = .ok (.iload 4, 2) := by decide +kernel
theorem dX2_shiftedLow_12 : decode cX2_shiftedLow 12 = .ok (.lushr, 1) := by decide +kernel
theorem dX2_shiftedLow_13 : decode cX2_shiftedLow 13 = .ok (.lload_n 0, 1) := by decide +kernel
theorem dX2_shiftedLow_14 : decode cX2_shiftedLow 14 = .ok (.bipush 64, 2) := by decide +kernel
theorem dX2_shiftedLow_16 : decode cX2_shiftedLow 16 = .ok (.iload 4, 2) := by decide +kernel
theorem dX2_shiftedLow_18 : decode cX2_shiftedLow 18 = .ok (.isub, 1) := by decide +kernel
theorem dX2_shiftedLow_19 : decode cX2_shiftedLow 19 = .ok (.lshl, 1) := by decide +kernel
theorem dX2_shiftedLow_20 : decode cX2_shiftedLow 20 = .ok (.lor, 1) := by decide +kernel
theorem dX2_shiftedLow_21 : decode cX2_shiftedLow 21 = .ok (.lreturn, 1) := by decide +kernel
theorem dX2_inverseOfOdd_0 : decode cX2_inverseOfOdd 0 = .ok (.lload_n 0, 1) := by decide +kernel
theorem dX2_inverseOfOdd_1 : decode cX2_inverseOfOdd 1 = .ok (.lstore_n 2, 1) := by decide +kernel
theorem dX2_inverseOfOdd_2 : decode cX2_inverseOfOdd 2 = .ok (.iconst 0, 1) := by decide +kernel
theorem dX2_inverseOfOdd_3 : decode cX2_inverseOfOdd 3 = .ok (.istore 4, 2) := by decide +kernel
theorem dX2_inverseOfOdd_5 : decode cX2_inverseOfOdd 5 = .ok (.iload 4, 2) := by decide +kernel
theorem dX2_inverseOfOdd_7 : decode cX2_inverseOfOdd 7 = .ok (.iconst 5, 1) := by decide +kernel
theorem dX2_inverseOfOdd_8 : decode cX2_inverseOfOdd 8 = .ok (.if_icmp .ge 19, 3) := by decide +kernel
theorem dX2_inverseOfOdd_11 : decode cX2_inverseOfOdd 11 = .ok (.lload_n 2, 1) := by decide +kernel
theorem dX2_inverseOfOdd_12 : decode cX2_inverseOfOdd 12 = .ok (.ldc2_w 38, 3) := by decide +kernel
theorem dX2_inverseOfOdd_15 : decode cX2_inverseOfOdd 15 = .ok (.lload_n 0, 1) := by decide +kernel
theorem dX2_inverseOfOdd_16 : decode cX2_inverseOfOdd 16 = .ok (.lload_n 2, 1) := by decide +kernel
theorem dX2_inverseOfOdd_17 : decode cX2_inverseOfOdd 17 = .ok (.lmul, 1) := by decide +kernel
theorem dX2_inverseOfOdd_18 : decode cX2_inverseOfOdd 18 = .ok (.lsub, 1) := by decide +kernel
theorem dX2_inverseOfOdd_19 : decode cX2_inverseOfOdd 19 = .ok (.lmul, 1) := by decide +kernel
theorem dX2_inverseOfOdd_20 : decode cX2_inverseOfOdd 20 = .ok (.lstore_n 2, 1) := by decide +kernel
theorem dX2_inverseOfOdd_21 : decode cX2_inverseOfOdd 21 = .ok (.iinc 4 1, 3) := by decide +kernel
theorem dX2_inverseOfOdd_24 : decode cX2_inverseOfOdd 24 = .ok (.goto (-19), 3) := by decide +kernel
theorem dX2_inverseOfOdd_27 : decode cX2_inverseOfOdd 27 = .ok (.lload_n 2, 1) := by decide +kernel
theorem dX2_inverseOfOdd_28 : decode cX2_inverseOfOdd 28 = .ok (.lreturn, 1) := by decide +kernel
set_option maxRecDepth 20000 in
theorem ggX3_init_X0_init : GoodIn wsX3_init wsX0_init := goodIn_r _ [15, 16, 2, 3, 17, 18, 19, 20, 21, 22, 37, 38, 39, 40, 41] (by decide +kernel) (by decide +kernel)
set_option maxRecDepth 20000 in
theorem gX3_init_X0_init_n9 : GoodIn wsX3_init (wsX0_init) := ggX3_init_X0_init
set_option maxRecDepth 20000 in
theorem ggX3_init_X1_init : GoodIn wsX3_init wsX1_init := goodIn_r _ [24, 25, 2, 3, 26, 27, 28, 17, 29, 30, 31, 32, 33, 34, 35, 36, 46, 47, 48, 49, 50, 51, 52, 53, 54] (by decide +kernel) (by decide +kernel)
set_option maxRecDepth 20000 in
theorem gX3_init_X1_init_n18 : GoodIn wsX3_init (wsX1_init) := ggX3_init_X1_init
end
section
theorem dX3_init_0 : decode cX3_init 0 = .ok (.aload_n 0, 1) := by decide +kernel
theorem dX3_init_1 : decode cX3_init 1 = .ok (.invokespecial 1, 3) := by decide +kernel
theorem dX3_init_4 : decode cX3_init 4 = .ok (.aload_n 0, 1) := by decide +kernel
theorem dX3_init_5 : decode cX3_init 5 = .ok (.new 7, 3) := by decide +kernel
theorem dX3_init_8 : decode cX3_init 8 = .ok (.dup, 1) := by decide +kernel
theorem dX3_init_9 : decode cX3_init 9 = .ok (.invokespecial 9, 3) := by decide +kernel
theorem dX3_init_12 : decode cX3_init 12 = .ok (.putfield 10, 3) := by decide +kernel
theorem dX3_init_15 : decode cX3_init 15 = .ok (.aload_n 0, 1) := by decide +kernel
theorem dX3_init_16 : decode cX3_init 16 = .ok (.new 16, 3) := by decide +kernel
theorem dX3_init_19 : decode cX3_init 19 = .ok (.dup, 1) := by decide +kernel
theorem dX3_init_20 : decode cX3_init 20 = .ok (.invokespecial 18, 3) := by decide +kernel
theorem dX3_init_23 : decode cX3_init 23 = .ok (.putfield 19, 3) := by decide +kernel
theorem dX3_init_26 : decode cX3_init 26 = .ok (.aload_n 0, 1) := by decide +kernel
theorem dX3_init_27 : decode cX3_init 27 = .ok (.iconst 1, 1) := by decide +kernel
theorem dX3_init_28 : decode cX3_init 28 = .ok (.putfield 23, 3) := by decide +kernel
theorem dX3_init_31 : decode cX3_init 31 = .ok (.aload_n 0, 1) := by decide +kernel
theorem dX3_init_32 : decode cX3_init 32 = .ok (.iconst 1, 1) := by decide +kernel
theorem dX3_init_33 : decode cX3_init 33 = .ok (.putfield 27, 3) := by decide +kernel
theorem dX3_init_36 : decode cX3_init 36 = .ok (.return_, 1) := by decide +kernel
set_option maxRecDepth 20000 in
theorem ggX3_point_X0_isPlace : GoodIn wsX3_point wsX0_isPlace := goodIn_r _ [8] (by decide +kernel) (by decide +kernel)
set_option maxRecDepth 20000 in
theorem gX3_point_X0_isPlace : GoodIn wsX3_point (va_wsS RX3 30 yX0_isPlace wsX0_isPlace) := goodIn_app (goodIn_of _ (by decide +kernel)) ggX3_point_X0_isPlace
set_option maxRecDepth 20000 in
theorem ggX3_point_X0_mostWith : GoodIn wsX3_point wsX0_mostWith := goodIn_r _ [11] (by decide +kernel) (by decide +kernel)
set_option maxRecDepth 20000 in
theorem gX3_point_X0_mostWith : GoodIn wsX3_point (va_wsS RX3 40 yX0_mostWith wsX0_mostWith) := goodIn_app (goodIn_of _ (by decide +kernel)) ggX3_point_X0_mostWith
set_option maxRecDepth 20000 in
theorem ggX3_point_X0_add : GoodIn wsX3_point wsX0_add := goodIn_r _ [15, 16, 17, 18, 19, 32, 33, 34, 35, 36] (by decide +kernel) (by decide +kernel)
set_option maxRecDepth 20000 in
theorem gX3_point_X0_add : GoodIn wsX3_point (wsV RX3 44 RX0 yX0_add wsX0_add) := goodIn_app (goodIn_of _ (by decide +kernel)) ggX3_point_X0_add
set_option maxRecDepth 20000 in
theorem ggX3_point_X1_forget : GoodIn wsX3_point wsX1_forget := goodIn_r _ [24, 25, 26, 27, 37, 38, 39, 40, 41, 42, 43, 44, 45] (by decide +kernel) (by decide +kernel)
set_option maxRecDepth 20000 in
theorem gX3_point_X1_forget : GoodIn wsX3_point (wsV RX3 48 RX1 yX1_forget wsX1_forget) := goodIn_app (goodIn_of _ (by decide +kernel)) ggX3_point_X1_forget
theorem dX3_point_0 : decode cX3_point 0 = .ok (.iload_n 1, 1) := by decide +kernel
theorem dX3_point_1 : decode cX3_point 1 = .ok (.iload_n 2, 1) := by decide +kernel
theorem dX3_point_2 : decode cX3_point 2 = .ok (.invokestatic 30, 3) := by decide +kernel
theorem dX3_point_5 : decode cX3_point 5 = .ok (.ifCond .eq 13, 3) := by decide +kernel
theorem dX3_point_8 : decode cX3_point 8 = .ok (.iload_n 3, 1) := by decide +kernel
theorem dX3_point_9 : decode cX3_point 9 = .ok (.iconst 1, 1) := by decide +kernel
theorem dX3_point_10 : decode cX3_point 10 = .ok (.if_icmp .eq 11, 3) := by decide +kernel
theorem dX3_point_13 : decode cX3_point 13 = .ok (.iload_n 3, 1) := by decide +kernel
theorem dX3_point_14 : decode cX3_point 14 = .ok (.iconst (-1), 1) := by decide +kernel
theorem dX3_point_15 : decode cX3_point 15 = .ok (.if_icmp .eq 6, 3) := by decide +kernel
theorem dX3_point_18 : decode cX3_point 18 = .ok (.bipush (-2), 2) := by decide +kernel
theorem dX3_point_20 : decode cX3_point 20 = .ok (.ireturn, 1) := by decide +kernel
theorem dX3_point_21 : decode cX3_point 21 = .ok (.aload_n 0, 1) := by decide +kernel
theorem dX3_point_22 : decode cX3_point 22 = .ok (.getfield 10, 3) := by decide +kernel
theorem dX3_point_25 : decode cX3_point 25 = .ok (.getfield 34, 3) := by decide +kernel
theorem dX3_point_28 : decode cX3_point 28 = .ok (.aload_n 0, 1) := by decide +kernel
theorem dX3_point_29 : decode cX3_point 29 = .ok (.getfield 10, 3) := by decide +kernel
theorem dX3_point_32 : decode cX3_point 32 = .ok (.getfield 37, 3) := by decide +kernel
theorem dX3_point_35 : decode cX3_point 35 = .ok (.invokestatic 40, 3) := by decide +kernel
theorem dX3_point_38 : decode cX3_point 38 = .ok (.if_icmp .lt 6, 3) := by decide +kernel
theorem dX3_point_41 : decode cX3_point 41 = .ok (.bipush (-4), 2) := by decide +kernel
theorem dX3_point_43 : decode cX3_point 43 = .ok (.ireturn, 1) := by decide +kernel
theorem dX3_point_44 : decode cX3_point 44 = .ok (.aload_n 0, 1) := by decide +kernel
theorem dX3_point_45 : decode cX3_point 45 = .ok (.getfield 10, 3) := by decide +kernel
theorem dX3_point_48 : decode cX3_point 48 = .ok (.iload_n 1, 1) := by decide +kernel
theorem dX3_point_49 : decode cX3_point 49 = .ok (.iload_n 2, 1) := by decide +kernel
theorem dX3_point_50 : decode cX3_point 50 = .ok (.iload_n 3, 1) := by decide +kernel
theorem dX3_point_51 : decode cX3_point 51 = .ok (.invokevirtual 44, 3) := by decide +kernel
theorem dX3_point_54 : decode cX3_point 54 = .ok (.aload_n 0, 1) := by decide +kernel
theorem dX3_point_55 : decode cX3_point 55 = .ok (.getfield 19, 3) := by decide +kernel
theorem dX3_point_58 : decode cX3_point 58 = .ok (.invokevirtual 48, 3) := by decide +kernel
theorem dX3_point_61 : decode cX3_point 61 = .ok (.aload_n 0, 1) := by decide +kernel
theorem dX3_point_62 : decode cX3_point 62 = .ok (.getfield 10, 3) := by decide +kernel
theorem dX3_point_65 : decode cX3_point 65 = .ok (.getfield 34, 3) := by decide +kernel
theorem dX3_point_68 : decode cX3_point 68 = .ok (.iconst 1, 1) := by decide +kernel
theorem dX3_point_69 : decode cX3_point 69 = .ok (.isub, 1) := by decide +kernel
theorem dX3_point_70 : decode cX3_point 70 = .ok (.ireturn, 1) := by decide +kernel
set_option maxRecDepth 20000 in
theorem ggX3_drop_X1_forget : GoodIn wsX3_drop wsX1_forget := goodIn_r _ [8, 9, 10, 11, 21, 22, 23, 24, 25, 26, 27, 28, 29] (by decide +kernel) (by decide +kernel)
set_option maxRecDepth 20000 in
theorem gX3_drop_X1_forget : GoodIn wsX3_drop (wsV RX3 48 RX1 yX1_forget wsX1_forget) := goodIn_app (goodIn_of _ (by decide +kernel)) ggX3_drop_X1_forget
theorem dX3_drop_0 : decode cX3_drop 0 = .ok (.aload_n 0, 1) := by decide +kernel
theorem dX3_drop_1 : decode cX3_drop 1 = .ok (.getfield 10, 3) := by decide +kernel
theorem dX3_drop_4 : decode cX3_drop 4 = .ok (.getfield 34, 3) := by decide +kernel
theorem dX3_drop_7 : decode cX3_drop 7 = .ok (.ifCond .ne 6, 3) := by decide +kernel
theorem dX3_drop_10 : decode cX3_drop 10 = .ok (.bipush (-3), 2) := by decide +kernel
theorem dX3_drop_12 : decode cX3_drop 12 = .ok (.ireturn, 1) := by decide +kernel
theorem dX3_drop_13 : decode cX3_drop 13 = .ok (.aload_n 0, 1) := by decide +kernel
theorem dX3_drop_14 : decode cX3_drop 14 = .ok (.getfield 10, 3) := by decide +kernel
theorem dX3_drop_17 : decode cX3_drop 17 = .ok (.dup, 1) := by decide +kernel
theorem dX3_drop_18 : decode cX3_drop 18 = .ok (.getfield 34, 3) := by decide +kernel
theorem dX3_drop_21 : decode cX3_drop 21 = .ok (.iconst 1, 1) := by decide +kernel
theorem dX3_drop_22 : decode cX3_drop 22 = .ok (.isub, 1) := by decide +kernel
theorem dX3_drop_23 : decode cX3_drop 23 = .ok (.putfield 34, 3) := by decide +kernel
theorem dX3_drop_26 : decode cX3_drop 26 = .ok (.aload_n 0, 1) := by decide +kernel
theorem dX3_drop_27 : decode cX3_drop 27 = .ok (.getfield 19, 3) := by decide +kernel
theorem dX3_drop_30 : decode cX3_drop 30 = .ok (.invokevirtual 48, 3) := by decide +kernel
theorem dX3_drop_33 : decode cX3_drop 33 = .ok (.aload_n 0, 1) := by decide +kernel
theorem dX3_drop_34 : decode cX3_drop 34 = .ok (.getfield 10, 3) := by decide +kernel
theorem dX3_drop_37 : decode cX3_drop 37 = .ok (.getfield 34, 3) := by decide +kernel
theorem dX3_drop_40 : decode cX3_drop 40 = .ok (.ireturn, 1) := by decide +kernel
set_option maxRecDepth 20000 in
theorem ggX3_degree_X0_mostWith : GoodIn wsX3_degree wsX0_mostWith := goodIn_r _ [8] (by decide +kernel) (by decide +kernel)
set_option maxRecDepth 20000 in
theorem gX3_degree_X0_mostWith : GoodIn wsX3_degree (va_wsS RX3 40 yX0_mostWith wsX0_mostWith) := goodIn_app (goodIn_of _ (by decide +kernel)) ggX3_degree_X0_mostWith
set_option maxRecDepth 20000 in
theorem ggX3_degree_X1_forget : GoodIn wsX3_degree wsX1_forget := goodIn_r _ [13, 14, 15, 16, 26, 27, 28, 29, 30, 31, 32, 33, 34] (by decide +kernel) (by decide +kernel)
set_option maxRecDepth 20000 in
theorem gX3_degree_X1_forget : GoodIn wsX3_degree (wsV RX3 48 RX1 yX1_forget wsX1_forget) := goodIn_app (goodIn_of _ (by decide +kernel)) ggX3_degree_X1_forget
theorem dX3_degree_0 : decode cX3_degree 0 = .ok (.iload_n 1, 1) := by decide +kernel
theorem dX3_degree_1 : decode cX3_degree 1 = .ok (.iconst 1, 1) := by decide +kernel
theorem dX3_degree_2 : decode cX3_degree 2 = .ok (.if_icmp .eq 11, 3) := by decide +kernel
theorem dX3_degree_5 : decode cX3_degree 5 = .ok (.iload_n 1, 1) := by decide +kernel
theorem dX3_degree_6 : decode cX3_degree 6 = .ok (.iconst 2, 1) := by decide +kernel
theorem dX3_degree_7 : decode cX3_degree 7 = .ok (.if_icmp .eq 6, 3) := by decide +kernel
theorem dX3_degree_10 : decode cX3_degree 10 = .ok (.bipush (-2), 2) := by decide +kernel
theorem dX3_degree_12 : decode cX3_degree 12 = .ok (.ireturn, 1) := by decide +kernel
theorem dX3_degree_13 : decode cX3_degree 13 = .ok (.aload_n 0, 1) := by decide +kernel
theorem dX3_degree_14 : decode cX3_degree 14 = .ok (.getfield 10, 3) := by decide +kernel
theorem dX3_degree_17 : decode cX3_degree 17 = .ok (.getfield 34, 3) := by decide +kernel
theorem dX3_degree_20 : decode cX3_degree 20 = .ok (.iload_n 1, 1) := by decide +kernel
theorem dX3_degree_21 : decode cX3_degree 21 = .ok (.invokestatic 40, 3) := by decide +kernel
theorem dX3_degree_24 : decode cX3_degree 24 = .ok (.if_icmp .le 6, 3) := by decide +kernel
theorem dX3_degree_27 : decode cX3_degree 27 = .ok (.bipush (-3), 2) := by decide +kernel
theorem dX3_degree_29 : decode cX3_degree 29 = .ok (.ireturn, 1) := by decide +kernel
theorem dX3_degree_30 : decode cX3_degree 30 = .ok (.aload_n 0, 1) := by decide +kernel
theorem dX3_degree_31 : decode cX3_degree 31 = .ok (.getfield 10, 3) := by decide +kernel
theorem dX3_degree_34 : decode cX3_degree 34 = .ok (.getfield 37, 3) := by decide +kernel
theorem dX3_degree_37 : decode cX3_degree 37 = .ok (.istore_n 2, 1) := by decide +kernel
theorem dX3_degree_38 : decode cX3_degree 38 = .ok (.aload_n 0, 1) := by decide +kernel
theorem dX3_degree_39 : decode cX3_degree 39 = .ok (.getfield 10, 3) := by decide +kernel
theorem dX3_degree_42 : decode cX3_degree 42 = .ok (.iload_n 1, 1) := by decide +kernel
theorem dX3_degree_43 : decode cX3_degree 43 = .ok (.putfield 37, 3) := by decide +kernel
theorem dX3_degree_46 : decode cX3_degree 46 = .ok (.aload_n 0, 1) := by decide +kernel
theorem dX3_degree_47 : decode cX3_degree 47 = .ok (.getfield 19, 3) := by decide +kernel
theorem dX3_degree_50 : decode cX3_degree 50 = .ok (.invokevirtual 48, 3) := by decide +kernel
theorem dX3_degree_53 : decode cX3_degree 53 = .ok (.iload_n 2, 1) := by decide +kernel
theorem dX3_degree_54 : decode cX3_degree 54 = .ok (.ireturn, 1) := by decide +kernel
set_option maxRecDepth 20000 in
theorem ggX3_box_X1_forget : GoodIn wsX3_box wsX1_forget := goodIn_r _ [8, 9, 10, 11, 16, 17, 18, 19, 20, 21, 22, 23, 24] (by decide +kernel) (by decide +kernel)
set_option maxRecDepth 20000 in
theorem gX3_box_X1_forget : GoodIn wsX3_box (wsV RX3 48 RX1 yX1_forget wsX1_forget) := goodIn_app (goodIn_of _ (by decide +kernel)) ggX3_box_X1_forget
theorem dX3_box_0 : decode cX3_box 0 = .ok (.iload_n 1, 1) := by decide +kernel
theorem dX3_box_1 : decode cX3_box 1 = .ok (.iconst 1, 1) := by decide +kernel
theorem dX3_box_2 : decode cX3_box 2 = .ok (.if_icmp .lt 20, 3) := by decide +kernel
theorem dX3_box_5 : decode cX3_box 5 = .ok (.iload_n 1, 1) := by decide +kernel
theorem dX3_box_6 : decode cX3_box 6 = .ok (.bipush 20, 2) := by decide +kernel
theorem dX3_box_8 : decode cX3_box 8 = .ok (.if_icmp .gt 14, 3) := by decide +kernel
theorem dX3_box_11 : decode cX3_box 11 = .ok (.iload_n 2, 1) := by decide +kernel
theorem dX3_box_12 : decode cX3_box 12 = .ok (.iconst 1, 1) := by decide +kernel
theorem dX3_box_13 : decode cX3_box 13 = .ok (.if_icmp .lt 9, 3) := by decide +kernel
theorem dX3_box_16 : decode cX3_box 16 = .ok (.iload_n 2, 1) := by decide +kernel
theorem dX3_box_17 : decode cX3_box 17 = .ok (.bipush 6, 2) := by decide +kernel
theorem dX3_box_19 : decode cX3_box 19 = .ok (.if_icmp .le 6, 3) := by decide +kernel
theorem dX3_box_22 : decode cX3_box 22 = .ok (.bipush (-2), 2) := by decide +kernel
theorem dX3_box_24 : decode cX3_box 24 = .ok (.ireturn, 1) := by decide +kernel
theorem dX3_box_25 : decode cX3_box 25 = .ok (.aload_n 0, 1) := by decide +kernel
theorem dX3_box_26 : decode cX3_box 26 = .ok (.iload_n 1, 1) := by decide +kernel
theorem dX3_box_27 : decode cX3_box 27 = .ok (.putfield 23, 3) := by decide +kernel
theorem dX3_box_30 : decode cX3_box 30 = .ok (.aload_n 0, 1) := by decide +kernel
theorem dX3_box_31 : decode cX3_box 31 = .ok (.iload_n 2, 1) := by decide +kernel
theorem dX3_box_32 : decode cX3_box 32 = .ok (.putfield 27, 3) := by decide +kernel
theorem dX3_box_35 : decode cX3_box 35 = .ok (.aload_n 0, 1) := by decide +kernel
theorem dX3_box_36 : decode cX3_box 36 = .ok (.getfield 19, 3) := by decide +kernel
theorem dX3_box_39 : decode cX3_box 39 = .ok (.invokevirtual 48, 3) := by decide +kernel
theorem dX3_box_42 : decode cX3_box 42 = .ok (.iconst 1, 1) := by decide +kernel
theorem dX3_box_43 : decode cX3_box 43 = .ok (.ireturn, 1) := by decide +kernel
set_option maxRecDepth 20000 in
theorem ggX3_q_X0_has : GoodIn wsX3_q wsX0_has := goodIn_r _ [7, 8, 25, 26, 27, 28, 29] (by decide +kernel) (by decide +kernel)
set_option maxRecDepth 20000 in
theorem gX3_q_X0_has : GoodIn wsX3_q (wsV RX3 51 RX0 yX0_has wsX0_has) := goodIn_app (goodIn_of _ (by decide +kernel)) ggX3_q_X0_has
set_option maxRecDepth 20000 in
theorem ggX3_q_X0_product : GoodIn wsX3_q wsX0_product := goodIn_r _ [12, 13, 14, 15, 16, 17, 18, 6, 19, 20, 25, 26, 27, 28, 29] (by decide +kernel) (by decide +kernel)
set_option maxRecDepth 20000 in
theorem gX3_q_X0_product : GoodIn wsX3_q (wsV RX3 55 RX0 yX0_product wsX0_product) := goodIn_app (goodIn_of _ (by decide +kernel)) ggX3_q_X0_product
theorem dX3_q_0 : decode cX3_q 0 = .ok (.aload_n 0, 1) := by decide +kernel
theorem dX3_q_1 : decode cX3_q 1 = .ok (.getfield 10, 3) := by decide +kernel
theorem dX3_q_4 : decode cX3_q 4 = .ok (.iload_n 1, 1) := by decide +kernel
theorem dX3_q_5 : decode cX3_q 5 = .ok (.invokevirtual 51, 3) := by decide +kernel
theorem dX3_q_8 : decode cX3_q 8 = .ok (.ifCond .eq 26, 3) := by decide +kernel
theorem dX3_q_11 : decode cX3_q 11 = .ok (.aload_n 0, 1) := by decide +kernel
theorem dX3_q_12 : decode cX3_q 12 = .ok (.getfield 10, 3) := by decide +kernel
theorem dX3_q_15 : decode cX3_q 15 = .ok (.iload_n 2, 1) := by decide +kernel
theorem dX3_q_16 : decode cX3_q 16 = .ok (.invokevirtual 51, 3) := by decide +kernel
theorem dX3_q_19 : decode cX3_q 19 = .ok (.ifCond .eq 15, 3) := by decide +kernel
theorem dX3_q_22 : decode cX3_q 22 = .ok (.aload_n 0, 1) := by decide +kernel
theorem dX3_q_23 : decode cX3_q 23 = .ok (.getfield 10, 3) := by decide +kernel
theorem dX3_q_26 : decode cX3_q 26 = .ok (.iload_n 1, 1) := by decide +kernel
theorem dX3_q_27 : decode cX3_q 27 = .ok (.iload_n 2, 1) := by decide +kernel
theorem dX3_q_28 : decode cX3_q 28 = .ok (.invokevirtual 55, 3) := by decide +kernel
theorem dX3_q_31 : decode cX3_q 31 = .ok (.goto 5, 3) := by decide +kernel
theorem dX3_q_34 : decode cX3_q 34 = .ok (.ldc 59, 2) := by decide +kernel
theorem dX3_q_36 : decode cX3_q 36 = .ok (.ireturn, 1) := by decide +kernel
set_option maxRecDepth 20000 in
theorem ggX3_begin_X1_lay : GoodIn wsX3_begin wsX1_lay := goodIn_r _ [11, 12, 13, 14, 15, 16, 17, 18, 19, 20, 21, 10, 22, 23, 24, 25, 26, 27, 28, 29, 30, 31, 32, 33, 34, 35, 36, 37, 38, 39, 40, 41, 42, 43, 48, 49, 50, 51, 52, 53, 54, 55, 56, 57, 58, 59, 60, 61] (by decide +kernel) (by decide +kernel)
set_option maxRecDepth 20000 in
theorem gX3_begin_X1_lay : GoodIn wsX3_begin (wsV RX3 60 RX1 yX1_lay wsX1_lay) := goodIn_app (goodIn_of _ (by decide +kernel)) ggX3_begin_X1_lay
theorem dX3_begin_0 : decode cX3_begin 0 = .ok (.aload_n 0, 1) := by decide +kernel
theorem dX3_begin_1 : decode cX3_begin 1 = .ok (.getfield 10, 3) := by decide +kernel
theorem dX3_begin_4 : decode cX3_begin 4 = .ok (.getfield 34, 3) := by decide +kernel
theorem dX3_begin_7 : decode cX3_begin 7 = .ok (.ifCond .ne 6, 3) := by decide +kernel
theorem dX3_begin_10 : decode cX3_begin 10 = .ok (.bipush (-3), 2) := by decide +kernel
theorem dX3_begin_12 : decode cX3_begin 12 = .ok (.ireturn, 1) := by decide +kernel
theorem dX3_begin_13 : decode cX3_begin 13 = .ok (.aload_n 0, 1) := by decide +kernel
theorem dX3_begin_14 : decode cX3_begin 14 = .ok (.getfield 19, 3) := by decide +kernel
theorem dX3_begin_17 : decode cX3_begin 17 = .ok (.aload_n 0, 1) := by decide +kernel
theorem dX3_begin_18 : decode cX3_begin 18 = .ok (.getfield 10, 3) := by decide +kernel
theorem dX3_begin_21 : decode cX3_begin 21 = .ok (.aload_n 0, 1) := by decide +kernel
theorem dX3_begin_22 : decode cX3_begin 22 = .ok (.getfield 23, 3) := by decide +kernel
theorem dX3_begin_25 : decode cX3_begin 25 = .ok (.aload_n 0, 1) := by decide +kernel
theorem dX3_begin_26 : decode cX3_begin 26 = .ok (.getfield 27, 3) := by decide +kernel
theorem dX3_begin_29 : decode cX3_begin 29 = .ok (.invokevirtual 60, 3) := by decide +kernel
theorem dX3_begin_32 : decode cX3_begin 32 = .ok (.aload_n 0, 1) := by decide +kernel
theorem dX3_begin_33 : decode cX3_begin 33 = .ok (.getfield 19, 3) := by decide +kernel
theorem dX3_begin_36 : decode cX3_begin 36 = .ok (.getfield 64, 3) := by decide +kernel
theorem dX3_begin_39 : decode cX3_begin 39 = .ok (.ireturn, 1) := by decide +kernel
set_option maxRecDepth 20000 in
theorem ggX3_go_X1_mayStep : GoodIn wsX3_go wsX1_mayStep := goodIn_r _ [7, 8, 9, 99, 100, 101, 102, 103, 104, 105, 106, 107] (by decide +kernel) (by decide +kernel)
set_option maxRecDepth 20000 in
theorem gX3_go_X1_mayStep : GoodIn wsX3_go (wsV RX3 70 RX1 yX1_mayStep wsX1_mayStep) := goodIn_app (goodIn_of _ (by decide +kernel)) ggX3_go_X1_mayStep
set_option maxRecDepth 20000 in
theorem ggX3_go_X1_makeStep : GoodIn wsX3_go wsX1_makeStep := goodIn_r _ [13, 9, 14, 8, 15, 16, 17, 18, 19, 20, 6, 21, 22, 23, 24, 25, 26, 27, 28, 29, 30, 31, 32, 33, 34, 35, 36, 37, 38, 39, 40, 41, 42, 43, 44, 45, 46, 47, 48, 49, 50, 51, 52, 53, 54, 55, 56, 57, 58, 59, 60, 61, 62, 63, 64, 65, 66, 67, 68, 69, 70, 71, 72, 73, 74, 75, 76, 77, 78, 79, 80, 81, 82, 83, 84, 85, 86, 87, 88, 89, 90, 91, 92, 93, 94, 99, 100, 101, 102, 103, 104, 105, 106, 107] (by decide +kernel) (by decide +kernel)
set_option maxRecDepth 20000 in
theorem gX3_go_X1_makeStep : GoodIn wsX3_go (wsV RX3 74 RX1 yX1_makeStep wsX1_makeStep) := goodIn_app (goodIn_of _ (by decide +kernel)) ggX3_go_X1_makeStep
theorem dX3_go_0 : decode cX3_go 0 = .ok (.iload_n 1, 1) := by decide +kernel
theorem dX3_go_1 : decode cX3_go 1 = .ok (.iconst 1, 1) := by decide +kernel
theorem dX3_go_2 : decode cX3_go 2 = .ok (.if_icmp .lt 9, 3) := by decide +kernel
theorem dX3_go_5 : decode cX3_go 5 = .ok (.iload_n 1, 1) := by decide +kernel
theorem dX3_go_6 : decode cX3_go 6 = .ok (.bipush 60, 2) := by decide +kernel
theorem dX3_go_8 : decode cX3_go 8 = .ok (.if_icmp .le 6, 3) := by decide +kernel
theorem dX3_go_11 : decode cX3_go 11 = .ok (.bipush (-2), 2) := by decide +kernel
theorem dX3_go_13 : decode cX3_go 13 = .ok (.ireturn, 1) := by decide +kernel
theorem dX3_go_14 : decode cX3_go 14 = .ok (.aload_n 0, 1) := by decide +kernel
theorem dX3_go_15 : decode cX3_go 15 = .ok (.getfield 19, 3) := by decide +kernel
theorem dX3_go_18 : decode cX3_go 18 = .ok (.getfield 67, 3) := by decide +kernel
theorem dX3_go_21 : decode cX3_go 21 = .ok (.iconst (-1), 1) := by decide +kernel
theorem dX3_go_22 : decode cX3_go 22 = .ok (.if_icmp .ne 6, 3) := by decide +kernel
theorem dX3_go_25 : decode cX3_go 25 = .ok (.bipush (-3), 2) := by decide +kernel
theorem dX3_go_27 : decode cX3_go 27 = .ok (.ireturn, 1) := by decide +kernel
theorem dX3_go_28 : decode cX3_go 28 = .ok (.iconst 0, 1) := by decide +kernel
theorem dX3_go_29 : decode cX3_go 29 = .ok (.istore_n 2, 1) := by decide +kernel
theorem dX3_go_30 : decode cX3_go 30 = .ok (.iload_n 2, 1) := by decide +kernel
theorem dX3_go_31 : decode cX3_go 31 = .ok (.iload_n 1, 1) := by decide +kernel
theorem dX3_go_32 : decode cX3_go 32 = .ok (.if_icmp .ge 26, 3) := by decide +kernel
theorem dX3_go_35 : decode cX3_go 35 = .ok (.aload_n 0, 1) := by decide +kernel
theorem dX3_go_36 : decode cX3_go 36 = .ok (.getfield 19, 3) := by decide +kernel
theorem dX3_go_39 : decode cX3_go 39 = .ok (.invokevirtual 70, 3) := by decide +kernel
theorem dX3_go_42 : decode cX3_go 42 = .ok (.ifCond .eq 16, 3) := by decide +kernel
theorem dX3_go_45 : decode cX3_go 45 = .ok (.aload_n 0, 1) := by decide +kernel
theorem dX3_go_46 : decode cX3_go 46 = .ok (.getfield 19, 3) := by decide +kernel
theorem dX3_go_49 : decode cX3_go 49 = .ok (.invokevirtual 74, 3) := by decide +kernel
theorem dX3_go_52 : decode cX3_go 52 = .ok (.iinc 2 1, 3) := by decide +kernel
theorem dX3_go_55 : decode cX3_go 55 = .ok (.goto (-25), 3) := by decide +kernel
theorem dX3_go_58 : decode cX3_go 58 = .ok (.aload_n 0, 1) := by decide +kernel
theorem dX3_go_59 : decode cX3_go 59 = .ok (.getfield 19, 3) := by decide +kernel
theorem dX3_go_62 : decode cX3_go 62 = .ok (.getfield 67, 3) := by decide +kernel
theorem dX3_go_65 : decode cX3_go 65 = .ok (.ireturn, 1) := by decide +kernel
set_option maxRecDepth 20000 in
theorem ggX3_step_X1_letter : GoodIn wsX3_step wsX1_letter := goodIn_r _ [10, 11, 12, 13, 14, 9, 15, 20, 21, 22, 23, 24, 25, 26, 27, 28] (by decide +kernel) (by decide +kernel)
set_option maxRecDepth 20000 in
theorem gX3_step_X1_letter : GoodIn wsX3_step (wsV RX3 90 RX1 yX1_letter wsX1_letter) := goodIn_app (goodIn_of _ (by decide +kernel)) ggX3_step_X1_letter
theorem dX3_step_0 : decode cX3_step 0 = .ok (.iload_n 2, 1) := by decide +kernel
theorem dX3_step_1 : decode cX3_step 1 = .ok (.ifCond .lt 8, 3) := by decide +kernel
theorem dX3_step_4 : decode cX3_step 4 = .ok (.iload_n 2, 1) := by decide +kernel
theorem dX3_step_5 : decode cX3_step 5 = .ok (.iconst 2, 1) := by decide +kernel
theorem dX3_step_6 : decode cX3_step 6 = .ok (.if_icmp .le 6, 3) := by decide +kernel
theorem dX3_step_9 : decode cX3_step 9 = .ok (.bipush (-2), 2) := by decide +kernel
theorem dX3_step_11 : decode cX3_step 11 = .ok (.ireturn, 1) := by decide +kernel
theorem dX3_step_12 : decode cX3_step 12 = .ok (.iload_n 1, 1) := by decide +kernel
theorem dX3_step_13 : decode cX3_step 13 = .ok (.ifCond .lt 14, 3) := by decide +kernel
theorem dX3_step_16 : decode cX3_step 16 = .ok (.iload_n 1, 1) := by decide +kernel
theorem dX3_step_17 : decode cX3_step 17 = .ok (.aload_n 0, 1) := by decide +kernel
theorem dX3_step_18 : decode cX3_step 18 = .ok (.getfield 19, 3) := by decide +kernel
theorem dX3_step_21 : decode cX3_step 21 = .ok (.getfield 77, 3) := by decide +kernel
theorem dX3_step_24 : decode cX3_step 24 = .ok (.if_icmp .lt 5, 3) := by decide +kernel
theorem dX3_step_27 : decode cX3_step 27 = .ok (.iconst (-1), 1) := by decide +kernel
theorem dX3_step_28 : decode cX3_step 28 = .ok (.ireturn, 1) := by decide +kernel
theorem dX3_step_29 : decode cX3_step 29 = .ok (.iload_n 2, 1) := by decide +kernel
theorem dX3_step_30 : decode cX3_step 30 = .ok (.iconst 2, 1) := by decide +kernel
theorem dX3_step_31 : decode cX3_step 31 = .ok (.if_icmp .ne 13, 3) := by decide +kernel
theorem dX3_step_34 : decode cX3_step 34 = .ok (.aload_n 0, 1) := by decide +kernel
theorem dX3_step_35 : decode cX3_step 35 = .ok (.getfield 19, 3) := by decide +kernel
theorem dX3_step_38 : decode cX3_step 38 = .ok (.getfield 80, 3) := by decide +kernel
theorem dX3_step_41 : decode cX3_step 41 = .ok (.iload_n 1, 1) := by decide +kernel
theorem dX3_step_42 : decode cX3_step 42 = .ok (.iaload, 1) := by decide +kernel
theorem dX3_step_43 : decode cX3_step 43 = .ok (.ireturn, 1) := by decide +kernel
theorem dX3_step_44 : decode cX3_step 44 = .ok (.aload_n 0, 1) := by decide +kernel
theorem dX3_step_45 : decode cX3_step 45 = .ok (.getfield 19, 3) := by decide +kernel
theorem dX3_step_48 : decode cX3_step 48 = .ok (.iload_n 2, 1) := by decide +kernel
theorem dX3_step_49 : decode cX3_step 49 = .ok (.ifCond .ne 15, 3) := by decide +kernel
theorem dX3_step_52 : decode cX3_step 52 = .ok (.aload_n 0, 1) := by decide +kernel
theorem dX3_step_53 : decode cX3_step 53 = .ok (.getfield 19, 3) := by decide +kernel
theorem dX3_step_56 : decode cX3_step 56 = .ok (.getfield 84, 3) := by decide +kernel
theorem dX3_step_59 : decode cX3_step 59 = .ok (.iload_n 1, 1) := by decide +kernel
theorem dX3_step_60 : decode cX3_step 60 = .ok (.iaload, 1) := by decide +kernel
theorem dX3_step_61 : decode cX3_step 61 = .ok (.goto 12, 3) := by decide +kernel
theorem dX3_step_64 : decode cX3_step 64 = .ok (.aload_n 0, 1) := by decide +kernel
theorem dX3_step_65 : decode cX3_step 65 = .ok (.getfield 19, 3) := by decide +kernel
theorem dX3_step_68 : decode cX3_step 68 = .ok (.getfield 87, 3) := by decide +kernel
theorem dX3_step_71 : decode cX3_step 71 = .ok (.iload_n 1, 1) := by decide +kernel
theorem dX3_step_72 : decode cX3_step 72 = .ok (.iaload, 1) := by decide +kernel
theorem dX3_step_73 : decode cX3_step 73 = .ok (.invokevirtual 90, 3) := by decide +kernel
theorem dX3_step_76 : decode cX3_step 76 = .ok (.ireturn, 1) := by decide +kernel
set_option maxRecDepth 20000 in
theorem ggX3_told_X1_hasRow : GoodIn wsX3_told wsX1_hasRow := goodIn_r _ [7, 8, 21, 22, 23, 24, 25, 26, 27, 28, 29] (by decide +kernel) (by decide +kernel)
set_option maxRecDepth 20000 in
theorem gX3_told_X1_hasRow : GoodIn wsX3_told (wsV RX3 93 RX1 yX1_hasRow wsX1_hasRow) := goodIn_app (goodIn_of _ (by decide +kernel)) ggX3_told_X1_hasRow
set_option maxRecDepth 20000 in
theorem ggX3_told_X1_letter : GoodIn wsX3_told wsX1_letter := goodIn_r _ [12, 8, 13, 14, 15, 6, 16, 21, 22, 23, 24, 25, 26, 27, 28, 29] (by decide +kernel) (by decide +kernel)
set_option maxRecDepth 20000 in
theorem gX3_told_X1_letter : GoodIn wsX3_told (wsV RX3 90 RX1 yX1_letter wsX1_letter) := goodIn_app (goodIn_of _ (by decide +kernel)) ggX3_told_X1_letter
theorem dX3_told_0 : decode cX3_told 0 = .ok (.aload_n 0, 1) := by decide +kernel
theorem dX3_told_1 : decode cX3_told 1 = .ok (.getfield 19, 3) := by decide +kernel
theorem dX3_told_4 : decode cX3_told 4 = .ok (.iload_n 1, 1) := by decide +kernel
theorem dX3_told_5 : decode cX3_told 5 = .ok (.invokevirtual 93, 3) := by decide +kernel
theorem dX3_told_8 : decode cX3_told 8 = .ok (.ifCond .eq 22, 3) := by decide +kernel
theorem dX3_told_11 : decode cX3_told 11 = .ok (.aload_n 0, 1) := by decide +kernel
theorem dX3_told_12 : decode cX3_told 12 = .ok (.getfield 19, 3) := by decide +kernel
theorem dX3_told_15 : decode cX3_told 15 = .ok (.aload_n 0, 1) := by decide +kernel
theorem dX3_told_16 : decode cX3_told 16 = .ok (.getfield 19, 3) := by decide +kernel
theorem dX3_told_19 : decode cX3_told 19 = .ok (.getfield 96, 3) := by decide +kernel
theorem dX3_told_22 : decode cX3_told 22 = .ok (.iload_n 1, 1) := by decide +kernel
theorem dX3_told_23 : decode cX3_told 23 = .ok (.iaload, 1) := by decide +kernel
theorem dX3_told_24 : decode cX3_told 24 = .ok (.invokevirtual 90, 3) := by decide +kernel
theorem dX3_told_27 : decode cX3_told 27 = .ok (.goto 4, 3) := by decide +kernel
theorem dX3_told_30 : decode cX3_told 30 = .ok (.iconst (-1), 1) := by decide +kernel
theorem dX3_told_31 : decode cX3_told 31 = .ok (.ireturn, 1) := by decide +kernel
set_option maxRecDepth 20000 in
theorem ggX3_at_X1_hasRow : GoodIn wsX3_at wsX1_hasRow := goodIn_r _ [8, 9, 37, 38, 39, 40, 41, 42, 43, 44, 45] (by decide +kernel) (by decide +kernel)
set_option maxRecDepth 20000 in
theorem gX3_at_X1_hasRow : GoodIn wsX3_at (wsV RX3 93 RX1 yX1_hasRow wsX1_hasRow) := goodIn_app (goodIn_of _ (by decide +kernel)) ggX3_at_X1_hasRow
set_option maxRecDepth 20000 in
theorem ggX3_at_X1_hasColumn : GoodIn wsX3_at wsX1_hasColumn := goodIn_r _ [13, 14, 15, 16, 7, 17, 9, 37, 38, 39, 40, 41, 42, 43, 44, 45] (by decide +kernel) (by decide +kernel)
set_option maxRecDepth 20000 in
theorem gX3_at_X1_hasColumn : GoodIn wsX3_at (wsV RX3 99 RX1 yX1_hasColumn wsX1_hasColumn) := goodIn_app (goodIn_of _ (by decide +kernel)) ggX3_at_X1_hasColumn
set_option maxRecDepth 20000 in
theorem ggX3_at_X3_isPart : GoodIn wsX3_at wsX3_isPart := goodIn_r _ [21] (by decide +kernel) (by decide +kernel)
set_option maxRecDepth 20000 in
theorem gX3_at_X3_isPart : GoodIn wsX3_at (va_wsS RX3 102 yX3_isPart wsX3_isPart) := goodIn_app (goodIn_of _ (by decide +kernel)) ggX3_at_X3_isPart
set_option maxRecDepth 20000 in
theorem ggX3_at_X2_part : GoodIn wsX3_at wsX2_part := goodIn_r _ [25, 26, 27, 28, 29, 30, 31, 24, 32] (by decide +kernel) (by decide +kernel)
set_option maxRecDepth 20000 in
theorem gX3_at_X2_part : GoodIn wsX3_at (va_wsS RX3 113 yX2_part wsX2_part) := goodIn_app (goodIn_of _ (by decide +kernel)) ggX3_at_X2_part
theorem dX3_at_0 : decode cX3_at 0 = .ok (.aload_n 0, 1) := by decide +kernel
theorem dX3_at_1 : decode cX3_at 1 = .ok (.getfield 19, 3) := by decide +kernel
theorem dX3_at_4 : decode cX3_at 4 = .ok (.iload_n 1, 1) := by decide +kernel
theorem dX3_at_5 : decode cX3_at 5 = .ok (.invokevirtual 93, 3) := by decide +kernel
theorem dX3_at_8 : decode cX3_at 8 = .ok (.ifCond .eq 21, 3) := by decide +kernel
theorem dX3_at_11 : decode cX3_at 11 = .ok (.aload_n 0, 1) := by decide +kernel
theorem dX3_at_12 : decode cX3_at 12 = .ok (.getfield 19, 3) := by decide +kernel
theorem dX3_at_15 : decode cX3_at 15 = .ok (.iload_n 2, 1) := by decide +kernel
theorem dX3_at_16 : decode cX3_at 16 = .ok (.invokevirtual 99, 3) := by decide +kernel
theorem dX3_at_19 : decode cX3_at 19 = .ok (.ifCond .eq 10, 3) := by decide +kernel
theorem dX3_at_22 : decode cX3_at 22 = .ok (.iload_n 3, 1) := by decide +kernel
theorem dX3_at_23 : decode cX3_at 23 = .ok (.invokestatic 102, 3) := by decide +kernel
theorem dX3_at_26 : decode cX3_at 26 = .ok (.ifCond .ne 5, 3) := by decide +kernel
theorem dX3_at_29 : decode cX3_at 29 = .ok (.lconst 0, 1) := by decide +kernel
theorem dX3_at_30 : decode cX3_at 30 = .ok (.lreturn, 1) := by decide +kernel
theorem dX3_at_31 : decode cX3_at 31 = .ok (.aload_n 0, 1) := by decide +kernel
theorem dX3_at_32 : decode cX3_at 32 = .ok (.getfield 19, 3) := by decide +kernel
theorem dX3_at_35 : decode cX3_at 35 = .ok (.getfield 105, 3) := by decide +kernel
theorem dX3_at_38 : decode cX3_at 38 = .ok (.iload_n 1, 1) := by decide +kernel
theorem dX3_at_39 : decode cX3_at 39 = .ok (.aaload, 1) := by decide +kernel
theorem dX3_at_40 : decode cX3_at 40 = .ok (.iload_n 2, 1) := by decide +kernel
theorem dX3_at_41 : decode cX3_at 41 = .ok (.laload, 1) := by decide +kernel
theorem dX3_at_42 : decode cX3_at 42 = .ok (.aload_n 0, 1) := by decide +kernel
theorem dX3_at_43 : decode cX3_at 43 = .ok (.getfield 19, 3) := by decide +kernel
theorem dX3_at_46 : decode cX3_at 46 = .ok (.getfield 109, 3) := by decide +kernel
theorem dX3_at_49 : decode cX3_at 49 = .ok (.iload_n 3, 1) := by decide +kernel
theorem dX3_at_50 : decode cX3_at 50 = .ok (.invokestatic 113, 3) := by decide +kernel
theorem dX3_at_53 : decode cX3_at 53 = .ok (.lreturn, 1) := by decide +kernel
set_option maxRecDepth 20000 in
theorem ggX3_multiplier_X3_isDone : GoodIn wsX3_multiplier wsX3_isDone := goodIn_r _ [6, 7, 8, 51, 52, 53, 54, 55, 56, 57, 58, 59, 60, 61, 62, 63] (by decide +kernel) (by decide +kernel)
set_option maxRecDepth 20000 in
theorem gX3_multiplier_X3_isDone : GoodIn wsX3_multiplier (wsV RX3 119 RX3 yX3_isDone wsX3_isDone) := goodIn_app (goodIn_of _ (by decide +kernel)) ggX3_multiplier_X3_isDone
set_option maxRecDepth 20000 in
theorem ggX3_multiplier_X0_has : GoodIn wsX3_multiplier wsX0_has := goodIn_r _ [13, 14, 64, 65, 66, 67, 68] (by decide +kernel) (by decide +kernel)
set_option maxRecDepth 20000 in
theorem gX3_multiplier_X0_has : GoodIn wsX3_multiplier (wsV RX3 51 RX0 yX0_has wsX0_has) := goodIn_app (goodIn_of _ (by decide +kernel)) ggX3_multiplier_X0_has
set_option maxRecDepth 20000 in
theorem ggX3_multiplier_X3_isPart : GoodIn wsX3_multiplier wsX3_isPart := goodIn_r _ [17] (by decide +kernel) (by decide +kernel)
set_option maxRecDepth 20000 in
theorem gX3_multiplier_X3_isPart : GoodIn wsX3_multiplier (va_wsS RX3 102 yX3_isPart wsX3_isPart) := goodIn_app (goodIn_of _ (by decide +kernel)) ggX3_multiplier_X3_isPart
set_option maxRecDepth 20000 in
theorem ggX3_multiplier_X3_share : GoodIn wsX3_multiplier wsX3_share := goodIn_r _ [21, 7, 22, 23, 24, 25, 26, 27, 28, 29, 30, 31, 32, 33, 51, 52, 53, 54, 55, 56, 57, 58, 59, 60, 61, 62, 63] (by decide +kernel) (by decide +kernel)
set_option maxRecDepth 20000 in
theorem gX3_multiplier_X3_share : GoodIn wsX3_multiplier (wsV RX3 122 RX3 yX3_share wsX3_share) := goodIn_app (goodIn_of _ (by decide +kernel)) ggX3_multiplier_X3_share
set_option maxRecDepth 20000 in
theorem ggX3_multiplier_X3_shareBase : GoodIn wsX3_multiplier wsX3_shareBase := goodIn_r _ [37, 7, 38, 39, 51, 52, 53, 54, 55, 56, 57, 58, 59, 60, 61, 62, 63] (by decide +kernel) (by decide +kernel)
set_option maxRecDepth 20000 in
theorem gX3_multiplier_X3_shareBase : GoodIn wsX3_multiplier (wsV RX3 126 RX3 yX3_shareBase wsX3_shareBase) := goodIn_app (goodIn_of _ (by decide +kernel)) ggX3_multiplier_X3_shareBase
set_option maxRecDepth 20000 in
theorem ggX3_multiplier_X2_part : GoodIn wsX3_multiplier wsX2_part := goodIn_r _ [43, 44, 45, 46, 47, 48, 49, 42, 50] (by decide +kernel) (by decide +kernel)
set_option maxRecDepth 20000 in
theorem gX3_multiplier_X2_part : GoodIn wsX3_multiplier (va_wsS RX3 113 yX2_part wsX2_part) := goodIn_app (goodIn_of _ (by decide +kernel)) ggX3_multiplier_X2_part
theorem dX3_multiplier_0 : decode cX3_multiplier 0 = .ok (.aload_n 0, 1) := by decide +kernel
theorem dX3_multiplier_1 : decode cX3_multiplier 1 = .ok (.invokevirtual 119, 3) := by decide +kernel
theorem dX3_multiplier_4 : decode cX3_multiplier 4 = .ok (.ifCond .eq 21, 3) := by decide +kernel
theorem dX3_multiplier_7 : decode cX3_multiplier 7 = .ok (.aload_n 0, 1) := by decide +kernel
theorem dX3_multiplier_8 : decode cX3_multiplier 8 = .ok (.getfield 10, 3) := by decide +kernel
theorem dX3_multiplier_11 : decode cX3_multiplier 11 = .ok (.iload_n 1, 1) := by decide +kernel
theorem dX3_multiplier_12 : decode cX3_multiplier 12 = .ok (.invokevirtual 51, 3) := by decide +kernel
theorem dX3_multiplier_15 : decode cX3_multiplier 15 = .ok (.ifCond .eq 10, 3) := by decide +kernel
theorem dX3_multiplier_18 : decode cX3_multiplier 18 = .ok (.iload_n 2, 1) := by decide +kernel
theorem dX3_multiplier_19 : decode cX3_multiplier 19 = .ok (.invokestatic 102, 3) := by decide +kernel
theorem dX3_multiplier_22 : decode cX3_multiplier 22 = .ok (.ifCond .ne 5, 3) := by decide +kernel
theorem dX3_multiplier_25 : decode cX3_multiplier 25 = .ok (.lconst 0, 1) := by decide +kernel
theorem dX3_multiplier_26 : decode cX3_multiplier 26 = .ok (.lreturn, 1) := by decide +kernel
theorem dX3_multiplier_27 : decode cX3_multiplier 27 = .ok (.aload_n 0, 1) := by decide +kernel
theorem dX3_multiplier_28 : decode cX3_multiplier 28 = .ok (.iload_n 1, 1) := by decide +kernel
theorem dX3_multiplier_29 : decode cX3_multiplier 29 = .ok (.invokevirtual 122, 3) := by decide +kernel
theorem dX3_multiplier_32 : decode cX3_multiplier 32 = .ok (.aload_n 0, 1) := by decide +kernel
theorem dX3_multiplier_33 : decode cX3_multiplier 33 = .ok (.invokevirtual 126, 3) := by decide +kernel
theorem dX3_multiplier_36 : decode cX3_multiplier 36 = .ok (.iload_n 2, 1) := by decide +kernel
theorem dX3_multiplier_37 : decode cX3_multiplier 37 = .ok (.invokestatic 113, 3) := by decide +kernel
theorem dX3_multiplier_40 : decode cX3_multiplier 40 = .ok (.lreturn, 1) := by decide +kernel
set_option maxRecDepth 20000 in
theorem ggX3_lies_X0_has : GoodIn wsX3_lies wsX0_has := goodIn_r _ [6, 7, 45, 46, 47, 48, 49] (by decide +kernel) (by decide +kernel)
set_option maxRecDepth 20000 in
theorem gX3_lies_X0_has : GoodIn wsX3_lies (wsV RX3 51 RX0 yX0_has wsX0_has) := goodIn_app (goodIn_of _ (by decide +kernel)) ggX3_lies_X0_has
set_option maxRecDepth 20000 in
theorem ggX3_lies_X3_isDone : GoodIn wsX3_lies wsX3_isDone := goodIn_r _ [12, 13, 14, 41, 42, 43, 44, 50, 51, 52, 53, 54, 55, 56, 57, 58] (by decide +kernel) (by decide +kernel)
set_option maxRecDepth 20000 in
theorem gX3_lies_X3_isDone : GoodIn wsX3_lies (wsV RX3 119 RX3 yX3_isDone wsX3_isDone) := goodIn_app (goodIn_of _ (by decide +kernel)) ggX3_lies_X3_isDone
set_option maxRecDepth 20000 in
theorem ggX3_lies_X3_placeInBox : GoodIn wsX3_lies wsX3_placeInBox := goodIn_r _ [18, 19, 20, 21, 11, 22, 13, 23, 24, 25, 26, 27, 28, 29, 30, 31, 32, 33, 34, 35, 36, 37, 38, 39, 40, 41, 42, 43, 44, 50, 51, 52, 53, 54, 55, 56, 57, 58] (by decide +kernel) (by decide +kernel)
set_option maxRecDepth 20000 in
theorem gX3_lies_X3_placeInBox : GoodIn wsX3_lies (wsV RX3 130 RX3 yX3_placeInBox wsX3_placeInBox) := goodIn_app (goodIn_of _ (by decide +kernel)) ggX3_lies_X3_placeInBox
theorem dX3_lies_0 : decode cX3_lies 0 = .ok (.aload_n 0, 1) := by decide +kernel
theorem dX3_lies_1 : decode cX3_lies 1 = .ok (.getfield 10, 3) := by decide +kernel
theorem dX3_lies_4 : decode cX3_lies 4 = .ok (.iload_n 1, 1) := by decide +kernel
theorem dX3_lies_5 : decode cX3_lies 5 = .ok (.invokevirtual 51, 3) := by decide +kernel
theorem dX3_lies_8 : decode cX3_lies 8 = .ok (.ifCond .ne 6, 3) := by decide +kernel
theorem dX3_lies_11 : decode cX3_lies 11 = .ok (.bipush (-2), 2) := by decide +kernel
theorem dX3_lies_13 : decode cX3_lies 13 = .ok (.ireturn, 1) := by decide +kernel
theorem dX3_lies_14 : decode cX3_lies 14 = .ok (.aload_n 0, 1) := by decide +kernel
theorem dX3_lies_15 : decode cX3_lies 15 = .ok (.invokevirtual 119, 3) := by decide +kernel
theorem dX3_lies_18 : decode cX3_lies 18 = .ok (.ifCond .eq 11, 3) := by decide +kernel
theorem dX3_lies_21 : decode cX3_lies 21 = .ok (.aload_n 0, 1) := by decide +kernel
theorem dX3_lies_22 : decode cX3_lies 22 = .ok (.iload_n 1, 1) := by decide +kernel
theorem dX3_lies_23 : decode cX3_lies 23 = .ok (.invokevirtual 130, 3) := by decide +kernel
theorem dX3_lies_26 : decode cX3_lies 26 = .ok (.goto 4, 3) := by decide +kernel
theorem dX3_lies_29 : decode cX3_lies 29 = .ok (.iconst (-1), 1) := by decide +kernel
theorem dX3_lies_30 : decode cX3_lies 30 = .ok (.ireturn, 1) := by decide +kernel
set_option maxRecDepth 20000 in
theorem ggX3_slope_X3_isDone : GoodIn wsX3_slope wsX3_isDone := goodIn_r _ [6, 7, 8, 68, 69, 70, 71, 72, 73, 74, 75, 76, 77, 78, 79, 80] (by decide +kernel) (by decide +kernel)
set_option maxRecDepth 20000 in
theorem gX3_slope_X3_isDone : GoodIn wsX3_slope (wsV RX3 119 RX3 yX3_isDone wsX3_isDone) := goodIn_app (goodIn_of _ (by decide +kernel)) ggX3_slope_X3_isDone
set_option maxRecDepth 20000 in
theorem ggX3_slope_X0_has : GoodIn wsX3_slope wsX0_has := goodIn_r _ [13, 14, 81, 82, 83, 84, 85] (by decide +kernel) (by decide +kernel)
set_option maxRecDepth 20000 in
theorem gX3_slope_X0_has : GoodIn wsX3_slope (wsV RX3 51 RX0 yX0_has wsX0_has) := goodIn_app (goodIn_of _ (by decide +kernel)) ggX3_slope_X0_has
set_option maxRecDepth 20000 in
theorem ggX3_slope_X3_isPart : GoodIn wsX3_slope wsX3_isPart := goodIn_r _ [17] (by decide +kernel) (by decide +kernel)
set_option maxRecDepth 20000 in
theorem gX3_slope_X3_isPart : GoodIn wsX3_slope (va_wsS RX3 102 yX3_isPart wsX3_isPart) := goodIn_app (goodIn_of _ (by decide +kernel)) ggX3_slope_X3_isPart
set_option maxRecDepth 20000 in
theorem ggX3_slope_X3_slopeShare : GoodIn wsX3_slope wsX3_slopeShare := goodIn_r _ [21, 1, 22, 23, 24, 25, 5, 26, 7, 27, 28, 29, 30, 31, 12, 32, 33, 34, 35, 36, 37, 38, 39, 40, 41, 42, 43, 44, 45, 46, 47, 48, 49, 50, 51, 52, 53, 54, 55, 56, 68, 69, 70, 71, 81, 82, 83, 84, 85, 72, 73, 74, 75, 76, 77, 78, 79, 80] (by decide +kernel) (by decide +kernel)
set_option maxRecDepth 20000 in
theorem gX3_slope_X3_slopeShare : GoodIn wsX3_slope (wsV RX3 133 RX3 yX3_slopeShare wsX3_slopeShare) := goodIn_app (goodIn_of _ (by decide +kernel)) ggX3_slope_X3_slopeShare
set_option maxRecDepth 20000 in
theorem ggX3_slope_X3_shareBase : GoodIn wsX3_slope wsX3_shareBase := goodIn_r _ [26, 7, 27, 28, 68, 69, 70, 71, 72, 73, 74, 75, 76, 77, 78, 79, 80] (by decide +kernel) (by decide +kernel)
set_option maxRecDepth 20000 in
theorem gX3_slope_X3_shareBase : GoodIn wsX3_slope (wsV RX3 126 RX3 yX3_shareBase wsX3_shareBase) := goodIn_app (goodIn_of _ (by decide +kernel)) ggX3_slope_X3_shareBase
set_option maxRecDepth 20000 in
theorem ggX3_slope_X2_part : GoodIn wsX3_slope wsX2_part := goodIn_r _ [60, 61, 62, 63, 64, 65, 66, 59, 67] (by decide +kernel) (by decide +kernel)
set_option maxRecDepth 20000 in
theorem gX3_slope_X2_part : GoodIn wsX3_slope (va_wsS RX3 113 yX2_part wsX2_part) := goodIn_app (goodIn_of _ (by decide +kernel)) ggX3_slope_X2_part
theorem dX3_slope_0 : decode cX3_slope 0 = .ok (.aload_n 0, 1) := by decide +kernel
theorem dX3_slope_1 : decode cX3_slope 1 = .ok (.invokevirtual 119, 3) := by decide +kernel
theorem dX3_slope_4 : decode cX3_slope 4 = .ok (.ifCond .eq 21, 3) := by decide +kernel
theorem dX3_slope_7 : decode cX3_slope 7 = .ok (.aload_n 0, 1) := by decide +kernel
theorem dX3_slope_8 : decode cX3_slope 8 = .ok (.getfield 10, 3) := by decide +kernel
theorem dX3_slope_11 : decode cX3_slope 11 = .ok (.iload_n 1, 1) := by decide +kernel
theorem dX3_slope_12 : decode cX3_slope 12 = .ok (.invokevirtual 51, 3) := by decide +kernel
theorem dX3_slope_15 : decode cX3_slope 15 = .ok (.ifCond .eq 10, 3) := by decide +kernel
theorem dX3_slope_18 : decode cX3_slope 18 = .ok (.iload_n 2, 1) := by decide +kernel
theorem dX3_slope_19 : decode cX3_slope 19 = .ok (.invokestatic 102, 3) := by decide +kernel
theorem dX3_slope_22 : decode cX3_slope 22 = .ok (.ifCond .ne 5, 3) := by decide +kernel
theorem dX3_slope_25 : decode cX3_slope 25 = .ok (.lconst 0, 1) := by decide +kernel
theorem dX3_slope_26 : decode cX3_slope 26 = .ok (.lreturn, 1) := by decide +kernel
theorem dX3_slope_27 : decode cX3_slope 27 = .ok (.aload_n 0, 1) := by decide +kernel
theorem dX3_slope_28 : decode cX3_slope 28 = .ok (.iload_n 1, 1) := by decide +kernel
theorem dX3_slope_29 : decode cX3_slope 29 = .ok (.invokevirtual 133, 3) := by decide +kernel
theorem dX3_slope_32 : decode cX3_slope 32 = .ok (.aload_n 0, 1) := by decide +kernel
theorem dX3_slope_33 : decode cX3_slope 33 = .ok (.invokevirtual 126, 3) := by decide +kernel
theorem dX3_slope_36 : decode cX3_slope 36 = .ok (.iload_n 2, 1) := by decide +kernel
theorem dX3_slope_37 : decode cX3_slope 37 = .ok (.invokestatic 113, 3) := by decide +kernel
theorem dX3_slope_40 : decode cX3_slope 40 = .ok (.lreturn, 1) := by decide +kernel
set_option maxRecDepth 20000 in
theorem ggX3_check_X3_isDone : GoodIn wsX3_check wsX3_isDone := goodIn_r _ [7, 8, 9, 62, 63, 64, 65, 71, 72, 73, 74, 75, 76, 77, 78, 79] (by decide +kernel) (by decide +kernel)
set_option maxRecDepth 20000 in
theorem gX3_check_X3_isDone : GoodIn wsX3_check (wsV RX3 119 RX3 yX3_isDone wsX3_isDone) := goodIn_app (goodIn_of _ (by decide +kernel)) ggX3_check_X3_isDone
set_option maxRecDepth 20000 in
theorem ggX3_check_X3_holdsCondition : GoodIn wsX3_check wsX3_holdsCondition := goodIn_r _ [13, 14, 15, 16, 6, 17, 1, 2, 18, 19, 20, 21, 8, 22, 23, 24, 25, 26, 27, 28, 29, 30, 31, 32, 33, 34, 35, 36, 37, 38, 39, 40, 41, 42, 43, 44, 45, 46, 47, 48, 49, 50, 51, 52, 53, 54, 55, 56, 57, 58, 59, 60, 61, 62, 63, 64, 65, 66, 67, 68, 69, 70, 71, 72, 73, 74, 75, 76, 77, 78, 79] (by decide +kernel) (by decide +kernel)
set_option maxRecDepth 20000 in
theorem gX3_check_X3_holdsCondition : GoodIn wsX3_check (wsV RX3 136 RX3 yX3_holdsCondition wsX3_holdsCondition) := goodIn_app (goodIn_of _ (by decide +kernel)) ggX3_check_X3_holdsCondition
theorem dX3_check_0 : decode cX3_check 0 = .ok (.aload_n 0, 1) := by decide +kernel
theorem dX3_check_1 : decode cX3_check 1 = .ok (.invokevirtual 119, 3) := by decide +kernel
theorem dX3_check_4 : decode cX3_check 4 = .ok (.ifCond .ne 6, 3) := by decide +kernel
theorem dX3_check_7 : decode cX3_check 7 = .ok (.bipush (-3), 2) := by decide +kernel
theorem dX3_check_9 : decode cX3_check 9 = .ok (.ireturn, 1) := by decide +kernel
theorem dX3_check_10 : decode cX3_check 10 = .ok (.iconst 0, 1) := by decide +kernel
theorem dX3_check_11 : decode cX3_check 11 = .ok (.istore_n 1, 1) := by decide +kernel
theorem dX3_check_12 : decode cX3_check 12 = .ok (.iload_n 1, 1) := by decide +kernel
theorem dX3_check_13 : decode cX3_check 13 = .ok (.aload_n 0, 1) := by decide +kernel
theorem dX3_check_14 : decode cX3_check 14 = .ok (.getfield 10, 3) := by decide +kernel
theorem dX3_check_17 : decode cX3_check 17 = .ok (.getfield 34, 3) := by decide +kernel
theorem dX3_check_20 : decode cX3_check 20 = .ok (.if_icmp .ge 19, 3) := by decide +kernel
theorem dX3_check_23 : decode cX3_check 23 = .ok (.aload_n 0, 1) := by decide +kernel
theorem dX3_check_24 : decode cX3_check 24 = .ok (.iload_n 1, 1) := by decide +kernel
theorem dX3_check_25 : decode cX3_check 25 = .ok (.invokevirtual 136, 3) := by decide +kernel
theorem dX3_check_28 : decode cX3_check 28 = .ok (.ifCond .ne 5, 3) := by decide +kernel
theorem dX3_check_31 : decode cX3_check 31 = .ok (.iconst 0, 1) := by decide +kernel
theorem dX3_check_32 : decode cX3_check 32 = .ok (.ireturn, 1) := by decide +kernel
theorem dX3_check_33 : decode cX3_check 33 = .ok (.iinc 1 1, 3) := by decide +kernel
theorem dX3_check_36 : decode cX3_check 36 = .ok (.goto (-24), 3) := by decide +kernel
theorem dX3_check_39 : decode cX3_check 39 = .ok (.iconst 1, 1) := by decide +kernel
theorem dX3_check_40 : decode cX3_check 40 = .ok (.ireturn, 1) := by decide +kernel
set_option maxRecDepth 20000 in
theorem ggX3_change_X0_has : GoodIn wsX3_change wsX0_has := goodIn_r _ [6, 7, 71, 72, 73, 74, 75] (by decide +kernel) (by decide +kernel)
set_option maxRecDepth 20000 in
theorem gX3_change_X0_has : GoodIn wsX3_change (wsV RX3 51 RX0 yX0_has wsX0_has) := goodIn_app (goodIn_of _ (by decide +kernel)) ggX3_change_X0_has
set_option maxRecDepth 20000 in
theorem ggX3_change_X3_isInBox : GoodIn wsX3_change wsX3_isInBox := goodIn_r _ [12, 13, 14, 67, 68, 69, 70] (by decide +kernel) (by decide +kernel)
set_option maxRecDepth 20000 in
theorem gX3_change_X3_isInBox : GoodIn wsX3_change (wsV RX3 139 RX3 yX3_isInBox wsX3_isInBox) := goodIn_app (goodIn_of _ (by decide +kernel)) ggX3_change_X3_isInBox
set_option maxRecDepth 20000 in
theorem ggX3_change_X3_isDone : GoodIn wsX3_change wsX3_isDone := goodIn_r _ [18, 19, 20, 67, 68, 69, 70, 76, 77, 78, 79, 80, 81, 82, 83, 84] (by decide +kernel) (by decide +kernel)
set_option maxRecDepth 20000 in
theorem gX3_change_X3_isDone : GoodIn wsX3_change (wsV RX3 119 RX3 yX3_isDone wsX3_isDone) := goodIn_app (goodIn_of _ (by decide +kernel)) ggX3_change_X3_isDone
set_option maxRecDepth 20000 in
theorem ggX3_change_X3_worthSign : GoodIn wsX3_change wsX3_worthSign := goodIn_r _ [24, 1, 25, 26, 27, 11, 28, 19, 29, 13, 30, 31, 32, 33, 34, 35, 36, 37, 38, 39, 40, 41, 42, 43, 44, 45, 46, 47, 48, 49, 50, 51, 52, 53, 5, 54, 55, 56, 57, 58, 59, 60, 61, 62, 63, 64, 65, 66, 67, 68, 69, 70, 76, 77, 78, 79, 80, 81, 82, 83, 84, 71, 72, 73, 74, 75] (by decide +kernel) (by decide +kernel)
set_option maxRecDepth 20000 in
theorem gX3_change_X3_worthSign : GoodIn wsX3_change (wsV RX3 142 RX3 yX3_worthSign wsX3_worthSign) := goodIn_app (goodIn_of _ (by decide +kernel)) ggX3_change_X3_worthSign
theorem dX3_change_0 : decode cX3_change 0 = .ok (.aload_n 0, 1) := by decide +kernel
theorem dX3_change_1 : decode cX3_change 1 = .ok (.getfield 10, 3) := by decide +kernel
theorem dX3_change_4 : decode cX3_change 4 = .ok (.iload_n 1, 1) := by decide +kernel
theorem dX3_change_5 : decode cX3_change 5 = .ok (.invokevirtual 51, 3) := by decide +kernel
theorem dX3_change_8 : decode cX3_change 8 = .ok (.ifCond .eq 12, 3) := by decide +kernel
theorem dX3_change_11 : decode cX3_change 11 = .ok (.aload_n 0, 1) := by decide +kernel
theorem dX3_change_12 : decode cX3_change 12 = .ok (.iload_n 2, 1) := by decide +kernel
theorem dX3_change_13 : decode cX3_change 13 = .ok (.iload_n 3, 1) := by decide +kernel
theorem dX3_change_14 : decode cX3_change 14 = .ok (.invokevirtual 139, 3) := by decide +kernel
theorem dX3_change_17 : decode cX3_change 17 = .ok (.ifCond .ne 6, 3) := by decide +kernel
theorem dX3_change_20 : decode cX3_change 20 = .ok (.bipush (-2), 2) := by decide +kernel
theorem dX3_change_22 : decode cX3_change 22 = .ok (.ireturn, 1) := by decide +kernel
theorem dX3_change_23 : decode cX3_change 23 = .ok (.aload_n 0, 1) := by decide +kernel
theorem dX3_change_24 : decode cX3_change 24 = .ok (.invokevirtual 119, 3) := by decide +kernel
theorem dX3_change_27 : decode cX3_change 27 = .ok (.ifCond .eq 13, 3) := by decide +kernel
theorem dX3_change_30 : decode cX3_change 30 = .ok (.aload_n 0, 1) := by decide +kernel
theorem dX3_change_31 : decode cX3_change 31 = .ok (.iload_n 1, 1) := by decide +kernel
theorem dX3_change_32 : decode cX3_change 32 = .ok (.iload_n 2, 1) := by decide +kernel
theorem dX3_change_33 : decode cX3_change 33 = .ok (.iload_n 3, 1) := by decide +kernel
theorem dX3_change_34 : decode cX3_change 34 = .ok (.invokevirtual 142, 3) := by decide +kernel
theorem dX3_change_37 : decode cX3_change 37 = .ok (.goto 5, 3) := by decide +kernel
theorem dX3_change_40 : decode cX3_change 40 = .ok (.bipush (-3), 2) := by decide +kernel
theorem dX3_change_42 : decode cX3_change 42 = .ok (.ireturn, 1) := by decide +kernel
set_option maxRecDepth 20000 in
theorem ggX3_decision_X3_isDone : GoodIn wsX3_decision wsX3_isDone := goodIn_r _ [5, 6, 7, 62, 63, 64, 65, 66, 67, 68, 69, 70, 71, 72, 73, 74] (by decide +kernel) (by decide +kernel)
set_option maxRecDepth 20000 in
theorem gX3_decision_X3_isDone : GoodIn wsX3_decision (wsV RX3 119 RX3 yX3_isDone wsX3_isDone) := goodIn_app (goodIn_of _ (by decide +kernel)) ggX3_decision_X3_isDone
set_option maxRecDepth 20000 in
theorem ggX3_decision_X0_isPlace : GoodIn wsX3_decision wsX0_isPlace := goodIn_r _ [11] (by decide +kernel) (by decide +kernel)
set_option maxRecDepth 20000 in
theorem gX3_decision_X0_isPlace : GoodIn wsX3_decision (va_wsS RX3 30 yX0_isPlace wsX0_isPlace) := goodIn_app (goodIn_of _ (by decide +kernel)) ggX3_decision_X0_isPlace
set_option maxRecDepth 20000 in
theorem ggX3_decision_X3_isPart : GoodIn wsX3_decision wsX3_isPart := goodIn_r _ [14] (by decide +kernel) (by decide +kernel)
set_option maxRecDepth 20000 in
theorem gX3_decision_X3_isPart : GoodIn wsX3_decision (va_wsS RX3 102 yX3_isPart wsX3_isPart) := goodIn_app (goodIn_of _ (by decide +kernel)) ggX3_decision_X3_isPart
set_option maxRecDepth 20000 in
theorem ggX3_decision_X3_decisionShare : GoodIn wsX3_decision wsX3_decisionShare := goodIn_r _ [18, 19, 20, 21, 22, 23, 24, 4, 25, 6, 26, 27, 28, 29, 30, 31, 32, 33, 34, 35, 36, 37, 38, 39, 40, 10, 41, 42, 43, 44, 62, 63, 64, 65, 75, 76, 77, 78, 79, 66, 67, 68, 69, 70, 71, 72, 73, 74] (by decide +kernel) (by decide +kernel)
set_option maxRecDepth 20000 in
theorem gX3_decision_X3_decisionShare : GoodIn wsX3_decision (wsV RX3 146 RX3 yX3_decisionShare wsX3_decisionShare) := goodIn_app (goodIn_of _ (by decide +kernel)) ggX3_decision_X3_decisionShare
set_option maxRecDepth 20000 in
theorem ggX3_decision_X3_shareBase : GoodIn wsX3_decision wsX3_shareBase := goodIn_r _ [48, 6, 49, 50, 62, 63, 64, 65, 66, 67, 68, 69, 70, 71, 72, 73, 74] (by decide +kernel) (by decide +kernel)
set_option maxRecDepth 20000 in
theorem gX3_decision_X3_shareBase : GoodIn wsX3_decision (wsV RX3 126 RX3 yX3_shareBase wsX3_shareBase) := goodIn_app (goodIn_of _ (by decide +kernel)) ggX3_decision_X3_shareBase
set_option maxRecDepth 20000 in
theorem ggX3_decision_X2_part : GoodIn wsX3_decision wsX2_part := goodIn_r _ [54, 55, 56, 57, 58, 59, 60, 53, 61] (by decide +kernel) (by decide +kernel)
set_option maxRecDepth 20000 in
theorem gX3_decision_X2_part : GoodIn wsX3_decision (va_wsS RX3 113 yX2_part wsX2_part) := goodIn_app (goodIn_of _ (by decide +kernel)) ggX3_decision_X2_part
theorem dX3_decision_0 : decode cX3_decision 0 = .ok (.aload_n 0, 1) := by decide +kernel
theorem dX3_decision_1 : decode cX3_decision 1 = .ok (.invokevirtual 119, 3) := by decide +kernel
theorem dX3_decision_4 : decode cX3_decision 4 = .ok (.ifCond .eq 18, 3) := by decide +kernel
theorem dX3_decision_7 : decode cX3_decision 7 = .ok (.iload_n 1, 1) := by decide +kernel
theorem dX3_decision_8 : decode cX3_decision 8 = .ok (.iload_n 2, 1) := by decide +kernel
theorem dX3_decision_9 : decode cX3_decision 9 = .ok (.invokestatic 30, 3) := by decide +kernel
theorem dX3_decision_12 : decode cX3_decision 12 = .ok (.ifCond .eq 10, 3) := by decide +kernel
theorem dX3_decision_15 : decode cX3_decision 15 = .ok (.iload_n 3, 1) := by decide +kernel
theorem dX3_decision_16 : decode cX3_decision 16 = .ok (.invokestatic 102, 3) := by decide +kernel
theorem dX3_decision_19 : decode cX3_decision 19 = .ok (.ifCond .ne 5, 3) := by decide +kernel
theorem dX3_decision_22 : decode cX3_decision 22 = .ok (.lconst 0, 1) := by decide +kernel
theorem dX3_decision_23 : decode cX3_decision 23 = .ok (.lreturn, 1) := by decide +kernel
theorem dX3_decision_24 : decode cX3_decision 24 = .ok (.aload_n 0, 1) := by decide +kernel
theorem dX3_decision_25 : decode cX3_decision 25 = .ok (.iload_n 1, 1) := by decide +kernel
theorem dX3_decision_26 : decode cX3_decision 26 = .ok (.iload_n 2, 1) := by decide +kernel
theorem dX3_decision_27 : decode cX3_decision 27 = .ok (.invokevirtual 146, 3) := by decide +kernel
theorem dX3_decision_30 : decode cX3_decision 30 = .ok (.aload_n 0, 1) := by decide +kernel
theorem dX3_decision_31 : decode cX3_decision 31 = .ok (.invokevirtual 126, 3) := by decide +kernel
theorem dX3_decision_34 : decode cX3_decision 34 = .ok (.iload_n 3, 1) := by decide +kernel
theorem dX3_decision_35 : decode cX3_decision 35 = .ok (.invokestatic 113, 3) := by decide +kernel
theorem dX3_decision_38 : decode cX3_decision 38 = .ok (.lreturn, 1) := by decide +kernel
set_option maxRecDepth 20000 in
theorem ggX3_predict_X0_isPlace : GoodIn wsX3_predict wsX0_isPlace := goodIn_r _ [4] (by decide +kernel) (by decide +kernel)
set_option maxRecDepth 20000 in
theorem gX3_predict_X0_isPlace : GoodIn wsX3_predict (va_wsS RX3 30 yX0_isPlace wsX0_isPlace) := goodIn_app (goodIn_of _ (by decide +kernel)) ggX3_predict_X0_isPlace
set_option maxRecDepth 20000 in
theorem ggX3_predict_X3_isDone : GoodIn wsX3_predict wsX3_isDone := goodIn_r _ [9, 10, 11, 46, 47, 48, 49, 50, 51, 52, 53, 54, 55, 56, 57, 58] (by decide +kernel) (by decide +kernel)
set_option maxRecDepth 20000 in
theorem gX3_predict_X3_isDone : GoodIn wsX3_predict (wsV RX3 119 RX3 yX3_isDone wsX3_isDone) := goodIn_app (goodIn_of _ (by decide +kernel)) ggX3_predict_X3_isDone
set_option maxRecDepth 20000 in
theorem ggX3_predict_X3_decisionShare : GoodIn wsX3_predict wsX3_decisionShare := goodIn_r _ [15, 16, 17, 18, 19, 20, 21, 8, 22, 10, 23, 24, 25, 26, 27, 28, 29, 30, 31, 32, 33, 34, 35, 36, 37, 3, 38, 39, 40, 41, 46, 47, 48, 49, 59, 60, 61, 62, 63, 50, 51, 52, 53, 54, 55, 56, 57, 58] (by decide +kernel) (by decide +kernel)
set_option maxRecDepth 20000 in
theorem gX3_predict_X3_decisionShare : GoodIn wsX3_predict (wsV RX3 146 RX3 yX3_decisionShare wsX3_decisionShare) := goodIn_app (goodIn_of _ (by decide +kernel)) ggX3_predict_X3_decisionShare
set_option maxRecDepth 20000 in
theorem ggX3_predict_J13_signum_95d88 : GoodIn wsX3_predict wsJ13_signum_95d88 := goodIn_r _ [45] (by decide +kernel) (by decide +kernel)
set_option maxRecDepth 20000 in
theorem gX3_predict_J13_signum_95d88 : GoodIn wsX3_predict (va_wsS RX3 150 yJ13_signum_95d88 wsJ13_signum_95d88) := goodIn_app (goodIn_of _ (by decide +kernel)) ggX3_predict_J13_signum_95d88
theorem dX3_predict_0 : decode cX3_predict 0 = .ok (.iload_n 1, 1) := by decide +kernel
theorem dX3_predict_1 : decode cX3_predict 1 = .ok (.iload_n 2, 1) := by decide +kernel
theorem dX3_predict_2 : decode cX3_predict 2 = .ok (.invokestatic 30, 3) := by decide +kernel
theorem dX3_predict_5 : decode cX3_predict 5 = .ok (.ifCond .ne 6, 3) := by decide +kernel
theorem dX3_predict_8 : decode cX3_predict 8 = .ok (.bipush (-2), 2) := by decide +kernel
theorem dX3_predict_10 : decode cX3_predict 10 = .ok (.ireturn, 1) := by decide +kernel
theorem dX3_predict_11 : decode cX3_predict 11 = .ok (.aload_n 0, 1) := by decide +kernel
theorem dX3_predict_12 : decode cX3_predict 12 = .ok (.invokevirtual 119, 3) := by decide +kernel
theorem dX3_predict_15 : decode cX3_predict 15 = .ok (.ifCond .eq 15, 3) := by decide +kernel
theorem dX3_predict_18 : decode cX3_predict 18 = .ok (.aload_n 0, 1) := by decide +kernel
theorem dX3_predict_19 : decode cX3_predict 19 = .ok (.iload_n 1, 1) := by decide +kernel
theorem dX3_predict_20 : decode cX3_predict 20 = .ok (.iload_n 2, 1) := by decide +kernel
theorem dX3_predict_21 : decode cX3_predict 21 = .ok (.invokevirtual 146, 3) := by decide +kernel
theorem dX3_predict_24 : decode cX3_predict 24 = .ok (.invokestatic 150, 3) := by decide +kernel
theorem dX3_predict_27 : decode cX3_predict 27 = .ok (.goto 5, 3) := by decide +kernel
theorem dX3_predict_30 : decode cX3_predict 30 = .ok (.bipush (-3), 2) := by decide +kernel
theorem dX3_predict_32 : decode cX3_predict 32 = .ok (.ireturn, 1) := by decide +kernel
set_option maxRecDepth 20000 in
theorem ggX3_count_X3_isDone : GoodIn wsX3_count wsX3_isDone := goodIn_r _ [13, 6, 8, 34, 35, 36, 37, 43, 44, 45, 46, 47, 48, 49, 50, 51] (by decide +kernel) (by decide +kernel)
set_option maxRecDepth 20000 in
theorem gX3_count_X3_isDone : GoodIn wsX3_count (wsV RX3 119 RX3 yX3_isDone wsX3_isDone) := goodIn_app (goodIn_of _ (by decide +kernel)) ggX3_count_X3_isDone
set_option maxRecDepth 20000 in
theorem ggX3_count_X3_supporters : GoodIn wsX3_count wsX3_supporters := goodIn_r _ [17, 1, 2, 18, 19, 20, 12, 21, 6, 22, 23, 24, 25, 26, 27, 28, 29, 30, 31, 32, 33, 34, 35, 36, 37, 38, 39, 40, 41, 42, 43, 44, 45, 46, 47, 48, 49, 50, 51] (by decide +kernel) (by decide +kernel)
set_option maxRecDepth 20000 in
theorem gX3_count_X3_supporters : GoodIn wsX3_count (wsV RX3 156 RX3 yX3_supporters wsX3_supporters) := goodIn_app (goodIn_of _ (by decide +kernel)) ggX3_count_X3_supporters
theorem dX3_count_0 : decode cX3_count 0 = .ok (.iload_n 1, 1) := by decide +kernel
theorem dX3_count_1 : decode cX3_count 1 = .ok (.tableswitch 101 0 6 #[43, 51, 59, 64, 69, 77, 85], 43) := by decide +kernel
theorem dX3_count_44 : decode cX3_count 44 = .ok (.aload_n 0, 1) := by decide +kernel
theorem dX3_count_45 : decode cX3_count 45 = .ok (.getfield 10, 3) := by decide +kernel
theorem dX3_count_48 : decode cX3_count 48 = .ok (.getfield 34, 3) := by decide +kernel
theorem dX3_count_51 : decode cX3_count 51 = .ok (.ireturn, 1) := by decide +kernel
theorem dX3_count_52 : decode cX3_count 52 = .ok (.aload_n 0, 1) := by decide +kernel
theorem dX3_count_53 : decode cX3_count 53 = .ok (.getfield 10, 3) := by decide +kernel
theorem dX3_count_56 : decode cX3_count 56 = .ok (.getfield 37, 3) := by decide +kernel
theorem dX3_count_59 : decode cX3_count 59 = .ok (.ireturn, 1) := by decide +kernel
theorem dX3_count_60 : decode cX3_count 60 = .ok (.aload_n 0, 1) := by decide +kernel
theorem dX3_count_61 : decode cX3_count 61 = .ok (.getfield 23, 3) := by decide +kernel
theorem dX3_count_64 : decode cX3_count 64 = .ok (.ireturn, 1) := by decide +kernel
theorem dX3_count_65 : decode cX3_count 65 = .ok (.aload_n 0, 1) := by decide +kernel
theorem dX3_count_66 : decode cX3_count 66 = .ok (.getfield 27, 3) := by decide +kernel
theorem dX3_count_69 : decode cX3_count 69 = .ok (.ireturn, 1) := by decide +kernel
theorem dX3_count_70 : decode cX3_count 70 = .ok (.aload_n 0, 1) := by decide +kernel
theorem dX3_count_71 : decode cX3_count 71 = .ok (.getfield 19, 3) := by decide +kernel
theorem dX3_count_74 : decode cX3_count 74 = .ok (.getfield 77, 3) := by decide +kernel
theorem dX3_count_77 : decode cX3_count 77 = .ok (.ireturn, 1) := by decide +kernel
theorem dX3_count_78 : decode cX3_count 78 = .ok (.aload_n 0, 1) := by decide +kernel
theorem dX3_count_79 : decode cX3_count 79 = .ok (.getfield 19, 3) := by decide +kernel
theorem dX3_count_82 : decode cX3_count 82 = .ok (.getfield 67, 3) := by decide +kernel
theorem dX3_count_85 : decode cX3_count 85 = .ok (.ireturn, 1) := by decide +kernel
theorem dX3_count_86 : decode cX3_count 86 = .ok (.aload_n 0, 1) := by decide +kernel
theorem dX3_count_87 : decode cX3_count 87 = .ok (.invokevirtual 119, 3) := by decide +kernel
theorem dX3_count_90 : decode cX3_count 90 = .ok (.ifCond .eq 10, 3) := by decide +kernel
theorem dX3_count_93 : decode cX3_count 93 = .ok (.aload_n 0, 1) := by decide +kernel
theorem dX3_count_94 : decode cX3_count 94 = .ok (.invokevirtual 156, 3) := by decide +kernel
theorem dX3_count_97 : decode cX3_count 97 = .ok (.goto 4, 3) := by decide +kernel
theorem dX3_count_100 : decode cX3_count 100 = .ok (.iconst (-1), 1) := by decide +kernel
theorem dX3_count_101 : decode cX3_count 101 = .ok (.ireturn, 1) := by decide +kernel
theorem dX3_count_102 : decode cX3_count 102 = .ok (.bipush (-2), 2) := by decide +kernel
theorem dX3_count_104 : decode cX3_count 104 = .ok (.ireturn, 1) := by decide +kernel
set_option maxRecDepth 20000 in
theorem ggX3_digest_X3_count : GoodIn wsX3_digest wsX3_count := goodIn_r _ [14, 3, 4, 15, 16, 17, 8, 9, 18, 19, 20, 21, 13, 22, 23, 24, 25, 26, 27, 28, 29, 30, 31, 32, 33, 34, 35, 36, 37, 38, 39, 40, 41, 42, 87, 88, 89, 90, 91, 92, 93, 94, 95, 96, 97, 98, 99, 100, 101, 102, 103, 104] (by decide +kernel) (by decide +kernel)
set_option maxRecDepth 20000 in
theorem gX3_digest_X3_count : GoodIn wsX3_digest (wsV RX3 164 RX3 yX3_count wsX3_count) := goodIn_app (goodIn_of _ (by decide +kernel)) ggX3_digest_X3_count
set_option maxRecDepth 20000 in
theorem ggX3_digest_X3_step : GoodIn wsX3_digest wsX3_step := goodIn_r _ [46, 8, 9, 47, 48, 49, 50, 51, 52, 34, 53, 36, 54, 55, 56, 57, 87, 88, 89, 90, 96, 97, 98, 99, 100, 101, 102, 103, 104] (by decide +kernel) (by decide +kernel)
set_option maxRecDepth 20000 in
theorem gX3_digest_X3_step : GoodIn wsX3_digest (wsV RX3 176 RX3 yX3_step wsX3_step) := goodIn_app (goodIn_of _ (by decide +kernel)) ggX3_digest_X3_step
set_option maxRecDepth 20000 in
theorem ggX3_digest_X3_multiplier : GoodIn wsX3_digest wsX3_multiplier := goodIn_r _ [61, 3, 19, 20, 21, 13, 22, 8, 18, 62, 63, 64, 65, 66, 67, 68, 69, 70, 27, 28, 29, 30, 31, 32, 33, 34, 35, 36, 37, 38, 39, 40, 41, 42, 71, 72, 73, 74, 75, 17, 76, 77, 78, 79, 80, 81, 82, 83, 84, 85, 86, 87, 88, 89, 90, 96, 97, 98, 99, 100, 101, 102, 103, 104, 91, 92, 93, 94, 95] (by decide +kernel) (by decide +kernel)
set_option maxRecDepth 20000 in
theorem gX3_digest_X3_multiplier : GoodIn wsX3_digest (wsV RX3 179 RX3 yX3_multiplier wsX3_multiplier) := goodIn_app (goodIn_of _ (by decide +kernel)) ggX3_digest_X3_multiplier
theorem dX3_digest_0 : decode cX3_digest 0 = .ok (.ldc2_w 160, 3) := by decide +kernel
theorem dX3_digest_3 : decode cX3_digest 3 = .ok (.lstore_n 1, 1) := by decide +kernel
theorem dX3_digest_4 : decode cX3_digest 4 = .ok (.iconst 0, 1) := by decide +kernel
theorem dX3_digest_5 : decode cX3_digest 5 = .ok (.istore_n 3, 1) := by decide +kernel
theorem dX3_digest_6 : decode cX3_digest 6 = .ok (.iload_n 3, 1) := by decide +kernel
theorem dX3_digest_7 : decode cX3_digest 7 = .ok (.bipush 7, 2) := by decide +kernel
theorem dX3_digest_9 : decode cX3_digest 9 = .ok (.if_icmp .ge 22, 3) := by decide +kernel
theorem dX3_digest_12 : decode cX3_digest 12 = .ok (.ldc2_w 162, 3) := by decide +kernel
theorem dX3_digest_15 : decode cX3_digest 15 = .ok (.lload_n 1, 1) := by decide +kernel
theorem dX3_digest_16 : decode cX3_digest 16 = .ok (.lmul, 1) := by decide +kernel
theorem dX3_digest_17 : decode cX3_digest 17 = .ok (.aload_n 0, 1) := by decide +kernel
theorem dX3_digest_18 : decode cX3_digest 18 = .ok (.iload_n 3, 1) := by decide +kernel
theorem dX3_digest_19 : decode cX3_digest 19 = .ok (.invokevirtual 164, 3) := by decide +kernel
theorem dX3_digest_22 : decode cX3_digest 22 = .ok (.i2l, 1) := by decide +kernel
theorem dX3_digest_23 : decode cX3_digest 23 = .ok (.ladd, 1) := by decide +kernel
theorem dX3_digest_24 : decode cX3_digest 24 = .ok (.lstore_n 1, 1) := by decide +kernel
theorem dX3_digest_25 : decode cX3_digest 25 = .ok (.iinc 3 1, 3) := by decide +kernel
theorem dX3_digest_28 : decode cX3_digest 28 = .ok (.goto (-22), 3) := by decide +kernel
theorem dX3_digest_31 : decode cX3_digest 31 = .ok (.iconst 0, 1) := by decide +kernel
theorem dX3_digest_32 : decode cX3_digest 32 = .ok (.istore_n 3, 1) := by decide +kernel
theorem dX3_digest_33 : decode cX3_digest 33 = .ok (.iload_n 3, 1) := by decide +kernel
theorem dX3_digest_34 : decode cX3_digest 34 = .ok (.aload_n 0, 1) := by decide +kernel
theorem dX3_digest_35 : decode cX3_digest 35 = .ok (.getfield 10, 3) := by decide +kernel
theorem dX3_digest_38 : decode cX3_digest 38 = .ok (.getfield 34, 3) := by decide +kernel
theorem dX3_digest_41 : decode cX3_digest 41 = .ok (.if_icmp .ge 60, 3) := by decide +kernel
theorem dX3_digest_44 : decode cX3_digest 44 = .ok (.ldc2_w 162, 3) := by decide +kernel
theorem dX3_digest_47 : decode cX3_digest 47 = .ok (.lload_n 1, 1) := by decide +kernel
theorem dX3_digest_48 : decode cX3_digest 48 = .ok (.lmul, 1) := by decide +kernel
theorem dX3_digest_49 : decode cX3_digest 49 = .ok (.aload_n 0, 1) := by decide +kernel
theorem dX3_digest_50 : decode cX3_digest 50 = .ok (.getfield 10, 3) := by decide +kernel
theorem dX3_digest_53 : decode cX3_digest 53 = .ok (.getfield 167, 3) := by decide +kernel
theorem dX3_digest_56 : decode cX3_digest 56 = .ok (.iload_n 3, 1) := by decide +kernel
theorem dX3_digest_57 : decode cX3_digest 57 = .ok (.iaload, 1) := by decide +kernel
theorem dX3_digest_58 : decode cX3_digest 58 = .ok (.i2l, 1) := by decide +kernel
theorem dX3_digest_59 : decode cX3_digest 59 = .ok (.ladd, 1) := by decide +kernel
theorem dX3_digest_60 : decode cX3_digest 60 = .ok (.lstore_n 1, 1) := by decide +kernel
theorem dX3_digest_61 : decode cX3_digest 61 = .ok (.ldc2_w 162, 3) := by decide +kernel
theorem dX3_digest_64 : decode cX3_digest 64 = .ok (.lload_n 1, 1) := by decide +kernel
theorem dX3_digest_65 : decode cX3_digest 65 = .ok (.lmul, 1) := by decide +kernel
theorem dX3_digest_66 : decode cX3_digest 66 = .ok (.aload_n 0, 1) := by decide +kernel
theorem dX3_digest_67 : decode cX3_digest 67 = .ok (.getfield 10, 3) := by decide +kernel
theorem dX3_digest_70 : decode cX3_digest 70 = .ok (.getfield 170, 3) := by decide +kernel
theorem dX3_digest_73 : decode cX3_digest 73 = .ok (.iload_n 3, 1) := by decide +kernel
theorem dX3_digest_74 : decode cX3_digest 74 = .ok (.iaload, 1) := by decide +kernel
theorem dX3_digest_75 : decode cX3_digest 75 = .ok (.i2l, 1) := by decide +kernel
theorem dX3_digest_76 : decode cX3_digest 76 = .ok (.ladd, 1) := by decide +kernel
theorem dX3_digest_77 : decode cX3_digest 77 = .ok (.lstore_n 1, 1) := by decide +kernel
theorem dX3_digest_78 : decode cX3_digest 78 = .ok (.ldc2_w 162, 3) := by decide +kernel
theorem dX3_digest_81 : decode cX3_digest 81 = .ok (.lload_n 1, 1) := by decide +kernel
theorem dX3_digest_82 : decode cX3_digest 82 = .ok (.lmul, 1) := by decide +kernel
theorem dX3_digest_83 : decode cX3_digest 83 = .ok (.aload_n 0, 1) := by decide +kernel
theorem dX3_digest_84 : decode cX3_digest 84 = .ok (.getfield 10, 3) := by decide +kernel
theorem dX3_digest_87 : decode cX3_digest 87 = .ok (.getfield 173, 3) := by decide +kernel
theorem dX3_digest_90 : decode cX3_digest 90 = .ok (.iload_n 3, 1) := by decide +kernel
theorem dX3_digest_91 : decode cX3_digest 91 = .ok (.iaload, 1) := by decide +kernel
theorem dX3_digest_92 : decode cX3_digest 92 = .ok (.i2l, 1) := by decide +kernel
theorem dX3_digest_93 : decode cX3_digest 93 = .ok (.ladd, 1) := by decide +kernel
theorem dX3_digest_94 : decode cX3_digest 94 = .ok (.lstore_n 1, 1) := by decide +kernel
theorem dX3_digest_95 : decode cX3_digest 95 = .ok (.iinc 3 1, 3) := by decide +kernel
theorem dX3_digest_98 : decode cX3_digest 98 = .ok (.goto (-65), 3) := by decide +kernel
theorem dX3_digest_101 : decode cX3_digest 101 = .ok (.iconst 0, 1) := by decide +kernel
theorem dX3_digest_102 : decode cX3_digest 102 = .ok (.istore_n 3, 1) := by decide +kernel
theorem dX3_digest_103 : decode cX3_digest 103 = .ok (.iload_n 3, 1) := by decide +kernel
theorem dX3_digest_104 : decode cX3_digest 104 = .ok (.aload_n 0, 1) := by decide +kernel
theorem dX3_digest_105 : decode cX3_digest 105 = .ok (.getfield 19, 3) := by decide +kernel
theorem dX3_digest_108 : decode cX3_digest 108 = .ok (.getfield 77, 3) := by decide +kernel
theorem dX3_digest_111 : decode cX3_digest 111 = .ok (.if_icmp .ge 39, 3) := by decide +kernel
theorem dX3_digest_114 : decode cX3_digest 114 = .ok (.iconst 0, 1) := by decide +kernel
theorem dX3_digest_115 : decode cX3_digest 115 = .ok (.istore 4, 2) := by decide +kernel
theorem dX3_digest_117 : decode cX3_digest 117 = .ok (.iload 4, 2) := by decide +kernel
theorem dX3_digest_119 : decode cX3_digest 119 = .ok (.iconst 2, 1) := by decide +kernel
theorem dX3_digest_120 : decode cX3_digest 120 = .ok (.if_icmp .gt 24, 3) := by decide +kernel
theorem dX3_digest_123 : decode cX3_digest 123 = .ok (.ldc2_w 162, 3) := by decide +kernel
theorem dX3_digest_126 : decode cX3_digest 126 = .ok (.lload_n 1, 1) := by decide +kernel
theorem dX3_digest_127 : decode cX3_digest 127 = .ok (.lmul, 1) := by decide +kernel
theorem dX3_digest_128 : decode cX3_digest 128 = .ok (.aload_n 0, 1) := by decide +kernel
theorem dX3_digest_129 : decode cX3_digest 129 = .ok (.iload_n 3, 1) := by decide +kernel
theorem dX3_digest_130 : decode cX3_digest 130 = .ok (.iload 4, 2) := by decide +kernel
theorem dX3_digest_132 : decode cX3_digest 132 = .ok (.invokevirtual 176, 3) := by decide +kernel
theorem dX3_digest_135 : decode cX3_digest 135 = .ok (.i2l, 1) := by decide +kernel
theorem dX3_digest_136 : decode cX3_digest 136 = .ok (.ladd, 1) := by decide +kernel
theorem dX3_digest_137 : decode cX3_digest 137 = .ok (.lstore_n 1, 1) := by decide +kernel
theorem dX3_digest_138 : decode cX3_digest 138 = .ok (.iinc 4 1, 3) := by decide +kernel
theorem dX3_digest_141 : decode cX3_digest 141 = .ok (.goto (-24), 3) := by decide +kernel
theorem dX3_digest_144 : decode cX3_digest 144 = .ok (.iinc 3 1, 3) := by decide +kernel
theorem dX3_digest_147 : decode cX3_digest 147 = .ok (.goto (-44), 3) := by decide +kernel
theorem dX3_digest_150 : decode cX3_digest 150 = .ok (.iconst 0, 1) := by decide +kernel
theorem dX3_digest_151 : decode cX3_digest 151 = .ok (.istore_n 3, 1) := by decide +kernel
theorem dX3_digest_152 : decode cX3_digest 152 = .ok (.iload_n 3, 1) := by decide +kernel
theorem dX3_digest_153 : decode cX3_digest 153 = .ok (.aload_n 0, 1) := by decide +kernel
theorem dX3_digest_154 : decode cX3_digest 154 = .ok (.getfield 10, 3) := by decide +kernel
theorem dX3_digest_157 : decode cX3_digest 157 = .ok (.getfield 34, 3) := by decide +kernel
theorem dX3_digest_160 : decode cX3_digest 160 = .ok (.if_icmp .ge 35, 3) := by decide +kernel
theorem dX3_digest_163 : decode cX3_digest 163 = .ok (.ldc2_w 162, 3) := by decide +kernel
theorem dX3_digest_166 : decode cX3_digest 166 = .ok (.lload_n 1, 1) := by decide +kernel
theorem dX3_digest_167 : decode cX3_digest 167 = .ok (.lmul, 1) := by decide +kernel
theorem dX3_digest_168 : decode cX3_digest 168 = .ok (.aload_n 0, 1) := by decide +kernel
theorem dX3_digest_169 : decode cX3_digest 169 = .ok (.iload_n 3, 1) := by decide +kernel
theorem dX3_digest_170 : decode cX3_digest 170 = .ok (.iconst 0, 1) := by decide +kernel
theorem dX3_digest_171 : decode cX3_digest 171 = .ok (.invokevirtual 179, 3) := by decide +kernel
theorem dX3_digest_174 : decode cX3_digest 174 = .ok (.ladd, 1) := by decide +kernel
theorem dX3_digest_175 : decode cX3_digest 175 = .ok (.lstore_n 1, 1) := by decide +kernel
theorem dX3_digest_176 : decode cX3_digest 176 = .ok (.ldc2_w 162, 3) := by decide +kernel
theorem dX3_digest_179 : decode cX3_digest 179 = .ok (.lload_n 1, 1) := by decide +kernel
theorem dX3_digest_180 : decode cX3_digest 180 = .ok (.lmul, 1) := by decide +kernel
theorem dX3_digest_181 : decode cX3_digest 181 = .ok (.aload_n 0, 1) := by decide +kernel
theorem dX3_digest_182 : decode cX3_digest 182 = .ok (.iload_n 3, 1) := by decide +kernel
theorem dX3_digest_183 : decode cX3_digest 183 = .ok (.iconst 1, 1) := by decide +kernel
theorem dX3_digest_184 : decode cX3_digest 184 = .ok (.invokevirtual 179, 3) := by decide +kernel
theorem dX3_digest_187 : decode cX3_digest 187 = .ok (.ladd, 1) := by decide +kernel
theorem dX3_digest_188 : decode cX3_digest 188 = .ok (.lstore_n 1, 1) := by decide +kernel
theorem dX3_digest_189 : decode cX3_digest 189 = .ok (.iinc 3 1, 3) := by decide +kernel
theorem dX3_digest_192 : decode cX3_digest 192 = .ok (.goto (-40), 3) := by decide +kernel
theorem dX3_digest_195 : decode cX3_digest 195 = .ok (.lload_n 1, 1) := by decide +kernel
theorem dX3_digest_196 : decode cX3_digest 196 = .ok (.lreturn, 1) := by decide +kernel
theorem dX3_isPart_0 : decode cX3_isPart 0 = .ok (.iload_n 0, 1) := by decide +kernel
theorem dX3_isPart_1 : decode cX3_isPart 1 = .ok (.ifCond .eq 8, 3) := by decide +kernel
theorem dX3_isPart_4 : decode cX3_isPart 4 = .ok (.iload_n 0, 1) := by decide +kernel
theorem dX3_isPart_5 : decode cX3_isPart 5 = .ok (.iconst 1, 1) := by decide +kernel
theorem dX3_isPart_6 : decode cX3_isPart 6 = .ok (.if_icmp .ne 7, 3) := by decide +kernel
theorem dX3_isPart_9 : decode cX3_isPart 9 = .ok (.iconst 1, 1) := by decide +kernel
theorem dX3_isPart_10 : decode cX3_isPart 10 = .ok (.goto 4, 3) := by decide +kernel
theorem dX3_isPart_13 : decode cX3_isPart 13 = .ok (.iconst 0, 1) := by decide +kernel
theorem dX3_isPart_14 : decode cX3_isPart 14 = .ok (.ireturn, 1) := by decide +kernel
theorem dX3_isDone_0 : decode cX3_isDone 0 = .ok (.aload_n 0, 1) := by decide +kernel
theorem dX3_isDone_1 : decode cX3_isDone 1 = .ok (.getfield 19, 3) := by decide +kernel
theorem dX3_isDone_4 : decode cX3_isDone 4 = .ok (.getfield 67, 3) := by decide +kernel
theorem dX3_isDone_7 : decode cX3_isDone 7 = .ok (.iconst 1, 1) := by decide +kernel
theorem dX3_isDone_8 : decode cX3_isDone 8 = .ok (.if_icmp .ne 7, 3) := by decide +kernel
theorem dX3_isDone_11 : decode cX3_isDone 11 = .ok (.iconst 1, 1) := by decide +kernel
theorem dX3_isDone_12 : decode cX3_isDone 12 = .ok (.goto 4, 3) := by decide +kernel
theorem dX3_isDone_15 : decode cX3_isDone 15 = .ok (.iconst 0, 1) := by decide +kernel
theorem dX3_isDone_16 : decode cX3_isDone 16 = .ok (.ireturn, 1) := by decide +kernel
set_option maxRecDepth 20000 in
theorem ggX3_share_X1_shareOfZ : GoodIn wsX3_share wsX1_shareOfZ := goodIn_r _ [6, 7, 8, 9, 10, 11, 12, 5, 13, 18, 19, 20, 21, 22, 23, 24, 25, 26] (by decide +kernel) (by decide +kernel)
set_option maxRecDepth 20000 in
theorem gX3_share_X1_shareOfZ : GoodIn wsX3_share (wsV RX3 182 RX1 yX1_shareOfZ wsX1_shareOfZ) := goodIn_app (goodIn_of _ (by decide +kernel)) ggX3_share_X1_shareOfZ
theorem dX3_share_0 : decode cX3_share 0 = .ok (.aload_n 0, 1) := by decide +kernel
theorem dX3_share_1 : decode cX3_share 1 = .ok (.getfield 19, 3) := by decide +kernel
theorem dX3_share_4 : decode cX3_share 4 = .ok (.iload_n 1, 1) := by decide +kernel
theorem dX3_share_5 : decode cX3_share 5 = .ok (.invokevirtual 182, 3) := by decide +kernel
theorem dX3_share_8 : decode cX3_share 8 = .ok (.lreturn, 1) := by decide +kernel
theorem dX3_shareBase_0 : decode cX3_shareBase 0 = .ok (.aload_n 0, 1) := by decide +kernel
theorem dX3_shareBase_1 : decode cX3_shareBase 1 = .ok (.getfield 19, 3) := by decide +kernel
theorem dX3_shareBase_4 : decode cX3_shareBase 4 = .ok (.getfield 109, 3) := by decide +kernel
theorem dX3_shareBase_7 : decode cX3_shareBase 7 = .ok (.aload_n 0, 1) := by decide +kernel
theorem dX3_shareBase_8 : decode cX3_shareBase 8 = .ok (.getfield 27, 3) := by decide +kernel
theorem dX3_shareBase_11 : decode cX3_shareBase 11 = .ok (.i2l, 1) := by decide +kernel
theorem dX3_shareBase_12 : decode cX3_shareBase 12 = .ok (.lmul, 1) := by decide +kernel
theorem dX3_shareBase_13 : decode cX3_shareBase 13 = .ok (.lreturn, 1) := by decide +kernel
theorem dX3_fullShare_0 : decode cX3_fullShare 0 = .ok (.aload_n 0, 1) := by decide +kernel
theorem dX3_fullShare_1 : decode cX3_fullShare 1 = .ok (.getfield 19, 3) := by decide +kernel
theorem dX3_fullShare_4 : decode cX3_fullShare 4 = .ok (.getfield 109, 3) := by decide +kernel
theorem dX3_fullShare_7 : decode cX3_fullShare 7 = .ok (.aload_n 0, 1) := by decide +kernel
theorem dX3_fullShare_8 : decode cX3_fullShare 8 = .ok (.getfield 23, 3) := by decide +kernel
theorem dX3_fullShare_11 : decode cX3_fullShare 11 = .ok (.i2l, 1) := by decide +kernel
theorem dX3_fullShare_12 : decode cX3_fullShare 12 = .ok (.lmul, 1) := by decide +kernel
theorem dX3_fullShare_13 : decode cX3_fullShare 13 = .ok (.lreturn, 1) := by decide +kernel
set_option maxRecDepth 20000 in
theorem ggX3_placeInBox_X3_share : GoodIn wsX3_placeInBox wsX3_share := goodIn_r _ [5, 6, 7, 8, 9, 10, 11, 12, 13, 14, 15, 16, 17, 18, 25, 26, 27, 28, 29, 30, 31, 32, 33, 34, 35, 36, 37] (by decide +kernel) (by decide +kernel)
set_option maxRecDepth 20000 in
theorem gX3_placeInBox_X3_share : GoodIn wsX3_placeInBox (wsV RX3 122 RX3 yX3_share wsX3_share) := goodIn_app (goodIn_of _ (by decide +kernel)) ggX3_placeInBox_X3_share
set_option maxRecDepth 20000 in
theorem ggX3_placeInBox_X3_fullShare : GoodIn wsX3_placeInBox wsX3_fullShare := goodIn_r _ [22, 6, 23, 24, 25, 26, 27, 28, 29, 30, 31, 32, 33, 34, 35, 36, 37] (by decide +kernel) (by decide +kernel)
set_option maxRecDepth 20000 in
theorem gX3_placeInBox_X3_fullShare : GoodIn wsX3_placeInBox (wsV RX3 185 RX3 yX3_fullShare wsX3_fullShare) := goodIn_app (goodIn_of _ (by decide +kernel)) ggX3_placeInBox_X3_fullShare
theorem dX3_placeInBox_0 : decode cX3_placeInBox 0 = .ok (.aload_n 0, 1) := by decide +kernel
theorem dX3_placeInBox_1 : decode cX3_placeInBox 1 = .ok (.iload_n 1, 1) := by decide +kernel
theorem dX3_placeInBox_2 : decode cX3_placeInBox 2 = .ok (.invokevirtual 122, 3) := by decide +kernel
theorem dX3_placeInBox_5 : decode cX3_placeInBox 5 = .ok (.lstore_n 2, 1) := by decide +kernel
theorem dX3_placeInBox_6 : decode cX3_placeInBox 6 = .ok (.lload_n 2, 1) := by decide +kernel
theorem dX3_placeInBox_7 : decode cX3_placeInBox 7 = .ok (.lconst 0, 1) := by decide +kernel
theorem dX3_placeInBox_8 : decode cX3_placeInBox 8 = .ok (.lcmp, 1) := by decide +kernel
theorem dX3_placeInBox_9 : decode cX3_placeInBox 9 = .ok (.ifCond .ne 5, 3) := by decide +kernel
theorem dX3_placeInBox_12 : decode cX3_placeInBox 12 = .ok (.iconst 0, 1) := by decide +kernel
theorem dX3_placeInBox_13 : decode cX3_placeInBox 13 = .ok (.ireturn, 1) := by decide +kernel
theorem dX3_placeInBox_14 : decode cX3_placeInBox 14 = .ok (.lload_n 2, 1) := by decide +kernel
theorem dX3_placeInBox_15 : decode cX3_placeInBox 15 = .ok (.aload_n 0, 1) := by decide +kernel
theorem dX3_placeInBox_16 : decode cX3_placeInBox 16 = .ok (.invokevirtual 185, 3) := by decide +kernel
theorem dX3_placeInBox_19 : decode cX3_placeInBox 19 = .ok (.lcmp, 1) := by decide +kernel
theorem dX3_placeInBox_20 : decode cX3_placeInBox 20 = .ok (.ifCond .ne 7, 3) := by decide +kernel
theorem dX3_placeInBox_23 : decode cX3_placeInBox 23 = .ok (.iconst 2, 1) := by decide +kernel
theorem dX3_placeInBox_24 : decode cX3_placeInBox 24 = .ok (.goto 4, 3) := by decide +kernel
theorem dX3_placeInBox_27 : decode cX3_placeInBox 27 = .ok (.iconst 1, 1) := by decide +kernel
theorem dX3_placeInBox_28 : decode cX3_placeInBox 28 = .ok (.ireturn, 1) := by decide +kernel
set_option maxRecDepth 20000 in
theorem ggX3_slopeShare_X3_shareBase : GoodIn wsX3_slopeShare wsX3_shareBase := goodIn_r _ [7, 8, 9, 10, 40, 41, 42, 43, 49, 50, 51, 52, 53, 54, 55, 56, 57] (by decide +kernel) (by decide +kernel)
set_option maxRecDepth 20000 in
theorem gX3_slopeShare_X3_shareBase : GoodIn wsX3_slopeShare (wsV RX3 126 RX3 yX3_shareBase wsX3_shareBase) := goodIn_app (goodIn_of _ (by decide +kernel)) ggX3_slopeShare_X3_shareBase
set_option maxRecDepth 20000 in
theorem ggX3_slopeShare_X0_product : GoodIn wsX3_slopeShare wsX0_product := goodIn_r _ [15, 16, 17, 18, 19, 20, 21, 14, 22, 23, 44, 45, 46, 47, 48] (by decide +kernel) (by decide +kernel)
set_option maxRecDepth 20000 in
theorem gX3_slopeShare_X0_product : GoodIn wsX3_slopeShare (wsV RX3 55 RX0 yX0_product wsX0_product) := goodIn_app (goodIn_of _ (by decide +kernel)) ggX3_slopeShare_X0_product
set_option maxRecDepth 20000 in
theorem ggX3_slopeShare_X3_share : GoodIn wsX3_slopeShare wsX3_share := goodIn_r _ [27, 8, 28, 29, 30, 31, 32, 33, 34, 35, 36, 37, 38, 39, 40, 41, 42, 43, 49, 50, 51, 52, 53, 54, 55, 56, 57] (by decide +kernel) (by decide +kernel)
set_option maxRecDepth 20000 in
theorem gX3_slopeShare_X3_share : GoodIn wsX3_slopeShare (wsV RX3 122 RX3 yX3_share wsX3_share) := goodIn_app (goodIn_of _ (by decide +kernel)) ggX3_slopeShare_X3_share
theorem dX3_slopeShare_0 : decode cX3_slopeShare 0 = .ok (.aload_n 0, 1) := by decide +kernel
theorem dX3_slopeShare_1 : decode cX3_slopeShare 1 = .ok (.invokevirtual 126, 3) := by decide +kernel
theorem dX3_slopeShare_4 : decode cX3_slopeShare 4 = .ok (.lstore_n 2, 1) := by decide +kernel
theorem dX3_slopeShare_5 : decode cX3_slopeShare 5 = .ok (.iconst 0, 1) := by decide +kernel
theorem dX3_slopeShare_6 : decode cX3_slopeShare 6 = .ok (.istore 4, 2) := by decide +kernel
theorem dX3_slopeShare_8 : decode cX3_slopeShare 8 = .ok (.iload 4, 2) := by decide +kernel
theorem dX3_slopeShare_10 : decode cX3_slopeShare 10 = .ok (.aload_n 0, 1) := by decide +kernel
theorem dX3_slopeShare_11 : decode cX3_slopeShare 11 = .ok (.getfield 10, 3) := by decide +kernel
theorem dX3_slopeShare_14 : decode cX3_slopeShare 14 = .ok (.getfield 34, 3) := by decide +kernel
theorem dX3_slopeShare_17 : decode cX3_slopeShare 17 = .ok (.if_icmp .ge 30, 3) := by decide +kernel
theorem dX3_slopeShare_20 : decode cX3_slopeShare 20 = .ok (.lload_n 2, 1) := by decide +kernel
theorem dX3_slopeShare_21 : decode cX3_slopeShare 21 = .ok (.aload_n 0, 1) := by decide +kernel
theorem dX3_slopeShare_22 : decode cX3_slopeShare 22 = .ok (.getfield 10, 3) := by decide +kernel
theorem dX3_slopeShare_25 : decode cX3_slopeShare 25 = .ok (.iload_n 1, 1) := by decide +kernel
theorem dX3_slopeShare_26 : decode cX3_slopeShare 26 = .ok (.iload 4, 2) := by decide +kernel
theorem dX3_slopeShare_28 : decode cX3_slopeShare 28 = .ok (.invokevirtual 55, 3) := by decide +kernel
theorem dX3_slopeShare_31 : decode cX3_slopeShare 31 = .ok (.i2l, 1) := by decide +kernel
theorem dX3_slopeShare_32 : decode cX3_slopeShare 32 = .ok (.aload_n 0, 1) := by decide +kernel
theorem dX3_slopeShare_33 : decode cX3_slopeShare 33 = .ok (.iload 4, 2) := by decide +kernel
theorem dX3_slopeShare_35 : decode cX3_slopeShare 35 = .ok (.invokevirtual 122, 3) := by decide +kernel
theorem dX3_slopeShare_38 : decode cX3_slopeShare 38 = .ok (.lmul, 1) := by decide +kernel
theorem dX3_slopeShare_39 : decode cX3_slopeShare 39 = .ok (.lsub, 1) := by decide +kernel
theorem dX3_slopeShare_40 : decode cX3_slopeShare 40 = .ok (.lstore_n 2, 1) := by decide +kernel
theorem dX3_slopeShare_41 : decode cX3_slopeShare 41 = .ok (.iinc 4 1, 3) := by decide +kernel
theorem dX3_slopeShare_44 : decode cX3_slopeShare 44 = .ok (.goto (-36), 3) := by decide +kernel
theorem dX3_slopeShare_47 : decode cX3_slopeShare 47 = .ok (.lload_n 2, 1) := by decide +kernel
theorem dX3_slopeShare_48 : decode cX3_slopeShare 48 = .ok (.lreturn, 1) := by decide +kernel
set_option maxRecDepth 20000 in
theorem ggX3_holdsCondition_X3_slopeShare : GoodIn wsX3_holdsCondition wsX3_slopeShare := goodIn_r _ [5, 6, 7, 8, 9, 10, 4, 11, 12, 13, 14, 15, 16, 17, 18, 19, 20, 21, 22, 23, 24, 25, 26, 27, 28, 29, 30, 31, 32, 33, 34, 35, 36, 37, 38, 39, 40, 41, 42, 43, 53, 54, 55, 56, 57, 58, 59, 60, 61, 62, 63, 64, 65, 66, 67, 68, 69, 70] (by decide +kernel) (by decide +kernel)
set_option maxRecDepth 20000 in
theorem gX3_holdsCondition_X3_slopeShare : GoodIn wsX3_holdsCondition (wsV RX3 133 RX3 yX3_slopeShare wsX3_slopeShare) := goodIn_app (goodIn_of _ (by decide +kernel)) ggX3_holdsCondition_X3_slopeShare
set_option maxRecDepth 20000 in
theorem ggX3_holdsCondition_X3_placeInBox : GoodIn wsX3_holdsCondition wsX3_placeInBox := goodIn_r _ [47, 28, 29, 30, 4, 31, 12, 32, 33, 34, 35, 36, 37, 38, 39, 40, 41, 42, 43, 48, 49, 50, 51, 13, 52, 53, 54, 55, 56, 62, 63, 64, 65, 66, 67, 68, 69, 70] (by decide +kernel) (by decide +kernel)
set_option maxRecDepth 20000 in
theorem gX3_holdsCondition_X3_placeInBox : GoodIn wsX3_holdsCondition (wsV RX3 130 RX3 yX3_placeInBox wsX3_placeInBox) := goodIn_app (goodIn_of _ (by decide +kernel)) ggX3_holdsCondition_X3_placeInBox
theorem dX3_holdsCondition_0 : decode cX3_holdsCondition 0 = .ok (.aload_n 0, 1) := by decide +kernel
theorem dX3_holdsCondition_1 : decode cX3_holdsCondition 1 = .ok (.iload_n 1, 1) := by decide +kernel
theorem dX3_holdsCondition_2 : decode cX3_holdsCondition 2 = .ok (.invokevirtual 133, 3) := by decide +kernel
theorem dX3_holdsCondition_5 : decode cX3_holdsCondition 5 = .ok (.lstore_n 2, 1) := by decide +kernel
theorem dX3_holdsCondition_6 : decode cX3_holdsCondition 6 = .ok (.aload_n 0, 1) := by decide +kernel
theorem dX3_holdsCondition_7 : decode cX3_holdsCondition 7 = .ok (.iload_n 1, 1) := by decide +kernel
theorem dX3_holdsCondition_8 : decode cX3_holdsCondition 8 = .ok (.invokevirtual 130, 3) := by decide +kernel
theorem dX3_holdsCondition_11 : decode cX3_holdsCondition 11 = .ok (.istore 4, 2) := by decide +kernel
theorem dX3_holdsCondition_13 : decode cX3_holdsCondition 13 = .ok (.iload 4, 2) := by decide +kernel
theorem dX3_holdsCondition_15 : decode cX3_holdsCondition 15 = .ok (.ifCond .ne 15, 3) := by decide +kernel
theorem dX3_holdsCondition_18 : decode cX3_holdsCondition 18 = .ok (.lload_n 2, 1) := by decide +kernel
theorem dX3_holdsCondition_19 : decode cX3_holdsCondition 19 = .ok (.lconst 0, 1) := by decide +kernel
theorem dX3_holdsCondition_20 : decode cX3_holdsCondition 20 = .ok (.lcmp, 1) := by decide +kernel
theorem dX3_holdsCondition_21 : decode cX3_holdsCondition 21 = .ok (.ifCond .gt 7, 3) := by decide +kernel
theorem dX3_holdsCondition_24 : decode cX3_holdsCondition 24 = .ok (.iconst 1, 1) := by decide +kernel
theorem dX3_holdsCondition_25 : decode cX3_holdsCondition 25 = .ok (.goto 4, 3) := by decide +kernel
theorem dX3_holdsCondition_28 : decode cX3_holdsCondition 28 = .ok (.iconst 0, 1) := by decide +kernel
theorem dX3_holdsCondition_29 : decode cX3_holdsCondition 29 = .ok (.ireturn, 1) := by decide +kernel
theorem dX3_holdsCondition_30 : decode cX3_holdsCondition 30 = .ok (.iload 4, 2) := by decide +kernel
theorem dX3_holdsCondition_32 : decode cX3_holdsCondition 32 = .ok (.iconst 2, 1) := by decide +kernel
theorem dX3_holdsCondition_33 : decode cX3_holdsCondition 33 = .ok (.if_icmp .ne 17, 3) := by decide +kernel
theorem dX3_holdsCondition_36 : decode cX3_holdsCondition 36 = .ok (.lload_n 2, 1) := by decide +kernel
theorem dX3_holdsCondition_37 : decode cX3_holdsCondition 37 = .ok (.lconst 0, 1) := by decide +kernel
theorem dX3_holdsCondition_38 : decode cX3_holdsCondition 38 = .ok (.lcmp, 1) := by decide +kernel
theorem dX3_holdsCondition_39 : decode cX3_holdsCondition 39 = .ok (.ifCond .lt 7, 3) := by decide +kernel
theorem dX3_holdsCondition_42 : decode cX3_holdsCondition 42 = .ok (.iconst 1, 1) := by decide +kernel
theorem dX3_holdsCondition_43 : decode cX3_holdsCondition 43 = .ok (.goto 18, 3) := by decide +kernel
theorem dX3_holdsCondition_46 : decode cX3_holdsCondition 46 = .ok (.iconst 0, 1) := by decide +kernel
theorem dX3_holdsCondition_47 : decode cX3_holdsCondition 47 = .ok (.goto 14, 3) := by decide +kernel
theorem dX3_holdsCondition_50 : decode cX3_holdsCondition 50 = .ok (.lload_n 2, 1) := by decide +kernel
theorem dX3_holdsCondition_51 : decode cX3_holdsCondition 51 = .ok (.lconst 0, 1) := by decide +kernel
theorem dX3_holdsCondition_52 : decode cX3_holdsCondition 52 = .ok (.lcmp, 1) := by decide +kernel
theorem dX3_holdsCondition_53 : decode cX3_holdsCondition 53 = .ok (.ifCond .ne 7, 3) := by decide +kernel
theorem dX3_holdsCondition_56 : decode cX3_holdsCondition 56 = .ok (.iconst 1, 1) := by decide +kernel
theorem dX3_holdsCondition_57 : decode cX3_holdsCondition 57 = .ok (.goto 4, 3) := by decide +kernel
theorem dX3_holdsCondition_60 : decode cX3_holdsCondition 60 = .ok (.iconst 0, 1) := by decide +kernel
theorem dX3_holdsCondition_61 : decode cX3_holdsCondition 61 = .ok (.ireturn, 1) := by decide +kernel
theorem dX3_isInBox_0 : decode cX3_isInBox 0 = .ok (.iload_n 1, 1) := by decide +kernel
theorem dX3_isInBox_1 : decode cX3_isInBox 1 = .ok (.ifCond .lt 14, 3) := by decide +kernel
theorem dX3_isInBox_4 : decode cX3_isInBox 4 = .ok (.iload_n 2, 1) := by decide +kernel
theorem dX3_isInBox_5 : decode cX3_isInBox 5 = .ok (.iconst 1, 1) := by decide +kernel
theorem dX3_isInBox_6 : decode cX3_isInBox 6 = .ok (.if_icmp .lt 9, 3) := by decide +kernel
theorem dX3_isInBox_9 : decode cX3_isInBox 9 = .ok (.iload_n 2, 1) := by decide +kernel
theorem dX3_isInBox_10 : decode cX3_isInBox 10 = .ok (.bipush 6, 2) := by decide +kernel
theorem dX3_isInBox_12 : decode cX3_isInBox 12 = .ok (.if_icmp .le 5, 3) := by decide +kernel
theorem dX3_isInBox_15 : decode cX3_isInBox 15 = .ok (.iconst 0, 1) := by decide +kernel
theorem dX3_isInBox_16 : decode cX3_isInBox 16 = .ok (.ireturn, 1) := by decide +kernel
theorem dX3_isInBox_17 : decode cX3_isInBox 17 = .ok (.iload_n 1, 1) := by decide +kernel
theorem dX3_isInBox_18 : decode cX3_isInBox 18 = .ok (.i2l, 1) := by decide +kernel
theorem dX3_isInBox_19 : decode cX3_isInBox 19 = .ok (.aload_n 0, 1) := by decide +kernel
theorem dX3_isInBox_20 : decode cX3_isInBox 20 = .ok (.getfield 27, 3) := by decide +kernel
theorem dX3_isInBox_23 : decode cX3_isInBox 23 = .ok (.i2l, 1) := by decide +kernel
theorem dX3_isInBox_24 : decode cX3_isInBox 24 = .ok (.lmul, 1) := by decide +kernel
theorem dX3_isInBox_25 : decode cX3_isInBox 25 = .ok (.aload_n 0, 1) := by decide +kernel
theorem dX3_isInBox_26 : decode cX3_isInBox 26 = .ok (.getfield 23, 3) := by decide +kernel
theorem dX3_isInBox_29 : decode cX3_isInBox 29 = .ok (.i2l, 1) := by decide +kernel
theorem dX3_isInBox_30 : decode cX3_isInBox 30 = .ok (.iload_n 2, 1) := by decide +kernel
theorem dX3_isInBox_31 : decode cX3_isInBox 31 = .ok (.i2l, 1) := by decide +kernel
theorem dX3_isInBox_32 : decode cX3_isInBox 32 = .ok (.lmul, 1) := by decide +kernel
theorem dX3_isInBox_33 : decode cX3_isInBox 33 = .ok (.lcmp, 1) := by decide +kernel
theorem dX3_isInBox_34 : decode cX3_isInBox 34 = .ok (.ifCond .gt 7, 3) := by decide +kernel
theorem dX3_isInBox_37 : decode cX3_isInBox 37 = .ok (.iconst 1, 1) := by decide +kernel
theorem dX3_isInBox_38 : decode cX3_isInBox 38 = .ok (.goto 4, 3) := by decide +kernel
theorem dX3_isInBox_41 : decode cX3_isInBox 41 = .ok (.iconst 0, 1) := by decide +kernel
theorem dX3_isInBox_42 : decode cX3_isInBox 42 = .ok (.ireturn, 1) := by decide +kernel
set_option maxRecDepth 20000 in
theorem ggX3_worthSign_X3_shareBase : GoodIn wsX3_worthSign wsX3_shareBase := goodIn_r _ [6, 7, 8, 9, 48, 49, 50, 51, 52, 53, 54, 55, 56, 57, 58, 59, 60] (by decide +kernel) (by decide +kernel)
set_option maxRecDepth 20000 in
theorem gX3_worthSign_X3_shareBase : GoodIn wsX3_worthSign (wsV RX3 126 RX3 yX3_shareBase wsX3_shareBase) := goodIn_app (goodIn_of _ (by decide +kernel)) ggX3_worthSign_X3_shareBase
set_option maxRecDepth 20000 in
theorem ggX3_worthSign_X3_share : GoodIn wsX3_worthSign wsX3_share := goodIn_r _ [13, 7, 14, 15, 16, 17, 18, 19, 20, 21, 22, 23, 24, 25, 48, 49, 50, 51, 52, 53, 54, 55, 56, 57, 58, 59, 60] (by decide +kernel) (by decide +kernel)
set_option maxRecDepth 20000 in
theorem gX3_worthSign_X3_share : GoodIn wsX3_worthSign (wsV RX3 122 RX3 yX3_share wsX3_share) := goodIn_app (goodIn_of _ (by decide +kernel)) ggX3_worthSign_X3_share
set_option maxRecDepth 20000 in
theorem ggX3_worthSign_X3_slopeShare : GoodIn wsX3_worthSign wsX3_slopeShare := goodIn_r _ [29, 1, 30, 2, 3, 4, 5, 6, 7, 8, 9, 31, 32, 33, 34, 35, 36, 37, 38, 39, 40, 41, 42, 43, 10, 11, 12, 13, 14, 15, 16, 17, 18, 19, 20, 21, 22, 23, 24, 25, 48, 49, 50, 51, 61, 62, 63, 64, 65, 52, 53, 54, 55, 56, 57, 58, 59, 60] (by decide +kernel) (by decide +kernel)
set_option maxRecDepth 20000 in
theorem gX3_worthSign_X3_slopeShare : GoodIn wsX3_worthSign (wsV RX3 133 RX3 yX3_slopeShare wsX3_slopeShare) := goodIn_app (goodIn_of _ (by decide +kernel)) ggX3_worthSign_X3_slopeShare
set_option maxRecDepth 20000 in
theorem ggX3_worthSign_X0_product : GoodIn wsX3_worthSign wsX0_product := goodIn_r _ [35, 36, 37, 38, 39, 40, 41, 34, 42, 43, 61, 62, 63, 64, 65] (by decide +kernel) (by decide +kernel)
set_option maxRecDepth 20000 in
theorem gX3_worthSign_X0_product : GoodIn wsX3_worthSign (wsV RX3 55 RX0 yX0_product wsX0_product) := goodIn_app (goodIn_of _ (by decide +kernel)) ggX3_worthSign_X0_product
set_option maxRecDepth 20000 in
theorem ggX3_worthSign_J13_signum_95d88 : GoodIn wsX3_worthSign wsJ13_signum_95d88 := goodIn_r _ [47] (by decide +kernel) (by decide +kernel)
set_option maxRecDepth 20000 in
theorem gX3_worthSign_J13_signum_95d88 : GoodIn wsX3_worthSign (va_wsS RX3 150 yJ13_signum_95d88 wsJ13_signum_95d88) := goodIn_app (goodIn_of _ (by decide +kernel)) ggX3_worthSign_J13_signum_95d88
theorem dX3_worthSign_0 : decode cX3_worthSign 0 = .ok (.iload_n 2, 1) := by decide +kernel
theorem dX3_worthSign_1 : decode cX3_worthSign 1 = .ok (.i2l, 1) := by decide +kernel
theorem dX3_worthSign_2 : decode cX3_worthSign 2 = .ok (.aload_n 0, 1) := by decide +kernel
theorem dX3_worthSign_3 : decode cX3_worthSign 3 = .ok (.invokevirtual 126, 3) := by decide +kernel
theorem dX3_worthSign_6 : decode cX3_worthSign 6 = .ok (.lmul, 1) := by decide +kernel
theorem dX3_worthSign_7 : decode cX3_worthSign 7 = .ok (.aload_n 0, 1) := by decide +kernel
theorem dX3_worthSign_8 : decode cX3_worthSign 8 = .ok (.iload_n 1, 1) := by decide +kernel
theorem dX3_worthSign_9 : decode cX3_worthSign 9 = .ok (.invokevirtual 122, 3) := by decide +kernel
theorem dX3_worthSign_12 : decode cX3_worthSign 12 = .ok (.iload_n 3, 1) := by decide +kernel
theorem dX3_worthSign_13 : decode cX3_worthSign 13 = .ok (.i2l, 1) := by decide +kernel
theorem dX3_worthSign_14 : decode cX3_worthSign 14 = .ok (.lmul, 1) := by decide +kernel
theorem dX3_worthSign_15 : decode cX3_worthSign 15 = .ok (.lsub, 1) := by decide +kernel
theorem dX3_worthSign_16 : decode cX3_worthSign 16 = .ok (.lstore 4, 2) := by decide +kernel
theorem dX3_worthSign_18 : decode cX3_worthSign 18 = .ok (.iconst 2, 1) := by decide +kernel
theorem dX3_worthSign_19 : decode cX3_worthSign 19 = .ok (.iload_n 3, 1) := by decide +kernel
theorem dX3_worthSign_20 : decode cX3_worthSign 20 = .ok (.imul, 1) := by decide +kernel
theorem dX3_worthSign_21 : decode cX3_worthSign 21 = .ok (.i2l, 1) := by decide +kernel
theorem dX3_worthSign_22 : decode cX3_worthSign 22 = .ok (.aload_n 0, 1) := by decide +kernel
theorem dX3_worthSign_23 : decode cX3_worthSign 23 = .ok (.iload_n 1, 1) := by decide +kernel
theorem dX3_worthSign_24 : decode cX3_worthSign 24 = .ok (.invokevirtual 133, 3) := by decide +kernel
theorem dX3_worthSign_27 : decode cX3_worthSign 27 = .ok (.lmul, 1) := by decide +kernel
theorem dX3_worthSign_28 : decode cX3_worthSign 28 = .ok (.lload 4, 2) := by decide +kernel
theorem dX3_worthSign_30 : decode cX3_worthSign 30 = .ok (.aload_n 0, 1) := by decide +kernel
theorem dX3_worthSign_31 : decode cX3_worthSign 31 = .ok (.getfield 10, 3) := by decide +kernel
theorem dX3_worthSign_34 : decode cX3_worthSign 34 = .ok (.iload_n 1, 1) := by decide +kernel
theorem dX3_worthSign_35 : decode cX3_worthSign 35 = .ok (.iload_n 1, 1) := by decide +kernel
theorem dX3_worthSign_36 : decode cX3_worthSign 36 = .ok (.invokevirtual 55, 3) := by decide +kernel
theorem dX3_worthSign_39 : decode cX3_worthSign 39 = .ok (.i2l, 1) := by decide +kernel
theorem dX3_worthSign_40 : decode cX3_worthSign 40 = .ok (.lmul, 1) := by decide +kernel
theorem dX3_worthSign_41 : decode cX3_worthSign 41 = .ok (.lsub, 1) := by decide +kernel
theorem dX3_worthSign_42 : decode cX3_worthSign 42 = .ok (.lstore 6, 2) := by decide +kernel
theorem dX3_worthSign_44 : decode cX3_worthSign 44 = .ok (.lload 4, 2) := by decide +kernel
theorem dX3_worthSign_46 : decode cX3_worthSign 46 = .ok (.invokestatic 150, 3) := by decide +kernel
theorem dX3_worthSign_49 : decode cX3_worthSign 49 = .ok (.lload 6, 2) := by decide +kernel
theorem dX3_worthSign_51 : decode cX3_worthSign 51 = .ok (.invokestatic 150, 3) := by decide +kernel
theorem dX3_worthSign_54 : decode cX3_worthSign 54 = .ok (.imul, 1) := by decide +kernel
theorem dX3_worthSign_55 : decode cX3_worthSign 55 = .ok (.ireturn, 1) := by decide +kernel
set_option maxRecDepth 20000 in
theorem ggX3_decisionShare_X3_share : GoodIn wsX3_decisionShare wsX3_share := goodIn_r _ [8, 9, 10, 11, 12, 13, 14, 15, 16, 17, 18, 19, 20, 21, 30, 31, 32, 33, 39, 40, 41, 42, 43, 44, 45, 46, 47] (by decide +kernel) (by decide +kernel)
set_option maxRecDepth 20000 in
theorem gX3_decisionShare_X3_share : GoodIn wsX3_decisionShare (wsV RX3 122 RX3 yX3_share wsX3_share) := goodIn_app (goodIn_of _ (by decide +kernel)) ggX3_decisionShare_X3_share
set_option maxRecDepth 20000 in
theorem ggX3_decisionShare_X0_kernel : GoodIn wsX3_decisionShare wsX0_kernel := goodIn_r _ [26, 27, 28, 29, 34, 35, 36, 37, 38] (by decide +kernel) (by decide +kernel)
set_option maxRecDepth 20000 in
theorem gX3_decisionShare_X0_kernel : GoodIn wsX3_decisionShare (wsV RX3 188 RX0 yX0_kernel wsX0_kernel) := goodIn_app (goodIn_of _ (by decide +kernel)) ggX3_decisionShare_X0_kernel
theorem dX3_decisionShare_0 : decode cX3_decisionShare 0 = .ok (.lconst 0, 1) := by decide +kernel
theorem dX3_decisionShare_1 : decode cX3_decisionShare 1 = .ok (.lstore_n 3, 1) := by decide +kernel
theorem dX3_decisionShare_2 : decode cX3_decisionShare 2 = .ok (.iconst 0, 1) := by decide +kernel
theorem dX3_decisionShare_3 : decode cX3_decisionShare 3 = .ok (.istore 5, 2) := by decide +kernel
theorem dX3_decisionShare_5 : decode cX3_decisionShare 5 = .ok (.iload 5, 2) := by decide +kernel
theorem dX3_decisionShare_7 : decode cX3_decisionShare 7 = .ok (.aload_n 0, 1) := by decide +kernel
theorem dX3_decisionShare_8 : decode cX3_decisionShare 8 = .ok (.getfield 10, 3) := by decide +kernel
theorem dX3_decisionShare_11 : decode cX3_decisionShare 11 = .ok (.getfield 34, 3) := by decide +kernel
theorem dX3_decisionShare_14 : decode cX3_decisionShare 14 = .ok (.if_icmp .ge 43, 3) := by decide +kernel
theorem dX3_decisionShare_17 : decode cX3_decisionShare 17 = .ok (.lload_n 3, 1) := by decide +kernel
theorem dX3_decisionShare_18 : decode cX3_decisionShare 18 = .ok (.aload_n 0, 1) := by decide +kernel
theorem dX3_decisionShare_19 : decode cX3_decisionShare 19 = .ok (.iload 5, 2) := by decide +kernel
theorem dX3_decisionShare_21 : decode cX3_decisionShare 21 = .ok (.invokevirtual 122, 3) := by decide +kernel
theorem dX3_decisionShare_24 : decode cX3_decisionShare 24 = .ok (.aload_n 0, 1) := by decide +kernel
theorem dX3_decisionShare_25 : decode cX3_decisionShare 25 = .ok (.getfield 10, 3) := by decide +kernel
theorem dX3_decisionShare_28 : decode cX3_decisionShare 28 = .ok (.getfield 173, 3) := by decide +kernel
theorem dX3_decisionShare_31 : decode cX3_decisionShare 31 = .ok (.iload 5, 2) := by decide +kernel
theorem dX3_decisionShare_33 : decode cX3_decisionShare 33 = .ok (.iaload, 1) := by decide +kernel
theorem dX3_decisionShare_34 : decode cX3_decisionShare 34 = .ok (.i2l, 1) := by decide +kernel
theorem dX3_decisionShare_35 : decode cX3_decisionShare 35 = .ok (.lmul, 1) := by decide +kernel
theorem dX3_decisionShare_36 : decode cX3_decisionShare 36 = .ok (.aload_n 0, 1) := by decide +kernel
theorem dX3_decisionShare_37 : decode cX3_decisionShare 37 = .ok (.getfield 10, 3) := by decide +kernel
theorem dX3_decisionShare_40 : decode cX3_decisionShare 40 = .ok (.iload 5, 2) := by decide +kernel
theorem dX3_decisionShare_42 : decode cX3_decisionShare 42 = .ok (.iload_n 1, 1) := by decide +kernel
theorem dX3_decisionShare_43 : decode cX3_decisionShare 43 = .ok (.iload_n 2, 1) := by decide +kernel
theorem dX3_decisionShare_44 : decode cX3_decisionShare 44 = .ok (.invokevirtual 188, 3) := by decide +kernel
theorem dX3_decisionShare_47 : decode cX3_decisionShare 47 = .ok (.i2l, 1) := by decide +kernel
theorem dX3_decisionShare_48 : decode cX3_decisionShare 48 = .ok (.lmul, 1) := by decide +kernel
theorem dX3_decisionShare_49 : decode cX3_decisionShare 49 = .ok (.ladd, 1) := by decide +kernel
theorem dX3_decisionShare_50 : decode cX3_decisionShare 50 = .ok (.lstore_n 3, 1) := by decide +kernel
theorem dX3_decisionShare_51 : decode cX3_decisionShare 51 = .ok (.iinc 5 1, 3) := by decide +kernel
theorem dX3_decisionShare_54 : decode cX3_decisionShare 54 = .ok (.goto (-49), 3) := by decide +kernel
theorem dX3_decisionShare_57 : decode cX3_decisionShare 57 = .ok (.lload_n 3, 1) := by decide +kernel
theorem dX3_decisionShare_58 : decode cX3_decisionShare 58 = .ok (.lreturn, 1) := by decide +kernel
set_option maxRecDepth 20000 in
theorem ggX3_supporters_X3_share : GoodIn wsX3_supporters wsX3_share := goodIn_r _ [7, 8, 9, 10, 11, 12, 13, 14, 15, 16, 17, 18, 19, 20, 21, 22, 23, 24, 30, 31, 32, 33, 34, 35, 36, 37, 38] (by decide +kernel) (by decide +kernel)
set_option maxRecDepth 20000 in
theorem gX3_supporters_X3_share : GoodIn wsX3_supporters (wsV RX3 122 RX3 yX3_share wsX3_share) := goodIn_app (goodIn_of _ (by decide +kernel)) ggX3_supporters_X3_share
theorem dX3_supporters_0 : decode cX3_supporters 0 = .ok (.iconst 0, 1) := by decide +kernel
theorem dX3_supporters_1 : decode cX3_supporters 1 = .ok (.istore_n 1, 1) := by decide +kernel
theorem dX3_supporters_2 : decode cX3_supporters 2 = .ok (.iconst 0, 1) := by decide +kernel
theorem dX3_supporters_3 : decode cX3_supporters 3 = .ok (.istore_n 2, 1) := by decide +kernel
theorem dX3_supporters_4 : decode cX3_supporters 4 = .ok (.iload_n 2, 1) := by decide +kernel
theorem dX3_supporters_5 : decode cX3_supporters 5 = .ok (.aload_n 0, 1) := by decide +kernel
theorem dX3_supporters_6 : decode cX3_supporters 6 = .ok (.getfield 10, 3) := by decide +kernel
theorem dX3_supporters_9 : decode cX3_supporters 9 = .ok (.getfield 34, 3) := by decide +kernel
theorem dX3_supporters_12 : decode cX3_supporters 12 = .ok (.if_icmp .ge 22, 3) := by decide +kernel
theorem dX3_supporters_15 : decode cX3_supporters 15 = .ok (.aload_n 0, 1) := by decide +kernel
theorem dX3_supporters_16 : decode cX3_supporters 16 = .ok (.iload_n 2, 1) := by decide +kernel
theorem dX3_supporters_17 : decode cX3_supporters 17 = .ok (.invokevirtual 122, 3) := by decide +kernel
theorem dX3_supporters_20 : decode cX3_supporters 20 = .ok (.lconst 0, 1) := by decide +kernel
theorem dX3_supporters_21 : decode cX3_supporters 21 = .ok (.lcmp, 1) := by decide +kernel
theorem dX3_supporters_22 : decode cX3_supporters 22 = .ok (.ifCond .le 6, 3) := by decide +kernel
theorem dX3_supporters_25 : decode cX3_supporters 25 = .ok (.iinc 1 1, 3) := by decide +kernel
theorem dX3_supporters_28 : decode cX3_supporters 28 = .ok (.iinc 2 1, 3) := by decide +kernel
theorem dX3_supporters_31 : decode cX3_supporters 31 = .ok (.goto (-27), 3) := by decide +kernel
theorem dX3_supporters_34 : decode cX3_supporters 34 = .ok (.iload_n 1, 1) := by decide +kernel
theorem dX3_supporters_35 : decode cX3_supporters 35 = .ok (.ireturn, 1) := by decide +kernel
end
section
theorem dX4_init_0 : decode cX4_init 0 = .ok (.aload_n 0, 1) := by decide +kernel
theorem dX4_init_1 : decode cX4_init 1 = .ok (.invokespecial 1, 3) := by decide +kernel
theorem dX4_init_4 : decode cX4_init 4 = .ok (.aload_n 0, 1) := by decide +kernel
theorem dX4_init_5 : decode cX4_init 5 = .ok (.iconst 1, 1) := by decide +kernel
theorem dX4_init_6 : decode cX4_init 6 = .ok (.putfield 7, 3) := by decide +kernel
theorem dX4_init_9 : decode cX4_init 9 = .ok (.aload_n 0, 1) := by decide +kernel
theorem dX4_init_10 : decode cX4_init 10 = .ok (.iconst 1, 1) := by decide +kernel
theorem dX4_init_11 : decode cX4_init 11 = .ok (.putfield 13, 3) := by decide +kernel
theorem dX4_init_14 : decode cX4_init 14 = .ok (.aload_n 0, 1) := by decide +kernel
theorem dX4_init_15 : decode cX4_init 15 = .ok (.iconst 1, 1) := by decide +kernel
theorem dX4_init_16 : decode cX4_init 16 = .ok (.putfield 16, 3) := by decide +kernel
theorem dX4_init_19 : decode cX4_init 19 = .ok (.aload_n 0, 1) := by decide +kernel
theorem dX4_init_20 : decode cX4_init 20 = .ok (.bipush 6, 2) := by decide +kernel
theorem dX4_init_22 : decode cX4_init 22 = .ok (.newarray .int, 2) := by decide +kernel
theorem dX4_init_24 : decode cX4_init 24 = .ok (.putfield 19, 3) := by decide +kernel
theorem dX4_init_27 : decode cX4_init 27 = .ok (.aload_n 0, 1) := by decide +kernel
theorem dX4_init_28 : decode cX4_init 28 = .ok (.bipush 6, 2) := by decide +kernel
theorem dX4_init_30 : decode cX4_init 30 = .ok (.newarray .int, 2) := by decide +kernel
theorem dX4_init_32 : decode cX4_init 32 = .ok (.putfield 23, 3) := by decide +kernel
theorem dX4_init_35 : decode cX4_init 35 = .ok (.aload_n 0, 1) := by decide +kernel
theorem dX4_init_36 : decode cX4_init 36 = .ok (.bipush 6, 2) := by decide +kernel
theorem dX4_init_38 : decode cX4_init 38 = .ok (.newarray .int, 2) := by decide +kernel
theorem dX4_init_40 : decode cX4_init 40 = .ok (.putfield 26, 3) := by decide +kernel
theorem dX4_init_43 : decode cX4_init 43 = .ok (.aload_n 0, 1) := by decide +kernel
theorem dX4_init_44 : decode cX4_init 44 = .ok (.sipush 312, 3) := by decide +kernel
theorem dX4_init_47 : decode cX4_init 47 = .ok (.newarray .long, 2) := by decide +kernel
theorem dX4_init_49 : decode cX4_init 49 = .ok (.putfield 29, 3) := by decide +kernel
theorem dX4_init_52 : decode cX4_init 52 = .ok (.aload_n 0, 1) := by decide +kernel
theorem dX4_init_53 : decode cX4_init 53 = .ok (.bipush 12, 2) := by decide +kernel
theorem dX4_init_55 : decode cX4_init 55 = .ok (.newarray .int, 2) := by decide +kernel
theorem dX4_init_57 : decode cX4_init 57 = .ok (.putfield 33, 3) := by decide +kernel
theorem dX4_init_60 : decode cX4_init 60 = .ok (.aload_n 0, 1) := by decide +kernel
theorem dX4_init_61 : decode cX4_init 61 = .ok (.sipush 200, 3) := by decide +kernel
theorem dX4_init_64 : decode cX4_init 64 = .ok (.newarray .int, 2) := by decide +kernel
theorem dX4_init_66 : decode cX4_init 66 = .ok (.putfield 36, 3) := by decide +kernel
theorem dX4_init_69 : decode cX4_init 69 = .ok (.aload_n 0, 1) := by decide +kernel
theorem dX4_init_70 : decode cX4_init 70 = .ok (.sipush 200, 3) := by decide +kernel
theorem dX4_init_73 : decode cX4_init 73 = .ok (.newarray .int, 2) := by decide +kernel
theorem dX4_init_75 : decode cX4_init 75 = .ok (.putfield 39, 3) := by decide +kernel
theorem dX4_init_78 : decode cX4_init 78 = .ok (.aload_n 0, 1) := by decide +kernel
theorem dX4_init_79 : decode cX4_init 79 = .ok (.sipush 200, 3) := by decide +kernel
theorem dX4_init_82 : decode cX4_init 82 = .ok (.newarray .int, 2) := by decide +kernel
theorem dX4_init_84 : decode cX4_init 84 = .ok (.putfield 42, 3) := by decide +kernel
theorem dX4_init_87 : decode cX4_init 87 = .ok (.return_, 1) := by decide +kernel
theorem dX4_in_0 : decode cX4_in 0 = .ok (.iload_n 0, 1) := by decide +kernel
theorem dX4_in_1 : decode cX4_in 1 = .ok (.iload_n 1, 1) := by decide +kernel
theorem dX4_in_2 : decode cX4_in 2 = .ok (.if_icmp .lt 12, 3) := by decide +kernel
theorem dX4_in_5 : decode cX4_in 5 = .ok (.iload_n 0, 1) := by decide +kernel
theorem dX4_in_6 : decode cX4_in 6 = .ok (.iload_n 2, 1) := by decide +kernel
theorem dX4_in_7 : decode cX4_in 7 = .ok (.if_icmp .gt 7, 3) := by decide +kernel
theorem dX4_in_10 : decode cX4_in 10 = .ok (.iconst 1, 1) := by decide +kernel
theorem dX4_in_11 : decode cX4_in 11 = .ok (.goto 4, 3) := by decide +kernel
theorem dX4_in_14 : decode cX4_in 14 = .ok (.iconst 0, 1) := by decide +kernel
theorem dX4_in_15 : decode cX4_in 15 = .ok (.ireturn, 1) := by decide +kernel
theorem dX4_forgets_0 : decode cX4_forgets 0 = .ok (.aload_n 0, 1) := by decide +kernel
theorem dX4_forgets_1 : decode cX4_forgets 1 = .ok (.iconst 0, 1) := by decide +kernel
theorem dX4_forgets_2 : decode cX4_forgets 2 = .ok (.putfield 45, 3) := by decide +kernel
theorem dX4_forgets_5 : decode cX4_forgets 5 = .ok (.aload_n 0, 1) := by decide +kernel
theorem dX4_forgets_6 : decode cX4_forgets 6 = .ok (.iconst 0, 1) := by decide +kernel
theorem dX4_forgets_7 : decode cX4_forgets 7 = .ok (.putfield 49, 3) := by decide +kernel
theorem dX4_forgets_10 : decode cX4_forgets 10 = .ok (.aload_n 0, 1) := by decide +kernel
theorem dX4_forgets_11 : decode cX4_forgets 11 = .ok (.iconst 0, 1) := by decide +kernel
theorem dX4_forgets_12 : decode cX4_forgets 12 = .ok (.putfield 52, 3) := by decide +kernel
theorem dX4_forgets_15 : decode cX4_forgets 15 = .ok (.aload_n 0, 1) := by decide +kernel
theorem dX4_forgets_16 : decode cX4_forgets 16 = .ok (.iconst 0, 1) := by decide +kernel
theorem dX4_forgets_17 : decode cX4_forgets 17 = .ok (.putfield 55, 3) := by decide +kernel
theorem dX4_forgets_20 : decode cX4_forgets 20 = .ok (.return_, 1) := by decide +kernel
set_option maxRecDepth 20000 in
theorem ggX4_isPoint_X4_in : GoodIn wsX4_isPoint wsX4_in := goodIn_r _ [5] (by decide +kernel) (by decide +kernel)
set_option maxRecDepth 20000 in
theorem gX4_isPoint_X4_in : GoodIn wsX4_isPoint (va_wsS RX4 61 yX4_in wsX4_in) := goodIn_app (goodIn_of _ (by decide +kernel)) ggX4_isPoint_X4_in
theorem dX4_isPoint_0 : decode cX4_isPoint 0 = .ok (.iload_n 1, 1) := by decide +kernel
theorem dX4_isPoint_1 : decode cX4_isPoint 1 = .ok (.iconst 0, 1) := by decide +kernel
theorem dX4_isPoint_2 : decode cX4_isPoint 2 = .ok (.aload_n 0, 1) := by decide +kernel
theorem dX4_isPoint_3 : decode cX4_isPoint 3 = .ok (.getfield 58, 3) := by decide +kernel
theorem dX4_isPoint_6 : decode cX4_isPoint 6 = .ok (.iconst 1, 1) := by decide +kernel
theorem dX4_isPoint_7 : decode cX4_isPoint 7 = .ok (.isub, 1) := by decide +kernel
theorem dX4_isPoint_8 : decode cX4_isPoint 8 = .ok (.invokestatic 61, 3) := by decide +kernel
theorem dX4_isPoint_11 : decode cX4_isPoint 11 = .ok (.ireturn, 1) := by decide +kernel
set_option maxRecDepth 20000 in
theorem ggX4_point_X4_in : GoodIn wsX4_point wsX4_in := goodIn_r _ [9] (by decide +kernel) (by decide +kernel)
set_option maxRecDepth 20000 in
theorem gX4_point_X4_in : GoodIn wsX4_point (va_wsS RX4 61 yX4_in wsX4_in) := goodIn_app (goodIn_of _ (by decide +kernel)) ggX4_point_X4_in
set_option maxRecDepth 20000 in
theorem ggX4_point_X4_forgets : GoodIn wsX4_point wsX4_forgets := goodIn_r _ [13, 14, 15, 16, 17, 18, 19, 20, 21, 22, 23, 24, 25, 26, 27, 28, 29, 30, 31, 32, 33, 34, 35, 36, 37] (by decide +kernel) (by decide +kernel)
set_option maxRecDepth 20000 in
theorem gX4_point_X4_forgets : GoodIn wsX4_point (wsV RX4 65 RX4 yX4_forgets wsX4_forgets) := goodIn_app (goodIn_of _ (by decide +kernel)) ggX4_point_X4_forgets
theorem dX4_point_0 : decode cX4_point 0 = .ok (.iload_n 1, 1) := by decide +kernel
theorem dX4_point_1 : decode cX4_point 1 = .ok (.bipush (-4), 2) := by decide +kernel
theorem dX4_point_3 : decode cX4_point 3 = .ok (.iconst 4, 1) := by decide +kernel
theorem dX4_point_4 : decode cX4_point 4 = .ok (.invokestatic 61, 3) := by decide +kernel
theorem dX4_point_7 : decode cX4_point 7 = .ok (.ifCond .eq 23, 3) := by decide +kernel
theorem dX4_point_10 : decode cX4_point 10 = .ok (.iload_n 2, 1) := by decide +kernel
theorem dX4_point_11 : decode cX4_point 11 = .ok (.bipush (-4), 2) := by decide +kernel
theorem dX4_point_13 : decode cX4_point 13 = .ok (.iconst 4, 1) := by decide +kernel
theorem dX4_point_14 : decode cX4_point 14 = .ok (.invokestatic 61, 3) := by decide +kernel
theorem dX4_point_17 : decode cX4_point 17 = .ok (.ifCond .eq 13, 3) := by decide +kernel
theorem dX4_point_20 : decode cX4_point 20 = .ok (.iload_n 3, 1) := by decide +kernel
theorem dX4_point_21 : decode cX4_point 21 = .ok (.iconst 1, 1) := by decide +kernel
theorem dX4_point_22 : decode cX4_point 22 = .ok (.if_icmp .eq 11, 3) := by decide +kernel
theorem dX4_point_25 : decode cX4_point 25 = .ok (.iload_n 3, 1) := by decide +kernel
theorem dX4_point_26 : decode cX4_point 26 = .ok (.iconst (-1), 1) := by decide +kernel
theorem dX4_point_27 : decode cX4_point 27 = .ok (.if_icmp .eq 6, 3) := by decide +kernel
theorem dX4_point_30 : decode cX4_point 30 = .ok (.bipush (-2), 2) := by decide +kernel
theorem dX4_point_32 : decode cX4_point 32 = .ok (.ireturn, 1) := by decide +kernel
theorem dX4_point_33 : decode cX4_point 33 = .ok (.aload_n 0, 1) := by decide +kernel
theorem dX4_point_34 : decode cX4_point 34 = .ok (.getfield 58, 3) := by decide +kernel
theorem dX4_point_37 : decode cX4_point 37 = .ok (.aload_n 0, 1) := by decide +kernel
theorem dX4_point_38 : decode cX4_point 38 = .ok (.getfield 7, 3) := by decide +kernel
theorem dX4_point_41 : decode cX4_point 41 = .ok (.iconst 1, 1) := by decide +kernel
theorem dX4_point_42 : decode cX4_point 42 = .ok (.if_icmp .ne 8, 3) := by decide +kernel
theorem dX4_point_45 : decode cX4_point 45 = .ok (.bipush 6, 2) := by decide +kernel
theorem dX4_point_47 : decode cX4_point 47 = .ok (.goto 4, 3) := by decide +kernel
theorem dX4_point_50 : decode cX4_point 50 = .ok (.iconst 4, 1) := by decide +kernel
theorem dX4_point_51 : decode cX4_point 51 = .ok (.if_icmp .ne 6, 3) := by decide +kernel
theorem dX4_point_54 : decode cX4_point 54 = .ok (.bipush (-4), 2) := by decide +kernel
theorem dX4_point_56 : decode cX4_point 56 = .ok (.ireturn, 1) := by decide +kernel
theorem dX4_point_57 : decode cX4_point 57 = .ok (.aload_n 0, 1) := by decide +kernel
theorem dX4_point_58 : decode cX4_point 58 = .ok (.getfield 19, 3) := by decide +kernel
theorem dX4_point_61 : decode cX4_point 61 = .ok (.aload_n 0, 1) := by decide +kernel
theorem dX4_point_62 : decode cX4_point 62 = .ok (.getfield 58, 3) := by decide +kernel
theorem dX4_point_65 : decode cX4_point 65 = .ok (.iload_n 1, 1) := by decide +kernel
theorem dX4_point_66 : decode cX4_point 66 = .ok (.iastore, 1) := by decide +kernel
theorem dX4_point_67 : decode cX4_point 67 = .ok (.aload_n 0, 1) := by decide +kernel
theorem dX4_point_68 : decode cX4_point 68 = .ok (.getfield 23, 3) := by decide +kernel
theorem dX4_point_71 : decode cX4_point 71 = .ok (.aload_n 0, 1) := by decide +kernel
theorem dX4_point_72 : decode cX4_point 72 = .ok (.getfield 58, 3) := by decide +kernel
theorem dX4_point_75 : decode cX4_point 75 = .ok (.iload_n 2, 1) := by decide +kernel
theorem dX4_point_76 : decode cX4_point 76 = .ok (.iastore, 1) := by decide +kernel
theorem dX4_point_77 : decode cX4_point 77 = .ok (.aload_n 0, 1) := by decide +kernel
theorem dX4_point_78 : decode cX4_point 78 = .ok (.getfield 26, 3) := by decide +kernel
theorem dX4_point_81 : decode cX4_point 81 = .ok (.aload_n 0, 1) := by decide +kernel
theorem dX4_point_82 : decode cX4_point 82 = .ok (.getfield 58, 3) := by decide +kernel
theorem dX4_point_85 : decode cX4_point 85 = .ok (.iload_n 3, 1) := by decide +kernel
theorem dX4_point_86 : decode cX4_point 86 = .ok (.iastore, 1) := by decide +kernel
theorem dX4_point_87 : decode cX4_point 87 = .ok (.aload_n 0, 1) := by decide +kernel
theorem dX4_point_88 : decode cX4_point 88 = .ok (.dup, 1) := by decide +kernel
theorem dX4_point_89 : decode cX4_point 89 = .ok (.getfield 58, 3) := by decide +kernel
theorem dX4_point_92 : decode cX4_point 92 = .ok (.iconst 1, 1) := by decide +kernel
theorem dX4_point_93 : decode cX4_point 93 = .ok (.iadd, 1) := by decide +kernel
theorem dX4_point_94 : decode cX4_point 94 = .ok (.putfield 58, 3) := by decide +kernel
theorem dX4_point_97 : decode cX4_point 97 = .ok (.aload_n 0, 1) := by decide +kernel
theorem dX4_point_98 : decode cX4_point 98 = .ok (.invokevirtual 65, 3) := by decide +kernel
theorem dX4_point_101 : decode cX4_point 101 = .ok (.aload_n 0, 1) := by decide +kernel
theorem dX4_point_102 : decode cX4_point 102 = .ok (.getfield 58, 3) := by decide +kernel
theorem dX4_point_105 : decode cX4_point 105 = .ok (.iconst 1, 1) := by decide +kernel
theorem dX4_point_106 : decode cX4_point 106 = .ok (.isub, 1) := by decide +kernel
theorem dX4_point_107 : decode cX4_point 107 = .ok (.ireturn, 1) := by decide +kernel
set_option maxRecDepth 20000 in
theorem ggX4_drop_X4_forgets : GoodIn wsX4_drop wsX4_forgets := goodIn_r _ [6, 7, 8, 9, 10, 11, 12, 13, 14, 15, 16, 17, 18, 19, 20, 21, 22, 23, 24, 25, 26, 27, 28, 29, 30] (by decide +kernel) (by decide +kernel)
set_option maxRecDepth 20000 in
theorem gX4_drop_X4_forgets : GoodIn wsX4_drop (wsV RX4 65 RX4 yX4_forgets wsX4_forgets) := goodIn_app (goodIn_of _ (by decide +kernel)) ggX4_drop_X4_forgets
theorem dX4_drop_0 : decode cX4_drop 0 = .ok (.aload_n 0, 1) := by decide +kernel
theorem dX4_drop_1 : decode cX4_drop 1 = .ok (.getfield 58, 3) := by decide +kernel
theorem dX4_drop_4 : decode cX4_drop 4 = .ok (.ifCond .ne 6, 3) := by decide +kernel
theorem dX4_drop_7 : decode cX4_drop 7 = .ok (.bipush (-3), 2) := by decide +kernel
theorem dX4_drop_9 : decode cX4_drop 9 = .ok (.ireturn, 1) := by decide +kernel
theorem dX4_drop_10 : decode cX4_drop 10 = .ok (.aload_n 0, 1) := by decide +kernel
theorem dX4_drop_11 : decode cX4_drop 11 = .ok (.dup, 1) := by decide +kernel
theorem dX4_drop_12 : decode cX4_drop 12 = .ok (.getfield 58, 3) := by decide +kernel
theorem dX4_drop_15 : decode cX4_drop 15 = .ok (.iconst 1, 1) := by decide +kernel
theorem dX4_drop_16 : decode cX4_drop 16 = .ok (.isub, 1) := by decide +kernel
theorem dX4_drop_17 : decode cX4_drop 17 = .ok (.putfield 58, 3) := by decide +kernel
theorem dX4_drop_20 : decode cX4_drop 20 = .ok (.aload_n 0, 1) := by decide +kernel
theorem dX4_drop_21 : decode cX4_drop 21 = .ok (.invokevirtual 65, 3) := by decide +kernel
theorem dX4_drop_24 : decode cX4_drop 24 = .ok (.aload_n 0, 1) := by decide +kernel
theorem dX4_drop_25 : decode cX4_drop 25 = .ok (.getfield 58, 3) := by decide +kernel
theorem dX4_drop_28 : decode cX4_drop 28 = .ok (.ireturn, 1) := by decide +kernel
set_option maxRecDepth 20000 in
theorem ggX4_degree_X4_in : GoodIn wsX4_degree wsX4_in := goodIn_r _ [6] (by decide +kernel) (by decide +kernel)
set_option maxRecDepth 20000 in
theorem gX4_degree_X4_in : GoodIn wsX4_degree (va_wsS RX4 61 yX4_in wsX4_in) := goodIn_app (goodIn_of _ (by decide +kernel)) ggX4_degree_X4_in
set_option maxRecDepth 20000 in
theorem ggX4_degree_X4_forgets : GoodIn wsX4_degree wsX4_forgets := goodIn_r _ [10, 11, 12, 13, 14, 15, 16, 17, 18, 19, 20, 21, 22, 23, 24, 25, 26, 27, 28, 29, 30, 31, 32, 33, 34] (by decide +kernel) (by decide +kernel)
set_option maxRecDepth 20000 in
theorem gX4_degree_X4_forgets : GoodIn wsX4_degree (wsV RX4 65 RX4 yX4_forgets wsX4_forgets) := goodIn_app (goodIn_of _ (by decide +kernel)) ggX4_degree_X4_forgets
theorem dX4_degree_0 : decode cX4_degree 0 = .ok (.iload_n 1, 1) := by decide +kernel
theorem dX4_degree_1 : decode cX4_degree 1 = .ok (.iconst 1, 1) := by decide +kernel
theorem dX4_degree_2 : decode cX4_degree 2 = .ok (.iconst 2, 1) := by decide +kernel
theorem dX4_degree_3 : decode cX4_degree 3 = .ok (.invokestatic 61, 3) := by decide +kernel
theorem dX4_degree_6 : decode cX4_degree 6 = .ok (.ifCond .ne 6, 3) := by decide +kernel
theorem dX4_degree_9 : decode cX4_degree 9 = .ok (.bipush (-2), 2) := by decide +kernel
theorem dX4_degree_11 : decode cX4_degree 11 = .ok (.ireturn, 1) := by decide +kernel
theorem dX4_degree_12 : decode cX4_degree 12 = .ok (.iload_n 1, 1) := by decide +kernel
theorem dX4_degree_13 : decode cX4_degree 13 = .ok (.iconst 2, 1) := by decide +kernel
theorem dX4_degree_14 : decode cX4_degree 14 = .ok (.if_icmp .ne 14, 3) := by decide +kernel
theorem dX4_degree_17 : decode cX4_degree 17 = .ok (.aload_n 0, 1) := by decide +kernel
theorem dX4_degree_18 : decode cX4_degree 18 = .ok (.getfield 58, 3) := by decide +kernel
theorem dX4_degree_21 : decode cX4_degree 21 = .ok (.iconst 4, 1) := by decide +kernel
theorem dX4_degree_22 : decode cX4_degree 22 = .ok (.if_icmp .le 6, 3) := by decide +kernel
theorem dX4_degree_25 : decode cX4_degree 25 = .ok (.bipush (-3), 2) := by decide +kernel
theorem dX4_degree_27 : decode cX4_degree 27 = .ok (.ireturn, 1) := by decide +kernel
theorem dX4_degree_28 : decode cX4_degree 28 = .ok (.aload_n 0, 1) := by decide +kernel
theorem dX4_degree_29 : decode cX4_degree 29 = .ok (.getfield 7, 3) := by decide +kernel
theorem dX4_degree_32 : decode cX4_degree 32 = .ok (.istore_n 2, 1) := by decide +kernel
theorem dX4_degree_33 : decode cX4_degree 33 = .ok (.aload_n 0, 1) := by decide +kernel
theorem dX4_degree_34 : decode cX4_degree 34 = .ok (.iload_n 1, 1) := by decide +kernel
theorem dX4_degree_35 : decode cX4_degree 35 = .ok (.putfield 7, 3) := by decide +kernel
theorem dX4_degree_38 : decode cX4_degree 38 = .ok (.aload_n 0, 1) := by decide +kernel
theorem dX4_degree_39 : decode cX4_degree 39 = .ok (.invokevirtual 65, 3) := by decide +kernel
theorem dX4_degree_42 : decode cX4_degree 42 = .ok (.iload_n 2, 1) := by decide +kernel
theorem dX4_degree_43 : decode cX4_degree 43 = .ok (.ireturn, 1) := by decide +kernel
set_option maxRecDepth 20000 in
theorem ggX4_box_X4_in : GoodIn wsX4_box wsX4_in := goodIn_r _ [6] (by decide +kernel) (by decide +kernel)
set_option maxRecDepth 20000 in
theorem gX4_box_X4_in : GoodIn wsX4_box (va_wsS RX4 61 yX4_in wsX4_in) := goodIn_app (goodIn_of _ (by decide +kernel)) ggX4_box_X4_in
set_option maxRecDepth 20000 in
theorem ggX4_box_X4_forgets : GoodIn wsX4_box wsX4_forgets := goodIn_r _ [10, 11, 12, 13, 14, 15, 16, 17, 18, 19, 20, 21, 22, 23, 24, 25, 26, 27, 28, 29, 30, 31, 32, 33, 34] (by decide +kernel) (by decide +kernel)
set_option maxRecDepth 20000 in
theorem gX4_box_X4_forgets : GoodIn wsX4_box (wsV RX4 65 RX4 yX4_forgets wsX4_forgets) := goodIn_app (goodIn_of _ (by decide +kernel)) ggX4_box_X4_forgets
theorem dX4_box_0 : decode cX4_box 0 = .ok (.iload_n 1, 1) := by decide +kernel
theorem dX4_box_1 : decode cX4_box 1 = .ok (.iconst 1, 1) := by decide +kernel
theorem dX4_box_2 : decode cX4_box 2 = .ok (.bipush 20, 2) := by decide +kernel
theorem dX4_box_4 : decode cX4_box 4 = .ok (.invokestatic 61, 3) := by decide +kernel
theorem dX4_box_7 : decode cX4_box 7 = .ok (.ifCond .eq 13, 3) := by decide +kernel
theorem dX4_box_10 : decode cX4_box 10 = .ok (.iload_n 2, 1) := by decide +kernel
theorem dX4_box_11 : decode cX4_box 11 = .ok (.iconst 1, 1) := by decide +kernel
theorem dX4_box_12 : decode cX4_box 12 = .ok (.bipush 6, 2) := by decide +kernel
theorem dX4_box_14 : decode cX4_box 14 = .ok (.invokestatic 61, 3) := by decide +kernel
theorem dX4_box_17 : decode cX4_box 17 = .ok (.ifCond .ne 6, 3) := by decide +kernel
theorem dX4_box_20 : decode cX4_box 20 = .ok (.bipush (-2), 2) := by decide +kernel
theorem dX4_box_22 : decode cX4_box 22 = .ok (.ireturn, 1) := by decide +kernel
theorem dX4_box_23 : decode cX4_box 23 = .ok (.aload_n 0, 1) := by decide +kernel
theorem dX4_box_24 : decode cX4_box 24 = .ok (.iload_n 1, 1) := by decide +kernel
theorem dX4_box_25 : decode cX4_box 25 = .ok (.putfield 13, 3) := by decide +kernel
theorem dX4_box_28 : decode cX4_box 28 = .ok (.aload_n 0, 1) := by decide +kernel
theorem dX4_box_29 : decode cX4_box 29 = .ok (.iload_n 2, 1) := by decide +kernel
theorem dX4_box_30 : decode cX4_box 30 = .ok (.putfield 16, 3) := by decide +kernel
theorem dX4_box_33 : decode cX4_box 33 = .ok (.aload_n 0, 1) := by decide +kernel
theorem dX4_box_34 : decode cX4_box 34 = .ok (.invokevirtual 65, 3) := by decide +kernel
theorem dX4_box_37 : decode cX4_box 37 = .ok (.iconst 1, 1) := by decide +kernel
theorem dX4_box_38 : decode cX4_box 38 = .ok (.ireturn, 1) := by decide +kernel
theorem dX4_kernel_0 : decode cX4_kernel 0 = .ok (.aload_n 0, 1) := by decide +kernel
theorem dX4_kernel_1 : decode cX4_kernel 1 = .ok (.getfield 19, 3) := by decide +kernel
theorem dX4_kernel_4 : decode cX4_kernel 4 = .ok (.iload_n 1, 1) := by decide +kernel
theorem dX4_kernel_5 : decode cX4_kernel 5 = .ok (.iaload, 1) := by decide +kernel
theorem dX4_kernel_6 : decode cX4_kernel 6 = .ok (.iload_n 2, 1) := by decide +kernel
theorem dX4_kernel_7 : decode cX4_kernel 7 = .ok (.imul, 1) := by decide +kernel
theorem dX4_kernel_8 : decode cX4_kernel 8 = .ok (.aload_n 0, 1) := by decide +kernel
theorem dX4_kernel_9 : decode cX4_kernel 9 = .ok (.getfield 23, 3) := by decide +kernel
theorem dX4_kernel_12 : decode cX4_kernel 12 = .ok (.iload_n 1, 1) := by decide +kernel
theorem dX4_kernel_13 : decode cX4_kernel 13 = .ok (.iaload, 1) := by decide +kernel
theorem dX4_kernel_14 : decode cX4_kernel 14 = .ok (.iload_n 3, 1) := by decide +kernel
theorem dX4_kernel_15 : decode cX4_kernel 15 = .ok (.imul, 1) := by decide +kernel
theorem dX4_kernel_16 : decode cX4_kernel 16 = .ok (.iadd, 1) := by decide +kernel
theorem dX4_kernel_17 : decode cX4_kernel 17 = .ok (.iconst 1, 1) := by decide +kernel
theorem dX4_kernel_18 : decode cX4_kernel 18 = .ok (.iadd, 1) := by decide +kernel
theorem dX4_kernel_19 : decode cX4_kernel 19 = .ok (.istore 4, 2) := by decide +kernel
theorem dX4_kernel_21 : decode cX4_kernel 21 = .ok (.aload_n 0, 1) := by decide +kernel
theorem dX4_kernel_22 : decode cX4_kernel 22 = .ok (.getfield 7, 3) := by decide +kernel
theorem dX4_kernel_25 : decode cX4_kernel 25 = .ok (.iconst 1, 1) := by decide +kernel
theorem dX4_kernel_26 : decode cX4_kernel 26 = .ok (.if_icmp .ne 8, 3) := by decide +kernel
theorem dX4_kernel_29 : decode cX4_kernel 29 = .ok (.iload 4, 2) := by decide +kernel
theorem dX4_kernel_31 : decode cX4_kernel 31 = .ok (.goto 8, 3) := by decide +kernel
theorem dX4_kernel_34 : decode cX4_kernel 34 = .ok (.iload 4, 2) := by decide +kernel
theorem dX4_kernel_36 : decode cX4_kernel 36 = .ok (.iload 4, 2) := by decide +kernel
theorem dX4_kernel_38 : decode cX4_kernel 38 = .ok (.imul, 1) := by decide +kernel
theorem dX4_kernel_39 : decode cX4_kernel 39 = .ok (.ireturn, 1) := by decide +kernel
set_option maxRecDepth 20000 in
theorem ggX4_qOf_X4_kernel : GoodIn wsX4_qOf wsX4_kernel := goodIn_r _ [8, 2, 3, 9, 10, 11, 12, 13, 14, 15, 16, 17, 18, 19, 20, 21, 22, 23, 24, 25, 26, 27, 28, 29] (by decide +kernel) (by decide +kernel)
set_option maxRecDepth 20000 in
theorem gX4_qOf_X4_kernel : GoodIn wsX4_qOf (wsV RX4 68 RX4 yX4_kernel wsX4_kernel) := goodIn_app (goodIn_of _ (by decide +kernel)) ggX4_qOf_X4_kernel
theorem dX4_qOf_0 : decode cX4_qOf 0 = .ok (.aload_n 0, 1) := by decide +kernel
theorem dX4_qOf_1 : decode cX4_qOf 1 = .ok (.getfield 26, 3) := by decide +kernel
theorem dX4_qOf_4 : decode cX4_qOf 4 = .ok (.iload_n 1, 1) := by decide +kernel
theorem dX4_qOf_5 : decode cX4_qOf 5 = .ok (.iaload, 1) := by decide +kernel
theorem dX4_qOf_6 : decode cX4_qOf 6 = .ok (.aload_n 0, 1) := by decide +kernel
theorem dX4_qOf_7 : decode cX4_qOf 7 = .ok (.getfield 26, 3) := by decide +kernel
theorem dX4_qOf_10 : decode cX4_qOf 10 = .ok (.iload_n 2, 1) := by decide +kernel
theorem dX4_qOf_11 : decode cX4_qOf 11 = .ok (.iaload, 1) := by decide +kernel
theorem dX4_qOf_12 : decode cX4_qOf 12 = .ok (.imul, 1) := by decide +kernel
theorem dX4_qOf_13 : decode cX4_qOf 13 = .ok (.aload_n 0, 1) := by decide +kernel
theorem dX4_qOf_14 : decode cX4_qOf 14 = .ok (.iload_n 1, 1) := by decide +kernel
theorem dX4_qOf_15 : decode cX4_qOf 15 = .ok (.aload_n 0, 1) := by decide +kernel
theorem dX4_qOf_16 : decode cX4_qOf 16 = .ok (.getfield 19, 3) := by decide +kernel
theorem dX4_qOf_19 : decode cX4_qOf 19 = .ok (.iload_n 2, 1) := by decide +kernel
theorem dX4_qOf_20 : decode cX4_qOf 20 = .ok (.iaload, 1) := by decide +kernel
theorem dX4_qOf_21 : decode cX4_qOf 21 = .ok (.aload_n 0, 1) := by decide +kernel
theorem dX4_qOf_22 : decode cX4_qOf 22 = .ok (.getfield 23, 3) := by decide +kernel
theorem dX4_qOf_25 : decode cX4_qOf 25 = .ok (.iload_n 2, 1) := by decide +kernel
theorem dX4_qOf_26 : decode cX4_qOf 26 = .ok (.iaload, 1) := by decide +kernel
theorem dX4_qOf_27 : decode cX4_qOf 27 = .ok (.invokevirtual 68, 3) := by decide +kernel
theorem dX4_qOf_30 : decode cX4_qOf 30 = .ok (.imul, 1) := by decide +kernel
theorem dX4_qOf_31 : decode cX4_qOf 31 = .ok (.ireturn, 1) := by decide +kernel
set_option maxRecDepth 20000 in
theorem ggX4_q_X4_isPoint : GoodIn wsX4_q wsX4_isPoint := goodIn_r _ [6, 7, 8, 9, 5, 10, 23, 24, 25, 26, 27, 28, 29, 30, 31, 32, 33, 34, 35, 36, 37, 38, 39, 40, 41, 42] (by decide +kernel) (by decide +kernel)
set_option maxRecDepth 20000 in
theorem gX4_q_X4_isPoint : GoodIn wsX4_q (wsV RX4 72 RX4 yX4_isPoint wsX4_isPoint) := goodIn_app (goodIn_of _ (by decide +kernel)) ggX4_q_X4_isPoint
set_option maxRecDepth 20000 in
theorem ggX4_q_X4_qOf : GoodIn wsX4_q wsX4_qOf := goodIn_r _ [14, 15, 16, 17, 18, 19, 20, 5, 21, 22, 23, 24, 25, 26, 27, 28, 29, 30, 31, 32, 33, 34, 35, 36, 37, 38, 39, 40, 41, 42] (by decide +kernel) (by decide +kernel)
set_option maxRecDepth 20000 in
theorem gX4_q_X4_qOf : GoodIn wsX4_q (wsV RX4 76 RX4 yX4_qOf wsX4_qOf) := goodIn_app (goodIn_of _ (by decide +kernel)) ggX4_q_X4_qOf
theorem dX4_q_0 : decode cX4_q 0 = .ok (.aload_n 0, 1) := by decide +kernel
theorem dX4_q_1 : decode cX4_q 1 = .ok (.iload_n 1, 1) := by decide +kernel
theorem dX4_q_2 : decode cX4_q 2 = .ok (.invokevirtual 72, 3) := by decide +kernel
theorem dX4_q_5 : decode cX4_q 5 = .ok (.ifCond .eq 20, 3) := by decide +kernel
theorem dX4_q_8 : decode cX4_q 8 = .ok (.aload_n 0, 1) := by decide +kernel
theorem dX4_q_9 : decode cX4_q 9 = .ok (.iload_n 2, 1) := by decide +kernel
theorem dX4_q_10 : decode cX4_q 10 = .ok (.invokevirtual 72, 3) := by decide +kernel
theorem dX4_q_13 : decode cX4_q 13 = .ok (.ifCond .eq 12, 3) := by decide +kernel
theorem dX4_q_16 : decode cX4_q 16 = .ok (.aload_n 0, 1) := by decide +kernel
theorem dX4_q_17 : decode cX4_q 17 = .ok (.iload_n 1, 1) := by decide +kernel
theorem dX4_q_18 : decode cX4_q 18 = .ok (.iload_n 2, 1) := by decide +kernel
theorem dX4_q_19 : decode cX4_q 19 = .ok (.invokevirtual 76, 3) := by decide +kernel
theorem dX4_q_22 : decode cX4_q 22 = .ok (.goto 5, 3) := by decide +kernel
theorem dX4_q_25 : decode cX4_q 25 = .ok (.ldc 80, 2) := by decide +kernel
theorem dX4_q_27 : decode cX4_q 27 = .ok (.ireturn, 1) := by decide +kernel
theorem dX4_product_0 : decode cX4_product 0 = .ok (.lload_n 1, 1) := by decide +kernel
theorem dX4_product_1 : decode cX4_product 1 = .ok (.ldc2_w 81, 3) := by decide +kernel
theorem dX4_product_4 : decode cX4_product 4 = .ok (.land, 1) := by decide +kernel
theorem dX4_product_5 : decode cX4_product 5 = .ok (.lstore 5, 2) := by decide +kernel
theorem dX4_product_7 : decode cX4_product 7 = .ok (.lload_n 1, 1) := by decide +kernel
theorem dX4_product_8 : decode cX4_product 8 = .ok (.bipush 32, 2) := by decide +kernel
theorem dX4_product_10 : decode cX4_product 10 = .ok (.lshr, 1) := by decide +kernel
theorem dX4_product_11 : decode cX4_product 11 = .ok (.lstore 7, 2) := by decide +kernel
theorem dX4_product_13 : decode cX4_product 13 = .ok (.lload_n 3, 1) := by decide +kernel
theorem dX4_product_14 : decode cX4_product 14 = .ok (.ldc2_w 81, 3) := by decide +kernel
theorem dX4_product_17 : decode cX4_product 17 = .ok (.land, 1) := by decide +kernel
theorem dX4_product_18 : decode cX4_product 18 = .ok (.lstore 9, 2) := by decide +kernel
theorem dX4_product_20 : decode cX4_product 20 = .ok (.lload_n 3, 1) := by decide +kernel
theorem dX4_product_21 : decode cX4_product 21 = .ok (.bipush 32, 2) := by decide +kernel
theorem dX4_product_23 : decode cX4_product 23 = .ok (.lshr, 1) := by decide +kernel
theorem dX4_product_24 : decode cX4_product 24 = .ok (.lstore 11, 2) := by decide +kernel
theorem dX4_product_26 : decode cX4_product 26 = .ok (.lload 5, 2) := by decide +kernel
theorem dX4_product_28 : decode cX4_product 28 = .ok (.lload 9, 2) := by decide +kernel
theorem dX4_product_30 : decode cX4_product 30 = .ok (.lmul, 1) := by decide +kernel
theorem dX4_product_31 : decode cX4_product 31 = .ok (.lstore 13, 2) := by decide +kernel
theorem dX4_product_33 : decode cX4_product 33 = .ok (.lload 7, 2) := by decide +kernel
theorem dX4_product_35 : decode cX4_product 35 = .ok (.lload 9, 2) := by decide +kernel
theorem dX4_product_37 : decode cX4_product 37 = .ok (.lmul, 1) := by decide +kernel
theorem dX4_product_38 : decode cX4_product 38 = .ok (.lload 13, 2) := by decide +kernel
theorem dX4_product_40 : decode cX4_product 40 = .ok (.bipush 32, 2) := by decide +kernel
theorem dX4_product_42 : decode cX4_product 42 = .ok (.lushr, 1) := by decide +kernel
theorem dX4_product_43 : decode cX4_product 43 = .ok (.ladd, 1) := by decide +kernel
theorem dX4_product_44 : decode cX4_product 44 = .ok (.lstore 15, 2) := by decide +kernel
theorem dX4_product_46 : decode cX4_product 46 = .ok (.lload 5, 2) := by decide +kernel
theorem dX4_product_48 : decode cX4_product 48 = .ok (.lload 11, 2) := by decide +kernel
theorem dX4_product_50 : decode cX4_product 50 = .ok (.lmul, 1) := by decide +kernel
theorem dX4_product_51 : decode cX4_product 51 = .ok (.lload 15, 2) := by decide +kernel
theorem dX4_product_53 : decode cX4_product 53 = .ok (.ldc2_w 81, 3) := by decide +kernel
theorem dX4_product_56 : decode cX4_product 56 = .ok (.land, 1) := by decide +kernel
theorem dX4_product_57 : decode cX4_product 57 = .ok (.ladd, 1) := by decide +kernel
theorem dX4_product_58 : decode cX4_product 58 = .ok (.lstore 17, 2) := by decide +kernel
theorem dX4_product_60 : decode cX4_product 60 = .ok (.aload_n 0, 1) := by decide +kernel
theorem dX4_product_61 : decode cX4_product 61 = .ok (.lload 7, 2) := by decide +kernel
theorem dX4_product_63 : decode cX4_product 63 = .ok (.lload 11, 2) := by decide +kernel
theorem dX4_product_65 : decode cX4_product 65 = .ok (.lmul, 1) := by decide +kernel
theorem dX4_product_66 : decode cX4_product 66 = .ok (.lload 15, 2) := by decide +kernel
theorem dX4_product_68 : decode cX4_product 68 = .ok (.bipush 32, 2) := by decide +kernel
theorem dX4_product_70 : decode cX4_product 70 = .ok (.lshr, 1) := by decide +kernel
theorem dX4_product_71 : decode cX4_product 71 = .ok (.ladd, 1) := by decide +kernel
theorem dX4_product_72 : decode cX4_product 72 = .ok (.lload 17, 2) := by decide +kernel
theorem dX4_product_74 : decode cX4_product 74 = .ok (.bipush 32, 2) := by decide +kernel
theorem dX4_product_76 : decode cX4_product 76 = .ok (.lshr, 1) := by decide +kernel
theorem dX4_product_77 : decode cX4_product 77 = .ok (.ladd, 1) := by decide +kernel
theorem dX4_product_78 : decode cX4_product 78 = .ok (.putfield 83, 3) := by decide +kernel
theorem dX4_product_81 : decode cX4_product 81 = .ok (.aload_n 0, 1) := by decide +kernel
theorem dX4_product_82 : decode cX4_product 82 = .ok (.lload_n 1, 1) := by decide +kernel
theorem dX4_product_83 : decode cX4_product 83 = .ok (.lload_n 3, 1) := by decide +kernel
theorem dX4_product_84 : decode cX4_product 84 = .ok (.lmul, 1) := by decide +kernel
theorem dX4_product_85 : decode cX4_product 85 = .ok (.putfield 87, 3) := by decide +kernel
theorem dX4_product_88 : decode cX4_product 88 = .ok (.return_, 1) := by decide +kernel
set_option maxRecDepth 20000 in
theorem ggX4_cross_X4_product : GoodIn wsX4_cross wsX4_product := goodIn_r _ [8, 9, 1, 2, 10, 11, 12, 13, 14, 15, 16, 17, 18, 19, 20, 21, 22, 23, 24, 25, 26, 27, 28, 29] (by decide +kernel) (by decide +kernel)
set_option maxRecDepth 20000 in
theorem gX4_cross_X4_product : GoodIn wsX4_cross (wsV RX4 90 RX4 yX4_product wsX4_product) := goodIn_app (goodIn_of _ (by decide +kernel)) ggX4_cross_X4_product
theorem dX4_cross_0 : decode cX4_cross 0 = .ok (.aload_n 0, 1) := by decide +kernel
theorem dX4_cross_1 : decode cX4_cross 1 = .ok (.lload_n 1, 1) := by decide +kernel
theorem dX4_cross_2 : decode cX4_cross 2 = .ok (.lload_n 3, 1) := by decide +kernel
theorem dX4_cross_3 : decode cX4_cross 3 = .ok (.invokevirtual 90, 3) := by decide +kernel
theorem dX4_cross_6 : decode cX4_cross 6 = .ok (.aload_n 0, 1) := by decide +kernel
theorem dX4_cross_7 : decode cX4_cross 7 = .ok (.getfield 83, 3) := by decide +kernel
theorem dX4_cross_10 : decode cX4_cross 10 = .ok (.lstore 9, 2) := by decide +kernel
theorem dX4_cross_12 : decode cX4_cross 12 = .ok (.aload_n 0, 1) := by decide +kernel
theorem dX4_cross_13 : decode cX4_cross 13 = .ok (.getfield 87, 3) := by decide +kernel
theorem dX4_cross_16 : decode cX4_cross 16 = .ok (.lstore 11, 2) := by decide +kernel
theorem dX4_cross_18 : decode cX4_cross 18 = .ok (.aload_n 0, 1) := by decide +kernel
theorem dX4_cross_19 : decode cX4_cross 19 = .ok (.lload 5, 2) := by decide +kernel
theorem dX4_cross_21 : decode cX4_cross 21 = .ok (.lload 7, 2) := by decide +kernel
theorem dX4_cross_23 : decode cX4_cross 23 = .ok (.invokevirtual 90, 3) := by decide +kernel
theorem dX4_cross_26 : decode cX4_cross 26 = .ok (.lload 11, 2) := by decide +kernel
theorem dX4_cross_28 : decode cX4_cross 28 = .ok (.aload_n 0, 1) := by decide +kernel
theorem dX4_cross_29 : decode cX4_cross 29 = .ok (.getfield 87, 3) := by decide +kernel
theorem dX4_cross_32 : decode cX4_cross 32 = .ok (.lsub, 1) := by decide +kernel
theorem dX4_cross_33 : decode cX4_cross 33 = .ok (.lstore 13, 2) := by decide +kernel
theorem dX4_cross_35 : decode cX4_cross 35 = .ok (.lload 11, 2) := by decide +kernel
theorem dX4_cross_37 : decode cX4_cross 37 = .ok (.ldc2_w 94, 3) := by decide +kernel
theorem dX4_cross_40 : decode cX4_cross 40 = .ok (.ladd, 1) := by decide +kernel
theorem dX4_cross_41 : decode cX4_cross 41 = .ok (.aload_n 0, 1) := by decide +kernel
theorem dX4_cross_42 : decode cX4_cross 42 = .ok (.getfield 87, 3) := by decide +kernel
theorem dX4_cross_45 : decode cX4_cross 45 = .ok (.ldc2_w 94, 3) := by decide +kernel
theorem dX4_cross_48 : decode cX4_cross 48 = .ok (.ladd, 1) := by decide +kernel
theorem dX4_cross_49 : decode cX4_cross 49 = .ok (.lcmp, 1) := by decide +kernel
theorem dX4_cross_50 : decode cX4_cross 50 = .ok (.ifCond .ge 7, 3) := by decide +kernel
theorem dX4_cross_53 : decode cX4_cross 53 = .ok (.iconst 1, 1) := by decide +kernel
theorem dX4_cross_54 : decode cX4_cross 54 = .ok (.goto 4, 3) := by decide +kernel
theorem dX4_cross_57 : decode cX4_cross 57 = .ok (.iconst 0, 1) := by decide +kernel
theorem dX4_cross_58 : decode cX4_cross 58 = .ok (.istore 15, 2) := by decide +kernel
theorem dX4_cross_60 : decode cX4_cross 60 = .ok (.aload_n 0, 1) := by decide +kernel
theorem dX4_cross_61 : decode cX4_cross 61 = .ok (.lload 9, 2) := by decide +kernel
theorem dX4_cross_63 : decode cX4_cross 63 = .ok (.aload_n 0, 1) := by decide +kernel
theorem dX4_cross_64 : decode cX4_cross 64 = .ok (.getfield 83, 3) := by decide +kernel
theorem dX4_cross_67 : decode cX4_cross 67 = .ok (.lsub, 1) := by decide +kernel
theorem dX4_cross_68 : decode cX4_cross 68 = .ok (.iload 15, 2) := by decide +kernel
theorem dX4_cross_70 : decode cX4_cross 70 = .ok (.ifCond .eq 7, 3) := by decide +kernel
theorem dX4_cross_73 : decode cX4_cross 73 = .ok (.lconst 1, 1) := by decide +kernel
theorem dX4_cross_74 : decode cX4_cross 74 = .ok (.goto 4, 3) := by decide +kernel
theorem dX4_cross_77 : decode cX4_cross 77 = .ok (.lconst 0, 1) := by decide +kernel
theorem dX4_cross_78 : decode cX4_cross 78 = .ok (.lsub, 1) := by decide +kernel
theorem dX4_cross_79 : decode cX4_cross 79 = .ok (.putfield 83, 3) := by decide +kernel
theorem dX4_cross_82 : decode cX4_cross 82 = .ok (.aload_n 0, 1) := by decide +kernel
theorem dX4_cross_83 : decode cX4_cross 83 = .ok (.lload 13, 2) := by decide +kernel
theorem dX4_cross_85 : decode cX4_cross 85 = .ok (.putfield 87, 3) := by decide +kernel
theorem dX4_cross_88 : decode cX4_cross 88 = .ok (.return_, 1) := by decide +kernel
set_option maxRecDepth 20000 in
theorem ggX4_signOfCross_X4_cross : GoodIn wsX4_signOfCross wsX4_cross := goodIn_r _ [7, 1, 2, 8, 9, 10, 11, 6, 12, 13, 14, 15, 16, 17, 18, 19, 20, 21, 22, 23, 24, 25, 26, 27, 28, 29, 30, 31, 32, 33] (by decide +kernel) (by decide +kernel)
set_option maxRecDepth 20000 in
theorem gX4_signOfCross_X4_cross : GoodIn wsX4_signOfCross (wsV RX4 96 RX4 yX4_cross wsX4_cross) := goodIn_app (goodIn_of _ (by decide +kernel)) ggX4_signOfCross_X4_cross
theorem dX4_signOfCross_0 : decode cX4_signOfCross 0 = .ok (.aload_n 0, 1) := by decide +kernel
theorem dX4_signOfCross_1 : decode cX4_signOfCross 1 = .ok (.lload_n 1, 1) := by decide +kernel
theorem dX4_signOfCross_2 : decode cX4_signOfCross 2 = .ok (.lload_n 3, 1) := by decide +kernel
theorem dX4_signOfCross_3 : decode cX4_signOfCross 3 = .ok (.lload 5, 2) := by decide +kernel
theorem dX4_signOfCross_5 : decode cX4_signOfCross 5 = .ok (.lload 7, 2) := by decide +kernel
theorem dX4_signOfCross_7 : decode cX4_signOfCross 7 = .ok (.invokevirtual 96, 3) := by decide +kernel
theorem dX4_signOfCross_10 : decode cX4_signOfCross 10 = .ok (.aload_n 0, 1) := by decide +kernel
theorem dX4_signOfCross_11 : decode cX4_signOfCross 11 = .ok (.getfield 83, 3) := by decide +kernel
theorem dX4_signOfCross_14 : decode cX4_signOfCross 14 = .ok (.lconst 0, 1) := by decide +kernel
theorem dX4_signOfCross_15 : decode cX4_signOfCross 15 = .ok (.lcmp, 1) := by decide +kernel
theorem dX4_signOfCross_16 : decode cX4_signOfCross 16 = .ok (.ifCond .ge 7, 3) := by decide +kernel
theorem dX4_signOfCross_19 : decode cX4_signOfCross 19 = .ok (.iconst (-1), 1) := by decide +kernel
theorem dX4_signOfCross_20 : decode cX4_signOfCross 20 = .ok (.goto 26, 3) := by decide +kernel
theorem dX4_signOfCross_23 : decode cX4_signOfCross 23 = .ok (.aload_n 0, 1) := by decide +kernel
theorem dX4_signOfCross_24 : decode cX4_signOfCross 24 = .ok (.getfield 83, 3) := by decide +kernel
theorem dX4_signOfCross_27 : decode cX4_signOfCross 27 = .ok (.lconst 0, 1) := by decide +kernel
theorem dX4_signOfCross_28 : decode cX4_signOfCross 28 = .ok (.lcmp, 1) := by decide +kernel
theorem dX4_signOfCross_29 : decode cX4_signOfCross 29 = .ok (.ifCond .gt 12, 3) := by decide +kernel
theorem dX4_signOfCross_32 : decode cX4_signOfCross 32 = .ok (.aload_n 0, 1) := by decide +kernel
theorem dX4_signOfCross_33 : decode cX4_signOfCross 33 = .ok (.getfield 87, 3) := by decide +kernel
theorem dX4_signOfCross_36 : decode cX4_signOfCross 36 = .ok (.lconst 0, 1) := by decide +kernel
theorem dX4_signOfCross_37 : decode cX4_signOfCross 37 = .ok (.lcmp, 1) := by decide +kernel
theorem dX4_signOfCross_38 : decode cX4_signOfCross 38 = .ok (.ifCond .eq 7, 3) := by decide +kernel
theorem dX4_signOfCross_41 : decode cX4_signOfCross 41 = .ok (.iconst 1, 1) := by decide +kernel
theorem dX4_signOfCross_42 : decode cX4_signOfCross 42 = .ok (.goto 4, 3) := by decide +kernel
theorem dX4_signOfCross_45 : decode cX4_signOfCross 45 = .ok (.iconst 0, 1) := by decide +kernel
theorem dX4_signOfCross_46 : decode cX4_signOfCross 46 = .ok (.ireturn, 1) := by decide +kernel
theorem dX4_shared_0 : decode cX4_shared 0 = .ok (.iconst 0, 1) := by decide +kernel
theorem dX4_shared_1 : decode cX4_shared 1 = .ok (.istore_n 3, 1) := by decide +kernel
theorem dX4_shared_2 : decode cX4_shared 2 = .ok (.lload_n 1, 1) := by decide +kernel
theorem dX4_shared_3 : decode cX4_shared 3 = .ok (.lstore 4, 2) := by decide +kernel
theorem dX4_shared_5 : decode cX4_shared 5 = .ok (.lload 4, 2) := by decide +kernel
theorem dX4_shared_7 : decode cX4_shared 7 = .ok (.lconst 1, 1) := by decide +kernel
theorem dX4_shared_8 : decode cX4_shared 8 = .ok (.land, 1) := by decide +kernel
theorem dX4_shared_9 : decode cX4_shared 9 = .ok (.lconst 0, 1) := by decide +kernel
theorem dX4_shared_10 : decode cX4_shared 10 = .ok (.lcmp, 1) := by decide +kernel
theorem dX4_shared_11 : decode cX4_shared 11 = .ok (.ifCond .ne 15, 3) := by decide +kernel
theorem dX4_shared_14 : decode cX4_shared 14 = .ok (.lload 4, 2) := by decide +kernel
theorem dX4_shared_16 : decode cX4_shared 16 = .ok (.iconst 1, 1) := by decide +kernel
theorem dX4_shared_17 : decode cX4_shared 17 = .ok (.lshr, 1) := by decide +kernel
theorem dX4_shared_18 : decode cX4_shared 18 = .ok (.lstore 4, 2) := by decide +kernel
theorem dX4_shared_20 : decode cX4_shared 20 = .ok (.iinc 3 1, 3) := by decide +kernel
theorem dX4_shared_23 : decode cX4_shared 23 = .ok (.goto (-18), 3) := by decide +kernel
theorem dX4_shared_26 : decode cX4_shared 26 = .ok (.iload_n 3, 1) := by decide +kernel
theorem dX4_shared_27 : decode cX4_shared 27 = .ok (.ifCond .ne 10, 3) := by decide +kernel
theorem dX4_shared_30 : decode cX4_shared 30 = .ok (.aload_n 0, 1) := by decide +kernel
theorem dX4_shared_31 : decode cX4_shared 31 = .ok (.getfield 87, 3) := by decide +kernel
theorem dX4_shared_34 : decode cX4_shared 34 = .ok (.goto 19, 3) := by decide +kernel
theorem dX4_shared_37 : decode cX4_shared 37 = .ok (.aload_n 0, 1) := by decide +kernel
theorem dX4_shared_38 : decode cX4_shared 38 = .ok (.getfield 87, 3) := by decide +kernel
theorem dX4_shared_41 : decode cX4_shared 41 = .ok (.iload_n 3, 1) := by decide +kernel
theorem dX4_shared_42 : decode cX4_shared 42 = .ok (.lushr, 1) := by decide +kernel
theorem dX4_shared_43 : decode cX4_shared 43 = .ok (.aload_n 0, 1) := by decide +kernel
theorem dX4_shared_44 : decode cX4_shared 44 = .ok (.getfield 83, 3) := by decide +kernel
theorem dX4_shared_47 : decode cX4_shared 47 = .ok (.bipush 64, 2) := by decide +kernel
theorem dX4_shared_49 : decode cX4_shared 49 = .ok (.iload_n 3, 1) := by decide +kernel
theorem dX4_shared_50 : decode cX4_shared 50 = .ok (.isub, 1) := by decide +kernel
theorem dX4_shared_51 : decode cX4_shared 51 = .ok (.lshl, 1) := by decide +kernel
theorem dX4_shared_52 : decode cX4_shared 52 = .ok (.lor, 1) := by decide +kernel
theorem dX4_shared_53 : decode cX4_shared 53 = .ok (.lstore 6, 2) := by decide +kernel
theorem dX4_shared_55 : decode cX4_shared 55 = .ok (.lload 4, 2) := by decide +kernel
theorem dX4_shared_57 : decode cX4_shared 57 = .ok (.lstore 8, 2) := by decide +kernel
theorem dX4_shared_59 : decode cX4_shared 59 = .ok (.iconst 0, 1) := by decide +kernel
theorem dX4_shared_60 : decode cX4_shared 60 = .ok (.istore 10, 2) := by decide +kernel
theorem dX4_shared_62 : decode cX4_shared 62 = .ok (.iload 10, 2) := by decide +kernel
theorem dX4_shared_64 : decode cX4_shared 64 = .ok (.bipush 6, 2) := by decide +kernel
theorem dX4_shared_66 : decode cX4_shared 66 = .ok (.if_icmp .ge 23, 3) := by decide +kernel
theorem dX4_shared_69 : decode cX4_shared 69 = .ok (.lload 8, 2) := by decide +kernel
theorem dX4_shared_71 : decode cX4_shared 71 = .ok (.ldc2_w 100, 3) := by decide +kernel
theorem dX4_shared_74 : decode cX4_shared 74 = .ok (.lload 4, 2) := by decide +kernel
theorem dX4_shared_76 : decode cX4_shared 76 = .ok (.lload 8, 2) := by decide +kernel
theorem dX4_shared_78 : decode cX4_shared 78 = .ok (.lmul, 1) := by decide +kernel
theorem dX4_shared_79 : decode cX4_shared 79 = .ok (.lsub, 1) := by decide +kernel
theorem dX4_shared_80 : decode cX4_shared 80 = .ok (.lmul, 1) := by decide +kernel
theorem dX4_shared_81 : decode cX4_shared 81 = .ok (.lstore 8, 2) := by decide +kernel
theorem dX4_shared_83 : decode cX4_shared 83 = .ok (.iinc 10 1, 3) := by decide +kernel
theorem dX4_shared_86 : decode cX4_shared 86 = .ok (.goto (-24), 3) := by decide +kernel
theorem dX4_shared_89 : decode cX4_shared 89 = .ok (.lload 6, 2) := by decide +kernel
theorem dX4_shared_91 : decode cX4_shared 91 = .ok (.lload 8, 2) := by decide +kernel
theorem dX4_shared_93 : decode cX4_shared 93 = .ok (.lmul, 1) := by decide +kernel
theorem dX4_shared_94 : decode cX4_shared 94 = .ok (.lreturn, 1) := by decide +kernel
theorem dX4_size_0 : decode cX4_size 0 = .ok (.lload_n 0, 1) := by decide +kernel
theorem dX4_size_1 : decode cX4_size 1 = .ok (.lconst 0, 1) := by decide +kernel
theorem dX4_size_2 : decode cX4_size 2 = .ok (.lcmp, 1) := by decide +kernel
theorem dX4_size_3 : decode cX4_size 3 = .ok (.ifCond .ge 8, 3) := by decide +kernel
theorem dX4_size_6 : decode cX4_size 6 = .ok (.lload_n 0, 1) := by decide +kernel
theorem dX4_size_7 : decode cX4_size 7 = .ok (.lneg, 1) := by decide +kernel
theorem dX4_size_8 : decode cX4_size 8 = .ok (.goto 4, 3) := by decide +kernel
theorem dX4_size_11 : decode cX4_size 11 = .ok (.lload_n 0, 1) := by decide +kernel
theorem dX4_size_12 : decode cX4_size 12 = .ok (.lreturn, 1) := by decide +kernel
set_option maxRecDepth 20000 in
theorem ggX4_divisor_X4_size : GoodIn wsX4_divisor wsX4_size := goodIn_r _ [4] (by decide +kernel) (by decide +kernel)
set_option maxRecDepth 20000 in
theorem gX4_divisor_X4_size : GoodIn wsX4_divisor (va_wsS RX4 102 yX4_size wsX4_size) := goodIn_app (goodIn_of _ (by decide +kernel)) ggX4_divisor_X4_size
theorem dX4_divisor_0 : decode cX4_divisor 0 = .ok (.lload_n 0, 1) := by decide +kernel
theorem dX4_divisor_1 : decode cX4_divisor 1 = .ok (.invokestatic 102, 3) := by decide +kernel
theorem dX4_divisor_4 : decode cX4_divisor 4 = .ok (.lstore 4, 2) := by decide +kernel
theorem dX4_divisor_6 : decode cX4_divisor 6 = .ok (.lload_n 2, 1) := by decide +kernel
theorem dX4_divisor_7 : decode cX4_divisor 7 = .ok (.invokestatic 102, 3) := by decide +kernel
theorem dX4_divisor_10 : decode cX4_divisor 10 = .ok (.lstore 6, 2) := by decide +kernel
theorem dX4_divisor_12 : decode cX4_divisor 12 = .ok (.lload 6, 2) := by decide +kernel
theorem dX4_divisor_14 : decode cX4_divisor 14 = .ok (.lconst 0, 1) := by decide +kernel
theorem dX4_divisor_15 : decode cX4_divisor 15 = .ok (.lcmp, 1) := by decide +kernel
theorem dX4_divisor_16 : decode cX4_divisor 16 = .ok (.ifCond .eq 21, 3) := by decide +kernel
theorem dX4_divisor_19 : decode cX4_divisor 19 = .ok (.lload 4, 2) := by decide +kernel
theorem dX4_divisor_21 : decode cX4_divisor 21 = .ok (.lload 6, 2) := by decide +kernel
theorem dX4_divisor_23 : decode cX4_divisor 23 = .ok (.lrem, 1) := by decide +kernel
theorem dX4_divisor_24 : decode cX4_divisor 24 = .ok (.lstore 8, 2) := by decide +kernel
theorem dX4_divisor_26 : decode cX4_divisor 26 = .ok (.lload 6, 2) := by decide +kernel
theorem dX4_divisor_28 : decode cX4_divisor 28 = .ok (.lstore 4, 2) := by decide +kernel
theorem dX4_divisor_30 : decode cX4_divisor 30 = .ok (.lload 8, 2) := by decide +kernel
theorem dX4_divisor_32 : decode cX4_divisor 32 = .ok (.lstore 6, 2) := by decide +kernel
theorem dX4_divisor_34 : decode cX4_divisor 34 = .ok (.goto (-22), 3) := by decide +kernel
theorem dX4_divisor_37 : decode cX4_divisor 37 = .ok (.lload 4, 2) := by decide +kernel
theorem dX4_divisor_39 : decode cX4_divisor 39 = .ok (.lreturn, 1) := by decide +kernel
set_option maxRecDepth 20000 in
theorem ggX4_lowest_X4_divisor : GoodIn wsX4_lowest wsX4_divisor := goodIn_r _ [4, 5, 6, 3, 7] (by decide +kernel) (by decide +kernel)
set_option maxRecDepth 20000 in
theorem gX4_lowest_X4_divisor : GoodIn wsX4_lowest (va_wsS RX4 106 yX4_divisor wsX4_divisor) := goodIn_app (goodIn_of _ (by decide +kernel)) ggX4_lowest_X4_divisor
theorem dX4_lowest_0 : decode cX4_lowest 0 = .ok (.lload_n 0, 1) := by decide +kernel
theorem dX4_lowest_1 : decode cX4_lowest 1 = .ok (.lload_n 2, 1) := by decide +kernel
theorem dX4_lowest_2 : decode cX4_lowest 2 = .ok (.invokestatic 106, 3) := by decide +kernel
theorem dX4_lowest_5 : decode cX4_lowest 5 = .ok (.lstore 5, 2) := by decide +kernel
theorem dX4_lowest_7 : decode cX4_lowest 7 = .ok (.iload 4, 2) := by decide +kernel
theorem dX4_lowest_9 : decode cX4_lowest 9 = .ok (.ifCond .ne 10, 3) := by decide +kernel
theorem dX4_lowest_12 : decode cX4_lowest 12 = .ok (.lload_n 0, 1) := by decide +kernel
theorem dX4_lowest_13 : decode cX4_lowest 13 = .ok (.lload 5, 2) := by decide +kernel
theorem dX4_lowest_15 : decode cX4_lowest 15 = .ok (.ldiv, 1) := by decide +kernel
theorem dX4_lowest_16 : decode cX4_lowest 16 = .ok (.goto 17, 3) := by decide +kernel
theorem dX4_lowest_19 : decode cX4_lowest 19 = .ok (.iload 4, 2) := by decide +kernel
theorem dX4_lowest_21 : decode cX4_lowest 21 = .ok (.iconst 1, 1) := by decide +kernel
theorem dX4_lowest_22 : decode cX4_lowest 22 = .ok (.if_icmp .ne 10, 3) := by decide +kernel
theorem dX4_lowest_25 : decode cX4_lowest 25 = .ok (.lload_n 2, 1) := by decide +kernel
theorem dX4_lowest_26 : decode cX4_lowest 26 = .ok (.lload 5, 2) := by decide +kernel
theorem dX4_lowest_28 : decode cX4_lowest 28 = .ok (.ldiv, 1) := by decide +kernel
theorem dX4_lowest_29 : decode cX4_lowest 29 = .ok (.goto 4, 3) := by decide +kernel
theorem dX4_lowest_32 : decode cX4_lowest 32 = .ok (.lconst 0, 1) := by decide +kernel
theorem dX4_lowest_33 : decode cX4_lowest 33 = .ok (.lreturn, 1) := by decide +kernel
set_option maxRecDepth 20000 in
theorem ggX4_m_X4_qOf : GoodIn wsX4_m wsX4_qOf := goodIn_r _ [7, 8, 9, 10, 11, 12, 13, 6, 14, 15, 16, 17, 18, 19, 20, 21, 22, 23, 24, 25, 26, 27, 28, 29, 30, 31, 32, 33, 34, 35] (by decide +kernel) (by decide +kernel)
set_option maxRecDepth 20000 in
theorem gX4_m_X4_qOf : GoodIn wsX4_m (wsV RX4 76 RX4 yX4_qOf wsX4_qOf) := goodIn_app (goodIn_of _ (by decide +kernel)) ggX4_m_X4_qOf
theorem dX4_m_0 : decode cX4_m 0 = .ok (.iload_n 1, 1) := by decide +kernel
theorem dX4_m_1 : decode cX4_m 1 = .ok (.aload_n 0, 1) := by decide +kernel
theorem dX4_m_2 : decode cX4_m 2 = .ok (.getfield 58, 3) := by decide +kernel
theorem dX4_m_5 : decode cX4_m 5 = .ok (.if_icmp .ge 21, 3) := by decide +kernel
theorem dX4_m_8 : decode cX4_m 8 = .ok (.iload_n 2, 1) := by decide +kernel
theorem dX4_m_9 : decode cX4_m 9 = .ok (.aload_n 0, 1) := by decide +kernel
theorem dX4_m_10 : decode cX4_m 10 = .ok (.getfield 58, 3) := by decide +kernel
theorem dX4_m_13 : decode cX4_m 13 = .ok (.if_icmp .ge 13, 3) := by decide +kernel
theorem dX4_m_16 : decode cX4_m 16 = .ok (.aload_n 0, 1) := by decide +kernel
theorem dX4_m_17 : decode cX4_m 17 = .ok (.iload_n 1, 1) := by decide +kernel
theorem dX4_m_18 : decode cX4_m 18 = .ok (.iload_n 2, 1) := by decide +kernel
theorem dX4_m_19 : decode cX4_m 19 = .ok (.invokevirtual 76, 3) := by decide +kernel
theorem dX4_m_22 : decode cX4_m 22 = .ok (.i2l, 1) := by decide +kernel
theorem dX4_m_23 : decode cX4_m 23 = .ok (.goto 34, 3) := by decide +kernel
theorem dX4_m_26 : decode cX4_m 26 = .ok (.iload_n 2, 1) := by decide +kernel
theorem dX4_m_27 : decode cX4_m 27 = .ok (.aload_n 0, 1) := by decide +kernel
theorem dX4_m_28 : decode cX4_m 28 = .ok (.getfield 58, 3) := by decide +kernel
theorem dX4_m_31 : decode cX4_m 31 = .ok (.iload_n 1, 1) := by decide +kernel
theorem dX4_m_32 : decode cX4_m 32 = .ok (.iadd, 1) := by decide +kernel
theorem dX4_m_33 : decode cX4_m 33 = .ok (.if_icmp .ne 7, 3) := by decide +kernel
theorem dX4_m_36 : decode cX4_m 36 = .ok (.lconst 1, 1) := by decide +kernel
theorem dX4_m_37 : decode cX4_m 37 = .ok (.goto 20, 3) := by decide +kernel
theorem dX4_m_40 : decode cX4_m 40 = .ok (.iload_n 1, 1) := by decide +kernel
theorem dX4_m_41 : decode cX4_m 41 = .ok (.aload_n 0, 1) := by decide +kernel
theorem dX4_m_42 : decode cX4_m 42 = .ok (.getfield 58, 3) := by decide +kernel
theorem dX4_m_45 : decode cX4_m 45 = .ok (.iload_n 2, 1) := by decide +kernel
theorem dX4_m_46 : decode cX4_m 46 = .ok (.iadd, 1) := by decide +kernel
theorem dX4_m_47 : decode cX4_m 47 = .ok (.if_icmp .ne 9, 3) := by decide +kernel
theorem dX4_m_50 : decode cX4_m 50 = .ok (.ldc2_w 110, 3) := by decide +kernel
theorem dX4_m_53 : decode cX4_m 53 = .ok (.goto 4, 3) := by decide +kernel
theorem dX4_m_56 : decode cX4_m 56 = .ok (.lconst 0, 1) := by decide +kernel
theorem dX4_m_57 : decode cX4_m 57 = .ok (.lreturn, 1) := by decide +kernel
theorem dX4_columnQ_0 : decode cX4_columnQ 0 = .ok (.iconst 2, 1) := by decide +kernel
theorem dX4_columnQ_1 : decode cX4_columnQ 1 = .ok (.aload_n 0, 1) := by decide +kernel
theorem dX4_columnQ_2 : decode cX4_columnQ 2 = .ok (.getfield 112, 3) := by decide +kernel
theorem dX4_columnQ_5 : decode cX4_columnQ 5 = .ok (.imul, 1) := by decide +kernel
theorem dX4_columnQ_6 : decode cX4_columnQ 6 = .ok (.iconst 1, 1) := by decide +kernel
theorem dX4_columnQ_7 : decode cX4_columnQ 7 = .ok (.iadd, 1) := by decide +kernel
theorem dX4_columnQ_8 : decode cX4_columnQ 8 = .ok (.ireturn, 1) := by decide +kernel
set_option maxRecDepth 20000 in
theorem ggX4_begin_X4_forgets : GoodIn wsX4_begin wsX4_forgets := goodIn_r _ [14, 2, 15, 16, 17, 38, 39, 40, 41, 42, 43, 44, 45, 46, 47, 48, 49, 50, 51, 52, 53, 54, 55, 56, 57] (by decide +kernel) (by decide +kernel)
set_option maxRecDepth 20000 in
theorem gX4_begin_X4_forgets : GoodIn wsX4_begin (wsV RX4 65 RX4 yX4_forgets wsX4_forgets) := goodIn_app (goodIn_of _ (by decide +kernel)) ggX4_begin_X4_forgets
set_option maxRecDepth 20000 in
theorem ggX4_begin_X4_m : GoodIn wsX4_begin wsX4_m := goodIn_r _ [21, 1, 7, 22, 23, 24, 13, 25, 26, 27, 28, 29, 30, 31, 32, 33, 38, 39, 40, 41, 42, 43, 44, 45, 46, 47, 48, 49, 50, 51, 52, 53, 54, 55, 56, 57] (by decide +kernel) (by decide +kernel)
set_option maxRecDepth 20000 in
theorem gX4_begin_X4_m : GoodIn wsX4_begin (wsV RX4 118 RX4 yX4_m wsX4_m) := goodIn_app (goodIn_of _ (by decide +kernel)) ggX4_begin_X4_m
set_option maxRecDepth 20000 in
theorem ggX4_begin_X4_columnQ : GoodIn wsX4_begin wsX4_columnQ := goodIn_r _ [37, 3, 38, 39, 40, 41, 42, 43, 44, 45, 46, 47, 48, 49, 50, 51, 52, 53, 54, 55, 56, 57] (by decide +kernel) (by decide +kernel)
set_option maxRecDepth 20000 in
theorem gX4_begin_X4_columnQ : GoodIn wsX4_begin (wsV RX4 122 RX4 yX4_columnQ wsX4_columnQ) := goodIn_app (goodIn_of _ (by decide +kernel)) ggX4_begin_X4_columnQ
theorem dX4_begin_0 : decode cX4_begin 0 = .ok (.aload_n 0, 1) := by decide +kernel
theorem dX4_begin_1 : decode cX4_begin 1 = .ok (.getfield 58, 3) := by decide +kernel
theorem dX4_begin_4 : decode cX4_begin 4 = .ok (.ifCond .ne 6, 3) := by decide +kernel
theorem dX4_begin_7 : decode cX4_begin 7 = .ok (.bipush (-3), 2) := by decide +kernel
theorem dX4_begin_9 : decode cX4_begin 9 = .ok (.ireturn, 1) := by decide +kernel
theorem dX4_begin_10 : decode cX4_begin 10 = .ok (.aload_n 0, 1) := by decide +kernel
theorem dX4_begin_11 : decode cX4_begin 11 = .ok (.invokevirtual 65, 3) := by decide +kernel
theorem dX4_begin_14 : decode cX4_begin 14 = .ok (.aload_n 0, 1) := by decide +kernel
theorem dX4_begin_15 : decode cX4_begin 15 = .ok (.iconst 1, 1) := by decide +kernel
theorem dX4_begin_16 : decode cX4_begin 16 = .ok (.putfield 45, 3) := by decide +kernel
theorem dX4_begin_19 : decode cX4_begin 19 = .ok (.aload_n 0, 1) := by decide +kernel
theorem dX4_begin_20 : decode cX4_begin 20 = .ok (.iconst 2, 1) := by decide +kernel
theorem dX4_begin_21 : decode cX4_begin 21 = .ok (.aload_n 0, 1) := by decide +kernel
theorem dX4_begin_22 : decode cX4_begin 22 = .ok (.getfield 58, 3) := by decide +kernel
theorem dX4_begin_25 : decode cX4_begin 25 = .ok (.imul, 1) := by decide +kernel
theorem dX4_begin_26 : decode cX4_begin 26 = .ok (.putfield 112, 3) := by decide +kernel
theorem dX4_begin_29 : decode cX4_begin 29 = .ok (.aload_n 0, 1) := by decide +kernel
theorem dX4_begin_30 : decode cX4_begin 30 = .ok (.lconst 1, 1) := by decide +kernel
theorem dX4_begin_31 : decode cX4_begin 31 = .ok (.putfield 115, 3) := by decide +kernel
theorem dX4_begin_34 : decode cX4_begin 34 = .ok (.iconst 0, 1) := by decide +kernel
theorem dX4_begin_35 : decode cX4_begin 35 = .ok (.istore_n 1, 1) := by decide +kernel
theorem dX4_begin_36 : decode cX4_begin 36 = .ok (.iload_n 1, 1) := by decide +kernel
theorem dX4_begin_37 : decode cX4_begin 37 = .ok (.aload_n 0, 1) := by decide +kernel
theorem dX4_begin_38 : decode cX4_begin 38 = .ok (.getfield 112, 3) := by decide +kernel
theorem dX4_begin_41 : decode cX4_begin 41 = .ok (.if_icmp .ge 131, 3) := by decide +kernel
theorem dX4_begin_44 : decode cX4_begin 44 = .ok (.aload_n 0, 1) := by decide +kernel
theorem dX4_begin_45 : decode cX4_begin 45 = .ok (.getfield 33, 3) := by decide +kernel
theorem dX4_begin_48 : decode cX4_begin 48 = .ok (.iload_n 1, 1) := by decide +kernel
theorem dX4_begin_49 : decode cX4_begin 49 = .ok (.iload_n 1, 1) := by decide +kernel
theorem dX4_begin_50 : decode cX4_begin 50 = .ok (.iastore, 1) := by decide +kernel
theorem dX4_begin_51 : decode cX4_begin 51 = .ok (.iconst 0, 1) := by decide +kernel
theorem dX4_begin_52 : decode cX4_begin 52 = .ok (.istore_n 2, 1) := by decide +kernel
theorem dX4_begin_53 : decode cX4_begin 53 = .ok (.iload_n 2, 1) := by decide +kernel
theorem dX4_begin_54 : decode cX4_begin 54 = .ok (.aload_n 0, 1) := by decide +kernel
theorem dX4_begin_55 : decode cX4_begin 55 = .ok (.getfield 112, 3) := by decide +kernel
theorem dX4_begin_58 : decode cX4_begin 58 = .ok (.if_icmp .ge 53, 3) := by decide +kernel
theorem dX4_begin_61 : decode cX4_begin 61 = .ok (.aload_n 0, 1) := by decide +kernel
theorem dX4_begin_62 : decode cX4_begin 62 = .ok (.getfield 29, 3) := by decide +kernel
theorem dX4_begin_65 : decode cX4_begin 65 = .ok (.bipush 26, 2) := by decide +kernel
theorem dX4_begin_67 : decode cX4_begin 67 = .ok (.iload_n 1, 1) := by decide +kernel
theorem dX4_begin_68 : decode cX4_begin 68 = .ok (.imul, 1) := by decide +kernel
theorem dX4_begin_69 : decode cX4_begin 69 = .ok (.iload_n 2, 1) := by decide +kernel
theorem dX4_begin_70 : decode cX4_begin 70 = .ok (.iadd, 1) := by decide +kernel
theorem dX4_begin_71 : decode cX4_begin 71 = .ok (.iload_n 2, 1) := by decide +kernel
theorem dX4_begin_72 : decode cX4_begin 72 = .ok (.iload_n 1, 1) := by decide +kernel
theorem dX4_begin_73 : decode cX4_begin 73 = .ok (.if_icmp .ne 7, 3) := by decide +kernel
theorem dX4_begin_76 : decode cX4_begin 76 = .ok (.lconst 1, 1) := by decide +kernel
theorem dX4_begin_77 : decode cX4_begin 77 = .ok (.goto 4, 3) := by decide +kernel
theorem dX4_begin_80 : decode cX4_begin 80 = .ok (.lconst 0, 1) := by decide +kernel
theorem dX4_begin_81 : decode cX4_begin 81 = .ok (.lastore, 1) := by decide +kernel
theorem dX4_begin_82 : decode cX4_begin 82 = .ok (.aload_n 0, 1) := by decide +kernel
theorem dX4_begin_83 : decode cX4_begin 83 = .ok (.getfield 29, 3) := by decide +kernel
theorem dX4_begin_86 : decode cX4_begin 86 = .ok (.bipush 26, 2) := by decide +kernel
theorem dX4_begin_88 : decode cX4_begin 88 = .ok (.iload_n 1, 1) := by decide +kernel
theorem dX4_begin_89 : decode cX4_begin 89 = .ok (.imul, 1) := by decide +kernel
theorem dX4_begin_90 : decode cX4_begin 90 = .ok (.aload_n 0, 1) := by decide +kernel
theorem dX4_begin_91 : decode cX4_begin 91 = .ok (.getfield 112, 3) := by decide +kernel
theorem dX4_begin_94 : decode cX4_begin 94 = .ok (.iadd, 1) := by decide +kernel
theorem dX4_begin_95 : decode cX4_begin 95 = .ok (.iload_n 2, 1) := by decide +kernel
theorem dX4_begin_96 : decode cX4_begin 96 = .ok (.iadd, 1) := by decide +kernel
theorem dX4_begin_97 : decode cX4_begin 97 = .ok (.aload_n 0, 1) := by decide +kernel
theorem dX4_begin_98 : decode cX4_begin 98 = .ok (.iload_n 1, 1) := by decide +kernel
theorem dX4_begin_99 : decode cX4_begin 99 = .ok (.iload_n 2, 1) := by decide +kernel
theorem dX4_begin_100 : decode cX4_begin 100 = .ok (.invokevirtual 118, 3) := by decide +kernel
theorem dX4_begin_103 : decode cX4_begin 103 = .ok (.lneg, 1) := by decide +kernel
theorem dX4_begin_104 : decode cX4_begin 104 = .ok (.lastore, 1) := by decide +kernel
theorem dX4_begin_105 : decode cX4_begin 105 = .ok (.iinc 2 1, 3) := by decide +kernel
theorem dX4_begin_108 : decode cX4_begin 108 = .ok (.goto (-55), 3) := by decide +kernel
theorem dX4_begin_111 : decode cX4_begin 111 = .ok (.aload_n 0, 1) := by decide +kernel
theorem dX4_begin_112 : decode cX4_begin 112 = .ok (.getfield 29, 3) := by decide +kernel
theorem dX4_begin_115 : decode cX4_begin 115 = .ok (.bipush 26, 2) := by decide +kernel
theorem dX4_begin_117 : decode cX4_begin 117 = .ok (.iload_n 1, 1) := by decide +kernel
theorem dX4_begin_118 : decode cX4_begin 118 = .ok (.imul, 1) := by decide +kernel
theorem dX4_begin_119 : decode cX4_begin 119 = .ok (.iconst 2, 1) := by decide +kernel
theorem dX4_begin_120 : decode cX4_begin 120 = .ok (.aload_n 0, 1) := by decide +kernel
theorem dX4_begin_121 : decode cX4_begin 121 = .ok (.getfield 112, 3) := by decide +kernel
theorem dX4_begin_124 : decode cX4_begin 124 = .ok (.imul, 1) := by decide +kernel
theorem dX4_begin_125 : decode cX4_begin 125 = .ok (.iadd, 1) := by decide +kernel
theorem dX4_begin_126 : decode cX4_begin 126 = .ok (.ldc2_w 110, 3) := by decide +kernel
theorem dX4_begin_129 : decode cX4_begin 129 = .ok (.lastore, 1) := by decide +kernel
theorem dX4_begin_130 : decode cX4_begin 130 = .ok (.aload_n 0, 1) := by decide +kernel
theorem dX4_begin_131 : decode cX4_begin 131 = .ok (.getfield 29, 3) := by decide +kernel
theorem dX4_begin_134 : decode cX4_begin 134 = .ok (.bipush 26, 2) := by decide +kernel
theorem dX4_begin_136 : decode cX4_begin 136 = .ok (.iload_n 1, 1) := by decide +kernel
theorem dX4_begin_137 : decode cX4_begin 137 = .ok (.imul, 1) := by decide +kernel
theorem dX4_begin_138 : decode cX4_begin 138 = .ok (.aload_n 0, 1) := by decide +kernel
theorem dX4_begin_139 : decode cX4_begin 139 = .ok (.invokevirtual 122, 3) := by decide +kernel
theorem dX4_begin_142 : decode cX4_begin 142 = .ok (.iadd, 1) := by decide +kernel
theorem dX4_begin_143 : decode cX4_begin 143 = .ok (.iload_n 1, 1) := by decide +kernel
theorem dX4_begin_144 : decode cX4_begin 144 = .ok (.aload_n 0, 1) := by decide +kernel
theorem dX4_begin_145 : decode cX4_begin 145 = .ok (.getfield 58, 3) := by decide +kernel
theorem dX4_begin_148 : decode cX4_begin 148 = .ok (.if_icmp .ge 12, 3) := by decide +kernel
theorem dX4_begin_151 : decode cX4_begin 151 = .ok (.aload_n 0, 1) := by decide +kernel
theorem dX4_begin_152 : decode cX4_begin 152 = .ok (.getfield 16, 3) := by decide +kernel
theorem dX4_begin_155 : decode cX4_begin 155 = .ok (.ineg, 1) := by decide +kernel
theorem dX4_begin_156 : decode cX4_begin 156 = .ok (.i2l, 1) := by decide +kernel
theorem dX4_begin_157 : decode cX4_begin 157 = .ok (.goto 8, 3) := by decide +kernel
theorem dX4_begin_160 : decode cX4_begin 160 = .ok (.aload_n 0, 1) := by decide +kernel
theorem dX4_begin_161 : decode cX4_begin 161 = .ok (.getfield 13, 3) := by decide +kernel
theorem dX4_begin_164 : decode cX4_begin 164 = .ok (.i2l, 1) := by decide +kernel
theorem dX4_begin_165 : decode cX4_begin 165 = .ok (.lastore, 1) := by decide +kernel
theorem dX4_begin_166 : decode cX4_begin 166 = .ok (.iinc 1 1, 3) := by decide +kernel
theorem dX4_begin_169 : decode cX4_begin 169 = .ok (.goto (-133), 3) := by decide +kernel
theorem dX4_begin_172 : decode cX4_begin 172 = .ok (.aload_n 0, 1) := by decide +kernel
theorem dX4_begin_173 : decode cX4_begin 173 = .ok (.getfield 112, 3) := by decide +kernel
theorem dX4_begin_176 : decode cX4_begin 176 = .ok (.ireturn, 1) := by decide +kernel
set_option maxRecDepth 20000 in
theorem ggX4_isLess_X4_columnQ : GoodIn wsX4_isLess wsX4_columnQ := goodIn_r _ [7, 2, 24, 25, 26, 27, 28, 29, 30, 31, 32, 33, 34, 35, 36, 37, 38, 39, 40, 41, 42, 43] (by decide +kernel) (by decide +kernel)
set_option maxRecDepth 20000 in
theorem gX4_isLess_X4_columnQ : GoodIn wsX4_isLess (wsV RX4 122 RX4 yX4_columnQ wsX4_columnQ) := goodIn_app (goodIn_of _ (by decide +kernel)) ggX4_isLess_X4_columnQ
set_option maxRecDepth 20000 in
theorem ggX4_isLess_X4_signOfCross : GoodIn wsX4_isLess wsX4_signOfCross := goodIn_r _ [11, 12, 13, 14, 15, 16, 6, 17, 18, 19, 20, 21, 22, 23, 24, 25, 26, 27, 28, 29, 30, 31, 32, 33, 34, 35, 36, 37, 38, 39, 40, 41, 42, 43] (by decide +kernel) (by decide +kernel)
set_option maxRecDepth 20000 in
theorem gX4_isLess_X4_signOfCross : GoodIn wsX4_isLess (wsV RX4 126 RX4 yX4_signOfCross wsX4_signOfCross) := goodIn_app (goodIn_of _ (by decide +kernel)) ggX4_isLess_X4_signOfCross
theorem dX4_isLess_0 : decode cX4_isLess 0 = .ok (.iload_n 3, 1) := by decide +kernel
theorem dX4_isLess_1 : decode cX4_isLess 1 = .ok (.iconst (-1), 1) := by decide +kernel
theorem dX4_isLess_2 : decode cX4_isLess 2 = .ok (.if_icmp .ne 7, 3) := by decide +kernel
theorem dX4_isLess_5 : decode cX4_isLess 5 = .ok (.lconst 1, 1) := by decide +kernel
theorem dX4_isLess_6 : decode cX4_isLess 6 = .ok (.goto 14, 3) := by decide +kernel
theorem dX4_isLess_9 : decode cX4_isLess 9 = .ok (.aload_n 0, 1) := by decide +kernel
theorem dX4_isLess_10 : decode cX4_isLess 10 = .ok (.getfield 29, 3) := by decide +kernel
theorem dX4_isLess_13 : decode cX4_isLess 13 = .ok (.bipush 26, 2) := by decide +kernel
theorem dX4_isLess_15 : decode cX4_isLess 15 = .ok (.iload_n 1, 1) := by decide +kernel
theorem dX4_isLess_16 : decode cX4_isLess 16 = .ok (.imul, 1) := by decide +kernel
theorem dX4_isLess_17 : decode cX4_isLess 17 = .ok (.iload_n 3, 1) := by decide +kernel
theorem dX4_isLess_18 : decode cX4_isLess 18 = .ok (.iadd, 1) := by decide +kernel
theorem dX4_isLess_19 : decode cX4_isLess 19 = .ok (.laload, 1) := by decide +kernel
theorem dX4_isLess_20 : decode cX4_isLess 20 = .ok (.lstore 4, 2) := by decide +kernel
theorem dX4_isLess_22 : decode cX4_isLess 22 = .ok (.iload_n 3, 1) := by decide +kernel
theorem dX4_isLess_23 : decode cX4_isLess 23 = .ok (.iconst (-1), 1) := by decide +kernel
theorem dX4_isLess_24 : decode cX4_isLess 24 = .ok (.if_icmp .ne 7, 3) := by decide +kernel
theorem dX4_isLess_27 : decode cX4_isLess 27 = .ok (.lconst 1, 1) := by decide +kernel
theorem dX4_isLess_28 : decode cX4_isLess 28 = .ok (.goto 14, 3) := by decide +kernel
theorem dX4_isLess_31 : decode cX4_isLess 31 = .ok (.aload_n 0, 1) := by decide +kernel
theorem dX4_isLess_32 : decode cX4_isLess 32 = .ok (.getfield 29, 3) := by decide +kernel
theorem dX4_isLess_35 : decode cX4_isLess 35 = .ok (.bipush 26, 2) := by decide +kernel
theorem dX4_isLess_37 : decode cX4_isLess 37 = .ok (.iload_n 2, 1) := by decide +kernel
theorem dX4_isLess_38 : decode cX4_isLess 38 = .ok (.imul, 1) := by decide +kernel
theorem dX4_isLess_39 : decode cX4_isLess 39 = .ok (.iload_n 3, 1) := by decide +kernel
theorem dX4_isLess_40 : decode cX4_isLess 40 = .ok (.iadd, 1) := by decide +kernel
theorem dX4_isLess_41 : decode cX4_isLess 41 = .ok (.laload, 1) := by decide +kernel
theorem dX4_isLess_42 : decode cX4_isLess 42 = .ok (.lstore 6, 2) := by decide +kernel
theorem dX4_isLess_44 : decode cX4_isLess 44 = .ok (.iconst (-1), 1) := by decide +kernel
theorem dX4_isLess_45 : decode cX4_isLess 45 = .ok (.istore 8, 2) := by decide +kernel
theorem dX4_isLess_47 : decode cX4_isLess 47 = .ok (.iload 8, 2) := by decide +kernel
theorem dX4_isLess_49 : decode cX4_isLess 49 = .ok (.aload_n 0, 1) := by decide +kernel
theorem dX4_isLess_50 : decode cX4_isLess 50 = .ok (.getfield 112, 3) := by decide +kernel
theorem dX4_isLess_53 : decode cX4_isLess 53 = .ok (.if_icmp .ge 75, 3) := by decide +kernel
theorem dX4_isLess_56 : decode cX4_isLess 56 = .ok (.iload 8, 2) := by decide +kernel
theorem dX4_isLess_58 : decode cX4_isLess 58 = .ok (.ifCond .ge 10, 3) := by decide +kernel
theorem dX4_isLess_61 : decode cX4_isLess 61 = .ok (.aload_n 0, 1) := by decide +kernel
theorem dX4_isLess_62 : decode cX4_isLess 62 = .ok (.invokevirtual 122, 3) := by decide +kernel
theorem dX4_isLess_65 : decode cX4_isLess 65 = .ok (.goto 5, 3) := by decide +kernel
theorem dX4_isLess_68 : decode cX4_isLess 68 = .ok (.iload 8, 2) := by decide +kernel
theorem dX4_isLess_70 : decode cX4_isLess 70 = .ok (.istore 9, 2) := by decide +kernel
theorem dX4_isLess_72 : decode cX4_isLess 72 = .ok (.aload_n 0, 1) := by decide +kernel
theorem dX4_isLess_73 : decode cX4_isLess 73 = .ok (.aload_n 0, 1) := by decide +kernel
theorem dX4_isLess_74 : decode cX4_isLess 74 = .ok (.getfield 29, 3) := by decide +kernel
theorem dX4_isLess_77 : decode cX4_isLess 77 = .ok (.bipush 26, 2) := by decide +kernel
theorem dX4_isLess_79 : decode cX4_isLess 79 = .ok (.iload_n 1, 1) := by decide +kernel
theorem dX4_isLess_80 : decode cX4_isLess 80 = .ok (.imul, 1) := by decide +kernel
theorem dX4_isLess_81 : decode cX4_isLess 81 = .ok (.iload 9, 2) := by decide +kernel
theorem dX4_isLess_83 : decode cX4_isLess 83 = .ok (.iadd, 1) := by decide +kernel
theorem dX4_isLess_84 : decode cX4_isLess 84 = .ok (.laload, 1) := by decide +kernel
theorem dX4_isLess_85 : decode cX4_isLess 85 = .ok (.lload 6, 2) := by decide +kernel
theorem dX4_isLess_87 : decode cX4_isLess 87 = .ok (.aload_n 0, 1) := by decide +kernel
theorem dX4_isLess_88 : decode cX4_isLess 88 = .ok (.getfield 29, 3) := by decide +kernel
theorem dX4_isLess_91 : decode cX4_isLess 91 = .ok (.bipush 26, 2) := by decide +kernel
theorem dX4_isLess_93 : decode cX4_isLess 93 = .ok (.iload_n 2, 1) := by decide +kernel
theorem dX4_isLess_94 : decode cX4_isLess 94 = .ok (.imul, 1) := by decide +kernel
theorem dX4_isLess_95 : decode cX4_isLess 95 = .ok (.iload 9, 2) := by decide +kernel
theorem dX4_isLess_97 : decode cX4_isLess 97 = .ok (.iadd, 1) := by decide +kernel
theorem dX4_isLess_98 : decode cX4_isLess 98 = .ok (.laload, 1) := by decide +kernel
theorem dX4_isLess_99 : decode cX4_isLess 99 = .ok (.lload 4, 2) := by decide +kernel
theorem dX4_isLess_101 : decode cX4_isLess 101 = .ok (.invokevirtual 126, 3) := by decide +kernel
theorem dX4_isLess_104 : decode cX4_isLess 104 = .ok (.istore 10, 2) := by decide +kernel
theorem dX4_isLess_106 : decode cX4_isLess 106 = .ok (.iload 10, 2) := by decide +kernel
theorem dX4_isLess_108 : decode cX4_isLess 108 = .ok (.ifCond .eq 14, 3) := by decide +kernel
theorem dX4_isLess_111 : decode cX4_isLess 111 = .ok (.iload 10, 2) := by decide +kernel
theorem dX4_isLess_113 : decode cX4_isLess 113 = .ok (.ifCond .ge 7, 3) := by decide +kernel
theorem dX4_isLess_116 : decode cX4_isLess 116 = .ok (.iconst 1, 1) := by decide +kernel
theorem dX4_isLess_117 : decode cX4_isLess 117 = .ok (.goto 4, 3) := by decide +kernel
theorem dX4_isLess_120 : decode cX4_isLess 120 = .ok (.iconst 0, 1) := by decide +kernel
theorem dX4_isLess_121 : decode cX4_isLess 121 = .ok (.ireturn, 1) := by decide +kernel
theorem dX4_isLess_122 : decode cX4_isLess 122 = .ok (.iinc 8 1, 3) := by decide +kernel
theorem dX4_isLess_125 : decode cX4_isLess 125 = .ok (.goto (-78), 3) := by decide +kernel
theorem dX4_isLess_128 : decode cX4_isLess 128 = .ok (.iconst 0, 1) := by decide +kernel
theorem dX4_isLess_129 : decode cX4_isLess 129 = .ok (.ireturn, 1) := by decide +kernel
set_option maxRecDepth 20000 in
theorem ggX4_turn_X4_columnQ : GoodIn wsX4_turn wsX4_columnQ := goodIn_r _ [8, 2, 26, 27, 28, 29, 30, 31, 32, 33, 34, 35, 36, 37, 38, 39, 40, 41, 42, 43, 44, 45] (by decide +kernel) (by decide +kernel)
set_option maxRecDepth 20000 in
theorem gX4_turn_X4_columnQ : GoodIn wsX4_turn (wsV RX4 122 RX4 yX4_columnQ wsX4_columnQ) := goodIn_app (goodIn_of _ (by decide +kernel)) ggX4_turn_X4_columnQ
set_option maxRecDepth 20000 in
theorem ggX4_turn_X4_cross : GoodIn wsX4_turn wsX4_cross := goodIn_r _ [12, 13, 14, 15, 16, 17, 18, 7, 19, 20, 26, 27, 28, 29, 30, 31, 32, 33, 34, 35, 36, 37, 38, 39, 40, 41, 42, 43, 44, 45] (by decide +kernel) (by decide +kernel)
set_option maxRecDepth 20000 in
theorem gX4_turn_X4_cross : GoodIn wsX4_turn (wsV RX4 96 RX4 yX4_cross wsX4_cross) := goodIn_app (goodIn_of _ (by decide +kernel)) ggX4_turn_X4_cross
set_option maxRecDepth 20000 in
theorem ggX4_turn_X4_shared : GoodIn wsX4_turn wsX4_shared := goodIn_r _ [24, 14, 13, 25, 26, 27, 28, 29, 30, 31, 32, 33, 34, 35, 36, 37, 38, 39, 40, 41, 42, 43, 44, 45] (by decide +kernel) (by decide +kernel)
set_option maxRecDepth 20000 in
theorem gX4_turn_X4_shared : GoodIn wsX4_turn (wsV RX4 130 RX4 yX4_shared wsX4_shared) := goodIn_app (goodIn_of _ (by decide +kernel)) ggX4_turn_X4_shared
end
section
theorem dX4_turn_0 : decode cX4_turn 0 = .ok (.aload_n 0, 1) := by decide +kernel
theorem dX4_turn_1 : decode cX4_turn 1 = .ok (.getfield 29, 3) := by decide +kernel
theorem dX4_turn_4 : decode cX4_turn 4 = .ok (.bipush 26, 2) := by decide +kernel
theorem dX4_turn_6 : decode cX4_turn 6 = .ok (.iload_n 1, 1) := by decide +kernel
theorem dX4_turn_7 : decode cX4_turn 7 = .ok (.imul, 1) := by decide +kernel
theorem dX4_turn_8 : decode cX4_turn 8 = .ok (.iload_n 2, 1) := by decide +kernel
theorem dX4_turn_9 : decode cX4_turn 9 = .ok (.iadd, 1) := by decide +kernel
theorem dX4_turn_10 : decode cX4_turn 10 = .ok (.laload, 1) := by decide +kernel
theorem dX4_turn_11 : decode cX4_turn 11 = .ok (.lstore_n 3, 1) := by decide +kernel
theorem dX4_turn_12 : decode cX4_turn 12 = .ok (.iconst 0, 1) := by decide +kernel
theorem dX4_turn_13 : decode cX4_turn 13 = .ok (.istore 5, 2) := by decide +kernel
theorem dX4_turn_15 : decode cX4_turn 15 = .ok (.iload 5, 2) := by decide +kernel
theorem dX4_turn_17 : decode cX4_turn 17 = .ok (.aload_n 0, 1) := by decide +kernel
theorem dX4_turn_18 : decode cX4_turn 18 = .ok (.getfield 112, 3) := by decide +kernel
theorem dX4_turn_21 : decode cX4_turn 21 = .ok (.if_icmp .ge 100, 3) := by decide +kernel
theorem dX4_turn_24 : decode cX4_turn 24 = .ok (.aload_n 0, 1) := by decide +kernel
theorem dX4_turn_25 : decode cX4_turn 25 = .ok (.getfield 29, 3) := by decide +kernel
theorem dX4_turn_28 : decode cX4_turn 28 = .ok (.bipush 26, 2) := by decide +kernel
theorem dX4_turn_30 : decode cX4_turn 30 = .ok (.iload 5, 2) := by decide +kernel
theorem dX4_turn_32 : decode cX4_turn 32 = .ok (.imul, 1) := by decide +kernel
theorem dX4_turn_33 : decode cX4_turn 33 = .ok (.iload_n 2, 1) := by decide +kernel
theorem dX4_turn_34 : decode cX4_turn 34 = .ok (.iadd, 1) := by decide +kernel
theorem dX4_turn_35 : decode cX4_turn 35 = .ok (.laload, 1) := by decide +kernel
theorem dX4_turn_36 : decode cX4_turn 36 = .ok (.lstore 6, 2) := by decide +kernel
theorem dX4_turn_38 : decode cX4_turn 38 = .ok (.iconst 0, 1) := by decide +kernel
theorem dX4_turn_39 : decode cX4_turn 39 = .ok (.istore 8, 2) := by decide +kernel
theorem dX4_turn_41 : decode cX4_turn 41 = .ok (.iload 8, 2) := by decide +kernel
theorem dX4_turn_43 : decode cX4_turn 43 = .ok (.aload_n 0, 1) := by decide +kernel
theorem dX4_turn_44 : decode cX4_turn 44 = .ok (.invokevirtual 122, 3) := by decide +kernel
theorem dX4_turn_47 : decode cX4_turn 47 = .ok (.if_icmp .gt 68, 3) := by decide +kernel
theorem dX4_turn_50 : decode cX4_turn 50 = .ok (.iload 5, 2) := by decide +kernel
theorem dX4_turn_52 : decode cX4_turn 52 = .ok (.iload_n 1, 1) := by decide +kernel
theorem dX4_turn_53 : decode cX4_turn 53 = .ok (.if_icmp .eq 62, 3) := by decide +kernel
theorem dX4_turn_56 : decode cX4_turn 56 = .ok (.aload_n 0, 1) := by decide +kernel
theorem dX4_turn_57 : decode cX4_turn 57 = .ok (.aload_n 0, 1) := by decide +kernel
theorem dX4_turn_58 : decode cX4_turn 58 = .ok (.getfield 29, 3) := by decide +kernel
theorem dX4_turn_61 : decode cX4_turn 61 = .ok (.bipush 26, 2) := by decide +kernel
theorem dX4_turn_63 : decode cX4_turn 63 = .ok (.iload 5, 2) := by decide +kernel
theorem dX4_turn_65 : decode cX4_turn 65 = .ok (.imul, 1) := by decide +kernel
theorem dX4_turn_66 : decode cX4_turn 66 = .ok (.iload 8, 2) := by decide +kernel
theorem dX4_turn_68 : decode cX4_turn 68 = .ok (.iadd, 1) := by decide +kernel
theorem dX4_turn_69 : decode cX4_turn 69 = .ok (.laload, 1) := by decide +kernel
theorem dX4_turn_70 : decode cX4_turn 70 = .ok (.lload_n 3, 1) := by decide +kernel
theorem dX4_turn_71 : decode cX4_turn 71 = .ok (.lload 6, 2) := by decide +kernel
theorem dX4_turn_73 : decode cX4_turn 73 = .ok (.aload_n 0, 1) := by decide +kernel
theorem dX4_turn_74 : decode cX4_turn 74 = .ok (.getfield 29, 3) := by decide +kernel
theorem dX4_turn_77 : decode cX4_turn 77 = .ok (.bipush 26, 2) := by decide +kernel
theorem dX4_turn_79 : decode cX4_turn 79 = .ok (.iload_n 1, 1) := by decide +kernel
theorem dX4_turn_80 : decode cX4_turn 80 = .ok (.imul, 1) := by decide +kernel
theorem dX4_turn_81 : decode cX4_turn 81 = .ok (.iload 8, 2) := by decide +kernel
theorem dX4_turn_83 : decode cX4_turn 83 = .ok (.iadd, 1) := by decide +kernel
theorem dX4_turn_84 : decode cX4_turn 84 = .ok (.laload, 1) := by decide +kernel
theorem dX4_turn_85 : decode cX4_turn 85 = .ok (.invokevirtual 96, 3) := by decide +kernel
theorem dX4_turn_88 : decode cX4_turn 88 = .ok (.aload_n 0, 1) := by decide +kernel
theorem dX4_turn_89 : decode cX4_turn 89 = .ok (.getfield 29, 3) := by decide +kernel
theorem dX4_turn_92 : decode cX4_turn 92 = .ok (.bipush 26, 2) := by decide +kernel
theorem dX4_turn_94 : decode cX4_turn 94 = .ok (.iload 5, 2) := by decide +kernel
theorem dX4_turn_96 : decode cX4_turn 96 = .ok (.imul, 1) := by decide +kernel
theorem dX4_turn_97 : decode cX4_turn 97 = .ok (.iload 8, 2) := by decide +kernel
theorem dX4_turn_99 : decode cX4_turn 99 = .ok (.iadd, 1) := by decide +kernel
theorem dX4_turn_100 : decode cX4_turn 100 = .ok (.aload_n 0, 1) := by decide +kernel
theorem dX4_turn_101 : decode cX4_turn 101 = .ok (.aload_n 0, 1) := by decide +kernel
theorem dX4_turn_102 : decode cX4_turn 102 = .ok (.getfield 115, 3) := by decide +kernel
theorem dX4_turn_105 : decode cX4_turn 105 = .ok (.invokevirtual 130, 3) := by decide +kernel
theorem dX4_turn_108 : decode cX4_turn 108 = .ok (.lastore, 1) := by decide +kernel
theorem dX4_turn_109 : decode cX4_turn 109 = .ok (.iinc 8 1, 3) := by decide +kernel
theorem dX4_turn_112 : decode cX4_turn 112 = .ok (.goto (-71), 3) := by decide +kernel
theorem dX4_turn_115 : decode cX4_turn 115 = .ok (.iinc 5 1, 3) := by decide +kernel
theorem dX4_turn_118 : decode cX4_turn 118 = .ok (.goto (-103), 3) := by decide +kernel
theorem dX4_turn_121 : decode cX4_turn 121 = .ok (.aload_n 0, 1) := by decide +kernel
theorem dX4_turn_122 : decode cX4_turn 122 = .ok (.lload_n 3, 1) := by decide +kernel
theorem dX4_turn_123 : decode cX4_turn 123 = .ok (.putfield 115, 3) := by decide +kernel
theorem dX4_turn_126 : decode cX4_turn 126 = .ok (.lload_n 3, 1) := by decide +kernel
theorem dX4_turn_127 : decode cX4_turn 127 = .ok (.lconst 0, 1) := by decide +kernel
theorem dX4_turn_128 : decode cX4_turn 128 = .ok (.lcmp, 1) := by decide +kernel
theorem dX4_turn_129 : decode cX4_turn 129 = .ok (.ifCond .ge 72, 3) := by decide +kernel
theorem dX4_turn_132 : decode cX4_turn 132 = .ok (.aload_n 0, 1) := by decide +kernel
theorem dX4_turn_133 : decode cX4_turn 133 = .ok (.lload_n 3, 1) := by decide +kernel
theorem dX4_turn_134 : decode cX4_turn 134 = .ok (.lneg, 1) := by decide +kernel
theorem dX4_turn_135 : decode cX4_turn 135 = .ok (.putfield 115, 3) := by decide +kernel
theorem dX4_turn_138 : decode cX4_turn 138 = .ok (.iconst 0, 1) := by decide +kernel
theorem dX4_turn_139 : decode cX4_turn 139 = .ok (.istore 5, 2) := by decide +kernel
theorem dX4_turn_141 : decode cX4_turn 141 = .ok (.iload 5, 2) := by decide +kernel
theorem dX4_turn_143 : decode cX4_turn 143 = .ok (.aload_n 0, 1) := by decide +kernel
theorem dX4_turn_144 : decode cX4_turn 144 = .ok (.getfield 112, 3) := by decide +kernel
theorem dX4_turn_147 : decode cX4_turn 147 = .ok (.if_icmp .ge 54, 3) := by decide +kernel
theorem dX4_turn_150 : decode cX4_turn 150 = .ok (.iconst 0, 1) := by decide +kernel
theorem dX4_turn_151 : decode cX4_turn 151 = .ok (.istore 6, 2) := by decide +kernel
theorem dX4_turn_153 : decode cX4_turn 153 = .ok (.iload 6, 2) := by decide +kernel
theorem dX4_turn_155 : decode cX4_turn 155 = .ok (.aload_n 0, 1) := by decide +kernel
theorem dX4_turn_156 : decode cX4_turn 156 = .ok (.invokevirtual 122, 3) := by decide +kernel
theorem dX4_turn_159 : decode cX4_turn 159 = .ok (.if_icmp .gt 36, 3) := by decide +kernel
theorem dX4_turn_162 : decode cX4_turn 162 = .ok (.aload_n 0, 1) := by decide +kernel
theorem dX4_turn_163 : decode cX4_turn 163 = .ok (.getfield 29, 3) := by decide +kernel
theorem dX4_turn_166 : decode cX4_turn 166 = .ok (.bipush 26, 2) := by decide +kernel
theorem dX4_turn_168 : decode cX4_turn 168 = .ok (.iload 5, 2) := by decide +kernel
theorem dX4_turn_170 : decode cX4_turn 170 = .ok (.imul, 1) := by decide +kernel
theorem dX4_turn_171 : decode cX4_turn 171 = .ok (.iload 6, 2) := by decide +kernel
theorem dX4_turn_173 : decode cX4_turn 173 = .ok (.iadd, 1) := by decide +kernel
theorem dX4_turn_174 : decode cX4_turn 174 = .ok (.aload_n 0, 1) := by decide +kernel
theorem dX4_turn_175 : decode cX4_turn 175 = .ok (.getfield 29, 3) := by decide +kernel
theorem dX4_turn_178 : decode cX4_turn 178 = .ok (.bipush 26, 2) := by decide +kernel
theorem dX4_turn_180 : decode cX4_turn 180 = .ok (.iload 5, 2) := by decide +kernel
theorem dX4_turn_182 : decode cX4_turn 182 = .ok (.imul, 1) := by decide +kernel
theorem dX4_turn_183 : decode cX4_turn 183 = .ok (.iload 6, 2) := by decide +kernel
theorem dX4_turn_185 : decode cX4_turn 185 = .ok (.iadd, 1) := by decide +kernel
theorem dX4_turn_186 : decode cX4_turn 186 = .ok (.laload, 1) := by decide +kernel
theorem dX4_turn_187 : decode cX4_turn 187 = .ok (.lneg, 1) := by decide +kernel
theorem dX4_turn_188 : decode cX4_turn 188 = .ok (.lastore, 1) := by decide +kernel
theorem dX4_turn_189 : decode cX4_turn 189 = .ok (.iinc 6 1, 3) := by decide +kernel
theorem dX4_turn_192 : decode cX4_turn 192 = .ok (.goto (-39), 3) := by decide +kernel
theorem dX4_turn_195 : decode cX4_turn 195 = .ok (.iinc 5 1, 3) := by decide +kernel
theorem dX4_turn_198 : decode cX4_turn 198 = .ok (.goto (-57), 3) := by decide +kernel
theorem dX4_turn_201 : decode cX4_turn 201 = .ok (.return_, 1) := by decide +kernel
theorem dX4_columnOf_0 : decode cX4_columnOf 0 = .ok (.iload_n 1, 1) := by decide +kernel
theorem dX4_columnOf_1 : decode cX4_columnOf 1 = .ok (.sipush 200, 3) := by decide +kernel
theorem dX4_columnOf_4 : decode cX4_columnOf 4 = .ok (.if_icmp .ne 12, 3) := by decide +kernel
theorem dX4_columnOf_7 : decode cX4_columnOf 7 = .ok (.iconst 2, 1) := by decide +kernel
theorem dX4_columnOf_8 : decode cX4_columnOf 8 = .ok (.aload_n 0, 1) := by decide +kernel
theorem dX4_columnOf_9 : decode cX4_columnOf 9 = .ok (.getfield 112, 3) := by decide +kernel
theorem dX4_columnOf_12 : decode cX4_columnOf 12 = .ok (.imul, 1) := by decide +kernel
theorem dX4_columnOf_13 : decode cX4_columnOf 13 = .ok (.goto 22, 3) := by decide +kernel
theorem dX4_columnOf_16 : decode cX4_columnOf 16 = .ok (.iload_n 1, 1) := by decide +kernel
theorem dX4_columnOf_17 : decode cX4_columnOf 17 = .ok (.bipush 100, 2) := by decide +kernel
theorem dX4_columnOf_19 : decode cX4_columnOf 19 = .ok (.if_icmp .lt 15, 3) := by decide +kernel
theorem dX4_columnOf_22 : decode cX4_columnOf 22 = .ok (.aload_n 0, 1) := by decide +kernel
theorem dX4_columnOf_23 : decode cX4_columnOf 23 = .ok (.getfield 112, 3) := by decide +kernel
theorem dX4_columnOf_26 : decode cX4_columnOf 26 = .ok (.iload_n 1, 1) := by decide +kernel
theorem dX4_columnOf_27 : decode cX4_columnOf 27 = .ok (.iadd, 1) := by decide +kernel
theorem dX4_columnOf_28 : decode cX4_columnOf 28 = .ok (.bipush 100, 2) := by decide +kernel
theorem dX4_columnOf_30 : decode cX4_columnOf 30 = .ok (.isub, 1) := by decide +kernel
theorem dX4_columnOf_31 : decode cX4_columnOf 31 = .ok (.goto 4, 3) := by decide +kernel
theorem dX4_columnOf_34 : decode cX4_columnOf 34 = .ok (.iload_n 1, 1) := by decide +kernel
theorem dX4_columnOf_35 : decode cX4_columnOf 35 = .ok (.ireturn, 1) := by decide +kernel
set_option maxRecDepth 20000 in
theorem ggX4_does_X4_columnOf : GoodIn wsX4_does wsX4_columnOf := goodIn_r _ [14, 3, 49, 50, 51, 52, 53, 54, 55, 56, 57, 58, 59, 60, 61, 62, 63, 64, 65, 66, 67, 68] (by decide +kernel) (by decide +kernel)
set_option maxRecDepth 20000 in
theorem gX4_does_X4_columnOf : GoodIn wsX4_does (wsV RX4 133 RX4 yX4_columnOf wsX4_columnOf) := goodIn_app (goodIn_of _ (by decide +kernel)) ggX4_does_X4_columnOf
set_option maxRecDepth 20000 in
theorem ggX4_does_X4_isLess : GoodIn wsX4_does wsX4_isLess := goodIn_r _ [18, 4, 3, 19, 20, 21, 13, 22, 23, 24, 25, 26, 27, 28, 29, 30, 31, 32, 33, 34, 35, 36, 37, 38, 49, 50, 51, 52, 53, 54, 55, 56, 57, 58, 59, 60, 61, 62, 63, 64, 65, 66, 67, 68] (by decide +kernel) (by decide +kernel)
set_option maxRecDepth 20000 in
theorem gX4_does_X4_isLess : GoodIn wsX4_does (wsV RX4 137 RX4 yX4_isLess wsX4_isLess) := goodIn_app (goodIn_of _ (by decide +kernel)) ggX4_does_X4_isLess
set_option maxRecDepth 20000 in
theorem ggX4_does_X4_turn : GoodIn wsX4_does wsX4_turn := goodIn_r _ [42, 4, 3, 43, 19, 20, 21, 13, 22, 29, 30, 31, 32, 27, 28, 33, 34, 35, 36, 37, 38, 44, 45, 46, 47, 48, 49, 50, 51, 52, 53, 54, 55, 56, 57, 58, 59, 60, 61, 62, 63, 64, 65, 66, 67, 68] (by decide +kernel) (by decide +kernel)
set_option maxRecDepth 20000 in
theorem gX4_does_X4_turn : GoodIn wsX4_does (wsV RX4 140 RX4 yX4_turn wsX4_turn) := goodIn_app (goodIn_of _ (by decide +kernel)) ggX4_does_X4_turn
theorem dX4_does_0 : decode cX4_does 0 = .ok (.aload_n 0, 1) := by decide +kernel
theorem dX4_does_1 : decode cX4_does 1 = .ok (.getfield 55, 3) := by decide +kernel
theorem dX4_does_4 : decode cX4_does 4 = .ok (.ifCond .ne 9, 3) := by decide +kernel
theorem dX4_does_7 : decode cX4_does 7 = .ok (.sipush 200, 3) := by decide +kernel
theorem dX4_does_10 : decode cX4_does 10 = .ok (.goto 50, 3) := by decide +kernel
theorem dX4_does_13 : decode cX4_does 13 = .ok (.aload_n 0, 1) := by decide +kernel
theorem dX4_does_14 : decode cX4_does 14 = .ok (.getfield 39, 3) := by decide +kernel
theorem dX4_does_17 : decode cX4_does 17 = .ok (.aload_n 0, 1) := by decide +kernel
theorem dX4_does_18 : decode cX4_does 18 = .ok (.getfield 55, 3) := by decide +kernel
theorem dX4_does_21 : decode cX4_does 21 = .ok (.iconst 1, 1) := by decide +kernel
theorem dX4_does_22 : decode cX4_does 22 = .ok (.isub, 1) := by decide +kernel
theorem dX4_does_23 : decode cX4_does 23 = .ok (.iaload, 1) := by decide +kernel
theorem dX4_does_24 : decode cX4_does 24 = .ok (.bipush 100, 2) := by decide +kernel
theorem dX4_does_26 : decode cX4_does 26 = .ok (.if_icmp .ge 20, 3) := by decide +kernel
theorem dX4_does_29 : decode cX4_does 29 = .ok (.aload_n 0, 1) := by decide +kernel
theorem dX4_does_30 : decode cX4_does 30 = .ok (.getfield 39, 3) := by decide +kernel
theorem dX4_does_33 : decode cX4_does 33 = .ok (.aload_n 0, 1) := by decide +kernel
theorem dX4_does_34 : decode cX4_does 34 = .ok (.getfield 55, 3) := by decide +kernel
theorem dX4_does_37 : decode cX4_does 37 = .ok (.iconst 1, 1) := by decide +kernel
theorem dX4_does_38 : decode cX4_does 38 = .ok (.isub, 1) := by decide +kernel
theorem dX4_does_39 : decode cX4_does 39 = .ok (.iaload, 1) := by decide +kernel
theorem dX4_does_40 : decode cX4_does 40 = .ok (.bipush 100, 2) := by decide +kernel
theorem dX4_does_42 : decode cX4_does 42 = .ok (.iadd, 1) := by decide +kernel
theorem dX4_does_43 : decode cX4_does 43 = .ok (.goto 17, 3) := by decide +kernel
theorem dX4_does_46 : decode cX4_does 46 = .ok (.aload_n 0, 1) := by decide +kernel
theorem dX4_does_47 : decode cX4_does 47 = .ok (.getfield 39, 3) := by decide +kernel
theorem dX4_does_50 : decode cX4_does 50 = .ok (.aload_n 0, 1) := by decide +kernel
theorem dX4_does_51 : decode cX4_does 51 = .ok (.getfield 55, 3) := by decide +kernel
theorem dX4_does_54 : decode cX4_does 54 = .ok (.iconst 1, 1) := by decide +kernel
theorem dX4_does_55 : decode cX4_does 55 = .ok (.isub, 1) := by decide +kernel
theorem dX4_does_56 : decode cX4_does 56 = .ok (.iaload, 1) := by decide +kernel
theorem dX4_does_57 : decode cX4_does 57 = .ok (.bipush 100, 2) := by decide +kernel
theorem dX4_does_59 : decode cX4_does 59 = .ok (.isub, 1) := by decide +kernel
theorem dX4_does_60 : decode cX4_does 60 = .ok (.istore_n 1, 1) := by decide +kernel
theorem dX4_does_61 : decode cX4_does 61 = .ok (.aload_n 0, 1) := by decide +kernel
theorem dX4_does_62 : decode cX4_does 62 = .ok (.iload_n 1, 1) := by decide +kernel
theorem dX4_does_63 : decode cX4_does 63 = .ok (.invokevirtual 133, 3) := by decide +kernel
theorem dX4_does_66 : decode cX4_does 66 = .ok (.istore_n 2, 1) := by decide +kernel
theorem dX4_does_67 : decode cX4_does 67 = .ok (.iconst (-1), 1) := by decide +kernel
theorem dX4_does_68 : decode cX4_does 68 = .ok (.istore_n 3, 1) := by decide +kernel
theorem dX4_does_69 : decode cX4_does 69 = .ok (.iconst 0, 1) := by decide +kernel
theorem dX4_does_70 : decode cX4_does 70 = .ok (.istore 4, 2) := by decide +kernel
theorem dX4_does_72 : decode cX4_does 72 = .ok (.iload 4, 2) := by decide +kernel
theorem dX4_does_74 : decode cX4_does 74 = .ok (.aload_n 0, 1) := by decide +kernel
theorem dX4_does_75 : decode cX4_does 75 = .ok (.getfield 112, 3) := by decide +kernel
theorem dX4_does_78 : decode cX4_does 78 = .ok (.if_icmp .ge 63, 3) := by decide +kernel
theorem dX4_does_81 : decode cX4_does 81 = .ok (.aload_n 0, 1) := by decide +kernel
theorem dX4_does_82 : decode cX4_does 82 = .ok (.getfield 55, 3) := by decide +kernel
theorem dX4_does_85 : decode cX4_does 85 = .ok (.ifCond .eq 20, 3) := by decide +kernel
theorem dX4_does_88 : decode cX4_does 88 = .ok (.aload_n 0, 1) := by decide +kernel
theorem dX4_does_89 : decode cX4_does 89 = .ok (.getfield 29, 3) := by decide +kernel
theorem dX4_does_92 : decode cX4_does 92 = .ok (.bipush 26, 2) := by decide +kernel
theorem dX4_does_94 : decode cX4_does 94 = .ok (.iload 4, 2) := by decide +kernel
theorem dX4_does_96 : decode cX4_does 96 = .ok (.imul, 1) := by decide +kernel
theorem dX4_does_97 : decode cX4_does 97 = .ok (.iload_n 2, 1) := by decide +kernel
theorem dX4_does_98 : decode cX4_does 98 = .ok (.iadd, 1) := by decide +kernel
theorem dX4_does_99 : decode cX4_does 99 = .ok (.laload, 1) := by decide +kernel
theorem dX4_does_100 : decode cX4_does 100 = .ok (.lconst 0, 1) := by decide +kernel
theorem dX4_does_101 : decode cX4_does 101 = .ok (.lcmp, 1) := by decide +kernel
theorem dX4_does_102 : decode cX4_does 102 = .ok (.ifCond .le 33, 3) := by decide +kernel
theorem dX4_does_105 : decode cX4_does 105 = .ok (.iload_n 3, 1) := by decide +kernel
theorem dX4_does_106 : decode cX4_does 106 = .ok (.iconst (-1), 1) := by decide +kernel
theorem dX4_does_107 : decode cX4_does 107 = .ok (.if_icmp .eq 25, 3) := by decide +kernel
theorem dX4_does_110 : decode cX4_does 110 = .ok (.aload_n 0, 1) := by decide +kernel
theorem dX4_does_111 : decode cX4_does 111 = .ok (.iload 4, 2) := by decide +kernel
theorem dX4_does_113 : decode cX4_does 113 = .ok (.iload_n 3, 1) := by decide +kernel
theorem dX4_does_114 : decode cX4_does 114 = .ok (.aload_n 0, 1) := by decide +kernel
theorem dX4_does_115 : decode cX4_does 115 = .ok (.getfield 55, 3) := by decide +kernel
theorem dX4_does_118 : decode cX4_does 118 = .ok (.ifCond .ne 7, 3) := by decide +kernel
theorem dX4_does_121 : decode cX4_does 121 = .ok (.iconst (-1), 1) := by decide +kernel
theorem dX4_does_122 : decode cX4_does 122 = .ok (.goto 4, 3) := by decide +kernel
theorem dX4_does_125 : decode cX4_does 125 = .ok (.iload_n 2, 1) := by decide +kernel
theorem dX4_does_126 : decode cX4_does 126 = .ok (.invokevirtual 137, 3) := by decide +kernel
theorem dX4_does_129 : decode cX4_does 129 = .ok (.ifCond .eq 6, 3) := by decide +kernel
theorem dX4_does_132 : decode cX4_does 132 = .ok (.iload 4, 2) := by decide +kernel
theorem dX4_does_134 : decode cX4_does 134 = .ok (.istore_n 3, 1) := by decide +kernel
theorem dX4_does_135 : decode cX4_does 135 = .ok (.iinc 4 1, 3) := by decide +kernel
theorem dX4_does_138 : decode cX4_does 138 = .ok (.goto (-66), 3) := by decide +kernel
theorem dX4_does_141 : decode cX4_does 141 = .ok (.iload_n 3, 1) := by decide +kernel
theorem dX4_does_142 : decode cX4_does 142 = .ok (.iconst (-1), 1) := by decide +kernel
theorem dX4_does_143 : decode cX4_does 143 = .ok (.if_icmp .ne 9, 3) := by decide +kernel
theorem dX4_does_146 : decode cX4_does 146 = .ok (.aload_n 0, 1) := by decide +kernel
theorem dX4_does_147 : decode cX4_does 147 = .ok (.iconst 1, 1) := by decide +kernel
theorem dX4_does_148 : decode cX4_does 148 = .ok (.putfield 52, 3) := by decide +kernel
theorem dX4_does_151 : decode cX4_does 151 = .ok (.return_, 1) := by decide +kernel
theorem dX4_does_152 : decode cX4_does 152 = .ok (.aload_n 0, 1) := by decide +kernel
theorem dX4_does_153 : decode cX4_does 153 = .ok (.iload_n 3, 1) := by decide +kernel
theorem dX4_does_154 : decode cX4_does 154 = .ok (.iload_n 2, 1) := by decide +kernel
theorem dX4_does_155 : decode cX4_does 155 = .ok (.invokevirtual 140, 3) := by decide +kernel
theorem dX4_does_158 : decode cX4_does 158 = .ok (.aload_n 0, 1) := by decide +kernel
theorem dX4_does_159 : decode cX4_does 159 = .ok (.getfield 36, 3) := by decide +kernel
theorem dX4_does_162 : decode cX4_does 162 = .ok (.aload_n 0, 1) := by decide +kernel
theorem dX4_does_163 : decode cX4_does 163 = .ok (.getfield 55, 3) := by decide +kernel
theorem dX4_does_166 : decode cX4_does 166 = .ok (.iload_n 1, 1) := by decide +kernel
theorem dX4_does_167 : decode cX4_does 167 = .ok (.iastore, 1) := by decide +kernel
theorem dX4_does_168 : decode cX4_does 168 = .ok (.aload_n 0, 1) := by decide +kernel
theorem dX4_does_169 : decode cX4_does 169 = .ok (.getfield 39, 3) := by decide +kernel
theorem dX4_does_172 : decode cX4_does 172 = .ok (.aload_n 0, 1) := by decide +kernel
theorem dX4_does_173 : decode cX4_does 173 = .ok (.getfield 55, 3) := by decide +kernel
theorem dX4_does_176 : decode cX4_does 176 = .ok (.aload_n 0, 1) := by decide +kernel
theorem dX4_does_177 : decode cX4_does 177 = .ok (.getfield 33, 3) := by decide +kernel
theorem dX4_does_180 : decode cX4_does 180 = .ok (.iload_n 3, 1) := by decide +kernel
theorem dX4_does_181 : decode cX4_does 181 = .ok (.iaload, 1) := by decide +kernel
theorem dX4_does_182 : decode cX4_does 182 = .ok (.iastore, 1) := by decide +kernel
theorem dX4_does_183 : decode cX4_does 183 = .ok (.aload_n 0, 1) := by decide +kernel
theorem dX4_does_184 : decode cX4_does 184 = .ok (.getfield 42, 3) := by decide +kernel
theorem dX4_does_187 : decode cX4_does 187 = .ok (.aload_n 0, 1) := by decide +kernel
theorem dX4_does_188 : decode cX4_does 188 = .ok (.getfield 55, 3) := by decide +kernel
theorem dX4_does_191 : decode cX4_does 191 = .ok (.iload_n 3, 1) := by decide +kernel
theorem dX4_does_192 : decode cX4_does 192 = .ok (.iastore, 1) := by decide +kernel
theorem dX4_does_193 : decode cX4_does 193 = .ok (.aload_n 0, 1) := by decide +kernel
theorem dX4_does_194 : decode cX4_does 194 = .ok (.getfield 33, 3) := by decide +kernel
theorem dX4_does_197 : decode cX4_does 197 = .ok (.iload_n 3, 1) := by decide +kernel
theorem dX4_does_198 : decode cX4_does 198 = .ok (.iload_n 1, 1) := by decide +kernel
theorem dX4_does_199 : decode cX4_does 199 = .ok (.iastore, 1) := by decide +kernel
theorem dX4_does_200 : decode cX4_does 200 = .ok (.aload_n 0, 1) := by decide +kernel
theorem dX4_does_201 : decode cX4_does 201 = .ok (.aload_n 0, 1) := by decide +kernel
theorem dX4_does_202 : decode cX4_does 202 = .ok (.getfield 39, 3) := by decide +kernel
theorem dX4_does_205 : decode cX4_does 205 = .ok (.aload_n 0, 1) := by decide +kernel
theorem dX4_does_206 : decode cX4_does 206 = .ok (.getfield 55, 3) := by decide +kernel
theorem dX4_does_209 : decode cX4_does 209 = .ok (.iaload, 1) := by decide +kernel
theorem dX4_does_210 : decode cX4_does 210 = .ok (.sipush 200, 3) := by decide +kernel
theorem dX4_does_213 : decode cX4_does 213 = .ok (.if_icmp .ne 7, 3) := by decide +kernel
theorem dX4_does_216 : decode cX4_does 216 = .ok (.iconst 1, 1) := by decide +kernel
theorem dX4_does_217 : decode cX4_does 217 = .ok (.goto 4, 3) := by decide +kernel
theorem dX4_does_220 : decode cX4_does 220 = .ok (.iconst 0, 1) := by decide +kernel
theorem dX4_does_221 : decode cX4_does 221 = .ok (.putfield 49, 3) := by decide +kernel
theorem dX4_does_224 : decode cX4_does 224 = .ok (.aload_n 0, 1) := by decide +kernel
theorem dX4_does_225 : decode cX4_does 225 = .ok (.dup, 1) := by decide +kernel
theorem dX4_does_226 : decode cX4_does 226 = .ok (.getfield 55, 3) := by decide +kernel
theorem dX4_does_229 : decode cX4_does 229 = .ok (.iconst 1, 1) := by decide +kernel
theorem dX4_does_230 : decode cX4_does 230 = .ok (.iadd, 1) := by decide +kernel
theorem dX4_does_231 : decode cX4_does 231 = .ok (.putfield 55, 3) := by decide +kernel
theorem dX4_does_234 : decode cX4_does 234 = .ok (.return_, 1) := by decide +kernel
theorem dX4_stands_0 : decode cX4_stands 0 = .ok (.aload_n 0, 1) := by decide +kernel
theorem dX4_stands_1 : decode cX4_stands 1 = .ok (.getfield 49, 3) := by decide +kernel
theorem dX4_stands_4 : decode cX4_stands 4 = .ok (.ifCond .eq 7, 3) := by decide +kernel
theorem dX4_stands_7 : decode cX4_stands 7 = .ok (.iconst 1, 1) := by decide +kernel
theorem dX4_stands_8 : decode cX4_stands 8 = .ok (.goto 15, 3) := by decide +kernel
theorem dX4_stands_11 : decode cX4_stands 11 = .ok (.aload_n 0, 1) := by decide +kernel
theorem dX4_stands_12 : decode cX4_stands 12 = .ok (.getfield 52, 3) := by decide +kernel
theorem dX4_stands_15 : decode cX4_stands 15 = .ok (.ifCond .eq 7, 3) := by decide +kernel
theorem dX4_stands_18 : decode cX4_stands 18 = .ok (.iconst 2, 1) := by decide +kernel
theorem dX4_stands_19 : decode cX4_stands 19 = .ok (.goto 4, 3) := by decide +kernel
theorem dX4_stands_22 : decode cX4_stands 22 = .ok (.iconst 0, 1) := by decide +kernel
theorem dX4_stands_23 : decode cX4_stands 23 = .ok (.ireturn, 1) := by decide +kernel
set_option maxRecDepth 20000 in
theorem ggX4_go_X4_in : GoodIn wsX4_go wsX4_in := goodIn_r _ [6] (by decide +kernel) (by decide +kernel)
set_option maxRecDepth 20000 in
theorem gX4_go_X4_in : GoodIn wsX4_go (va_wsS RX4 61 yX4_in wsX4_in) := goodIn_app (goodIn_of _ (by decide +kernel)) ggX4_go_X4_in
set_option maxRecDepth 20000 in
theorem ggX4_go_X4_stands : GoodIn wsX4_go wsX4_stands := goodIn_r _ [10, 11, 12, 61, 62, 63, 64, 65, 66, 67, 68, 69, 70, 71, 72, 73, 74, 75, 76, 77, 78, 79, 80] (by decide +kernel) (by decide +kernel)
set_option maxRecDepth 20000 in
theorem gX4_go_X4_stands : GoodIn wsX4_go (wsV RX4 144 RX4 yX4_stands wsX4_stands) := goodIn_app (goodIn_of _ (by decide +kernel)) ggX4_go_X4_stands
set_option maxRecDepth 20000 in
theorem ggX4_go_X4_does : GoodIn wsX4_go wsX4_does := goodIn_r _ [16, 2, 17, 18, 19, 12, 20, 21, 22, 11, 23, 24, 25, 5, 26, 27, 28, 29, 30, 31, 32, 33, 34, 35, 36, 37, 38, 39, 40, 41, 42, 43, 44, 45, 46, 47, 48, 49, 50, 51, 52, 53, 54, 55, 56, 57, 58, 59, 60, 61, 62, 63, 64, 65, 66, 67, 68, 69, 70, 71, 72, 73, 74, 75, 76, 77, 78, 79, 80] (by decide +kernel) (by decide +kernel)
set_option maxRecDepth 20000 in
theorem gX4_go_X4_does : GoodIn wsX4_go (wsV RX4 147 RX4 yX4_does wsX4_does) := goodIn_app (goodIn_of _ (by decide +kernel)) ggX4_go_X4_does
theorem dX4_go_0 : decode cX4_go 0 = .ok (.iload_n 1, 1) := by decide +kernel
theorem dX4_go_1 : decode cX4_go 1 = .ok (.iconst 1, 1) := by decide +kernel
theorem dX4_go_2 : decode cX4_go 2 = .ok (.bipush 60, 2) := by decide +kernel
theorem dX4_go_4 : decode cX4_go 4 = .ok (.invokestatic 61, 3) := by decide +kernel
theorem dX4_go_7 : decode cX4_go 7 = .ok (.ifCond .ne 6, 3) := by decide +kernel
theorem dX4_go_10 : decode cX4_go 10 = .ok (.bipush (-2), 2) := by decide +kernel
theorem dX4_go_12 : decode cX4_go 12 = .ok (.ireturn, 1) := by decide +kernel
theorem dX4_go_13 : decode cX4_go 13 = .ok (.aload_n 0, 1) := by decide +kernel
theorem dX4_go_14 : decode cX4_go 14 = .ok (.getfield 45, 3) := by decide +kernel
theorem dX4_go_17 : decode cX4_go 17 = .ok (.ifCond .ne 6, 3) := by decide +kernel
theorem dX4_go_20 : decode cX4_go 20 = .ok (.bipush (-3), 2) := by decide +kernel
theorem dX4_go_22 : decode cX4_go 22 = .ok (.ireturn, 1) := by decide +kernel
theorem dX4_go_23 : decode cX4_go 23 = .ok (.iconst 0, 1) := by decide +kernel
theorem dX4_go_24 : decode cX4_go 24 = .ok (.istore_n 2, 1) := by decide +kernel
theorem dX4_go_25 : decode cX4_go 25 = .ok (.iload_n 2, 1) := by decide +kernel
theorem dX4_go_26 : decode cX4_go 26 = .ok (.iload_n 1, 1) := by decide +kernel
theorem dX4_go_27 : decode cX4_go 27 = .ok (.if_icmp .ge 30, 3) := by decide +kernel
theorem dX4_go_30 : decode cX4_go 30 = .ok (.aload_n 0, 1) := by decide +kernel
theorem dX4_go_31 : decode cX4_go 31 = .ok (.invokevirtual 144, 3) := by decide +kernel
theorem dX4_go_34 : decode cX4_go 34 = .ok (.ifCond .ne 23, 3) := by decide +kernel
theorem dX4_go_37 : decode cX4_go 37 = .ok (.aload_n 0, 1) := by decide +kernel
theorem dX4_go_38 : decode cX4_go 38 = .ok (.getfield 55, 3) := by decide +kernel
theorem dX4_go_41 : decode cX4_go 41 = .ok (.sipush 200, 3) := by decide +kernel
theorem dX4_go_44 : decode cX4_go 44 = .ok (.if_icmp .ge 13, 3) := by decide +kernel
theorem dX4_go_47 : decode cX4_go 47 = .ok (.aload_n 0, 1) := by decide +kernel
theorem dX4_go_48 : decode cX4_go 48 = .ok (.invokevirtual 147, 3) := by decide +kernel
theorem dX4_go_51 : decode cX4_go 51 = .ok (.iinc 2 1, 3) := by decide +kernel
theorem dX4_go_54 : decode cX4_go 54 = .ok (.goto (-29), 3) := by decide +kernel
theorem dX4_go_57 : decode cX4_go 57 = .ok (.aload_n 0, 1) := by decide +kernel
theorem dX4_go_58 : decode cX4_go 58 = .ok (.invokevirtual 144, 3) := by decide +kernel
theorem dX4_go_61 : decode cX4_go 61 = .ok (.ireturn, 1) := by decide +kernel
set_option maxRecDepth 20000 in
theorem ggX4_step_X4_in : GoodIn wsX4_step wsX4_in := goodIn_r _ [8] (by decide +kernel) (by decide +kernel)
set_option maxRecDepth 20000 in
theorem gX4_step_X4_in : GoodIn wsX4_step (va_wsS RX4 61 yX4_in wsX4_in) := goodIn_app (goodIn_of _ (by decide +kernel)) ggX4_step_X4_in
theorem dX4_step_0 : decode cX4_step 0 = .ok (.iload_n 2, 1) := by decide +kernel
theorem dX4_step_1 : decode cX4_step 1 = .ok (.iconst 0, 1) := by decide +kernel
theorem dX4_step_2 : decode cX4_step 2 = .ok (.iconst 2, 1) := by decide +kernel
theorem dX4_step_3 : decode cX4_step 3 = .ok (.invokestatic 61, 3) := by decide +kernel
theorem dX4_step_6 : decode cX4_step 6 = .ok (.ifCond .ne 6, 3) := by decide +kernel
theorem dX4_step_9 : decode cX4_step 9 = .ok (.bipush (-2), 2) := by decide +kernel
theorem dX4_step_11 : decode cX4_step 11 = .ok (.ireturn, 1) := by decide +kernel
theorem dX4_step_12 : decode cX4_step 12 = .ok (.iload_n 1, 1) := by decide +kernel
theorem dX4_step_13 : decode cX4_step 13 = .ok (.iconst 0, 1) := by decide +kernel
theorem dX4_step_14 : decode cX4_step 14 = .ok (.aload_n 0, 1) := by decide +kernel
theorem dX4_step_15 : decode cX4_step 15 = .ok (.getfield 55, 3) := by decide +kernel
theorem dX4_step_18 : decode cX4_step 18 = .ok (.iconst 1, 1) := by decide +kernel
theorem dX4_step_19 : decode cX4_step 19 = .ok (.isub, 1) := by decide +kernel
theorem dX4_step_20 : decode cX4_step 20 = .ok (.invokestatic 61, 3) := by decide +kernel
theorem dX4_step_23 : decode cX4_step 23 = .ok (.ifCond .ne 7, 3) := by decide +kernel
theorem dX4_step_26 : decode cX4_step 26 = .ok (.iconst (-1), 1) := by decide +kernel
theorem dX4_step_27 : decode cX4_step 27 = .ok (.goto 36, 3) := by decide +kernel
theorem dX4_step_30 : decode cX4_step 30 = .ok (.iload_n 2, 1) := by decide +kernel
theorem dX4_step_31 : decode cX4_step 31 = .ok (.ifCond .ne 12, 3) := by decide +kernel
theorem dX4_step_34 : decode cX4_step 34 = .ok (.aload_n 0, 1) := by decide +kernel
theorem dX4_step_35 : decode cX4_step 35 = .ok (.getfield 36, 3) := by decide +kernel
theorem dX4_step_38 : decode cX4_step 38 = .ok (.iload_n 1, 1) := by decide +kernel
theorem dX4_step_39 : decode cX4_step 39 = .ok (.iaload, 1) := by decide +kernel
theorem dX4_step_40 : decode cX4_step 40 = .ok (.goto 23, 3) := by decide +kernel
theorem dX4_step_43 : decode cX4_step 43 = .ok (.iload_n 2, 1) := by decide +kernel
theorem dX4_step_44 : decode cX4_step 44 = .ok (.iconst 1, 1) := by decide +kernel
theorem dX4_step_45 : decode cX4_step 45 = .ok (.if_icmp .ne 12, 3) := by decide +kernel
theorem dX4_step_48 : decode cX4_step 48 = .ok (.aload_n 0, 1) := by decide +kernel
theorem dX4_step_49 : decode cX4_step 49 = .ok (.getfield 39, 3) := by decide +kernel
theorem dX4_step_52 : decode cX4_step 52 = .ok (.iload_n 1, 1) := by decide +kernel
theorem dX4_step_53 : decode cX4_step 53 = .ok (.iaload, 1) := by decide +kernel
theorem dX4_step_54 : decode cX4_step 54 = .ok (.goto 9, 3) := by decide +kernel
theorem dX4_step_57 : decode cX4_step 57 = .ok (.aload_n 0, 1) := by decide +kernel
theorem dX4_step_58 : decode cX4_step 58 = .ok (.getfield 42, 3) := by decide +kernel
theorem dX4_step_61 : decode cX4_step 61 = .ok (.iload_n 1, 1) := by decide +kernel
theorem dX4_step_62 : decode cX4_step 62 = .ok (.iaload, 1) := by decide +kernel
theorem dX4_step_63 : decode cX4_step 63 = .ok (.ireturn, 1) := by decide +kernel
set_option maxRecDepth 20000 in
theorem ggX4_told_X4_in : GoodIn wsX4_told wsX4_in := goodIn_r _ [7] (by decide +kernel) (by decide +kernel)
set_option maxRecDepth 20000 in
theorem gX4_told_X4_in : GoodIn wsX4_told (va_wsS RX4 61 yX4_in wsX4_in) := goodIn_app (goodIn_of _ (by decide +kernel)) ggX4_told_X4_in
theorem dX4_told_0 : decode cX4_told 0 = .ok (.aload_n 0, 1) := by decide +kernel
theorem dX4_told_1 : decode cX4_told 1 = .ok (.getfield 45, 3) := by decide +kernel
theorem dX4_told_4 : decode cX4_told 4 = .ok (.ifCond .eq 26, 3) := by decide +kernel
theorem dX4_told_7 : decode cX4_told 7 = .ok (.iload_n 1, 1) := by decide +kernel
theorem dX4_told_8 : decode cX4_told 8 = .ok (.iconst 0, 1) := by decide +kernel
theorem dX4_told_9 : decode cX4_told 9 = .ok (.aload_n 0, 1) := by decide +kernel
theorem dX4_told_10 : decode cX4_told 10 = .ok (.getfield 112, 3) := by decide +kernel
theorem dX4_told_13 : decode cX4_told 13 = .ok (.iconst 1, 1) := by decide +kernel
theorem dX4_told_14 : decode cX4_told 14 = .ok (.isub, 1) := by decide +kernel
theorem dX4_told_15 : decode cX4_told 15 = .ok (.invokestatic 61, 3) := by decide +kernel
theorem dX4_told_18 : decode cX4_told 18 = .ok (.ifCond .eq 12, 3) := by decide +kernel
theorem dX4_told_21 : decode cX4_told 21 = .ok (.aload_n 0, 1) := by decide +kernel
theorem dX4_told_22 : decode cX4_told 22 = .ok (.getfield 33, 3) := by decide +kernel
theorem dX4_told_25 : decode cX4_told 25 = .ok (.iload_n 1, 1) := by decide +kernel
theorem dX4_told_26 : decode cX4_told 26 = .ok (.iaload, 1) := by decide +kernel
theorem dX4_told_27 : decode cX4_told 27 = .ok (.goto 4, 3) := by decide +kernel
theorem dX4_told_30 : decode cX4_told 30 = .ok (.iconst (-1), 1) := by decide +kernel
theorem dX4_told_31 : decode cX4_told 31 = .ok (.ireturn, 1) := by decide +kernel
set_option maxRecDepth 20000 in
theorem ggX4_at_X4_in : GoodIn wsX4_at wsX4_in := goodIn_r _ [8] (by decide +kernel) (by decide +kernel)
set_option maxRecDepth 20000 in
theorem gX4_at_X4_in : GoodIn wsX4_at (va_wsS RX4 61 yX4_in wsX4_in) := goodIn_app (goodIn_of _ (by decide +kernel)) ggX4_at_X4_in
set_option maxRecDepth 20000 in
theorem ggX4_at_X4_columnQ : GoodIn wsX4_at wsX4_columnQ := goodIn_r _ [12, 2, 22, 23, 24, 25, 26, 27, 28, 29, 30, 31, 32, 33, 34, 35, 36, 37, 38, 39, 40, 41] (by decide +kernel) (by decide +kernel)
set_option maxRecDepth 20000 in
theorem gX4_at_X4_columnQ : GoodIn wsX4_at (wsV RX4 122 RX4 yX4_columnQ wsX4_columnQ) := goodIn_app (goodIn_of _ (by decide +kernel)) ggX4_at_X4_columnQ
set_option maxRecDepth 20000 in
theorem ggX4_at_X4_lowest : GoodIn wsX4_at wsX4_lowest := goodIn_r _ [15, 16, 17, 7, 18, 19, 20, 21] (by decide +kernel) (by decide +kernel)
set_option maxRecDepth 20000 in
theorem gX4_at_X4_lowest : GoodIn wsX4_at (va_wsS RX4 150 yX4_lowest wsX4_lowest) := goodIn_app (goodIn_of _ (by decide +kernel)) ggX4_at_X4_lowest
theorem dX4_at_0 : decode cX4_at 0 = .ok (.aload_n 0, 1) := by decide +kernel
theorem dX4_at_1 : decode cX4_at 1 = .ok (.getfield 45, 3) := by decide +kernel
theorem dX4_at_4 : decode cX4_at 4 = .ok (.ifCond .eq 51, 3) := by decide +kernel
theorem dX4_at_7 : decode cX4_at 7 = .ok (.iload_n 1, 1) := by decide +kernel
theorem dX4_at_8 : decode cX4_at 8 = .ok (.iconst 0, 1) := by decide +kernel
theorem dX4_at_9 : decode cX4_at 9 = .ok (.aload_n 0, 1) := by decide +kernel
theorem dX4_at_10 : decode cX4_at 10 = .ok (.getfield 112, 3) := by decide +kernel
theorem dX4_at_13 : decode cX4_at 13 = .ok (.iconst 1, 1) := by decide +kernel
theorem dX4_at_14 : decode cX4_at 14 = .ok (.isub, 1) := by decide +kernel
theorem dX4_at_15 : decode cX4_at 15 = .ok (.invokestatic 61, 3) := by decide +kernel
theorem dX4_at_18 : decode cX4_at 18 = .ok (.ifCond .eq 37, 3) := by decide +kernel
theorem dX4_at_21 : decode cX4_at 21 = .ok (.iload_n 2, 1) := by decide +kernel
theorem dX4_at_22 : decode cX4_at 22 = .ok (.iconst 0, 1) := by decide +kernel
theorem dX4_at_23 : decode cX4_at 23 = .ok (.aload_n 0, 1) := by decide +kernel
theorem dX4_at_24 : decode cX4_at 24 = .ok (.invokevirtual 122, 3) := by decide +kernel
theorem dX4_at_27 : decode cX4_at 27 = .ok (.invokestatic 61, 3) := by decide +kernel
theorem dX4_at_30 : decode cX4_at 30 = .ok (.ifCond .eq 25, 3) := by decide +kernel
theorem dX4_at_33 : decode cX4_at 33 = .ok (.aload_n 0, 1) := by decide +kernel
theorem dX4_at_34 : decode cX4_at 34 = .ok (.getfield 29, 3) := by decide +kernel
theorem dX4_at_37 : decode cX4_at 37 = .ok (.bipush 26, 2) := by decide +kernel
theorem dX4_at_39 : decode cX4_at 39 = .ok (.iload_n 1, 1) := by decide +kernel
theorem dX4_at_40 : decode cX4_at 40 = .ok (.imul, 1) := by decide +kernel
theorem dX4_at_41 : decode cX4_at 41 = .ok (.iload_n 2, 1) := by decide +kernel
theorem dX4_at_42 : decode cX4_at 42 = .ok (.iadd, 1) := by decide +kernel
theorem dX4_at_43 : decode cX4_at 43 = .ok (.laload, 1) := by decide +kernel
theorem dX4_at_44 : decode cX4_at 44 = .ok (.aload_n 0, 1) := by decide +kernel
theorem dX4_at_45 : decode cX4_at 45 = .ok (.getfield 115, 3) := by decide +kernel
theorem dX4_at_48 : decode cX4_at 48 = .ok (.iload_n 3, 1) := by decide +kernel
theorem dX4_at_49 : decode cX4_at 49 = .ok (.invokestatic 150, 3) := by decide +kernel
theorem dX4_at_52 : decode cX4_at 52 = .ok (.goto 4, 3) := by decide +kernel
theorem dX4_at_55 : decode cX4_at 55 = .ok (.lconst 0, 1) := by decide +kernel
theorem dX4_at_56 : decode cX4_at 56 = .ok (.lreturn, 1) := by decide +kernel
set_option maxRecDepth 20000 in
theorem ggX4_worthOf_X4_columnQ : GoodIn wsX4_worthOf wsX4_columnQ := goodIn_r _ [8, 1, 9, 10, 11, 12, 13, 14, 15, 16, 17, 18, 19, 20, 21, 22, 23, 24, 25, 26, 27, 28] (by decide +kernel) (by decide +kernel)
set_option maxRecDepth 20000 in
theorem gX4_worthOf_X4_columnQ : GoodIn wsX4_worthOf (wsV RX4 122 RX4 yX4_columnQ wsX4_columnQ) := goodIn_app (goodIn_of _ (by decide +kernel)) ggX4_worthOf_X4_columnQ
theorem dX4_worthOf_0 : decode cX4_worthOf 0 = .ok (.iconst 0, 1) := by decide +kernel
theorem dX4_worthOf_1 : decode cX4_worthOf 1 = .ok (.istore_n 2, 1) := by decide +kernel
theorem dX4_worthOf_2 : decode cX4_worthOf 2 = .ok (.iload_n 2, 1) := by decide +kernel
theorem dX4_worthOf_3 : decode cX4_worthOf 3 = .ok (.aload_n 0, 1) := by decide +kernel
theorem dX4_worthOf_4 : decode cX4_worthOf 4 = .ok (.getfield 112, 3) := by decide +kernel
theorem dX4_worthOf_7 : decode cX4_worthOf 7 = .ok (.if_icmp .ge 37, 3) := by decide +kernel
theorem dX4_worthOf_10 : decode cX4_worthOf 10 = .ok (.aload_n 0, 1) := by decide +kernel
theorem dX4_worthOf_11 : decode cX4_worthOf 11 = .ok (.getfield 33, 3) := by decide +kernel
theorem dX4_worthOf_14 : decode cX4_worthOf 14 = .ok (.iload_n 2, 1) := by decide +kernel
theorem dX4_worthOf_15 : decode cX4_worthOf 15 = .ok (.iaload, 1) := by decide +kernel
theorem dX4_worthOf_16 : decode cX4_worthOf 16 = .ok (.bipush 100, 2) := by decide +kernel
theorem dX4_worthOf_18 : decode cX4_worthOf 18 = .ok (.iload_n 1, 1) := by decide +kernel
theorem dX4_worthOf_19 : decode cX4_worthOf 19 = .ok (.iadd, 1) := by decide +kernel
theorem dX4_worthOf_20 : decode cX4_worthOf 20 = .ok (.if_icmp .ne 18, 3) := by decide +kernel
theorem dX4_worthOf_23 : decode cX4_worthOf 23 = .ok (.aload_n 0, 1) := by decide +kernel
theorem dX4_worthOf_24 : decode cX4_worthOf 24 = .ok (.getfield 29, 3) := by decide +kernel
theorem dX4_worthOf_27 : decode cX4_worthOf 27 = .ok (.bipush 26, 2) := by decide +kernel
theorem dX4_worthOf_29 : decode cX4_worthOf 29 = .ok (.iload_n 2, 1) := by decide +kernel
theorem dX4_worthOf_30 : decode cX4_worthOf 30 = .ok (.imul, 1) := by decide +kernel
theorem dX4_worthOf_31 : decode cX4_worthOf 31 = .ok (.aload_n 0, 1) := by decide +kernel
theorem dX4_worthOf_32 : decode cX4_worthOf 32 = .ok (.invokevirtual 122, 3) := by decide +kernel
theorem dX4_worthOf_35 : decode cX4_worthOf 35 = .ok (.iadd, 1) := by decide +kernel
theorem dX4_worthOf_36 : decode cX4_worthOf 36 = .ok (.laload, 1) := by decide +kernel
theorem dX4_worthOf_37 : decode cX4_worthOf 37 = .ok (.lreturn, 1) := by decide +kernel
theorem dX4_worthOf_38 : decode cX4_worthOf 38 = .ok (.iinc 2 1, 3) := by decide +kernel
theorem dX4_worthOf_41 : decode cX4_worthOf 41 = .ok (.goto (-39), 3) := by decide +kernel
theorem dX4_worthOf_44 : decode cX4_worthOf 44 = .ok (.lconst 0, 1) := by decide +kernel
theorem dX4_worthOf_45 : decode cX4_worthOf 45 = .ok (.lreturn, 1) := by decide +kernel
set_option maxRecDepth 20000 in
theorem ggX4_multiplier_X4_isPoint : GoodIn wsX4_multiplier wsX4_isPoint := goodIn_r _ [8, 9, 10, 11, 7, 12, 33, 34, 35, 36, 37, 38, 39, 40, 41, 42, 43, 44, 45, 46, 47, 48, 49, 50, 51, 52] (by decide +kernel) (by decide +kernel)
set_option maxRecDepth 20000 in
theorem gX4_multiplier_X4_isPoint : GoodIn wsX4_multiplier (wsV RX4 72 RX4 yX4_isPoint wsX4_isPoint) := goodIn_app (goodIn_of _ (by decide +kernel)) ggX4_multiplier_X4_isPoint
set_option maxRecDepth 20000 in
theorem ggX4_multiplier_X4_worthOf : GoodIn wsX4_multiplier wsX4_worthOf := goodIn_r _ [16, 17, 18, 19, 20, 21, 22, 7, 23, 33, 34, 35, 36, 37, 38, 39, 40, 41, 42, 43, 44, 45, 46, 47, 48, 49, 50, 51, 52] (by decide +kernel) (by decide +kernel)
set_option maxRecDepth 20000 in
theorem gX4_multiplier_X4_worthOf : GoodIn wsX4_multiplier (wsV RX4 154 RX4 yX4_worthOf wsX4_worthOf) := goodIn_app (goodIn_of _ (by decide +kernel)) ggX4_multiplier_X4_worthOf
set_option maxRecDepth 20000 in
theorem ggX4_multiplier_X4_lowest : GoodIn wsX4_multiplier wsX4_lowest := goodIn_r _ [26, 27, 28, 7, 29, 30, 31, 32] (by decide +kernel) (by decide +kernel)
set_option maxRecDepth 20000 in
theorem gX4_multiplier_X4_lowest : GoodIn wsX4_multiplier (va_wsS RX4 150 yX4_lowest wsX4_lowest) := goodIn_app (goodIn_of _ (by decide +kernel)) ggX4_multiplier_X4_lowest
theorem dX4_multiplier_0 : decode cX4_multiplier 0 = .ok (.aload_n 0, 1) := by decide +kernel
theorem dX4_multiplier_1 : decode cX4_multiplier 1 = .ok (.getfield 49, 3) := by decide +kernel
theorem dX4_multiplier_4 : decode cX4_multiplier 4 = .ok (.ifCond .eq 33, 3) := by decide +kernel
theorem dX4_multiplier_7 : decode cX4_multiplier 7 = .ok (.aload_n 0, 1) := by decide +kernel
theorem dX4_multiplier_8 : decode cX4_multiplier 8 = .ok (.iload_n 1, 1) := by decide +kernel
theorem dX4_multiplier_9 : decode cX4_multiplier 9 = .ok (.invokevirtual 72, 3) := by decide +kernel
theorem dX4_multiplier_12 : decode cX4_multiplier 12 = .ok (.ifCond .eq 25, 3) := by decide +kernel
theorem dX4_multiplier_15 : decode cX4_multiplier 15 = .ok (.aload_n 0, 1) := by decide +kernel
theorem dX4_multiplier_16 : decode cX4_multiplier 16 = .ok (.iload_n 1, 1) := by decide +kernel
theorem dX4_multiplier_17 : decode cX4_multiplier 17 = .ok (.invokevirtual 154, 3) := by decide +kernel
theorem dX4_multiplier_20 : decode cX4_multiplier 20 = .ok (.aload_n 0, 1) := by decide +kernel
theorem dX4_multiplier_21 : decode cX4_multiplier 21 = .ok (.getfield 115, 3) := by decide +kernel
theorem dX4_multiplier_24 : decode cX4_multiplier 24 = .ok (.aload_n 0, 1) := by decide +kernel
theorem dX4_multiplier_25 : decode cX4_multiplier 25 = .ok (.getfield 16, 3) := by decide +kernel
theorem dX4_multiplier_28 : decode cX4_multiplier 28 = .ok (.i2l, 1) := by decide +kernel
theorem dX4_multiplier_29 : decode cX4_multiplier 29 = .ok (.lmul, 1) := by decide +kernel
theorem dX4_multiplier_30 : decode cX4_multiplier 30 = .ok (.iload_n 2, 1) := by decide +kernel
theorem dX4_multiplier_31 : decode cX4_multiplier 31 = .ok (.invokestatic 150, 3) := by decide +kernel
theorem dX4_multiplier_34 : decode cX4_multiplier 34 = .ok (.goto 4, 3) := by decide +kernel
theorem dX4_multiplier_37 : decode cX4_multiplier 37 = .ok (.lconst 0, 1) := by decide +kernel
theorem dX4_multiplier_38 : decode cX4_multiplier 38 = .ok (.lreturn, 1) := by decide +kernel
set_option maxRecDepth 20000 in
theorem ggX4_liesOf_X4_worthOf : GoodIn wsX4_liesOf wsX4_worthOf := goodIn_r _ [7, 8, 9, 10, 11, 12, 13, 6, 14, 15, 16, 17, 18, 19, 20, 21, 22, 23, 24, 25, 26, 27, 28, 29, 30, 31, 32, 33, 34] (by decide +kernel) (by decide +kernel)
set_option maxRecDepth 20000 in
theorem gX4_liesOf_X4_worthOf : GoodIn wsX4_liesOf (wsV RX4 154 RX4 yX4_worthOf wsX4_worthOf) := goodIn_app (goodIn_of _ (by decide +kernel)) ggX4_liesOf_X4_worthOf
theorem dX4_liesOf_0 : decode cX4_liesOf 0 = .ok (.aload_n 0, 1) := by decide +kernel
theorem dX4_liesOf_1 : decode cX4_liesOf 1 = .ok (.iload_n 1, 1) := by decide +kernel
theorem dX4_liesOf_2 : decode cX4_liesOf 2 = .ok (.invokevirtual 154, 3) := by decide +kernel
theorem dX4_liesOf_5 : decode cX4_liesOf 5 = .ok (.lstore_n 2, 1) := by decide +kernel
theorem dX4_liesOf_6 : decode cX4_liesOf 6 = .ok (.lload_n 2, 1) := by decide +kernel
theorem dX4_liesOf_7 : decode cX4_liesOf 7 = .ok (.lconst 0, 1) := by decide +kernel
theorem dX4_liesOf_8 : decode cX4_liesOf 8 = .ok (.lcmp, 1) := by decide +kernel
theorem dX4_liesOf_9 : decode cX4_liesOf 9 = .ok (.ifCond .ne 7, 3) := by decide +kernel
theorem dX4_liesOf_12 : decode cX4_liesOf 12 = .ok (.iconst 0, 1) := by decide +kernel
theorem dX4_liesOf_13 : decode cX4_liesOf 13 = .ok (.goto 23, 3) := by decide +kernel
theorem dX4_liesOf_16 : decode cX4_liesOf 16 = .ok (.lload_n 2, 1) := by decide +kernel
theorem dX4_liesOf_17 : decode cX4_liesOf 17 = .ok (.aload_n 0, 1) := by decide +kernel
theorem dX4_liesOf_18 : decode cX4_liesOf 18 = .ok (.getfield 13, 3) := by decide +kernel
theorem dX4_liesOf_21 : decode cX4_liesOf 21 = .ok (.i2l, 1) := by decide +kernel
theorem dX4_liesOf_22 : decode cX4_liesOf 22 = .ok (.aload_n 0, 1) := by decide +kernel
theorem dX4_liesOf_23 : decode cX4_liesOf 23 = .ok (.getfield 115, 3) := by decide +kernel
theorem dX4_liesOf_26 : decode cX4_liesOf 26 = .ok (.lmul, 1) := by decide +kernel
theorem dX4_liesOf_27 : decode cX4_liesOf 27 = .ok (.lcmp, 1) := by decide +kernel
theorem dX4_liesOf_28 : decode cX4_liesOf 28 = .ok (.ifCond .ne 7, 3) := by decide +kernel
theorem dX4_liesOf_31 : decode cX4_liesOf 31 = .ok (.iconst 2, 1) := by decide +kernel
theorem dX4_liesOf_32 : decode cX4_liesOf 32 = .ok (.goto 4, 3) := by decide +kernel
theorem dX4_liesOf_35 : decode cX4_liesOf 35 = .ok (.iconst 1, 1) := by decide +kernel
theorem dX4_liesOf_36 : decode cX4_liesOf 36 = .ok (.ireturn, 1) := by decide +kernel
set_option maxRecDepth 20000 in
theorem ggX4_lies_X4_isPoint : GoodIn wsX4_lies wsX4_isPoint := goodIn_r _ [6, 7, 8, 9, 5, 10, 28, 29, 30, 31, 32, 33, 34, 35, 36, 37, 38, 39, 40, 41, 42, 43, 44, 45, 46, 47] (by decide +kernel) (by decide +kernel)
set_option maxRecDepth 20000 in
theorem gX4_lies_X4_isPoint : GoodIn wsX4_lies (wsV RX4 72 RX4 yX4_isPoint wsX4_isPoint) := goodIn_app (goodIn_of _ (by decide +kernel)) ggX4_lies_X4_isPoint
set_option maxRecDepth 20000 in
theorem ggX4_lies_X4_liesOf : GoodIn wsX4_lies wsX4_liesOf := goodIn_r _ [14, 15, 16, 17, 18, 19, 5, 20, 21, 22, 23, 24, 25, 26, 27, 28, 29, 30, 31, 32, 33, 34, 35, 36, 37, 38, 39, 40, 41, 42, 43, 44, 45, 46, 47] (by decide +kernel) (by decide +kernel)
set_option maxRecDepth 20000 in
theorem gX4_lies_X4_liesOf : GoodIn wsX4_lies (wsV RX4 158 RX4 yX4_liesOf wsX4_liesOf) := goodIn_app (goodIn_of _ (by decide +kernel)) ggX4_lies_X4_liesOf
theorem dX4_lies_0 : decode cX4_lies 0 = .ok (.aload_n 0, 1) := by decide +kernel
theorem dX4_lies_1 : decode cX4_lies 1 = .ok (.iload_n 1, 1) := by decide +kernel
theorem dX4_lies_2 : decode cX4_lies 2 = .ok (.invokevirtual 72, 3) := by decide +kernel
theorem dX4_lies_5 : decode cX4_lies 5 = .ok (.ifCond .ne 8, 3) := by decide +kernel
theorem dX4_lies_8 : decode cX4_lies 8 = .ok (.bipush (-2), 2) := by decide +kernel
theorem dX4_lies_10 : decode cX4_lies 10 = .ok (.goto 19, 3) := by decide +kernel
theorem dX4_lies_13 : decode cX4_lies 13 = .ok (.aload_n 0, 1) := by decide +kernel
theorem dX4_lies_14 : decode cX4_lies 14 = .ok (.getfield 49, 3) := by decide +kernel
theorem dX4_lies_17 : decode cX4_lies 17 = .ok (.ifCond .eq 11, 3) := by decide +kernel
theorem dX4_lies_20 : decode cX4_lies 20 = .ok (.aload_n 0, 1) := by decide +kernel
theorem dX4_lies_21 : decode cX4_lies 21 = .ok (.iload_n 1, 1) := by decide +kernel
theorem dX4_lies_22 : decode cX4_lies 22 = .ok (.invokevirtual 158, 3) := by decide +kernel
theorem dX4_lies_25 : decode cX4_lies 25 = .ok (.goto 4, 3) := by decide +kernel
theorem dX4_lies_28 : decode cX4_lies 28 = .ok (.iconst (-1), 1) := by decide +kernel
theorem dX4_lies_29 : decode cX4_lies 29 = .ok (.ireturn, 1) := by decide +kernel
set_option maxRecDepth 20000 in
theorem ggX4_slopeOf_X4_qOf : GoodIn wsX4_slopeOf wsX4_qOf := goodIn_r _ [8, 9, 10, 11, 12, 13, 14, 7, 15, 16, 28, 29, 30, 31, 32, 33, 34, 35, 36, 37, 38, 39, 40, 41, 42, 43, 44, 45, 46, 47] (by decide +kernel) (by decide +kernel)
set_option maxRecDepth 20000 in
theorem gX4_slopeOf_X4_qOf : GoodIn wsX4_slopeOf (wsV RX4 76 RX4 yX4_qOf wsX4_qOf) := goodIn_app (goodIn_of _ (by decide +kernel)) ggX4_slopeOf_X4_qOf
set_option maxRecDepth 20000 in
theorem ggX4_slopeOf_X4_worthOf : GoodIn wsX4_slopeOf wsX4_worthOf := goodIn_r _ [20, 21, 22, 23, 24, 25, 26, 7, 27, 28, 29, 30, 31, 32, 33, 34, 35, 36, 37, 38, 39, 40, 41, 42, 43, 44, 45, 46, 47] (by decide +kernel) (by decide +kernel)
set_option maxRecDepth 20000 in
theorem gX4_slopeOf_X4_worthOf : GoodIn wsX4_slopeOf (wsV RX4 154 RX4 yX4_worthOf wsX4_worthOf) := goodIn_app (goodIn_of _ (by decide +kernel)) ggX4_slopeOf_X4_worthOf
theorem dX4_slopeOf_0 : decode cX4_slopeOf 0 = .ok (.aload_n 0, 1) := by decide +kernel
theorem dX4_slopeOf_1 : decode cX4_slopeOf 1 = .ok (.getfield 115, 3) := by decide +kernel
theorem dX4_slopeOf_4 : decode cX4_slopeOf 4 = .ok (.aload_n 0, 1) := by decide +kernel
theorem dX4_slopeOf_5 : decode cX4_slopeOf 5 = .ok (.getfield 16, 3) := by decide +kernel
theorem dX4_slopeOf_8 : decode cX4_slopeOf 8 = .ok (.i2l, 1) := by decide +kernel
theorem dX4_slopeOf_9 : decode cX4_slopeOf 9 = .ok (.lmul, 1) := by decide +kernel
theorem dX4_slopeOf_10 : decode cX4_slopeOf 10 = .ok (.lstore_n 2, 1) := by decide +kernel
theorem dX4_slopeOf_11 : decode cX4_slopeOf 11 = .ok (.iconst 0, 1) := by decide +kernel
theorem dX4_slopeOf_12 : decode cX4_slopeOf 12 = .ok (.istore 4, 2) := by decide +kernel
theorem dX4_slopeOf_14 : decode cX4_slopeOf 14 = .ok (.iload 4, 2) := by decide +kernel
theorem dX4_slopeOf_16 : decode cX4_slopeOf 16 = .ok (.aload_n 0, 1) := by decide +kernel
theorem dX4_slopeOf_17 : decode cX4_slopeOf 17 = .ok (.getfield 58, 3) := by decide +kernel
theorem dX4_slopeOf_20 : decode cX4_slopeOf 20 = .ok (.if_icmp .ge 27, 3) := by decide +kernel
theorem dX4_slopeOf_23 : decode cX4_slopeOf 23 = .ok (.lload_n 2, 1) := by decide +kernel
theorem dX4_slopeOf_24 : decode cX4_slopeOf 24 = .ok (.aload_n 0, 1) := by decide +kernel
theorem dX4_slopeOf_25 : decode cX4_slopeOf 25 = .ok (.iload_n 1, 1) := by decide +kernel
theorem dX4_slopeOf_26 : decode cX4_slopeOf 26 = .ok (.iload 4, 2) := by decide +kernel
theorem dX4_slopeOf_28 : decode cX4_slopeOf 28 = .ok (.invokevirtual 76, 3) := by decide +kernel
theorem dX4_slopeOf_31 : decode cX4_slopeOf 31 = .ok (.i2l, 1) := by decide +kernel
theorem dX4_slopeOf_32 : decode cX4_slopeOf 32 = .ok (.aload_n 0, 1) := by decide +kernel
theorem dX4_slopeOf_33 : decode cX4_slopeOf 33 = .ok (.iload 4, 2) := by decide +kernel
theorem dX4_slopeOf_35 : decode cX4_slopeOf 35 = .ok (.invokevirtual 154, 3) := by decide +kernel
theorem dX4_slopeOf_38 : decode cX4_slopeOf 38 = .ok (.lmul, 1) := by decide +kernel
theorem dX4_slopeOf_39 : decode cX4_slopeOf 39 = .ok (.lsub, 1) := by decide +kernel
theorem dX4_slopeOf_40 : decode cX4_slopeOf 40 = .ok (.lstore_n 2, 1) := by decide +kernel
theorem dX4_slopeOf_41 : decode cX4_slopeOf 41 = .ok (.iinc 4 1, 3) := by decide +kernel
theorem dX4_slopeOf_44 : decode cX4_slopeOf 44 = .ok (.goto (-30), 3) := by decide +kernel
theorem dX4_slopeOf_47 : decode cX4_slopeOf 47 = .ok (.lload_n 2, 1) := by decide +kernel
theorem dX4_slopeOf_48 : decode cX4_slopeOf 48 = .ok (.lreturn, 1) := by decide +kernel
set_option maxRecDepth 20000 in
theorem ggX4_slope_X4_isPoint : GoodIn wsX4_slope wsX4_isPoint := goodIn_r _ [8, 9, 10, 11, 7, 12, 49, 50, 51, 52, 53, 54, 55, 56, 57, 58, 59, 60, 61, 62, 63, 64, 65, 66, 67, 68] (by decide +kernel) (by decide +kernel)
set_option maxRecDepth 20000 in
theorem gX4_slope_X4_isPoint : GoodIn wsX4_slope (wsV RX4 72 RX4 yX4_isPoint wsX4_isPoint) := goodIn_app (goodIn_of _ (by decide +kernel)) ggX4_slope_X4_isPoint
set_option maxRecDepth 20000 in
theorem ggX4_slope_X4_slopeOf : GoodIn wsX4_slope wsX4_slopeOf := goodIn_r _ [16, 2, 3, 9, 17, 18, 19, 7, 20, 21, 22, 23, 24, 25, 26, 27, 28, 29, 30, 31, 32, 33, 34, 35, 36, 37, 38, 39, 49, 50, 51, 52, 53, 54, 55, 56, 57, 58, 59, 60, 61, 62, 63, 64, 65, 66, 67, 68] (by decide +kernel) (by decide +kernel)
set_option maxRecDepth 20000 in
theorem gX4_slope_X4_slopeOf : GoodIn wsX4_slope (wsV RX4 161 RX4 yX4_slopeOf wsX4_slopeOf) := goodIn_app (goodIn_of _ (by decide +kernel)) ggX4_slope_X4_slopeOf
set_option maxRecDepth 20000 in
theorem ggX4_slope_X4_lowest : GoodIn wsX4_slope wsX4_lowest := goodIn_r _ [42, 43, 44, 7, 45, 46, 47, 48] (by decide +kernel) (by decide +kernel)
set_option maxRecDepth 20000 in
theorem gX4_slope_X4_lowest : GoodIn wsX4_slope (va_wsS RX4 150 yX4_lowest wsX4_lowest) := goodIn_app (goodIn_of _ (by decide +kernel)) ggX4_slope_X4_lowest
theorem dX4_slope_0 : decode cX4_slope 0 = .ok (.aload_n 0, 1) := by decide +kernel
theorem dX4_slope_1 : decode cX4_slope 1 = .ok (.getfield 49, 3) := by decide +kernel
theorem dX4_slope_4 : decode cX4_slope 4 = .ok (.ifCond .eq 33, 3) := by decide +kernel
theorem dX4_slope_7 : decode cX4_slope 7 = .ok (.aload_n 0, 1) := by decide +kernel
theorem dX4_slope_8 : decode cX4_slope 8 = .ok (.iload_n 1, 1) := by decide +kernel
theorem dX4_slope_9 : decode cX4_slope 9 = .ok (.invokevirtual 72, 3) := by decide +kernel
theorem dX4_slope_12 : decode cX4_slope 12 = .ok (.ifCond .eq 25, 3) := by decide +kernel
theorem dX4_slope_15 : decode cX4_slope 15 = .ok (.aload_n 0, 1) := by decide +kernel
theorem dX4_slope_16 : decode cX4_slope 16 = .ok (.iload_n 1, 1) := by decide +kernel
theorem dX4_slope_17 : decode cX4_slope 17 = .ok (.invokevirtual 161, 3) := by decide +kernel
theorem dX4_slope_20 : decode cX4_slope 20 = .ok (.aload_n 0, 1) := by decide +kernel
theorem dX4_slope_21 : decode cX4_slope 21 = .ok (.getfield 115, 3) := by decide +kernel
theorem dX4_slope_24 : decode cX4_slope 24 = .ok (.aload_n 0, 1) := by decide +kernel
theorem dX4_slope_25 : decode cX4_slope 25 = .ok (.getfield 16, 3) := by decide +kernel
theorem dX4_slope_28 : decode cX4_slope 28 = .ok (.i2l, 1) := by decide +kernel
theorem dX4_slope_29 : decode cX4_slope 29 = .ok (.lmul, 1) := by decide +kernel
theorem dX4_slope_30 : decode cX4_slope 30 = .ok (.iload_n 2, 1) := by decide +kernel
theorem dX4_slope_31 : decode cX4_slope 31 = .ok (.invokestatic 150, 3) := by decide +kernel
theorem dX4_slope_34 : decode cX4_slope 34 = .ok (.goto 4, 3) := by decide +kernel
theorem dX4_slope_37 : decode cX4_slope 37 = .ok (.lconst 0, 1) := by decide +kernel
theorem dX4_slope_38 : decode cX4_slope 38 = .ok (.lreturn, 1) := by decide +kernel
set_option maxRecDepth 20000 in
theorem ggX4_check_X4_liesOf : GoodIn wsX4_check wsX4_liesOf := goodIn_r _ [7, 8, 9, 10, 11, 12, 6, 13, 14, 15, 16, 17, 18, 19, 20, 38, 39, 40, 41, 42, 43, 44, 45, 46, 47, 48, 49, 50, 51, 52, 53, 54, 55, 56, 57] (by decide +kernel) (by decide +kernel)
set_option maxRecDepth 20000 in
theorem gX4_check_X4_liesOf : GoodIn wsX4_check (wsV RX4 158 RX4 yX4_liesOf wsX4_liesOf) := goodIn_app (goodIn_of _ (by decide +kernel)) ggX4_check_X4_liesOf
set_option maxRecDepth 20000 in
theorem ggX4_check_X4_slopeOf : GoodIn wsX4_check wsX4_slopeOf := goodIn_r _ [24, 9, 25, 2, 26, 27, 28, 6, 29, 30, 31, 32, 33, 34, 35, 36, 37, 10, 11, 12, 13, 14, 15, 16, 17, 18, 19, 20, 38, 39, 40, 41, 42, 43, 44, 45, 46, 47, 48, 49, 50, 51, 52, 53, 54, 55, 56, 57] (by decide +kernel) (by decide +kernel)
set_option maxRecDepth 20000 in
theorem gX4_check_X4_slopeOf : GoodIn wsX4_check (wsV RX4 161 RX4 yX4_slopeOf wsX4_slopeOf) := goodIn_app (goodIn_of _ (by decide +kernel)) ggX4_check_X4_slopeOf
theorem dX4_check_0 : decode cX4_check 0 = .ok (.aload_n 0, 1) := by decide +kernel
theorem dX4_check_1 : decode cX4_check 1 = .ok (.getfield 49, 3) := by decide +kernel
theorem dX4_check_4 : decode cX4_check 4 = .ok (.ifCond .ne 6, 3) := by decide +kernel
theorem dX4_check_7 : decode cX4_check 7 = .ok (.bipush (-3), 2) := by decide +kernel
theorem dX4_check_9 : decode cX4_check 9 = .ok (.ireturn, 1) := by decide +kernel
theorem dX4_check_10 : decode cX4_check 10 = .ok (.iconst 0, 1) := by decide +kernel
theorem dX4_check_11 : decode cX4_check 11 = .ok (.istore_n 1, 1) := by decide +kernel
theorem dX4_check_12 : decode cX4_check 12 = .ok (.iload_n 1, 1) := by decide +kernel
theorem dX4_check_13 : decode cX4_check 13 = .ok (.aload_n 0, 1) := by decide +kernel
theorem dX4_check_14 : decode cX4_check 14 = .ok (.getfield 58, 3) := by decide +kernel
theorem dX4_check_17 : decode cX4_check 17 = .ok (.if_icmp .ge 56, 3) := by decide +kernel
theorem dX4_check_20 : decode cX4_check 20 = .ok (.aload_n 0, 1) := by decide +kernel
theorem dX4_check_21 : decode cX4_check 21 = .ok (.iload_n 1, 1) := by decide +kernel
theorem dX4_check_22 : decode cX4_check 22 = .ok (.invokevirtual 158, 3) := by decide +kernel
theorem dX4_check_25 : decode cX4_check 25 = .ok (.istore_n 2, 1) := by decide +kernel
theorem dX4_check_26 : decode cX4_check 26 = .ok (.aload_n 0, 1) := by decide +kernel
theorem dX4_check_27 : decode cX4_check 27 = .ok (.iload_n 1, 1) := by decide +kernel
theorem dX4_check_28 : decode cX4_check 28 = .ok (.invokevirtual 161, 3) := by decide +kernel
theorem dX4_check_31 : decode cX4_check 31 = .ok (.lstore_n 3, 1) := by decide +kernel
theorem dX4_check_32 : decode cX4_check 32 = .ok (.iload_n 2, 1) := by decide +kernel
theorem dX4_check_33 : decode cX4_check 33 = .ok (.ifCond .ne 12, 3) := by decide +kernel
theorem dX4_check_36 : decode cX4_check 36 = .ok (.lload_n 3, 1) := by decide +kernel
theorem dX4_check_37 : decode cX4_check 37 = .ok (.lconst 0, 1) := by decide +kernel
theorem dX4_check_38 : decode cX4_check 38 = .ok (.lcmp, 1) := by decide +kernel
theorem dX4_check_39 : decode cX4_check 39 = .ok (.ifCond .le 28, 3) := by decide +kernel
theorem dX4_check_42 : decode cX4_check 42 = .ok (.goto 23, 3) := by decide +kernel
theorem dX4_check_45 : decode cX4_check 45 = .ok (.iload_n 2, 1) := by decide +kernel
theorem dX4_check_46 : decode cX4_check 46 = .ok (.iconst 2, 1) := by decide +kernel
theorem dX4_check_47 : decode cX4_check 47 = .ok (.if_icmp .ne 12, 3) := by decide +kernel
theorem dX4_check_50 : decode cX4_check 50 = .ok (.lload_n 3, 1) := by decide +kernel
theorem dX4_check_51 : decode cX4_check 51 = .ok (.lconst 0, 1) := by decide +kernel
theorem dX4_check_52 : decode cX4_check 52 = .ok (.lcmp, 1) := by decide +kernel
theorem dX4_check_53 : decode cX4_check 53 = .ok (.ifCond .ge 14, 3) := by decide +kernel
theorem dX4_check_56 : decode cX4_check 56 = .ok (.goto 9, 3) := by decide +kernel
theorem dX4_check_59 : decode cX4_check 59 = .ok (.lload_n 3, 1) := by decide +kernel
theorem dX4_check_60 : decode cX4_check 60 = .ok (.lconst 0, 1) := by decide +kernel
theorem dX4_check_61 : decode cX4_check 61 = .ok (.lcmp, 1) := by decide +kernel
theorem dX4_check_62 : decode cX4_check 62 = .ok (.ifCond .eq 5, 3) := by decide +kernel
theorem dX4_check_65 : decode cX4_check 65 = .ok (.iconst 0, 1) := by decide +kernel
theorem dX4_check_66 : decode cX4_check 66 = .ok (.ireturn, 1) := by decide +kernel
theorem dX4_check_67 : decode cX4_check 67 = .ok (.iinc 1 1, 3) := by decide +kernel
theorem dX4_check_70 : decode cX4_check 70 = .ok (.goto (-58), 3) := by decide +kernel
theorem dX4_check_73 : decode cX4_check 73 = .ok (.iconst 1, 1) := by decide +kernel
theorem dX4_check_74 : decode cX4_check 74 = .ok (.ireturn, 1) := by decide +kernel
set_option maxRecDepth 20000 in
theorem ggX4_change_X4_isPoint : GoodIn wsX4_change wsX4_isPoint := goodIn_r _ [10, 11, 12, 13, 9, 14, 58, 59, 60, 61, 62, 63, 64, 65, 66, 67, 68, 69, 70, 71, 72, 73, 74, 75, 76, 77] (by decide +kernel) (by decide +kernel)
set_option maxRecDepth 20000 in
theorem gX4_change_X4_isPoint : GoodIn wsX4_change (wsV RX4 72 RX4 yX4_isPoint wsX4_isPoint) := goodIn_app (goodIn_of _ (by decide +kernel)) ggX4_change_X4_isPoint
set_option maxRecDepth 20000 in
theorem ggX4_change_X4_in : GoodIn wsX4_change wsX4_in := goodIn_r _ [14] (by decide +kernel) (by decide +kernel)
set_option maxRecDepth 20000 in
theorem gX4_change_X4_in : GoodIn wsX4_change (va_wsS RX4 61 yX4_in wsX4_in) := goodIn_app (goodIn_of _ (by decide +kernel)) ggX4_change_X4_in
set_option maxRecDepth 20000 in
theorem ggX4_change_X4_worthOf : GoodIn wsX4_change wsX4_worthOf := goodIn_r _ [18, 19, 20, 21, 22, 23, 24, 9, 25, 58, 59, 60, 61, 62, 63, 64, 65, 66, 67, 68, 69, 70, 71, 72, 73, 74, 75, 76, 77] (by decide +kernel) (by decide +kernel)
set_option maxRecDepth 20000 in
theorem gX4_change_X4_worthOf : GoodIn wsX4_change (wsV RX4 154 RX4 yX4_worthOf wsX4_worthOf) := goodIn_app (goodIn_of _ (by decide +kernel)) ggX4_change_X4_worthOf
set_option maxRecDepth 20000 in
theorem ggX4_change_X4_slopeOf : GoodIn wsX4_change wsX4_slopeOf := goodIn_r _ [29, 4, 1, 11, 30, 31, 32, 9, 33, 34, 35, 36, 37, 38, 39, 40, 41, 15, 16, 17, 18, 19, 20, 21, 22, 23, 24, 25, 58, 59, 60, 61, 62, 63, 64, 65, 66, 67, 68, 69, 70, 71, 72, 73, 74, 75, 76, 77] (by decide +kernel) (by decide +kernel)
set_option maxRecDepth 20000 in
theorem gX4_change_X4_slopeOf : GoodIn wsX4_change (wsV RX4 161 RX4 yX4_slopeOf wsX4_slopeOf) := goodIn_app (goodIn_of _ (by decide +kernel)) ggX4_change_X4_slopeOf
set_option maxRecDepth 20000 in
theorem ggX4_change_X4_qOf : GoodIn wsX4_change wsX4_qOf := goodIn_r _ [33, 34, 35, 36, 37, 38, 39, 9, 40, 41, 58, 59, 60, 61, 62, 63, 64, 65, 66, 67, 68, 69, 70, 71, 72, 73, 74, 75, 76, 77] (by decide +kernel) (by decide +kernel)
set_option maxRecDepth 20000 in
theorem gX4_change_X4_qOf : GoodIn wsX4_change (wsV RX4 76 RX4 yX4_qOf wsX4_qOf) := goodIn_app (goodIn_of _ (by decide +kernel)) ggX4_change_X4_qOf
set_option maxRecDepth 20000 in
theorem ggX4_change_X4_signOfCross : GoodIn wsX4_change wsX4_signOfCross := goodIn_r _ [45, 46, 47, 48, 49, 50, 9, 51, 52, 53, 54, 55, 56, 57, 58, 59, 60, 61, 62, 63, 64, 65, 66, 67, 68, 69, 70, 71, 72, 73, 74, 75, 76, 77] (by decide +kernel) (by decide +kernel)
set_option maxRecDepth 20000 in
theorem gX4_change_X4_signOfCross : GoodIn wsX4_change (wsV RX4 126 RX4 yX4_signOfCross wsX4_signOfCross) := goodIn_app (goodIn_of _ (by decide +kernel)) ggX4_change_X4_signOfCross
theorem dX4_change_0 : decode cX4_change 0 = .ok (.aload_n 0, 1) := by decide +kernel
theorem dX4_change_1 : decode cX4_change 1 = .ok (.iload_n 1, 1) := by decide +kernel
theorem dX4_change_2 : decode cX4_change 2 = .ok (.invokevirtual 72, 3) := by decide +kernel
theorem dX4_change_5 : decode cX4_change 5 = .ok (.ifCond .eq 37, 3) := by decide +kernel
theorem dX4_change_8 : decode cX4_change 8 = .ok (.iload_n 3, 1) := by decide +kernel
theorem dX4_change_9 : decode cX4_change 9 = .ok (.iconst 1, 1) := by decide +kernel
theorem dX4_change_10 : decode cX4_change 10 = .ok (.bipush 6, 2) := by decide +kernel
theorem dX4_change_12 : decode cX4_change 12 = .ok (.invokestatic 61, 3) := by decide +kernel
theorem dX4_change_15 : decode cX4_change 15 = .ok (.ifCond .eq 27, 3) := by decide +kernel
theorem dX4_change_18 : decode cX4_change 18 = .ok (.iload_n 2, 1) := by decide +kernel
theorem dX4_change_19 : decode cX4_change 19 = .ok (.ifCond .lt 23, 3) := by decide +kernel
theorem dX4_change_22 : decode cX4_change 22 = .ok (.iload_n 2, 1) := by decide +kernel
theorem dX4_change_23 : decode cX4_change 23 = .ok (.i2l, 1) := by decide +kernel
theorem dX4_change_24 : decode cX4_change 24 = .ok (.aload_n 0, 1) := by decide +kernel
theorem dX4_change_25 : decode cX4_change 25 = .ok (.getfield 16, 3) := by decide +kernel
theorem dX4_change_28 : decode cX4_change 28 = .ok (.i2l, 1) := by decide +kernel
theorem dX4_change_29 : decode cX4_change 29 = .ok (.lmul, 1) := by decide +kernel
theorem dX4_change_30 : decode cX4_change 30 = .ok (.aload_n 0, 1) := by decide +kernel
theorem dX4_change_31 : decode cX4_change 31 = .ok (.getfield 13, 3) := by decide +kernel
theorem dX4_change_34 : decode cX4_change 34 = .ok (.i2l, 1) := by decide +kernel
theorem dX4_change_35 : decode cX4_change 35 = .ok (.iload_n 3, 1) := by decide +kernel
theorem dX4_change_36 : decode cX4_change 36 = .ok (.i2l, 1) := by decide +kernel
theorem dX4_change_37 : decode cX4_change 37 = .ok (.lmul, 1) := by decide +kernel
theorem dX4_change_38 : decode cX4_change 38 = .ok (.lcmp, 1) := by decide +kernel
theorem dX4_change_39 : decode cX4_change 39 = .ok (.ifCond .le 6, 3) := by decide +kernel
theorem dX4_change_42 : decode cX4_change 42 = .ok (.bipush (-2), 2) := by decide +kernel
theorem dX4_change_44 : decode cX4_change 44 = .ok (.ireturn, 1) := by decide +kernel
theorem dX4_change_45 : decode cX4_change 45 = .ok (.aload_n 0, 1) := by decide +kernel
theorem dX4_change_46 : decode cX4_change 46 = .ok (.getfield 49, 3) := by decide +kernel
theorem dX4_change_49 : decode cX4_change 49 = .ok (.ifCond .ne 6, 3) := by decide +kernel
theorem dX4_change_52 : decode cX4_change 52 = .ok (.bipush (-3), 2) := by decide +kernel
theorem dX4_change_54 : decode cX4_change 54 = .ok (.ireturn, 1) := by decide +kernel
theorem dX4_change_55 : decode cX4_change 55 = .ok (.iload_n 2, 1) := by decide +kernel
theorem dX4_change_56 : decode cX4_change 56 = .ok (.i2l, 1) := by decide +kernel
theorem dX4_change_57 : decode cX4_change 57 = .ok (.aload_n 0, 1) := by decide +kernel
theorem dX4_change_58 : decode cX4_change 58 = .ok (.getfield 115, 3) := by decide +kernel
theorem dX4_change_61 : decode cX4_change 61 = .ok (.lmul, 1) := by decide +kernel
theorem dX4_change_62 : decode cX4_change 62 = .ok (.aload_n 0, 1) := by decide +kernel
theorem dX4_change_63 : decode cX4_change 63 = .ok (.getfield 16, 3) := by decide +kernel
theorem dX4_change_66 : decode cX4_change 66 = .ok (.i2l, 1) := by decide +kernel
theorem dX4_change_67 : decode cX4_change 67 = .ok (.lmul, 1) := by decide +kernel
theorem dX4_change_68 : decode cX4_change 68 = .ok (.aload_n 0, 1) := by decide +kernel
theorem dX4_change_69 : decode cX4_change 69 = .ok (.iload_n 1, 1) := by decide +kernel
theorem dX4_change_70 : decode cX4_change 70 = .ok (.invokevirtual 154, 3) := by decide +kernel
theorem dX4_change_73 : decode cX4_change 73 = .ok (.iload_n 3, 1) := by decide +kernel
theorem dX4_change_74 : decode cX4_change 74 = .ok (.i2l, 1) := by decide +kernel
theorem dX4_change_75 : decode cX4_change 75 = .ok (.lmul, 1) := by decide +kernel
theorem dX4_change_76 : decode cX4_change 76 = .ok (.lsub, 1) := by decide +kernel
theorem dX4_change_77 : decode cX4_change 77 = .ok (.lstore 4, 2) := by decide +kernel
theorem dX4_change_79 : decode cX4_change 79 = .ok (.aload_n 0, 1) := by decide +kernel
theorem dX4_change_80 : decode cX4_change 80 = .ok (.aload_n 0, 1) := by decide +kernel
theorem dX4_change_81 : decode cX4_change 81 = .ok (.iload_n 1, 1) := by decide +kernel
theorem dX4_change_82 : decode cX4_change 82 = .ok (.invokevirtual 161, 3) := by decide +kernel
theorem dX4_change_85 : decode cX4_change 85 = .ok (.ldc2_w 100, 3) := by decide +kernel
theorem dX4_change_88 : decode cX4_change 88 = .ok (.iload_n 3, 1) := by decide +kernel
theorem dX4_change_89 : decode cX4_change 89 = .ok (.i2l, 1) := by decide +kernel
theorem dX4_change_90 : decode cX4_change 90 = .ok (.lmul, 1) := by decide +kernel
theorem dX4_change_91 : decode cX4_change 91 = .ok (.lload 4, 2) := by decide +kernel
theorem dX4_change_93 : decode cX4_change 93 = .ok (.aload_n 0, 1) := by decide +kernel
theorem dX4_change_94 : decode cX4_change 94 = .ok (.iload_n 1, 1) := by decide +kernel
theorem dX4_change_95 : decode cX4_change 95 = .ok (.iload_n 1, 1) := by decide +kernel
theorem dX4_change_96 : decode cX4_change 96 = .ok (.invokevirtual 76, 3) := by decide +kernel
theorem dX4_change_99 : decode cX4_change 99 = .ok (.i2l, 1) := by decide +kernel
theorem dX4_change_100 : decode cX4_change 100 = .ok (.invokevirtual 126, 3) := by decide +kernel
theorem dX4_change_103 : decode cX4_change 103 = .ok (.istore 6, 2) := by decide +kernel
theorem dX4_change_105 : decode cX4_change 105 = .ok (.lload 4, 2) := by decide +kernel
theorem dX4_change_107 : decode cX4_change 107 = .ok (.lconst 0, 1) := by decide +kernel
theorem dX4_change_108 : decode cX4_change 108 = .ok (.lcmp, 1) := by decide +kernel
theorem dX4_change_109 : decode cX4_change 109 = .ok (.ifCond .le 8, 3) := by decide +kernel
theorem dX4_change_112 : decode cX4_change 112 = .ok (.iload 6, 2) := by decide +kernel
theorem dX4_change_114 : decode cX4_change 114 = .ok (.goto 17, 3) := by decide +kernel
theorem dX4_change_117 : decode cX4_change 117 = .ok (.lload 4, 2) := by decide +kernel
theorem dX4_change_119 : decode cX4_change 119 = .ok (.lconst 0, 1) := by decide +kernel
theorem dX4_change_120 : decode cX4_change 120 = .ok (.lcmp, 1) := by decide +kernel
theorem dX4_change_121 : decode cX4_change 121 = .ok (.ifCond .ge 9, 3) := by decide +kernel
theorem dX4_change_124 : decode cX4_change 124 = .ok (.iload 6, 2) := by decide +kernel
theorem dX4_change_126 : decode cX4_change 126 = .ok (.ineg, 1) := by decide +kernel
theorem dX4_change_127 : decode cX4_change 127 = .ok (.goto 4, 3) := by decide +kernel
theorem dX4_change_130 : decode cX4_change 130 = .ok (.iconst 0, 1) := by decide +kernel
theorem dX4_change_131 : decode cX4_change 131 = .ok (.ireturn, 1) := by decide +kernel
set_option maxRecDepth 20000 in
theorem ggX4_decisionOf_X4_worthOf : GoodIn wsX4_decisionOf wsX4_worthOf := goodIn_r _ [7, 8, 9, 10, 11, 12, 13, 6, 14, 22, 23, 24, 25, 26, 27, 28, 29, 30, 31, 32, 33, 34, 35, 36, 37, 38, 39, 40, 41] (by decide +kernel) (by decide +kernel)
set_option maxRecDepth 20000 in
theorem gX4_decisionOf_X4_worthOf : GoodIn wsX4_decisionOf (wsV RX4 154 RX4 yX4_worthOf wsX4_worthOf) := goodIn_app (goodIn_of _ (by decide +kernel)) ggX4_decisionOf_X4_worthOf
set_option maxRecDepth 20000 in
theorem ggX4_decisionOf_X4_kernel : GoodIn wsX4_decisionOf wsX4_kernel := goodIn_r _ [18, 19, 20, 21, 22, 23, 24, 25, 26, 27, 28, 29, 30, 31, 32, 33, 34, 35, 36, 37, 38, 39, 40, 41] (by decide +kernel) (by decide +kernel)
set_option maxRecDepth 20000 in
theorem gX4_decisionOf_X4_kernel : GoodIn wsX4_decisionOf (wsV RX4 68 RX4 yX4_kernel wsX4_kernel) := goodIn_app (goodIn_of _ (by decide +kernel)) ggX4_decisionOf_X4_kernel
theorem dX4_decisionOf_0 : decode cX4_decisionOf 0 = .ok (.lconst 0, 1) := by decide +kernel
theorem dX4_decisionOf_1 : decode cX4_decisionOf 1 = .ok (.lstore_n 3, 1) := by decide +kernel
theorem dX4_decisionOf_2 : decode cX4_decisionOf 2 = .ok (.iconst 0, 1) := by decide +kernel
theorem dX4_decisionOf_3 : decode cX4_decisionOf 3 = .ok (.istore 5, 2) := by decide +kernel
theorem dX4_decisionOf_5 : decode cX4_decisionOf 5 = .ok (.iload 5, 2) := by decide +kernel
theorem dX4_decisionOf_7 : decode cX4_decisionOf 7 = .ok (.aload_n 0, 1) := by decide +kernel
theorem dX4_decisionOf_8 : decode cX4_decisionOf 8 = .ok (.getfield 58, 3) := by decide +kernel
theorem dX4_decisionOf_11 : decode cX4_decisionOf 11 = .ok (.if_icmp .ge 37, 3) := by decide +kernel
theorem dX4_decisionOf_14 : decode cX4_decisionOf 14 = .ok (.lload_n 3, 1) := by decide +kernel
theorem dX4_decisionOf_15 : decode cX4_decisionOf 15 = .ok (.aload_n 0, 1) := by decide +kernel
theorem dX4_decisionOf_16 : decode cX4_decisionOf 16 = .ok (.iload 5, 2) := by decide +kernel
theorem dX4_decisionOf_18 : decode cX4_decisionOf 18 = .ok (.invokevirtual 154, 3) := by decide +kernel
theorem dX4_decisionOf_21 : decode cX4_decisionOf 21 = .ok (.aload_n 0, 1) := by decide +kernel
theorem dX4_decisionOf_22 : decode cX4_decisionOf 22 = .ok (.getfield 26, 3) := by decide +kernel
theorem dX4_decisionOf_25 : decode cX4_decisionOf 25 = .ok (.iload 5, 2) := by decide +kernel
theorem dX4_decisionOf_27 : decode cX4_decisionOf 27 = .ok (.iaload, 1) := by decide +kernel
theorem dX4_decisionOf_28 : decode cX4_decisionOf 28 = .ok (.i2l, 1) := by decide +kernel
theorem dX4_decisionOf_29 : decode cX4_decisionOf 29 = .ok (.lmul, 1) := by decide +kernel
theorem dX4_decisionOf_30 : decode cX4_decisionOf 30 = .ok (.aload_n 0, 1) := by decide +kernel
theorem dX4_decisionOf_31 : decode cX4_decisionOf 31 = .ok (.iload 5, 2) := by decide +kernel
theorem dX4_decisionOf_33 : decode cX4_decisionOf 33 = .ok (.iload_n 1, 1) := by decide +kernel
theorem dX4_decisionOf_34 : decode cX4_decisionOf 34 = .ok (.iload_n 2, 1) := by decide +kernel
theorem dX4_decisionOf_35 : decode cX4_decisionOf 35 = .ok (.invokevirtual 68, 3) := by decide +kernel
theorem dX4_decisionOf_38 : decode cX4_decisionOf 38 = .ok (.i2l, 1) := by decide +kernel
theorem dX4_decisionOf_39 : decode cX4_decisionOf 39 = .ok (.lmul, 1) := by decide +kernel
theorem dX4_decisionOf_40 : decode cX4_decisionOf 40 = .ok (.ladd, 1) := by decide +kernel
theorem dX4_decisionOf_41 : decode cX4_decisionOf 41 = .ok (.lstore_n 3, 1) := by decide +kernel
theorem dX4_decisionOf_42 : decode cX4_decisionOf 42 = .ok (.iinc 5 1, 3) := by decide +kernel
theorem dX4_decisionOf_45 : decode cX4_decisionOf 45 = .ok (.goto (-40), 3) := by decide +kernel
theorem dX4_decisionOf_48 : decode cX4_decisionOf 48 = .ok (.lload_n 3, 1) := by decide +kernel
theorem dX4_decisionOf_49 : decode cX4_decisionOf 49 = .ok (.lreturn, 1) := by decide +kernel
set_option maxRecDepth 20000 in
theorem ggX4_isPlace_X4_in : GoodIn wsX4_isPlace wsX4_in := goodIn_r _ [4] (by decide +kernel) (by decide +kernel)
set_option maxRecDepth 20000 in
theorem gX4_isPlace_X4_in : GoodIn wsX4_isPlace (va_wsS RX4 61 yX4_in wsX4_in) := goodIn_app (goodIn_of _ (by decide +kernel)) ggX4_isPlace_X4_in
theorem dX4_isPlace_0 : decode cX4_isPlace 0 = .ok (.iload_n 0, 1) := by decide +kernel
theorem dX4_isPlace_1 : decode cX4_isPlace 1 = .ok (.bipush (-4), 2) := by decide +kernel
theorem dX4_isPlace_3 : decode cX4_isPlace 3 = .ok (.iconst 4, 1) := by decide +kernel
theorem dX4_isPlace_4 : decode cX4_isPlace 4 = .ok (.invokestatic 61, 3) := by decide +kernel
theorem dX4_isPlace_7 : decode cX4_isPlace 7 = .ok (.ifCond .eq 17, 3) := by decide +kernel
theorem dX4_isPlace_10 : decode cX4_isPlace 10 = .ok (.iload_n 1, 1) := by decide +kernel
theorem dX4_isPlace_11 : decode cX4_isPlace 11 = .ok (.bipush (-4), 2) := by decide +kernel
theorem dX4_isPlace_13 : decode cX4_isPlace 13 = .ok (.iconst 4, 1) := by decide +kernel
theorem dX4_isPlace_14 : decode cX4_isPlace 14 = .ok (.invokestatic 61, 3) := by decide +kernel
theorem dX4_isPlace_17 : decode cX4_isPlace 17 = .ok (.ifCond .eq 7, 3) := by decide +kernel
theorem dX4_isPlace_20 : decode cX4_isPlace 20 = .ok (.iconst 1, 1) := by decide +kernel
theorem dX4_isPlace_21 : decode cX4_isPlace 21 = .ok (.goto 4, 3) := by decide +kernel
theorem dX4_isPlace_24 : decode cX4_isPlace 24 = .ok (.iconst 0, 1) := by decide +kernel
theorem dX4_isPlace_25 : decode cX4_isPlace 25 = .ok (.ireturn, 1) := by decide +kernel
set_option maxRecDepth 20000 in
theorem ggX4_decision_X4_isPlace : GoodIn wsX4_decision wsX4_isPlace := goodIn_r _ [7, 8, 9, 6, 10] (by decide +kernel) (by decide +kernel)
set_option maxRecDepth 20000 in
theorem gX4_decision_X4_isPlace : GoodIn wsX4_decision (va_wsS RX4 164 yX4_isPlace wsX4_isPlace) := goodIn_app (goodIn_of _ (by decide +kernel)) ggX4_decision_X4_isPlace
set_option maxRecDepth 20000 in
theorem ggX4_decision_X4_decisionOf : GoodIn wsX4_decision wsX4_decisionOf := goodIn_r _ [14, 15, 16, 17, 18, 19, 6, 20, 21, 22, 23, 24, 25, 26, 27, 28, 29, 30, 31, 32, 33, 34, 44, 45, 46, 47, 48, 49, 50, 51, 52, 53, 54, 55, 56, 57, 58, 59, 60, 61, 62, 63] (by decide +kernel) (by decide +kernel)
set_option maxRecDepth 20000 in
theorem gX4_decision_X4_decisionOf : GoodIn wsX4_decision (wsV RX4 168 RX4 yX4_decisionOf wsX4_decisionOf) := goodIn_app (goodIn_of _ (by decide +kernel)) ggX4_decision_X4_decisionOf
set_option maxRecDepth 20000 in
theorem ggX4_decision_X4_lowest : GoodIn wsX4_decision wsX4_lowest := goodIn_r _ [37, 38, 39, 6, 40, 41, 42, 43] (by decide +kernel) (by decide +kernel)
set_option maxRecDepth 20000 in
theorem gX4_decision_X4_lowest : GoodIn wsX4_decision (va_wsS RX4 150 yX4_lowest wsX4_lowest) := goodIn_app (goodIn_of _ (by decide +kernel)) ggX4_decision_X4_lowest
theorem dX4_decision_0 : decode cX4_decision 0 = .ok (.aload_n 0, 1) := by decide +kernel
theorem dX4_decision_1 : decode cX4_decision 1 = .ok (.getfield 49, 3) := by decide +kernel
theorem dX4_decision_4 : decode cX4_decision 4 = .ok (.ifCond .eq 34, 3) := by decide +kernel
theorem dX4_decision_7 : decode cX4_decision 7 = .ok (.iload_n 1, 1) := by decide +kernel
theorem dX4_decision_8 : decode cX4_decision 8 = .ok (.iload_n 2, 1) := by decide +kernel
theorem dX4_decision_9 : decode cX4_decision 9 = .ok (.invokestatic 164, 3) := by decide +kernel
theorem dX4_decision_12 : decode cX4_decision 12 = .ok (.ifCond .eq 26, 3) := by decide +kernel
theorem dX4_decision_15 : decode cX4_decision 15 = .ok (.aload_n 0, 1) := by decide +kernel
theorem dX4_decision_16 : decode cX4_decision 16 = .ok (.iload_n 1, 1) := by decide +kernel
theorem dX4_decision_17 : decode cX4_decision 17 = .ok (.iload_n 2, 1) := by decide +kernel
theorem dX4_decision_18 : decode cX4_decision 18 = .ok (.invokevirtual 168, 3) := by decide +kernel
theorem dX4_decision_21 : decode cX4_decision 21 = .ok (.aload_n 0, 1) := by decide +kernel
theorem dX4_decision_22 : decode cX4_decision 22 = .ok (.getfield 115, 3) := by decide +kernel
theorem dX4_decision_25 : decode cX4_decision 25 = .ok (.aload_n 0, 1) := by decide +kernel
theorem dX4_decision_26 : decode cX4_decision 26 = .ok (.getfield 16, 3) := by decide +kernel
theorem dX4_decision_29 : decode cX4_decision 29 = .ok (.i2l, 1) := by decide +kernel
theorem dX4_decision_30 : decode cX4_decision 30 = .ok (.lmul, 1) := by decide +kernel
theorem dX4_decision_31 : decode cX4_decision 31 = .ok (.iload_n 3, 1) := by decide +kernel
theorem dX4_decision_32 : decode cX4_decision 32 = .ok (.invokestatic 150, 3) := by decide +kernel
theorem dX4_decision_35 : decode cX4_decision 35 = .ok (.goto 4, 3) := by decide +kernel
theorem dX4_decision_38 : decode cX4_decision 38 = .ok (.lconst 0, 1) := by decide +kernel
theorem dX4_decision_39 : decode cX4_decision 39 = .ok (.lreturn, 1) := by decide +kernel
set_option maxRecDepth 20000 in
theorem ggX4_predict_X4_isPlace : GoodIn wsX4_predict wsX4_isPlace := goodIn_r _ [5, 6, 7, 4, 8] (by decide +kernel) (by decide +kernel)
set_option maxRecDepth 20000 in
theorem gX4_predict_X4_isPlace : GoodIn wsX4_predict (va_wsS RX4 164 yX4_isPlace wsX4_isPlace) := goodIn_app (goodIn_of _ (by decide +kernel)) ggX4_predict_X4_isPlace
set_option maxRecDepth 20000 in
theorem ggX4_predict_X4_decisionOf : GoodIn wsX4_predict wsX4_decisionOf := goodIn_r _ [12, 13, 14, 15, 16, 17, 4, 18, 19, 20, 21, 22, 23, 24, 25, 26, 27, 28, 29, 30, 31, 32, 33, 34, 35, 36, 37, 38, 39, 40, 41, 42, 43, 44, 45, 46, 47, 48, 49, 50, 51, 52] (by decide +kernel) (by decide +kernel)
set_option maxRecDepth 20000 in
theorem gX4_predict_X4_decisionOf : GoodIn wsX4_predict (wsV RX4 168 RX4 yX4_decisionOf wsX4_decisionOf) := goodIn_app (goodIn_of _ (by decide +kernel)) ggX4_predict_X4_decisionOf
theorem dX4_predict_0 : decode cX4_predict 0 = .ok (.iload_n 1, 1) := by decide +kernel
theorem dX4_predict_1 : decode cX4_predict 1 = .ok (.iload_n 2, 1) := by decide +kernel
theorem dX4_predict_2 : decode cX4_predict 2 = .ok (.invokestatic 164, 3) := by decide +kernel
theorem dX4_predict_5 : decode cX4_predict 5 = .ok (.ifCond .ne 6, 3) := by decide +kernel
theorem dX4_predict_8 : decode cX4_predict 8 = .ok (.bipush (-2), 2) := by decide +kernel
theorem dX4_predict_10 : decode cX4_predict 10 = .ok (.ireturn, 1) := by decide +kernel
theorem dX4_predict_11 : decode cX4_predict 11 = .ok (.aload_n 0, 1) := by decide +kernel
theorem dX4_predict_12 : decode cX4_predict 12 = .ok (.getfield 49, 3) := by decide +kernel
theorem dX4_predict_15 : decode cX4_predict 15 = .ok (.ifCond .ne 6, 3) := by decide +kernel
theorem dX4_predict_18 : decode cX4_predict 18 = .ok (.bipush (-3), 2) := by decide +kernel
theorem dX4_predict_20 : decode cX4_predict 20 = .ok (.ireturn, 1) := by decide +kernel
theorem dX4_predict_21 : decode cX4_predict 21 = .ok (.aload_n 0, 1) := by decide +kernel
theorem dX4_predict_22 : decode cX4_predict 22 = .ok (.iload_n 1, 1) := by decide +kernel
theorem dX4_predict_23 : decode cX4_predict 23 = .ok (.iload_n 2, 1) := by decide +kernel
theorem dX4_predict_24 : decode cX4_predict 24 = .ok (.invokevirtual 168, 3) := by decide +kernel
theorem dX4_predict_27 : decode cX4_predict 27 = .ok (.lstore_n 3, 1) := by decide +kernel
theorem dX4_predict_28 : decode cX4_predict 28 = .ok (.lload_n 3, 1) := by decide +kernel
theorem dX4_predict_29 : decode cX4_predict 29 = .ok (.lconst 0, 1) := by decide +kernel
theorem dX4_predict_30 : decode cX4_predict 30 = .ok (.lcmp, 1) := by decide +kernel
theorem dX4_predict_31 : decode cX4_predict 31 = .ok (.ifCond .le 7, 3) := by decide +kernel
theorem dX4_predict_34 : decode cX4_predict 34 = .ok (.iconst 1, 1) := by decide +kernel
theorem dX4_predict_35 : decode cX4_predict 35 = .ok (.goto 14, 3) := by decide +kernel
theorem dX4_predict_38 : decode cX4_predict 38 = .ok (.lload_n 3, 1) := by decide +kernel
theorem dX4_predict_39 : decode cX4_predict 39 = .ok (.lconst 0, 1) := by decide +kernel
theorem dX4_predict_40 : decode cX4_predict 40 = .ok (.lcmp, 1) := by decide +kernel
theorem dX4_predict_41 : decode cX4_predict 41 = .ok (.ifCond .ge 7, 3) := by decide +kernel
theorem dX4_predict_44 : decode cX4_predict 44 = .ok (.iconst (-1), 1) := by decide +kernel
theorem dX4_predict_45 : decode cX4_predict 45 = .ok (.goto 4, 3) := by decide +kernel
theorem dX4_predict_48 : decode cX4_predict 48 = .ok (.iconst 0, 1) := by decide +kernel
theorem dX4_predict_49 : decode cX4_predict 49 = .ok (.ireturn, 1) := by decide +kernel
set_option maxRecDepth 20000 in
theorem ggX4_count_X4_stands : GoodIn wsX4_count wsX4_stands := goodIn_r _ [12, 7, 13, 25, 26, 27, 28, 29, 30, 31, 32, 33, 34, 35, 36, 37, 38, 39, 40, 41, 42, 43, 44] (by decide +kernel) (by decide +kernel)
set_option maxRecDepth 20000 in
theorem gX4_count_X4_stands : GoodIn wsX4_count (wsV RX4 144 RX4 yX4_stands wsX4_stands) := goodIn_app (goodIn_of _ (by decide +kernel)) ggX4_count_X4_stands
set_option maxRecDepth 20000 in
theorem ggX4_count_X4_worthOf : GoodIn wsX4_count wsX4_worthOf := goodIn_r _ [17, 18, 19, 20, 21, 22, 23, 11, 24, 25, 26, 27, 28, 29, 30, 31, 32, 33, 34, 35, 36, 37, 38, 39, 40, 41, 42, 43, 44] (by decide +kernel) (by decide +kernel)
set_option maxRecDepth 20000 in
theorem gX4_count_X4_worthOf : GoodIn wsX4_count (wsV RX4 154 RX4 yX4_worthOf wsX4_worthOf) := goodIn_app (goodIn_of _ (by decide +kernel)) ggX4_count_X4_worthOf
theorem dX4_count_0 : decode cX4_count 0 = .ok (.iconst 0, 1) := by decide +kernel
theorem dX4_count_1 : decode cX4_count 1 = .ok (.istore_n 2, 1) := by decide +kernel
theorem dX4_count_2 : decode cX4_count 2 = .ok (.iload_n 1, 1) := by decide +kernel
theorem dX4_count_3 : decode cX4_count 3 = .ok (.tableswitch 136 0 6 #[41, 46, 51, 56, 61, 66, 82], 41) := by decide +kernel
theorem dX4_count_44 : decode cX4_count 44 = .ok (.aload_n 0, 1) := by decide +kernel
theorem dX4_count_45 : decode cX4_count 45 = .ok (.getfield 58, 3) := by decide +kernel
theorem dX4_count_48 : decode cX4_count 48 = .ok (.ireturn, 1) := by decide +kernel
theorem dX4_count_49 : decode cX4_count 49 = .ok (.aload_n 0, 1) := by decide +kernel
theorem dX4_count_50 : decode cX4_count 50 = .ok (.getfield 7, 3) := by decide +kernel
theorem dX4_count_53 : decode cX4_count 53 = .ok (.ireturn, 1) := by decide +kernel
theorem dX4_count_54 : decode cX4_count 54 = .ok (.aload_n 0, 1) := by decide +kernel
theorem dX4_count_55 : decode cX4_count 55 = .ok (.getfield 13, 3) := by decide +kernel
theorem dX4_count_58 : decode cX4_count 58 = .ok (.ireturn, 1) := by decide +kernel
theorem dX4_count_59 : decode cX4_count 59 = .ok (.aload_n 0, 1) := by decide +kernel
theorem dX4_count_60 : decode cX4_count 60 = .ok (.getfield 16, 3) := by decide +kernel
theorem dX4_count_63 : decode cX4_count 63 = .ok (.ireturn, 1) := by decide +kernel
theorem dX4_count_64 : decode cX4_count 64 = .ok (.aload_n 0, 1) := by decide +kernel
theorem dX4_count_65 : decode cX4_count 65 = .ok (.getfield 55, 3) := by decide +kernel
theorem dX4_count_68 : decode cX4_count 68 = .ok (.ireturn, 1) := by decide +kernel
theorem dX4_count_69 : decode cX4_count 69 = .ok (.aload_n 0, 1) := by decide +kernel
theorem dX4_count_70 : decode cX4_count 70 = .ok (.getfield 45, 3) := by decide +kernel
theorem dX4_count_73 : decode cX4_count 73 = .ok (.ifCond .eq 10, 3) := by decide +kernel
theorem dX4_count_76 : decode cX4_count 76 = .ok (.aload_n 0, 1) := by decide +kernel
theorem dX4_count_77 : decode cX4_count 77 = .ok (.invokevirtual 144, 3) := by decide +kernel
theorem dX4_count_80 : decode cX4_count 80 = .ok (.goto 4, 3) := by decide +kernel
theorem dX4_count_83 : decode cX4_count 83 = .ok (.iconst (-1), 1) := by decide +kernel
theorem dX4_count_84 : decode cX4_count 84 = .ok (.ireturn, 1) := by decide +kernel
theorem dX4_count_85 : decode cX4_count 85 = .ok (.iconst 0, 1) := by decide +kernel
theorem dX4_count_86 : decode cX4_count 86 = .ok (.istore_n 3, 1) := by decide +kernel
theorem dX4_count_87 : decode cX4_count 87 = .ok (.iload_n 3, 1) := by decide +kernel
theorem dX4_count_88 : decode cX4_count 88 = .ok (.aload_n 0, 1) := by decide +kernel
theorem dX4_count_89 : decode cX4_count 89 = .ok (.getfield 58, 3) := by decide +kernel
theorem dX4_count_92 : decode cX4_count 92 = .ok (.if_icmp .ge 34, 3) := by decide +kernel
theorem dX4_count_95 : decode cX4_count 95 = .ok (.aload_n 0, 1) := by decide +kernel
theorem dX4_count_96 : decode cX4_count 96 = .ok (.getfield 49, 3) := by decide +kernel
theorem dX4_count_99 : decode cX4_count 99 = .ok (.ifCond .eq 27, 3) := by decide +kernel
theorem dX4_count_102 : decode cX4_count 102 = .ok (.iload_n 2, 1) := by decide +kernel
theorem dX4_count_103 : decode cX4_count 103 = .ok (.aload_n 0, 1) := by decide +kernel
theorem dX4_count_104 : decode cX4_count 104 = .ok (.iload_n 3, 1) := by decide +kernel
theorem dX4_count_105 : decode cX4_count 105 = .ok (.invokevirtual 154, 3) := by decide +kernel
theorem dX4_count_108 : decode cX4_count 108 = .ok (.lconst 0, 1) := by decide +kernel
theorem dX4_count_109 : decode cX4_count 109 = .ok (.lcmp, 1) := by decide +kernel
theorem dX4_count_110 : decode cX4_count 110 = .ok (.ifCond .le 7, 3) := by decide +kernel
theorem dX4_count_113 : decode cX4_count 113 = .ok (.iconst 1, 1) := by decide +kernel
theorem dX4_count_114 : decode cX4_count 114 = .ok (.goto 4, 3) := by decide +kernel
theorem dX4_count_117 : decode cX4_count 117 = .ok (.iconst 0, 1) := by decide +kernel
theorem dX4_count_118 : decode cX4_count 118 = .ok (.iadd, 1) := by decide +kernel
theorem dX4_count_119 : decode cX4_count 119 = .ok (.istore_n 2, 1) := by decide +kernel
theorem dX4_count_120 : decode cX4_count 120 = .ok (.iinc 3 1, 3) := by decide +kernel
theorem dX4_count_123 : decode cX4_count 123 = .ok (.goto (-36), 3) := by decide +kernel
theorem dX4_count_126 : decode cX4_count 126 = .ok (.aload_n 0, 1) := by decide +kernel
theorem dX4_count_127 : decode cX4_count 127 = .ok (.getfield 49, 3) := by decide +kernel
theorem dX4_count_130 : decode cX4_count 130 = .ok (.ifCond .eq 7, 3) := by decide +kernel
theorem dX4_count_133 : decode cX4_count 133 = .ok (.iload_n 2, 1) := by decide +kernel
theorem dX4_count_134 : decode cX4_count 134 = .ok (.goto 4, 3) := by decide +kernel
theorem dX4_count_137 : decode cX4_count 137 = .ok (.iconst (-1), 1) := by decide +kernel
theorem dX4_count_138 : decode cX4_count 138 = .ok (.ireturn, 1) := by decide +kernel
theorem dX4_count_139 : decode cX4_count 139 = .ok (.bipush (-2), 2) := by decide +kernel
theorem dX4_count_141 : decode cX4_count 141 = .ok (.ireturn, 1) := by decide +kernel
set_option maxRecDepth 20000 in
theorem ggX4_digest_X4_count : GoodIn wsX4_digest wsX4_count := goodIn_r _ [15, 3, 16, 17, 18, 7, 19, 20, 21, 22, 23, 14, 24, 25, 26, 27, 28, 29, 30, 31, 32, 33, 34, 35, 36, 58, 59, 60, 61, 62, 63, 64, 65, 66, 67, 68, 69, 70, 71, 72, 73, 74, 75, 76, 77] (by decide +kernel) (by decide +kernel)
set_option maxRecDepth 20000 in
theorem gX4_digest_X4_count : GoodIn wsX4_digest (wsV RX4 175 RX4 yX4_count wsX4_count) := goodIn_app (goodIn_of _ (by decide +kernel)) ggX4_digest_X4_count
set_option maxRecDepth 20000 in
theorem ggX4_digest_X4_multiplier : GoodIn wsX4_digest wsX4_multiplier := goodIn_r _ [40, 20, 41, 18, 42, 43, 44, 14, 45, 3, 46, 47, 48, 26, 27, 28, 29, 30, 31, 32, 33, 34, 35, 36, 49, 50, 51, 52, 53, 54, 55, 56, 57, 58, 59, 60, 61, 62, 63, 64, 65, 66, 67, 68, 69, 70, 71, 72, 73, 74, 75, 76, 77] (by decide +kernel) (by decide +kernel)
set_option maxRecDepth 20000 in
theorem gX4_digest_X4_multiplier : GoodIn wsX4_digest (wsV RX4 178 RX4 yX4_multiplier wsX4_multiplier) := goodIn_app (goodIn_of _ (by decide +kernel)) ggX4_digest_X4_multiplier
theorem dX4_digest_0 : decode cX4_digest 0 = .ok (.ldc2_w 171, 3) := by decide +kernel
theorem dX4_digest_3 : decode cX4_digest 3 = .ok (.lstore_n 1, 1) := by decide +kernel
theorem dX4_digest_4 : decode cX4_digest 4 = .ok (.iconst 0, 1) := by decide +kernel
theorem dX4_digest_5 : decode cX4_digest 5 = .ok (.istore_n 3, 1) := by decide +kernel
theorem dX4_digest_6 : decode cX4_digest 6 = .ok (.iload_n 3, 1) := by decide +kernel
theorem dX4_digest_7 : decode cX4_digest 7 = .ok (.bipush 7, 2) := by decide +kernel
theorem dX4_digest_9 : decode cX4_digest 9 = .ok (.if_icmp .ge 22, 3) := by decide +kernel
theorem dX4_digest_12 : decode cX4_digest 12 = .ok (.ldc2_w 173, 3) := by decide +kernel
theorem dX4_digest_15 : decode cX4_digest 15 = .ok (.lload_n 1, 1) := by decide +kernel
theorem dX4_digest_16 : decode cX4_digest 16 = .ok (.lmul, 1) := by decide +kernel
theorem dX4_digest_17 : decode cX4_digest 17 = .ok (.aload_n 0, 1) := by decide +kernel
theorem dX4_digest_18 : decode cX4_digest 18 = .ok (.iload_n 3, 1) := by decide +kernel
theorem dX4_digest_19 : decode cX4_digest 19 = .ok (.invokevirtual 175, 3) := by decide +kernel
theorem dX4_digest_22 : decode cX4_digest 22 = .ok (.i2l, 1) := by decide +kernel
theorem dX4_digest_23 : decode cX4_digest 23 = .ok (.ladd, 1) := by decide +kernel
theorem dX4_digest_24 : decode cX4_digest 24 = .ok (.lstore_n 1, 1) := by decide +kernel
theorem dX4_digest_25 : decode cX4_digest 25 = .ok (.iinc 3 1, 3) := by decide +kernel
theorem dX4_digest_28 : decode cX4_digest 28 = .ok (.goto (-22), 3) := by decide +kernel
theorem dX4_digest_31 : decode cX4_digest 31 = .ok (.iconst 0, 1) := by decide +kernel
theorem dX4_digest_32 : decode cX4_digest 32 = .ok (.istore_n 3, 1) := by decide +kernel
theorem dX4_digest_33 : decode cX4_digest 33 = .ok (.iload_n 3, 1) := by decide +kernel
theorem dX4_digest_34 : decode cX4_digest 34 = .ok (.aload_n 0, 1) := by decide +kernel
theorem dX4_digest_35 : decode cX4_digest 35 = .ok (.getfield 58, 3) := by decide +kernel
theorem dX4_digest_38 : decode cX4_digest 38 = .ok (.if_icmp .ge 47, 3) := by decide +kernel
theorem dX4_digest_41 : decode cX4_digest 41 = .ok (.ldc2_w 173, 3) := by decide +kernel
theorem dX4_digest_44 : decode cX4_digest 44 = .ok (.ldc2_w 173, 3) := by decide +kernel
theorem dX4_digest_47 : decode cX4_digest 47 = .ok (.ldc2_w 173, 3) := by decide +kernel
theorem dX4_digest_50 : decode cX4_digest 50 = .ok (.lload_n 1, 1) := by decide +kernel
theorem dX4_digest_51 : decode cX4_digest 51 = .ok (.lmul, 1) := by decide +kernel
theorem dX4_digest_52 : decode cX4_digest 52 = .ok (.aload_n 0, 1) := by decide +kernel
theorem dX4_digest_53 : decode cX4_digest 53 = .ok (.getfield 19, 3) := by decide +kernel
theorem dX4_digest_56 : decode cX4_digest 56 = .ok (.iload_n 3, 1) := by decide +kernel
theorem dX4_digest_57 : decode cX4_digest 57 = .ok (.iaload, 1) := by decide +kernel
theorem dX4_digest_58 : decode cX4_digest 58 = .ok (.i2l, 1) := by decide +kernel
theorem dX4_digest_59 : decode cX4_digest 59 = .ok (.ladd, 1) := by decide +kernel
theorem dX4_digest_60 : decode cX4_digest 60 = .ok (.lmul, 1) := by decide +kernel
theorem dX4_digest_61 : decode cX4_digest 61 = .ok (.aload_n 0, 1) := by decide +kernel
theorem dX4_digest_62 : decode cX4_digest 62 = .ok (.getfield 23, 3) := by decide +kernel
theorem dX4_digest_65 : decode cX4_digest 65 = .ok (.iload_n 3, 1) := by decide +kernel
theorem dX4_digest_66 : decode cX4_digest 66 = .ok (.iaload, 1) := by decide +kernel
theorem dX4_digest_67 : decode cX4_digest 67 = .ok (.i2l, 1) := by decide +kernel
theorem dX4_digest_68 : decode cX4_digest 68 = .ok (.ladd, 1) := by decide +kernel
theorem dX4_digest_69 : decode cX4_digest 69 = .ok (.lmul, 1) := by decide +kernel
theorem dX4_digest_70 : decode cX4_digest 70 = .ok (.aload_n 0, 1) := by decide +kernel
theorem dX4_digest_71 : decode cX4_digest 71 = .ok (.getfield 26, 3) := by decide +kernel
theorem dX4_digest_74 : decode cX4_digest 74 = .ok (.iload_n 3, 1) := by decide +kernel
theorem dX4_digest_75 : decode cX4_digest 75 = .ok (.iaload, 1) := by decide +kernel
theorem dX4_digest_76 : decode cX4_digest 76 = .ok (.i2l, 1) := by decide +kernel
theorem dX4_digest_77 : decode cX4_digest 77 = .ok (.ladd, 1) := by decide +kernel
theorem dX4_digest_78 : decode cX4_digest 78 = .ok (.lstore_n 1, 1) := by decide +kernel
theorem dX4_digest_79 : decode cX4_digest 79 = .ok (.iinc 3 1, 3) := by decide +kernel
theorem dX4_digest_82 : decode cX4_digest 82 = .ok (.goto (-49), 3) := by decide +kernel
theorem dX4_digest_85 : decode cX4_digest 85 = .ok (.iconst 0, 1) := by decide +kernel
theorem dX4_digest_86 : decode cX4_digest 86 = .ok (.istore_n 3, 1) := by decide +kernel
theorem dX4_digest_87 : decode cX4_digest 87 = .ok (.iload_n 3, 1) := by decide +kernel
theorem dX4_digest_88 : decode cX4_digest 88 = .ok (.aload_n 0, 1) := by decide +kernel
theorem dX4_digest_89 : decode cX4_digest 89 = .ok (.getfield 55, 3) := by decide +kernel
theorem dX4_digest_92 : decode cX4_digest 92 = .ok (.if_icmp .ge 47, 3) := by decide +kernel
theorem dX4_digest_95 : decode cX4_digest 95 = .ok (.ldc2_w 173, 3) := by decide +kernel
theorem dX4_digest_98 : decode cX4_digest 98 = .ok (.ldc2_w 173, 3) := by decide +kernel
theorem dX4_digest_101 : decode cX4_digest 101 = .ok (.ldc2_w 173, 3) := by decide +kernel
theorem dX4_digest_104 : decode cX4_digest 104 = .ok (.lload_n 1, 1) := by decide +kernel
theorem dX4_digest_105 : decode cX4_digest 105 = .ok (.lmul, 1) := by decide +kernel
theorem dX4_digest_106 : decode cX4_digest 106 = .ok (.aload_n 0, 1) := by decide +kernel
theorem dX4_digest_107 : decode cX4_digest 107 = .ok (.getfield 36, 3) := by decide +kernel
theorem dX4_digest_110 : decode cX4_digest 110 = .ok (.iload_n 3, 1) := by decide +kernel
theorem dX4_digest_111 : decode cX4_digest 111 = .ok (.iaload, 1) := by decide +kernel
theorem dX4_digest_112 : decode cX4_digest 112 = .ok (.i2l, 1) := by decide +kernel
theorem dX4_digest_113 : decode cX4_digest 113 = .ok (.ladd, 1) := by decide +kernel
theorem dX4_digest_114 : decode cX4_digest 114 = .ok (.lmul, 1) := by decide +kernel
theorem dX4_digest_115 : decode cX4_digest 115 = .ok (.aload_n 0, 1) := by decide +kernel
theorem dX4_digest_116 : decode cX4_digest 116 = .ok (.getfield 39, 3) := by decide +kernel
theorem dX4_digest_119 : decode cX4_digest 119 = .ok (.iload_n 3, 1) := by decide +kernel
theorem dX4_digest_120 : decode cX4_digest 120 = .ok (.iaload, 1) := by decide +kernel
theorem dX4_digest_121 : decode cX4_digest 121 = .ok (.i2l, 1) := by decide +kernel
theorem dX4_digest_122 : decode cX4_digest 122 = .ok (.ladd, 1) := by decide +kernel
theorem dX4_digest_123 : decode cX4_digest 123 = .ok (.lmul, 1) := by decide +kernel
theorem dX4_digest_124 : decode cX4_digest 124 = .ok (.aload_n 0, 1) := by decide +kernel
theorem dX4_digest_125 : decode cX4_digest 125 = .ok (.getfield 42, 3) := by decide +kernel
theorem dX4_digest_128 : decode cX4_digest 128 = .ok (.iload_n 3, 1) := by decide +kernel
theorem dX4_digest_129 : decode cX4_digest 129 = .ok (.iaload, 1) := by decide +kernel
theorem dX4_digest_130 : decode cX4_digest 130 = .ok (.i2l, 1) := by decide +kernel
theorem dX4_digest_131 : decode cX4_digest 131 = .ok (.ladd, 1) := by decide +kernel
theorem dX4_digest_132 : decode cX4_digest 132 = .ok (.lstore_n 1, 1) := by decide +kernel
theorem dX4_digest_133 : decode cX4_digest 133 = .ok (.iinc 3 1, 3) := by decide +kernel
theorem dX4_digest_136 : decode cX4_digest 136 = .ok (.goto (-49), 3) := by decide +kernel
theorem dX4_digest_139 : decode cX4_digest 139 = .ok (.iconst 0, 1) := by decide +kernel
theorem dX4_digest_140 : decode cX4_digest 140 = .ok (.istore_n 3, 1) := by decide +kernel
theorem dX4_digest_141 : decode cX4_digest 141 = .ok (.iload_n 3, 1) := by decide +kernel
theorem dX4_digest_142 : decode cX4_digest 142 = .ok (.aload_n 0, 1) := by decide +kernel
theorem dX4_digest_143 : decode cX4_digest 143 = .ok (.getfield 58, 3) := by decide +kernel
theorem dX4_digest_146 : decode cX4_digest 146 = .ok (.if_icmp .ge 33, 3) := by decide +kernel
theorem dX4_digest_149 : decode cX4_digest 149 = .ok (.ldc2_w 173, 3) := by decide +kernel
theorem dX4_digest_152 : decode cX4_digest 152 = .ok (.ldc2_w 173, 3) := by decide +kernel
theorem dX4_digest_155 : decode cX4_digest 155 = .ok (.lload_n 1, 1) := by decide +kernel
theorem dX4_digest_156 : decode cX4_digest 156 = .ok (.lmul, 1) := by decide +kernel
theorem dX4_digest_157 : decode cX4_digest 157 = .ok (.aload_n 0, 1) := by decide +kernel
theorem dX4_digest_158 : decode cX4_digest 158 = .ok (.iload_n 3, 1) := by decide +kernel
theorem dX4_digest_159 : decode cX4_digest 159 = .ok (.iconst 0, 1) := by decide +kernel
theorem dX4_digest_160 : decode cX4_digest 160 = .ok (.invokevirtual 178, 3) := by decide +kernel
theorem dX4_digest_163 : decode cX4_digest 163 = .ok (.ladd, 1) := by decide +kernel
theorem dX4_digest_164 : decode cX4_digest 164 = .ok (.lmul, 1) := by decide +kernel
theorem dX4_digest_165 : decode cX4_digest 165 = .ok (.aload_n 0, 1) := by decide +kernel
theorem dX4_digest_166 : decode cX4_digest 166 = .ok (.iload_n 3, 1) := by decide +kernel
theorem dX4_digest_167 : decode cX4_digest 167 = .ok (.iconst 1, 1) := by decide +kernel
theorem dX4_digest_168 : decode cX4_digest 168 = .ok (.invokevirtual 178, 3) := by decide +kernel
theorem dX4_digest_171 : decode cX4_digest 171 = .ok (.ladd, 1) := by decide +kernel
theorem dX4_digest_172 : decode cX4_digest 172 = .ok (.lstore_n 1, 1) := by decide +kernel
theorem dX4_digest_173 : decode cX4_digest 173 = .ok (.iinc 3 1, 3) := by decide +kernel
theorem dX4_digest_176 : decode cX4_digest 176 = .ok (.goto (-35), 3) := by decide +kernel
theorem dX4_digest_179 : decode cX4_digest 179 = .ok (.lload_n 1, 1) := by decide +kernel
theorem dX4_digest_180 : decode cX4_digest 180 = .ok (.lreturn, 1) := by decide +kernel
end
section
theorem dJ6_numberOfTrailingZeros_0f7a4_0 : decode cJ6_numberOfTrailingZeros_0f7a4 0 = .ok (.iload_n 0, 1) := by decide +kernel
theorem dJ6_numberOfTrailingZeros_0f7a4_1 : decode cJ6_numberOfTrailingZeros_0f7a4 1 = .ok (.iconst (-1), 1) := by decide +kernel
theorem dJ6_numberOfTrailingZeros_0f7a4_2 : decode cJ6_numberOfTrailingZeros_0f7a4 2 = .ok (.ixor, 1) := by decide +kernel
theorem dJ6_numberOfTrailingZeros_0f7a4_3 : decode cJ6_numberOfTrailingZeros_0f7a4 3 = .ok (.iload_n 0, 1) := by decide +kernel
theorem dJ6_numberOfTrailingZeros_0f7a4_4 : decode cJ6_numberOfTrailingZeros_0f7a4 4 = .ok (.iconst 1, 1) := by decide +kernel
theorem dJ6_numberOfTrailingZeros_0f7a4_5 : decode cJ6_numberOfTrailingZeros_0f7a4 5 = .ok (.isub, 1) := by decide +kernel
theorem dJ6_numberOfTrailingZeros_0f7a4_6 : decode cJ6_numberOfTrailingZeros_0f7a4 6 = .ok (.iand, 1) := by decide +kernel
theorem dJ6_numberOfTrailingZeros_0f7a4_7 : decode cJ6_numberOfTrailingZeros_0f7a4 7 = .ok (.istore_n 0, 1) := by decide +kernel
theorem dJ6_numberOfTrailingZeros_0f7a4_8 : decode cJ6_numberOfTrailingZeros_0f7a4 8 = .ok (.iload_n 0, 1) := by decide +kernel
theorem dJ6_numberOfTrailingZeros_0f7a4_9 : decode cJ6_numberOfTrailingZeros_0f7a4 9 = .ok (.ifCond .gt 8, 3) := by decide +kernel
theorem dJ6_numberOfTrailingZeros_0f7a4_12 : decode cJ6_numberOfTrailingZeros_0f7a4 12 = .ok (.iload_n 0, 1) := by decide +kernel
theorem dJ6_numberOfTrailingZeros_0f7a4_13 : decode cJ6_numberOfTrailingZeros_0f7a4 13 = .ok (.bipush 32, 2) := by decide +kernel
theorem dJ6_numberOfTrailingZeros_0f7a4_15 : decode cJ6_numberOfTrailingZeros_0f7a4 15 = .ok (.iand, 1) := by decide +kernel
theorem dJ6_numberOfTrailingZeros_0f7a4_16 : decode cJ6_numberOfTrailingZeros_0f7a4 16 = .ok (.ireturn, 1) := by decide +kernel
theorem dJ6_numberOfTrailingZeros_0f7a4_17 : decode cJ6_numberOfTrailingZeros_0f7a4 17 = .ok (.iconst 1, 1) := by decide +kernel
theorem dJ6_numberOfTrailingZeros_0f7a4_18 : decode cJ6_numberOfTrailingZeros_0f7a4 18 = .ok (.istore_n 1, 1) := by decide +kernel
theorem dJ6_numberOfTrailingZeros_0f7a4_19 : decode cJ6_numberOfTrailingZeros_0f7a4 19 = .ok (.iload_n 0, 1) := by decide +kernel
theorem dJ6_numberOfTrailingZeros_0f7a4_20 : decode cJ6_numberOfTrailingZeros_0f7a4 20 = .ok (.ldc_w 264, 3) := by decide +kernel
theorem dJ6_numberOfTrailingZeros_0f7a4_23 : decode cJ6_numberOfTrailingZeros_0f7a4 23 = .ok (.if_icmp .le 11, 3) := by decide +kernel
theorem dJ6_numberOfTrailingZeros_0f7a4_26 : decode cJ6_numberOfTrailingZeros_0f7a4 26 = .ok (.iinc 1 16, 3) := by decide +kernel
theorem dJ6_numberOfTrailingZeros_0f7a4_29 : decode cJ6_numberOfTrailingZeros_0f7a4 29 = .ok (.iload_n 0, 1) := by decide +kernel
theorem dJ6_numberOfTrailingZeros_0f7a4_30 : decode cJ6_numberOfTrailingZeros_0f7a4 30 = .ok (.bipush 16, 2) := by decide +kernel
theorem dJ6_numberOfTrailingZeros_0f7a4_32 : decode cJ6_numberOfTrailingZeros_0f7a4 32 = .ok (.iushr, 1) := by decide +kernel
theorem dJ6_numberOfTrailingZeros_0f7a4_33 : decode cJ6_numberOfTrailingZeros_0f7a4 33 = .ok (.istore_n 0, 1) := by decide +kernel
theorem dJ6_numberOfTrailingZeros_0f7a4_34 : decode cJ6_numberOfTrailingZeros_0f7a4 34 = .ok (.iload_n 0, 1) := by decide +kernel
theorem dJ6_numberOfTrailingZeros_0f7a4_35 : decode cJ6_numberOfTrailingZeros_0f7a4 35 = .ok (.sipush 256, 3) := by decide +kernel
theorem dJ6_numberOfTrailingZeros_0f7a4_38 : decode cJ6_numberOfTrailingZeros_0f7a4 38 = .ok (.if_icmp .le 11, 3) := by decide +kernel
theorem dJ6_numberOfTrailingZeros_0f7a4_41 : decode cJ6_numberOfTrailingZeros_0f7a4 41 = .ok (.iinc 1 8, 3) := by decide +kernel
theorem dJ6_numberOfTrailingZeros_0f7a4_44 : decode cJ6_numberOfTrailingZeros_0f7a4 44 = .ok (.iload_n 0, 1) := by decide +kernel
theorem dJ6_numberOfTrailingZeros_0f7a4_45 : decode cJ6_numberOfTrailingZeros_0f7a4 45 = .ok (.bipush 8, 2) := by decide +kernel
theorem dJ6_numberOfTrailingZeros_0f7a4_47 : decode cJ6_numberOfTrailingZeros_0f7a4 47 = .ok (.iushr, 1) := by decide +kernel
theorem dJ6_numberOfTrailingZeros_0f7a4_48 : decode cJ6_numberOfTrailingZeros_0f7a4 48 = .ok (.istore_n 0, 1) := by decide +kernel
theorem dJ6_numberOfTrailingZeros_0f7a4_49 : decode cJ6_numberOfTrailingZeros_0f7a4 49 = .ok (.iload_n 0, 1) := by decide +kernel
theorem dJ6_numberOfTrailingZeros_0f7a4_50 : decode cJ6_numberOfTrailingZeros_0f7a4 50 = .ok (.bipush 16, 2) := by decide +kernel
theorem dJ6_numberOfTrailingZeros_0f7a4_52 : decode cJ6_numberOfTrailingZeros_0f7a4 52 = .ok (.if_icmp .le 10, 3) := by decide +kernel
theorem dJ6_numberOfTrailingZeros_0f7a4_55 : decode cJ6_numberOfTrailingZeros_0f7a4 55 = .ok (.iinc 1 4, 3) := by decide +kernel
theorem dJ6_numberOfTrailingZeros_0f7a4_58 : decode cJ6_numberOfTrailingZeros_0f7a4 58 = .ok (.iload_n 0, 1) := by decide +kernel
theorem dJ6_numberOfTrailingZeros_0f7a4_59 : decode cJ6_numberOfTrailingZeros_0f7a4 59 = .ok (.iconst 4, 1) := by decide +kernel
theorem dJ6_numberOfTrailingZeros_0f7a4_60 : decode cJ6_numberOfTrailingZeros_0f7a4 60 = .ok (.iushr, 1) := by decide +kernel
theorem dJ6_numberOfTrailingZeros_0f7a4_61 : decode cJ6_numberOfTrailingZeros_0f7a4 61 = .ok (.istore_n 0, 1) := by decide +kernel
theorem dJ6_numberOfTrailingZeros_0f7a4_62 : decode cJ6_numberOfTrailingZeros_0f7a4 62 = .ok (.iload_n 0, 1) := by decide +kernel
theorem dJ6_numberOfTrailingZeros_0f7a4_63 : decode cJ6_numberOfTrailingZeros_0f7a4 63 = .ok (.iconst 4, 1) := by decide +kernel
theorem dJ6_numberOfTrailingZeros_0f7a4_64 : decode cJ6_numberOfTrailingZeros_0f7a4 64 = .ok (.if_icmp .le 10, 3) := by decide +kernel
theorem dJ6_numberOfTrailingZeros_0f7a4_67 : decode cJ6_numberOfTrailingZeros_0f7a4 67 = .ok (.iinc 1 2, 3) := by decide +kernel
theorem dJ6_numberOfTrailingZeros_0f7a4_70 : decode cJ6_numberOfTrailingZeros_0f7a4 70 = .ok (.iload_n 0, 1) := by decide +kernel
theorem dJ6_numberOfTrailingZeros_0f7a4_71 : decode cJ6_numberOfTrailingZeros_0f7a4 71 = .ok (.iconst 2, 1) := by decide +kernel
theorem dJ6_numberOfTrailingZeros_0f7a4_72 : decode cJ6_numberOfTrailingZeros_0f7a4 72 = .ok (.iushr, 1) := by decide +kernel
theorem dJ6_numberOfTrailingZeros_0f7a4_73 : decode cJ6_numberOfTrailingZeros_0f7a4 73 = .ok (.istore_n 0, 1) := by decide +kernel
theorem dJ6_numberOfTrailingZeros_0f7a4_74 : decode cJ6_numberOfTrailingZeros_0f7a4 74 = .ok (.iload_n 1, 1) := by decide +kernel
theorem dJ6_numberOfTrailingZeros_0f7a4_75 : decode cJ6_numberOfTrailingZeros_0f7a4 75 = .ok (.iload_n 0, 1) := by decide +kernel
theorem dJ6_numberOfTrailingZeros_0f7a4_76 : decode cJ6_numberOfTrailingZeros_0f7a4 76 = .ok (.iconst 1, 1) := by decide +kernel
theorem dJ6_numberOfTrailingZeros_0f7a4_77 : decode cJ6_numberOfTrailingZeros_0f7a4 77 = .ok (.iushr, 1) := by decide +kernel
theorem dJ6_numberOfTrailingZeros_0f7a4_78 : decode cJ6_numberOfTrailingZeros_0f7a4 78 = .ok (.iadd, 1) := by decide +kernel
theorem dJ6_numberOfTrailingZeros_0f7a4_79 : decode cJ6_numberOfTrailingZeros_0f7a4 79 = .ok (.ireturn, 1) := by decide +kernel
theorem dJ13_compare_74951_0 : decode cJ13_compare_74951 0 = .ok (.lload_n 0, 1) := by decide +kernel
theorem dJ13_compare_74951_1 : decode cJ13_compare_74951 1 = .ok (.lload_n 2, 1) := by decide +kernel
theorem dJ13_compare_74951_2 : decode cJ13_compare_74951 2 = .ok (.lcmp, 1) := by decide +kernel
theorem dJ13_compare_74951_3 : decode cJ13_compare_74951 3 = .ok (.ifCond .ge 7, 3) := by decide +kernel
theorem dJ13_compare_74951_6 : decode cJ13_compare_74951 6 = .ok (.iconst (-1), 1) := by decide +kernel
theorem dJ13_compare_74951_7 : decode cJ13_compare_74951 7 = .ok (.goto 14, 3) := by decide +kernel
theorem dJ13_compare_74951_10 : decode cJ13_compare_74951 10 = .ok (.lload_n 0, 1) := by decide +kernel
theorem dJ13_compare_74951_11 : decode cJ13_compare_74951 11 = .ok (.lload_n 2, 1) := by decide +kernel
theorem dJ13_compare_74951_12 : decode cJ13_compare_74951 12 = .ok (.lcmp, 1) := by decide +kernel
theorem dJ13_compare_74951_13 : decode cJ13_compare_74951 13 = .ok (.ifCond .ne 7, 3) := by decide +kernel
theorem dJ13_compare_74951_16 : decode cJ13_compare_74951 16 = .ok (.iconst 0, 1) := by decide +kernel
theorem dJ13_compare_74951_17 : decode cJ13_compare_74951 17 = .ok (.goto 4, 3) := by decide +kernel
theorem dJ13_compare_74951_20 : decode cJ13_compare_74951 20 = .ok (.iconst 1, 1) := by decide +kernel
theorem dJ13_compare_74951_21 : decode cJ13_compare_74951 21 = .ok (.ireturn, 1) := by decide +kernel
set_option maxRecDepth 20000 in
theorem ggJ13_compareUnsigned_74951_J13_compare_74951 : GoodIn wsJ13_compareUnsigned_74951 wsJ13_compare_74951 := goodIn_r _ [5] (by decide +kernel) (by decide +kernel)
set_option maxRecDepth 20000 in
theorem gJ13_compareUnsigned_74951_J13_compare_74951 : GoodIn wsJ13_compareUnsigned_74951 (va_wsS RJ13 302 yJ13_compare_74951 wsJ13_compare_74951) := goodIn_app (goodIn_of _ (by decide +kernel)) ggJ13_compareUnsigned_74951_J13_compare_74951
theorem dJ13_compareUnsigned_74951_0 : decode cJ13_compareUnsigned_74951 0 = .ok (.lload_n 0, 1) := by decide +kernel
theorem dJ13_compareUnsigned_74951_1 : decode cJ13_compareUnsigned_74951 1 = .ok (.ldc2_w 168, 3) := by decide +kernel
theorem dJ13_compareUnsigned_74951_4 : decode cJ13_compareUnsigned_74951 4 = .ok (.ladd, 1) := by decide +kernel
theorem dJ13_compareUnsigned_74951_5 : decode cJ13_compareUnsigned_74951 5 = .ok (.lload_n 2, 1) := by decide +kernel
theorem dJ13_compareUnsigned_74951_6 : decode cJ13_compareUnsigned_74951 6 = .ok (.ldc2_w 168, 3) := by decide +kernel
theorem dJ13_compareUnsigned_74951_9 : decode cJ13_compareUnsigned_74951 9 = .ok (.ladd, 1) := by decide +kernel
theorem dJ13_compareUnsigned_74951_10 : decode cJ13_compareUnsigned_74951 10 = .ok (.invokestatic 302, 3) := by decide +kernel
theorem dJ13_compareUnsigned_74951_13 : decode cJ13_compareUnsigned_74951 13 = .ok (.ireturn, 1) := by decide +kernel
set_option maxRecDepth 20000 in
theorem ggJ13_numberOfTrailingZeros_95d88_J6_numberOfTrailingZeros_0f7a4 : GoodIn wsJ13_numberOfTrailingZeros_95d88 wsJ6_numberOfTrailingZeros_0f7a4 := goodIn_r _ [4, 5] (by decide +kernel) (by decide +kernel)
set_option maxRecDepth 20000 in
theorem gJ13_numberOfTrailingZeros_95d88_J6_numberOfTrailingZeros_0f7a4 : GoodIn wsJ13_numberOfTrailingZeros_95d88 (va_wsS RJ13 311 yJ6_numberOfTrailingZeros_0f7a4 wsJ6_numberOfTrailingZeros_0f7a4) := goodIn_app (goodIn_of _ (by decide +kernel)) ggJ13_numberOfTrailingZeros_95d88_J6_numberOfTrailingZeros_0f7a4
theorem dJ13_numberOfTrailingZeros_95d88_0 : decode cJ13_numberOfTrailingZeros_95d88 0 = .ok (.lload_n 0, 1) := by decide +kernel
theorem dJ13_numberOfTrailingZeros_95d88_1 : decode cJ13_numberOfTrailingZeros_95d88 1 = .ok (.l2i, 1) := by decide +kernel
theorem dJ13_numberOfTrailingZeros_95d88_2 : decode cJ13_numberOfTrailingZeros_95d88 2 = .ok (.istore_n 2, 1) := by decide +kernel
theorem dJ13_numberOfTrailingZeros_95d88_3 : decode cJ13_numberOfTrailingZeros_95d88 3 = .ok (.iload_n 2, 1) := by decide +kernel
theorem dJ13_numberOfTrailingZeros_95d88_4 : decode cJ13_numberOfTrailingZeros_95d88 4 = .ok (.ifCond .ne 17, 3) := by decide +kernel
theorem dJ13_numberOfTrailingZeros_95d88_7 : decode cJ13_numberOfTrailingZeros_95d88 7 = .ok (.bipush 32, 2) := by decide +kernel
theorem dJ13_numberOfTrailingZeros_95d88_9 : decode cJ13_numberOfTrailingZeros_95d88 9 = .ok (.lload_n 0, 1) := by decide +kernel
theorem dJ13_numberOfTrailingZeros_95d88_10 : decode cJ13_numberOfTrailingZeros_95d88 10 = .ok (.bipush 32, 2) := by decide +kernel
theorem dJ13_numberOfTrailingZeros_95d88_12 : decode cJ13_numberOfTrailingZeros_95d88 12 = .ok (.lushr, 1) := by decide +kernel
theorem dJ13_numberOfTrailingZeros_95d88_13 : decode cJ13_numberOfTrailingZeros_95d88 13 = .ok (.l2i, 1) := by decide +kernel
theorem dJ13_numberOfTrailingZeros_95d88_14 : decode cJ13_numberOfTrailingZeros_95d88 14 = .ok (.invokestatic 311, 3) := by decide +kernel
theorem dJ13_numberOfTrailingZeros_95d88_17 : decode cJ13_numberOfTrailingZeros_95d88 17 = .ok (.iadd, 1) := by decide +kernel
theorem dJ13_numberOfTrailingZeros_95d88_18 : decode cJ13_numberOfTrailingZeros_95d88 18 = .ok (.goto 7, 3) := by decide +kernel
theorem dJ13_numberOfTrailingZeros_95d88_21 : decode cJ13_numberOfTrailingZeros_95d88 21 = .ok (.iload_n 2, 1) := by decide +kernel
theorem dJ13_numberOfTrailingZeros_95d88_22 : decode cJ13_numberOfTrailingZeros_95d88 22 = .ok (.invokestatic 311, 3) := by decide +kernel
theorem dJ13_numberOfTrailingZeros_95d88_25 : decode cJ13_numberOfTrailingZeros_95d88 25 = .ok (.ireturn, 1) := by decide +kernel
theorem dJ13_signum_95d88_0 : decode cJ13_signum_95d88 0 = .ok (.lload_n 0, 1) := by decide +kernel
theorem dJ13_signum_95d88_1 : decode cJ13_signum_95d88 1 = .ok (.bipush 63, 2) := by decide +kernel
theorem dJ13_signum_95d88_3 : decode cJ13_signum_95d88 3 = .ok (.lshr, 1) := by decide +kernel
theorem dJ13_signum_95d88_4 : decode cJ13_signum_95d88 4 = .ok (.lload_n 0, 1) := by decide +kernel
theorem dJ13_signum_95d88_5 : decode cJ13_signum_95d88 5 = .ok (.lneg, 1) := by decide +kernel
theorem dJ13_signum_95d88_6 : decode cJ13_signum_95d88 6 = .ok (.bipush 63, 2) := by decide +kernel
theorem dJ13_signum_95d88_8 : decode cJ13_signum_95d88 8 = .ok (.lushr, 1) := by decide +kernel
theorem dJ13_signum_95d88_9 : decode cJ13_signum_95d88 9 = .ok (.lor, 1) := by decide +kernel
theorem dJ13_signum_95d88_10 : decode cJ13_signum_95d88 10 = .ok (.l2i, 1) := by decide +kernel
theorem dJ13_signum_95d88_11 : decode cJ13_signum_95d88 11 = .ok (.ireturn, 1) := by decide +kernel
theorem dJ9_abs_067f4_0 : decode cJ9_abs_067f4 0 = .ok (.lload_n 0, 1) := by decide +kernel
theorem dJ9_abs_067f4_1 : decode cJ9_abs_067f4 1 = .ok (.lconst 0, 1) := by decide +kernel
theorem dJ9_abs_067f4_2 : decode cJ9_abs_067f4 2 = .ok (.lcmp, 1) := by decide +kernel
theorem dJ9_abs_067f4_3 : decode cJ9_abs_067f4 3 = .ok (.ifCond .ge 8, 3) := by decide +kernel
theorem dJ9_abs_067f4_6 : decode cJ9_abs_067f4 6 = .ok (.lload_n 0, 1) := by decide +kernel
theorem dJ9_abs_067f4_7 : decode cJ9_abs_067f4 7 = .ok (.lneg, 1) := by decide +kernel
theorem dJ9_abs_067f4_8 : decode cJ9_abs_067f4 8 = .ok (.goto 4, 3) := by decide +kernel
theorem dJ9_abs_067f4_11 : decode cJ9_abs_067f4 11 = .ok (.lload_n 0, 1) := by decide +kernel
theorem dJ9_abs_067f4_12 : decode cJ9_abs_067f4 12 = .ok (.lreturn, 1) := by decide +kernel
end
section
/-! the states: of the class, of the reference -/
abbrev CS : Type := Int32 × Int32 × Int32 × Int32 × Int32 × Int32 × Int32 × Int64 × (Nat → Int32) × (Nat → Int32) × (Nat → Int32) × (Nat → Int32) × (Nat → Int32) × (Nat → Int32) × (Nat → Int32) × (Nat → Nat → Int64)
def c_bA (σ : CS) : Int32 := σ.1
def c_bB (σ : CS) : Int32 := σ.2.1
def c_sz (σ : CS) : Int32 := σ.2.2.1
def c_pw (σ : CS) : Int32 := σ.2.2.2.1
def c_rw (σ : CS) : Int32 := σ.2.2.2.2.1
def c_st (σ : CS) : Int32 := σ.2.2.2.2.2.1
def c_sa (σ : CS) : Int32 := σ.2.2.2.2.2.2.1
def c_sc (σ : CS) : Int64 := σ.2.2.2.2.2.2.2.1
def c_xx (σ : CS) : Nat → Int32 := σ.2.2.2.2.2.2.2.2.1
def c_yy (σ : CS) : Nat → Int32 := σ.2.2.2.2.2.2.2.2.2.1
def c_lb (σ : CS) : Nat → Int32 := σ.2.2.2.2.2.2.2.2.2.2.1
def c_tl (σ : CS) : Nat → Int32 := σ.2.2.2.2.2.2.2.2.2.2.2.1
def c_en (σ : CS) : Nat → Int32 := σ.2.2.2.2.2.2.2.2.2.2.2.2.1
def c_lf (σ : CS) : Nat → Int32 := σ.2.2.2.2.2.2.2.2.2.2.2.2.2.1
def c_ta (σ : CS) : Nat → Int32 := σ.2.2.2.2.2.2.2.2.2.2.2.2.2.2.1
def c_gg (σ : CS) : Nat → Nat → Int64 := σ.2.2.2.2.2.2.2.2.2.2.2.2.2.2.2
def s_bA (σ : CS) (v : Int32) : CS := (v, σ.2)
def s_bB (σ : CS) (v : Int32) : CS := (σ.1, v, σ.2.2)
def s_sz (σ : CS) (v : Int32) : CS := (σ.1, σ.2.1, v, σ.2.2.2)
def s_pw (σ : CS) (v : Int32) : CS := (σ.1, σ.2.1, σ.2.2.1, v, σ.2.2.2.2)
def s_rw (σ : CS) (v : Int32) : CS := (σ.1, σ.2.1, σ.2.2.1, σ.2.2.2.1, v, σ.2.2.2.2.2)
def s_st (σ : CS) (v : Int32) : CS := (σ.1, σ.2.1, σ.2.2.1, σ.2.2.2.1, σ.2.2.2.2.1, v, σ.2.2.2.2.2.2)
def s_sa (σ : CS) (v : Int32) : CS := (σ.1, σ.2.1, σ.2.2.1, σ.2.2.2.1, σ.2.2.2.2.1, σ.2.2.2.2.2.1, v, σ.2.2.2.2.2.2.2)
def s_sc (σ : CS) (v : Int64) : CS := (σ.1, σ.2.1, σ.2.2.1, σ.2.2.2.1, σ.2.2.2.2.1, σ.2.2.2.2.2.1, σ.2.2.2.2.2.2.1, v, σ.2.2.2.2.2.2.2.2)
def s_xx (σ : CS) (v : Nat → Int32) : CS := (σ.1, σ.2.1, σ.2.2.1, σ.2.2.2.1, σ.2.2.2.2.1, σ.2.2.2.2.2.1, σ.2.2.2.2.2.2.1, σ.2.2.2.2.2.2.2.1, v, σ.2.2.2.2.2.2.2.2.2)
def s_yy (σ : CS) (v : Nat → Int32) : CS := (σ.1, σ.2.1, σ.2.2.1, σ.2.2.2.1, σ.2.2.2.2.1, σ.2.2.2.2.2.1, σ.2.2.2.2.2.2.1, σ.2.2.2.2.2.2.2.1, σ.2.2.2.2.2.2.2.2.1, v, σ.2.2.2.2.2.2.2.2.2.2)
def s_lb (σ : CS) (v : Nat → Int32) : CS := (σ.1, σ.2.1, σ.2.2.1, σ.2.2.2.1, σ.2.2.2.2.1, σ.2.2.2.2.2.1, σ.2.2.2.2.2.2.1, σ.2.2.2.2.2.2.2.1, σ.2.2.2.2.2.2.2.2.1, σ.2.2.2.2.2.2.2.2.2.1, v, σ.2.2.2.2.2.2.2.2.2.2.2)
def s_tl (σ : CS) (v : Nat → Int32) : CS := (σ.1, σ.2.1, σ.2.2.1, σ.2.2.2.1, σ.2.2.2.2.1, σ.2.2.2.2.2.1, σ.2.2.2.2.2.2.1, σ.2.2.2.2.2.2.2.1, σ.2.2.2.2.2.2.2.2.1, σ.2.2.2.2.2.2.2.2.2.1, σ.2.2.2.2.2.2.2.2.2.2.1, v, σ.2.2.2.2.2.2.2.2.2.2.2.2)
def s_en (σ : CS) (v : Nat → Int32) : CS := (σ.1, σ.2.1, σ.2.2.1, σ.2.2.2.1, σ.2.2.2.2.1, σ.2.2.2.2.2.1, σ.2.2.2.2.2.2.1, σ.2.2.2.2.2.2.2.1, σ.2.2.2.2.2.2.2.2.1, σ.2.2.2.2.2.2.2.2.2.1, σ.2.2.2.2.2.2.2.2.2.2.1, σ.2.2.2.2.2.2.2.2.2.2.2.1, v, σ.2.2.2.2.2.2.2.2.2.2.2.2.2)
def s_lf (σ : CS) (v : Nat → Int32) : CS := (σ.1, σ.2.1, σ.2.2.1, σ.2.2.2.1, σ.2.2.2.2.1, σ.2.2.2.2.2.1, σ.2.2.2.2.2.2.1, σ.2.2.2.2.2.2.2.1, σ.2.2.2.2.2.2.2.2.1, σ.2.2.2.2.2.2.2.2.2.1, σ.2.2.2.2.2.2.2.2.2.2.1, σ.2.2.2.2.2.2.2.2.2.2.2.1, σ.2.2.2.2.2.2.2.2.2.2.2.2.1, v, σ.2.2.2.2.2.2.2.2.2.2.2.2.2.2)
def s_ta (σ : CS) (v : Nat → Int32) : CS := (σ.1, σ.2.1, σ.2.2.1, σ.2.2.2.1, σ.2.2.2.2.1, σ.2.2.2.2.2.1, σ.2.2.2.2.2.2.1, σ.2.2.2.2.2.2.2.1, σ.2.2.2.2.2.2.2.2.1, σ.2.2.2.2.2.2.2.2.2.1, σ.2.2.2.2.2.2.2.2.2.2.1, σ.2.2.2.2.2.2.2.2.2.2.2.1, σ.2.2.2.2.2.2.2.2.2.2.2.2.1, σ.2.2.2.2.2.2.2.2.2.2.2.2.2.1, v, σ.2.2.2.2.2.2.2.2.2.2.2.2.2.2.2)
def s_gg (σ : CS) (v : Nat → Nat → Int64) : CS := (σ.1, σ.2.1, σ.2.2.1, σ.2.2.2.1, σ.2.2.2.2.1, σ.2.2.2.2.2.1, σ.2.2.2.2.2.2.1, σ.2.2.2.2.2.2.2.1, σ.2.2.2.2.2.2.2.2.1, σ.2.2.2.2.2.2.2.2.2.1, σ.2.2.2.2.2.2.2.2.2.2.1, σ.2.2.2.2.2.2.2.2.2.2.2.1, σ.2.2.2.2.2.2.2.2.2.2.2.2.1, σ.2.2.2.2.2.2.2.2.2.2.2.2.2.1, σ.2.2.2.2.2.2.2.2.2.2.2.2.2.2.1, v)
abbrev MS : Type := Int32 × Int32 × Int32 × Int32 × (Nat → Int32) × (Nat → Int32) × (Nat → Int32) × Int32 × Int32 × Int32 × Int32 × (Nat → Int64) × Int64 × (Nat → Int32) × Int32 × (Nat → Int32) × (Nat → Int32) × (Nat → Int32) × Int64 × Int64
def m_pt (σ : MS) : Int32 := σ.1
def m_dg (σ : MS) : Int32 := σ.2.1
def m_bA (σ : MS) : Int32 := σ.2.2.1
def m_bB (σ : MS) : Int32 := σ.2.2.2.1
def m_px (σ : MS) : Nat → Int32 := σ.2.2.2.2.1
def m_py (σ : MS) : Nat → Int32 := σ.2.2.2.2.2.1
def m_lb (σ : MS) : Nat → Int32 := σ.2.2.2.2.2.2.1
def m_bg (σ : MS) : Int32 := σ.2.2.2.2.2.2.2.1
def m_dn (σ : MS) : Int32 := σ.2.2.2.2.2.2.2.2.1
def m_ry (σ : MS) : Int32 := σ.2.2.2.2.2.2.2.2.2.1
def m_rw (σ : MS) : Int32 := σ.2.2.2.2.2.2.2.2.2.2.1
def m_tb (σ : MS) : Nat → Int64 := σ.2.2.2.2.2.2.2.2.2.2.2.1
def m_bl (σ : MS) : Int64 := σ.2.2.2.2.2.2.2.2.2.2.2.2.1
def m_tl (σ : MS) : Nat → Int32 := σ.2.2.2.2.2.2.2.2.2.2.2.2.2.1
def m_st (σ : MS) : Int32 := σ.2.2.2.2.2.2.2.2.2.2.2.2.2.2.1
def m_en (σ : MS) : Nat → Int32 := σ.2.2.2.2.2.2.2.2.2.2.2.2.2.2.2.1
def m_lf (σ : MS) : Nat → Int32 := σ.2.2.2.2.2.2.2.2.2.2.2.2.2.2.2.2.1
def m_la (σ : MS) : Nat → Int32 := σ.2.2.2.2.2.2.2.2.2.2.2.2.2.2.2.2.2.1
def m_hi (σ : MS) : Int64 := σ.2.2.2.2.2.2.2.2.2.2.2.2.2.2.2.2.2.2.1
def m_lo (σ : MS) : Int64 := σ.2.2.2.2.2.2.2.2.2.2.2.2.2.2.2.2.2.2.2
def n_pt (σ : MS) (v : Int32) : MS := (v, σ.2)
def n_dg (σ : MS) (v : Int32) : MS := (σ.1, v, σ.2.2)
def n_bA (σ : MS) (v : Int32) : MS := (σ.1, σ.2.1, v, σ.2.2.2)
def n_bB (σ : MS) (v : Int32) : MS := (σ.1, σ.2.1, σ.2.2.1, v, σ.2.2.2.2)
def n_px (σ : MS) (v : Nat → Int32) : MS := (σ.1, σ.2.1, σ.2.2.1, σ.2.2.2.1, v, σ.2.2.2.2.2)
def n_py (σ : MS) (v : Nat → Int32) : MS := (σ.1, σ.2.1, σ.2.2.1, σ.2.2.2.1, σ.2.2.2.2.1, v, σ.2.2.2.2.2.2)
def n_lb (σ : MS) (v : Nat → Int32) : MS := (σ.1, σ.2.1, σ.2.2.1, σ.2.2.2.1, σ.2.2.2.2.1, σ.2.2.2.2.2.1, v, σ.2.2.2.2.2.2.2)
def n_bg (σ : MS) (v : Int32) : MS := (σ.1, σ.2.1, σ.2.2.1, σ.2.2.2.1, σ.2.2.2.2.1, σ.2.2.2.2.2.1, σ.2.2.2.2.2.2.1, v, σ.2.2.2.2.2.2.2.2)
def n_dn (σ : MS) (v : Int32) : MS := (σ.1, σ.2.1, σ.2.2.1, σ.2.2.2.1, σ.2.2.2.2.1, σ.2.2.2.2.2.1, σ.2.2.2.2.2.2.1, σ.2.2.2.2.2.2.2.1, v, σ.2.2.2.2.2.2.2.2.2)
def n_ry (σ : MS) (v : Int32) : MS := (σ.1, σ.2.1, σ.2.2.1, σ.2.2.2.1, σ.2.2.2.2.1, σ.2.2.2.2.2.1, σ.2.2.2.2.2.2.1, σ.2.2.2.2.2.2.2.1, σ.2.2.2.2.2.2.2.2.1, v, σ.2.2.2.2.2.2.2.2.2.2)
def n_rw (σ : MS) (v : Int32) : MS := (σ.1, σ.2.1, σ.2.2.1, σ.2.2.2.1, σ.2.2.2.2.1, σ.2.2.2.2.2.1, σ.2.2.2.2.2.2.1, σ.2.2.2.2.2.2.2.1, σ.2.2.2.2.2.2.2.2.1, σ.2.2.2.2.2.2.2.2.2.1, v, σ.2.2.2.2.2.2.2.2.2.2.2)
def n_tb (σ : MS) (v : Nat → Int64) : MS := (σ.1, σ.2.1, σ.2.2.1, σ.2.2.2.1, σ.2.2.2.2.1, σ.2.2.2.2.2.1, σ.2.2.2.2.2.2.1, σ.2.2.2.2.2.2.2.1, σ.2.2.2.2.2.2.2.2.1, σ.2.2.2.2.2.2.2.2.2.1, σ.2.2.2.2.2.2.2.2.2.2.1, v, σ.2.2.2.2.2.2.2.2.2.2.2.2)
def n_bl (σ : MS) (v : Int64) : MS := (σ.1, σ.2.1, σ.2.2.1, σ.2.2.2.1, σ.2.2.2.2.1, σ.2.2.2.2.2.1, σ.2.2.2.2.2.2.1, σ.2.2.2.2.2.2.2.1, σ.2.2.2.2.2.2.2.2.1, σ.2.2.2.2.2.2.2.2.2.1, σ.2.2.2.2.2.2.2.2.2.2.1, σ.2.2.2.2.2.2.2.2.2.2.2.1, v, σ.2.2.2.2.2.2.2.2.2.2.2.2.2)
def n_tl (σ : MS) (v : Nat → Int32) : MS := (σ.1, σ.2.1, σ.2.2.1, σ.2.2.2.1, σ.2.2.2.2.1, σ.2.2.2.2.2.1, σ.2.2.2.2.2.2.1, σ.2.2.2.2.2.2.2.1, σ.2.2.2.2.2.2.2.2.1, σ.2.2.2.2.2.2.2.2.2.1, σ.2.2.2.2.2.2.2.2.2.2.1, σ.2.2.2.2.2.2.2.2.2.2.2.1, σ.2.2.2.2.2.2.2.2.2.2.2.2.1, v, σ.2.2.2.2.2.2.2.2.2.2.2.2.2.2)
def n_st (σ : MS) (v : Int32) : MS := (σ.1, σ.2.1, σ.2.2.1, σ.2.2.2.1, σ.2.2.2.2.1, σ.2.2.2.2.2.1, σ.2.2.2.2.2.2.1, σ.2.2.2.2.2.2.2.1, σ.2.2.2.2.2.2.2.2.1, σ.2.2.2.2.2.2.2.2.2.1, σ.2.2.2.2.2.2.2.2.2.2.1, σ.2.2.2.2.2.2.2.2.2.2.2.1, σ.2.2.2.2.2.2.2.2.2.2.2.2.1, σ.2.2.2.2.2.2.2.2.2.2.2.2.2.1, v, σ.2.2.2.2.2.2.2.2.2.2.2.2.2.2.2)
def n_en (σ : MS) (v : Nat → Int32) : MS := (σ.1, σ.2.1, σ.2.2.1, σ.2.2.2.1, σ.2.2.2.2.1, σ.2.2.2.2.2.1, σ.2.2.2.2.2.2.1, σ.2.2.2.2.2.2.2.1, σ.2.2.2.2.2.2.2.2.1, σ.2.2.2.2.2.2.2.2.2.1, σ.2.2.2.2.2.2.2.2.2.2.1, σ.2.2.2.2.2.2.2.2.2.2.2.1, σ.2.2.2.2.2.2.2.2.2.2.2.2.1, σ.2.2.2.2.2.2.2.2.2.2.2.2.2.1, σ.2.2.2.2.2.2.2.2.2.2.2.2.2.2.1, v, σ.2.2.2.2.2.2.2.2.2.2.2.2.2.2.2.2)
def n_lf (σ : MS) (v : Nat → Int32) : MS := (σ.1, σ.2.1, σ.2.2.1, σ.2.2.2.1, σ.2.2.2.2.1, σ.2.2.2.2.2.1, σ.2.2.2.2.2.2.1, σ.2.2.2.2.2.2.2.1, σ.2.2.2.2.2.2.2.2.1, σ.2.2.2.2.2.2.2.2.2.1, σ.2.2.2.2.2.2.2.2.2.2.1, σ.2.2.2.2.2.2.2.2.2.2.2.1, σ.2.2.2.2.2.2.2.2.2.2.2.2.1, σ.2.2.2.2.2.2.2.2.2.2.2.2.2.1, σ.2.2.2.2.2.2.2.2.2.2.2.2.2.2.1, σ.2.2.2.2.2.2.2.2.2.2.2.2.2.2.2.1, v, σ.2.2.2.2.2.2.2.2.2.2.2.2.2.2.2.2.2)
def n_la (σ : MS) (v : Nat → Int32) : MS := (σ.1, σ.2.1, σ.2.2.1, σ.2.2.2.1, σ.2.2.2.2.1, σ.2.2.2.2.2.1, σ.2.2.2.2.2.2.1, σ.2.2.2.2.2.2.2.1, σ.2.2.2.2.2.2.2.2.1, σ.2.2.2.2.2.2.2.2.2.1, σ.2.2.2.2.2.2.2.2.2.2.1, σ.2.2.2.2.2.2.2.2.2.2.2.1, σ.2.2.2.2.2.2.2.2.2.2.2.2.1, σ.2.2.2.2.2.2.2.2.2.2.2.2.2.1, σ.2.2.2.2.2.2.2.2.2.2.2.2.2.2.1, σ.2.2.2.2.2.2.2.2.2.2.2.2.2.2.2.1, σ.2.2.2.2.2.2.2.2.2.2.2.2.2.2.2.2.1, v, σ.2.2.2.2.2.2.2.2.2.2.2.2.2.2.2.2.2.2)
def n_hi (σ : MS) (v : Int64) : MS := (σ.1, σ.2.1, σ.2.2.1, σ.2.2.2.1, σ.2.2.2.2.1, σ.2.2.2.2.2.1, σ.2.2.2.2.2.2.1, σ.2.2.2.2.2.2.2.1, σ.2.2.2.2.2.2.2.2.1, σ.2.2.2.2.2.2.2.2.2.1, σ.2.2.2.2.2.2.2.2.2.2.1, σ.2.2.2.2.2.2.2.2.2.2.2.1, σ.2.2.2.2.2.2.2.2.2.2.2.2.1, σ.2.2.2.2.2.2.2.2.2.2.2.2.2.1, σ.2.2.2.2.2.2.2.2.2.2.2.2.2.2.1, σ.2.2.2.2.2.2.2.2.2.2.2.2.2.2.2.1, σ.2.2.2.2.2.2.2.2.2.2.2.2.2.2.2.2.1, σ.2.2.2.2.2.2.2.2.2.2.2.2.2.2.2.2.2.1, v, σ.2.2.2.2.2.2.2.2.2.2.2.2.2.2.2.2.2.2.2)
def n_lo (σ : MS) (v : Int64) : MS := (σ.1, σ.2.1, σ.2.2.1, σ.2.2.2.1, σ.2.2.2.2.1, σ.2.2.2.2.2.1, σ.2.2.2.2.2.2.1, σ.2.2.2.2.2.2.2.1, σ.2.2.2.2.2.2.2.2.1, σ.2.2.2.2.2.2.2.2.2.1, σ.2.2.2.2.2.2.2.2.2.2.1, σ.2.2.2.2.2.2.2.2.2.2.2.1, σ.2.2.2.2.2.2.2.2.2.2.2.2.1, σ.2.2.2.2.2.2.2.2.2.2.2.2.2.1, σ.2.2.2.2.2.2.2.2.2.2.2.2.2.2.1, σ.2.2.2.2.2.2.2.2.2.2.2.2.2.2.2.1, σ.2.2.2.2.2.2.2.2.2.2.2.2.2.2.2.2.1, σ.2.2.2.2.2.2.2.2.2.2.2.2.2.2.2.2.2.1, σ.2.2.2.2.2.2.2.2.2.2.2.2.2.2.2.2.2.2.1, v)
def upG (G : Nat → Nat → Int64) (i j : Nat) (x : Int64) : Nat → Nat → Int64 := va_up G i (vp_updL (G i) j x)
/-! the worlds -/
def cO (ρ : Nat → Nat) : Nat → Option Nat := fun i => if i < 12 then some (ρ i) else none
def cRow (k : Nat → ClassId) (ρ : Nat → Nat) (G : Nat → Nat → Int64) (i : Nat) : Nat × va_E := (ρ i, .inl (k 8, 26, .inr (.inl (G i))))
def cFix (k : Nat → ClassId) (a ρ : Nat → Nat) (σ : CS) : va_W :=
  [(a 0, .inr (2, [.ref (a 1), .ref (a 2), .int (c_bA σ), .int (c_bB σ)])),
   (a 1, .inr (0, [.ref (a 3), .ref (a 4), .ref (a 5), .int (c_sz σ), .int (c_pw σ)])),
   (a 2, .inr (1, [.ref (a 10), .ref (a 6), .ref (a 7), .ref (a 8), .ref (a 9), .int (c_rw σ), .int (c_st σ), .int (c_sa σ), .long (c_sc σ)])),
   (a 3, .inl (k 0, 6, .inl (c_xx σ))), (a 4, .inl (k 1, 6, .inl (c_yy σ))), (a 5, .inl (k 2, 6, .inl (c_lb σ))),
   (a 6, .inl (k 3, 12, .inl (c_tl σ))), (a 7, .inl (k 4, 200, .inl (c_en σ))), (a 8, .inl (k 5, 200, .inl (c_lf σ))), (a 9, .inl (k 6, 200, .inl (c_ta σ))),
   (a 10, .inl (k 7, 12, .inr (.inr (.inr (.inr (cO ρ))))))]
def cW (k : Nat → ClassId) (a ρ : Nat → Nat) (σ : CS) : va_W := cFix k a ρ σ ++ (List.range 12).map (cRow k ρ (c_gg σ))
def cT (k : Nat → ClassId) : List (ClassId × FieldType) := [(k 0, .int), (k 1, .int), (k 2, .int), (k 3, .int), (k 4, .int), (k 5, .int), (k 6, .int), (k 7, .array .long), (k 8, .long)]
def mW (k : Nat → ClassId) (a : Nat → Nat) (μ : MS) : va_W :=
  [(a 0, .inr (3, [.int (m_pt μ), .int (m_dg μ), .int (m_bA μ), .int (m_bB μ), .ref (a 1), .ref (a 2), .ref (a 3), .int (m_bg μ), .int (m_dn μ), .int (m_ry μ), .int (m_rw μ), .ref (a 4), .long (m_bl μ), .ref (a 5), .int (m_st μ), .ref (a 6), .ref (a 7), .ref (a 8), .long (m_hi μ), .long (m_lo μ)])),
   (a 1, .inl (k 0, 6, .inl (m_px μ))), (a 2, .inl (k 1, 6, .inl (m_py μ))), (a 3, .inl (k 2, 6, .inl (m_lb μ))), (a 4, .inl (k 3, 312, .inr (.inl (m_tb μ)))),
   (a 5, .inl (k 4, 12, .inl (m_tl μ))), (a 6, .inl (k 5, 200, .inl (m_en μ))), (a 7, .inl (k 6, 200, .inl (m_lf μ))), (a 8, .inl (k 7, 200, .inl (m_la μ)))]
def mT (k : Nat → ClassId) : List (ClassId × FieldType) := [(k 0, .int), (k 1, .int), (k 2, .int), (k 3, .long), (k 4, .int), (k 5, .int), (k 6, .int), (k 7, .int)]
theorem cW_row {k : Nat → ClassId} {a ρ : Nat → Nat} {σ : CS} {i : Nat} (hi : i < 12) : (cW k a ρ σ)[11 + i]? = some (cRow k ρ (c_gg σ) i) := by
  have hl : (cFix k a ρ σ).length = 11 := rfl
  rw [cW, List.getElem?_append_right (by rw [hl]; omega), hl, Nat.add_sub_cancel_left, List.getElem?_map, List.getElem?_range hi]
  rfl
theorem cW_setrow {k : Nat → ClassId} {a ρ : Nat → Nat} {σ : CS} {i : Nat} (hi : i < 12) (g : Nat → Int64) : (cW k a ρ σ).set (11 + i) (ρ i, .inl (k 8, 26, .inr (.inl g))) = cW k a ρ (s_gg σ (va_up (c_gg σ) i g)) := by
  have hl : (cFix k a ρ σ).length = 11 := rfl
  have hm : ((List.range 12).map (cRow k ρ (c_gg σ))).set i (ρ i, .inl (k 8, 26, .inr (.inl g))) = (List.range 12).map (cRow k ρ (va_up (c_gg σ) i g)) := by
    apply List.ext_getElem?
    intro j
    rw [List.getElem?_set, List.getElem?_map]
    by_cases hij : i = j
    · subst hij
      rw [if_pos rfl, if_pos (by simpa using hi), List.getElem?_map, List.getElem?_range hi]
      simp [cRow, va_up]
    · rw [if_neg hij, List.getElem?_map]
      by_cases hj : j < 12
      · rw [List.getElem?_range hj]
        simp [cRow, va_up, Ne.symm hij]
      · rw [List.getElem?_eq_none (by simpa using hj)]
        rfl
  rw [cW, List.set_append_right _ _ (by rw [hl]; omega), hl, Nat.add_sub_cancel_left, hm]
  rfl
/-! what is asked, what is named -/
def inB (i : Int32) (n : Nat) : Bool := !(decide (i < 0) || decide (n ≤ i.toNatClampNeg))
theorem inB_in {i : Int32} {n : Nat} (h : inB i n = true) : vp_in i n := by
  simp only [inB, Bool.not_eq_true', Bool.or_eq_false_iff, decide_eq_false_iff_not] at h
  exact fun q => q.elim h.1 h.2
theorem inB_lt {i : Int32} {n : Nat} (h : inB i n = true) : i.toNatClampNeg < n := Nat.not_le.mp fun q => inB_in h (Or.inr q)
def gd {α : Type} (b : Bool) (x : Option α) : Option α := match b with
  | true => x
  | false => none
theorem gd_e {α : Type} {b : Bool} {x : Option α} {r : α} (h : gd b x = some r) : b = true ∧ x = some r := by
  cases b with
  | true => exact ⟨rfl, h⟩
  | false => cases h
theorem gd_t {α : Type} {b : Bool} (x : Option α) (h : b = true) : gd b x = x := by subst h; rfl
theorem bd_e {α β : Type} {x : Option α} {f : α → Option β} {r : β} (h : x.bind f = some r) : ∃ a : α, x = some a ∧ f a = some r := by
  cases x with
  | none => cases h
  | some a => exact ⟨a, rfl, h⟩
def lt_ {α β : Type} (x : α) (f : α → β) : β := f x
theorem lt_e {α β : Type} {x : α} {f : α → Option β} {r : β} (h : lt_ x f = some r) : ∃ a : α, a = x ∧ f a = some r := ⟨x, rfl, h⟩
theorem sm_e {α : Type} {x r : α} (h : some x = some r) : r = x := (Option.some.inj h).symm
/-- the answer of a boolean method is 0 or 1 -/
def isZ (v : Int32) : Bool := decide (v = 0) || decide (v = 1)
theorem isZ_n {v : Int32} (h : isZ v = true) : narrow .boolean (.int v) = .int v := by
  simp only [isZ, Bool.or_eq_true, decide_eq_true_eq] at h
  rcases h with rfl | rfl <;> rfl
theorem ne_toInt {x c : Int32} (h : ¬ x = c) : ¬ x.toInt = c.toInt := fun q => h (Int32.toInt_inj.mp q)
/-! contracts -/
def cQ (D : va_G) (tys : List (ClassId × FieldType)) (A : Nat → Prop) (w1 : va_W) (ro : Option Value) : Array Value → State → Outcome → State → Prop := fun _ st oc t => (oc = .returned ro ∧ va_P D vwCl w1 t.heap ∧ va_K D vwCl tys t ∧ va_D A w1) ∧ va_F A st t
def cP (D : va_G) (tys : List (ClassId × FieldType)) (w0 : va_W) (sz : Nat) : State → Prop := fun U => U.heap.size = sz ∧ va_P D vwCl w0 U.heap ∧ va_K D vwCl tys U ∧ va_D (fun _ => True) w0
/-- from the world w0 to the world w1, with the answer ro; nothing is made -/
def Ct (l : Launch) (y : MethodName) (ws : List Cond) (rm : Room) (D : va_G) (tys : List (ClassId × FieldType)) (w0 w1 : va_W) (av : List Value) (ro : Option Value) : Prop :=
  ∀ sz : Nat, Met l y ws rm (va_Pc av (cP D tys w0 sz)) (cQ D tys (va_A w0 sz) w1 ro) 0 0 (va_A w0 sz)
theorem ct_of {l : Launch} {y : MethodName} {ws ws' : List Cond} {rm : Room} {D : va_G} {tys : List (ClassId × FieldType)} {w0 w1 : va_W} {av : List Value} {ro : Option Value} {cc : ByteArray} {maxL : Nat} {ret : Option FieldType}
    (hy : plainName y.cls = true) (hw : ws = Cond.code y cc maxL ret :: ws') (hlen : (lg_sl av).length ≤ maxL)
    (body : ∀ (p : Program) (e : Env) (s : State) (m : MethodId) (args : Array Value) (below : List Frame) (meth : Method) (c : Code) (A : Nat → Prop) (ls : Array Slot), CallFix p m c cc maxL s args ws y.cls → meth.sig.returnType = ret → meth.locks = false → va_K D vwCl tys s → (∀ q : Nat, s.heap.size ≤ q → A q) → va_P D vwCl w0 s.heap → va_D A w0 → va_S A s.heap s.heap [] → lv_has ls maxL (lv_args 0 av) →
      W p l e rm s m args below meth c s.heap [] 0 0 (MQ below (cQ D tys A w1 ro) args s 0 0 A) (F0 m 0 ls [])) : Ct l y ws rm D tys w0 w1 av ro := by
  intro sz
  refine Met.ofW (cc := cc) (maxL := maxL) (ret := ret) hy hw ?_
  intro p e s m args below meth c s₁ B hml hv
  obtain ⟨rfl, hsz, hP, hK, hD0⟩ := hv
  have hts := atoms_spec (ws := ws) B.pre
  have hown : s.vm.findClass y.cls = some m.cls := findClass_of_methodNamed B.named
  subst hsz
  have hD := hD0.self (sz := s.heap.size)
  have hA : ∀ q : Nat, s.heap.size ≤ q → va_A w0 s.heap.size q := fun q h => Or.inr h
  have hl := lv_entry av (n := maxL) hlen
  rw [lg_entry_eq]
  exact body p e s m av.toArray below meth c (va_A w0 s.heap.size) _ ⟨B.exec, B.bytes, hml, hown, hts⟩ B.returns B.notSynchronized hK hA hP hD va_S.rf hl
section KC
variable {p : Program} {l : Launch} {e : Env} {R : Room} {s : State} {m : MethodId} {args : Array Value} {below : List Frame} {meth : Method} {c : Code} {H : Heap} {locs : List Loc} {cells slots : Nat} {Q : State → Prop}
variable {y : MethodName} {bytes cc : ByteArray} {maxL nL n index pc : Nat} {ret : Option FieldType} {wsc : List Cond} {rm : Room} {Ts : List Cond} {own C : String} {b : Addr} {As rest st0 : List Value} {ls : Array Slot} {D : va_G} {tys tyc : List (ClassId × FieldType)} {A : Nat → Prop} {w w1 wv : va_W} {ro : Option Value} {H0 : Heap}
theorem kc_run {A1 : Nat → Prop} {a : Array Value} (hr : va_Run p l e R s m args below meth c H locs cells slots 0 0 (F0 m pc ls st0) rest (cQ D tys A1 w1 ro a) A1) (hS : va_S A H0 H locs) (hA : ∀ q, A1 q → A q)
    (kk : ∀ (H1 : Heap) (locs1 : List Loc), va_P D vwCl w1 H1 → va_D A1 w1 → H.size ≤ H1.size → (∀ q : Nat, q < H.size → ¬ A1 q → H1[q]? = H[q]?) → va_S A H0 H1 locs1 → W p l e R s m args below meth c H1 locs1 cells slots Q (F0 m (pc + 3) ls (ro.toList ++ rest))) : W p l e R s m args below meth c H locs cells slots Q (F0 m pc ls st0) := by
  intro T hT X
  obtain ⟨v, st₀, t, T', L, h0, X', hL, e1, e2, ⟨⟨hv, hp, -, hd⟩, hz, hk⟩, st⟩ := hr T hT X
  cases hv
  rw [h0] at hz hk
  obtain ⟨t2, a1, b1⟩ := kk T'.heap (locs ++ L) (by rw [e1]; exact hp) hd (by rw [e1]; exact hz) (fun q h1 h2 => by rw [e1]; exact hk q h1 h2)
    ⟨Nat.le_trans hS.1 (by rw [e1]; exact hz), fun q h1 h2 => by rw [e1, hk q (Nat.lt_of_lt_of_le h1 hS.1) (fun z => h2 (hA q z))]; exact hS.2.1 q h1 h2, fun q hq => by
      rcases List.mem_append.mp hq with h | h
      · exact hS.2.2 q h
      · exact hA _ (hL q h)⟩ T' rfl X'
  exact ⟨t2, st t2 a1, b1⟩
theorem cP_blind {av : List Value} {sz : Nat} : FrameBlind (va_Pc av (cP D tys w sz)) := fun a U g mk q => by
  obtain ⟨q0, q1, qP, qK, qD⟩ := q
  exact ⟨q0, q1, qP, va_K.moved (u := U) (U := U.calling g mk a) (Vm.Alike.refl U.vm) qK, qD⟩
theorem va_A_le {sz : Nat} {q : Nat} (hD : va_D A w) (hA : ∀ q, sz ≤ q → A q) (h : va_A w sz q) : A q := by
  rcases h with ⟨k, e, h⟩ | h
  · exact hD.2 k _ h
  · exact hA q h
/-- a call of an instance method whose world is the caller's -/
theorem kc_v (X : CallFix p m c cc nL s args Ts own) (hM : Ct l y wsc rm D tys w w1 (.ref b :: As) ro) (cw : CallW R s args own C index y bytes maxL ret wsc rm 0 0 n) (hK : va_K D vwCl tys s) (hP : va_P D vwCl w H) (hD : va_D A w) (hS : va_S A s.heap H locs) (hA : ∀ q : Nat, s.heap.size ≤ q → A q)
    (hrv : ∃ cell : Cell, H[b]? = some cell ∧ cell.vm.isStatics = false ∧ s.vm.findClass C = some cell.cls) (hn : As.length = n) (hl : ls.size = nL) (hst : st0 = As.reverse ++ .ref b :: rest) (hW : (rest.map fun v => v.category).sum ≤ 8) (hdg : decode cc pc = .ok (.invokevirtual index, 3)) (hf : cells + 0 ≤ R.cells ∧ slots + 0 ≤ R.slots)
    (kk : ∀ (H1 : Heap) (locs1 : List Loc), va_P D vwCl w1 H1 → va_D A w1 → va_S A s.heap H1 locs1 → W p l e R s m args below meth c H1 locs1 cells slots Q (F0 m (pc + 3) ls (ro.toList ++ rest))) : W p l e R s m args below meth c H locs cells slots Q (F0 m pc ls st0) := by
  have hA1 : ∀ q, va_A w H.size q → A q := fun q h => va_A_le hD (fun q h => hA q (Nat.le_trans hS.1 h)) h
  refine kc_run (va_runV (g := F0 m pc ls st0) (As := As) (rest := rest) (b := b) X (hM H.size) cw ⟨cP_blind, hrv, fun U hU hW => ⟨rfl, by rw [hU], by rw [hU]; exact hP, va_K.moved hW.alike hK, hD.weaken (fun _ _ _ _ => trivial)⟩⟩ rfl hn hl hst (lv_room hW) hdg hf) hS hA1 ?_
  intro H1 locs1 hP1 hD1 hz hk hS1
  exact kk H1 locs1 hP1 (hD1.weaken (fun _ _ _ h => hA1 _ h)) hS1
/-- a call of a static method that has no world -/
theorem kc_s (X : CallFix p m c cc nL s args Ts own) (hM : Ct l y wsc rm D [] [] [] As ro) (cw : CallB R s args own index y bytes maxL ret wsc rm 0 0 n ∧ (Cond.static y).before args s = true) (hK : va_K D vwCl tys s) (hP : va_P D vwCl w H) (hS : va_S A s.heap H locs) (hA : ∀ q : Nat, s.heap.size ≤ q → A q)
    (hn : As.length = n) (hl : ls.size = nL) (hst : st0 = As.reverse ++ rest) (hW : (rest.map fun v => v.category).sum ≤ 8) (hdg : decode cc pc = .ok (.invokestatic index, 3)) (hf : cells + 0 ≤ R.cells ∧ slots + 0 ≤ R.slots)
    (kk : ∀ (H1 : Heap) (locs1 : List Loc), va_P D vwCl w H1 → va_S A s.heap H1 locs1 → W p l e R s m args below meth c H1 locs1 cells slots Q (F0 m (pc + 3) ls (ro.toList ++ rest))) : W p l e R s m args below meth c H locs cells slots Q (F0 m pc ls st0) := by
  have hno : ∀ (k : Nat) (q : Nat × va_E), ([] : va_W)[k]? ≠ some q := fun k q h => by simp at h
  have hA1 : ∀ q, va_A [] H.size q → A q := fun q h => by
    rcases h with ⟨k, e, h⟩ | h
    · exact absurd h (hno k _)
    · exact hA q (Nat.le_trans hS.1 h)
  refine kc_run (va_runS (g := F0 m pc ls st0) (As := As) (rest := rest) X (hM H.size) cw ⟨cP_blind, fun U hU hW => ⟨rfl, by rw [hU], fun k q h => absurd h (hno k q), va_K.moved hW.alike (hK.sub [] rfl), ⟨fun i j p q h => absurd h (hno i p), fun k q h => absurd h (hno k q)⟩⟩⟩ rfl hn hl hst (lv_room hW) hdg hf) hS hA1 ?_
  intro H1 locs1 hP1 hD1 hz hk hS1
  refine kk H1 locs1 (hP.kept (fun k q h => ?_)) hS1
  have hlt := (hP k q h).lt
  exact hk q.1 hlt (fun z => by
    rcases z with ⟨k, e, h⟩ | h
    · exact hno k _ h
    · omega)
/-- a call of a static method whose world is the caller's -/
theorem kc_t (X : CallFix p m c cc nL s args Ts own) (hM : Ct l y wsc rm D tys w w1 As ro) (cw : CallB R s args own index y bytes maxL ret wsc rm 0 0 n ∧ (Cond.static y).before args s = true) (hK : va_K D vwCl tys s) (hP : va_P D vwCl w H) (hD : va_D A w) (hS : va_S A s.heap H locs) (hA : ∀ q : Nat, s.heap.size ≤ q → A q)
    (hn : As.length = n) (hl : ls.size = nL) (hst : st0 = As.reverse ++ rest) (hW : (rest.map fun v => v.category).sum ≤ 8) (hdg : decode cc pc = .ok (.invokestatic index, 3)) (hf : cells + 0 ≤ R.cells ∧ slots + 0 ≤ R.slots)
    (kk : ∀ (H1 : Heap) (locs1 : List Loc), va_P D vwCl w1 H1 → va_D A w1 → va_S A s.heap H1 locs1 → W p l e R s m args below meth c H1 locs1 cells slots Q (F0 m (pc + 3) ls (ro.toList ++ rest))) : W p l e R s m args below meth c H locs cells slots Q (F0 m pc ls st0) := by
  have hA1 : ∀ q, va_A w H.size q → A q := fun q h => va_A_le hD (fun q h => hA q (Nat.le_trans hS.1 h)) h
  refine kc_run (va_runS (g := F0 m pc ls st0) (As := As) (rest := rest) X (hM H.size) cw ⟨cP_blind, fun U hU hW => ⟨rfl, by rw [hU], by rw [hU]; exact hP, va_K.moved hW.alike hK, hD.weaken (fun _ _ _ _ => trivial)⟩⟩ rfl hn hl hst (lv_room hW) hdg hf) hS hA1 ?_
  intro H1 locs1 hP1 hD1 hz hk hS1
  exact kk H1 locs1 hP1 (hD1.weaken (fun _ _ _ h => hA1 _ h)) hS1
theorem nm_i {x z : Int32} (h : z = x) (k : W p l e R s m args below meth c H locs cells slots Q (F0 m pc ls (.int z :: rest))) : W p l e R s m args below meth c H locs cells slots Q (F0 m pc ls (.int x :: rest)) := h ▸ k
theorem nm_l {x z : Int64} (h : z = x) (k : W p l e R s m args below meth c H locs cells slots Q (F0 m pc ls (.long z :: rest))) : W p l e R s m args below meth c H locs cells slots Q (F0 m pc ls (.long x :: rest)) := h ▸ k
theorem rt_i {v : Int32} (X : CallFix p m c cc nL s args Ts own) (hr : meth.sig.returnType = some .int) (hlk : meth.locks = false) (hK : va_K D vwCl tys s) (hP : va_P D vwCl w H) (hD : va_D A w) (hS : va_S A s.heap H locs) (hdg : decode cc pc = .ok (.ireturn, 1)) : W p l e R s m args below meth c H locs 0 0 (MQ below (cQ D tys A w (some (.int v))) args s 0 0 A) (F0 m pc ls [.int v]) :=
  W.iret X.1 X.2.1 hr (fun t ht hW => ⟨⟨rfl, by rw [ht]; exact hP, va_K.moved hW.alike hK, hD⟩, hS.F ht⟩) hS.2.2 hdg hlk
theorem rt_z {v : Int32} (X : CallFix p m c cc nL s args Ts own) (hr : meth.sig.returnType = some .boolean) (hlk : meth.locks = false) (hn : narrow .boolean (.int v) = .int v) (hK : va_K D vwCl tys s) (hP : va_P D vwCl w H) (hD : va_D A w) (hS : va_S A s.heap H locs) (hdg : decode cc pc = .ok (.ireturn, 1)) : W p l e R s m args below meth c H locs 0 0 (MQ below (cQ D tys A w (some (.int v))) args s 0 0 A) (F0 m pc ls [.int v]) :=
  W.zret X.1 X.2.1 hr hn (fun t ht hW => ⟨⟨rfl, by rw [ht]; exact hP, va_K.moved hW.alike hK, hD⟩, hS.F ht⟩) hS.2.2 hdg hlk
theorem rt_l {v : Int64} (X : CallFix p m c cc nL s args Ts own) (hr : meth.sig.returnType = some .long) (hlk : meth.locks = false) (hK : va_K D vwCl tys s) (hP : va_P D vwCl w H) (hD : va_D A w) (hS : va_S A s.heap H locs) (hdg : decode cc pc = .ok (.lreturn, 1)) : W p l e R s m args below meth c H locs 0 0 (MQ below (cQ D tys A w (some (.long v))) args s 0 0 A) (F0 m pc ls [.long v]) :=
  W.lret X.1 X.2.1 hr (fun t ht hW => ⟨⟨rfl, by rw [ht]; exact hP, va_K.moved hW.alike hK, hD⟩, hS.F ht⟩) hS.2.2 hdg hlk
theorem rt_v (X : CallFix p m c cc nL s args Ts own) (hr : meth.sig.returnType = none) (hlk : meth.locks = false) (hK : va_K D vwCl tys s) (hP : va_P D vwCl w H) (hD : va_D A w) (hS : va_S A s.heap H locs) (hdg : decode cc pc = .ok (.return_, 1)) : W p l e R s m args below meth c H locs 0 0 (MQ below (cQ D tys A w none) args s 0 0 A) (F0 m pc ls []) :=
  W.vret X.1 X.2.1 hr (fun t ht hW => ⟨⟨rfl, by rw [ht]; exact hP, va_K.moved hW.alike hK, hD⟩, hS.F ht⟩) hS.2.2 hdg hlk
theorem va_aldA {ws : va_W} (hexec : p.tables.exec = Jvm.exec) (hb : c.code = cc) (hK : va_K D vwCl tys s) (hP : va_P D vwCl ws H) (q0 t0 : Nat) {a : Nat} {cA : ClassId} {t : FieldType} {n : Nat} {f : Nat → Option Nat} (ha : ws[q0]? = some (a, .inl (cA, n, .inr (.inr (.inr (.inr f)))))) (ht : tys[t0]? = some (cA, .array t)) {i : Int32} (hin : vp_in i n) (hdg : decode cc pc = .ok (.aaload, 1))
    (kk : W p l e R s m args below meth c H locs cells slots Q (F0 m (pc + 1) ls (va_rf (f i.toNatClampNeg) :: rest))) : W p l e R s m args below meth c H locs cells slots Q (F0 m pc ls (.int i :: .ref a :: rest)) := by
  have hlt : i.toNatClampNeg < n := Nat.not_le.mp fun q => hin (Or.inr q)
  exact W.aald (v := va_rf (f i.toNatClampNeg)) (ty := .array t) hexec hb (hP q0 _ ha) ((hK.2 t0 _ ht).1 n (fun j => va_rf (f j))) rfl (fun q => by cases q) (by show ¬ (i < 0 ∨ (arrV _ _ _).slots.size ≤ _); rw [arrV_size]; exact hin) (by show (arrV _ _ _).slots[_]? = _; rw [arrV_read _ _ hlt]) rfl rfl hdg kk
end KC
section RW
variable {p : Program} {l : Launch} {e : Env} {R : Room} {s : State} {m : MethodId} {args : Array Value} {below : List Frame} {meth : Method} {c : Code} {H : Heap} {locs : List Loc} {cells slots : Nat} {Q : State → Prop}
variable {cc : ByteArray} {nL index pc : Nat} {Ts : List Cond} {own : String} {rest : List Value} {ls : Array Slot} {D : va_G} {A : Nat → Prop} {k : Nat → ClassId} {a ρ : Nat → Nat} {σ σ1 : CS} {μ μ1 : MS}
theorem gX3_points (X : CallFix p m c cc nL s args Ts own) (hin : ∀ w ∈ wsX30, w ∈ Ts) (hK : va_K D vwCl (cT k) s) (hP : va_P D vwCl (cW k a ρ σ) H) (hlk : Cond.fieldLink own index "MarginTable" "points" "LMarginTable$Points;" ∈ Ts) (hdg : decode cc pc = .ok (.getfield index, 3)) (kk : W p l e R s m args below meth c H locs cells slots Q (F0 m (pc + 3) ls (.ref (a 1) :: rest))) : W p l e R s m args below meth c H locs cells slots Q (F0 m pc ls (.ref (a 0) :: rest)) := va_get (D := D) (ci := 2) (v := .ref (a 1)) (C := RX3) (T := TX3) (N := 4) X.1 X.2.1 X.2.2.2.2 hin X.2.2.2.1 hK hP 0 rfl rfl 0 (by decide) (X.2.2.2.2 _ hlk) (fun _ h => h) rfl hdg kk
theorem gX3_table (X : CallFix p m c cc nL s args Ts own) (hin : ∀ w ∈ wsX30, w ∈ Ts) (hK : va_K D vwCl (cT k) s) (hP : va_P D vwCl (cW k a ρ σ) H) (hlk : Cond.fieldLink own index "MarginTable" "table" "LMarginTable$Table;" ∈ Ts) (hdg : decode cc pc = .ok (.getfield index, 3)) (kk : W p l e R s m args below meth c H locs cells slots Q (F0 m (pc + 3) ls (.ref (a 2) :: rest))) : W p l e R s m args below meth c H locs cells slots Q (F0 m pc ls (.ref (a 0) :: rest)) := va_get (D := D) (ci := 2) (v := .ref (a 2)) (C := RX3) (T := TX3) (N := 4) X.1 X.2.1 X.2.2.2.2 hin X.2.2.2.1 hK hP 0 rfl rfl 1 (by decide) (X.2.2.2.2 _ hlk) (fun _ h => h) rfl hdg kk
theorem gX3_boxAbove (X : CallFix p m c cc nL s args Ts own) (hin : ∀ w ∈ wsX30, w ∈ Ts) (hK : va_K D vwCl (cT k) s) (hP : va_P D vwCl (cW k a ρ σ) H) (hlk : Cond.fieldLink own index "MarginTable" "boxAbove" "I" ∈ Ts) (hdg : decode cc pc = .ok (.getfield index, 3)) (kk : W p l e R s m args below meth c H locs cells slots Q (F0 m (pc + 3) ls (.int (c_bA σ) :: rest))) : W p l e R s m args below meth c H locs cells slots Q (F0 m pc ls (.ref (a 0) :: rest)) := va_get (D := D) (ci := 2) (v := .int (c_bA σ)) (C := RX3) (T := TX3) (N := 4) X.1 X.2.1 X.2.2.2.2 hin X.2.2.2.1 hK hP 0 rfl rfl 2 (by decide) (X.2.2.2.2 _ hlk) (fun _ h => h) rfl hdg kk
theorem pX3_boxAbove {v : Int32} (X : CallFix p m c cc nL s args Ts own) (hin : ∀ w ∈ wsX30, w ∈ Ts) (hK : va_K D vwCl (cT k) s) (hP : va_P D vwCl (cW k a ρ σ) H) (hD : va_D A (cW k a ρ σ)) (hS : va_S A s.heap H locs) (hlk : Cond.fieldLink own index "MarginTable" "boxAbove" "I" ∈ Ts) (he : σ1 = s_bA σ v) (hdg : decode cc pc = .ok (.putfield index, 3)) (kk : ∀ (H1 : Heap) (locs1 : List Loc), va_P D vwCl (cW k a ρ σ1) H1 → va_D A (cW k a ρ σ1) → va_S A s.heap H1 locs1 → W p l e R s m args below meth c H1 locs1 cells slots Q (F0 m (pc + 3) ls rest)) : W p l e R s m args below meth c H locs cells slots Q (F0 m pc ls (.int v :: .ref (a 0) :: rest)) := by
  subst he
  exact va_put (D := D) (ci := 2) (v := .int v) (ty := .int) (C := RX3) (T := TX3) (N := 4) X.1 X.2.1 X.2.2.2.2 hin tyX3 tyX3_ok nmX3 X.2.2.2.1 hK hP hD hS 0 rfl rfl 2 (by decide) (X.2.2.2.2 _ hlk) (fun _ h => h) rfl (by decide +kernel) rfl rfl (Nat.le_of_ble_eq_true rfl) hdg (fun H1 locs1 h1 h2 h3 => kk H1 locs1 h1 h2 h3)
theorem gX3_boxBelow (X : CallFix p m c cc nL s args Ts own) (hin : ∀ w ∈ wsX30, w ∈ Ts) (hK : va_K D vwCl (cT k) s) (hP : va_P D vwCl (cW k a ρ σ) H) (hlk : Cond.fieldLink own index "MarginTable" "boxBelow" "I" ∈ Ts) (hdg : decode cc pc = .ok (.getfield index, 3)) (kk : W p l e R s m args below meth c H locs cells slots Q (F0 m (pc + 3) ls (.int (c_bB σ) :: rest))) : W p l e R s m args below meth c H locs cells slots Q (F0 m pc ls (.ref (a 0) :: rest)) := va_get (D := D) (ci := 2) (v := .int (c_bB σ)) (C := RX3) (T := TX3) (N := 4) X.1 X.2.1 X.2.2.2.2 hin X.2.2.2.1 hK hP 0 rfl rfl 3 (by decide) (X.2.2.2.2 _ hlk) (fun _ h => h) rfl hdg kk
theorem pX3_boxBelow {v : Int32} (X : CallFix p m c cc nL s args Ts own) (hin : ∀ w ∈ wsX30, w ∈ Ts) (hK : va_K D vwCl (cT k) s) (hP : va_P D vwCl (cW k a ρ σ) H) (hD : va_D A (cW k a ρ σ)) (hS : va_S A s.heap H locs) (hlk : Cond.fieldLink own index "MarginTable" "boxBelow" "I" ∈ Ts) (he : σ1 = s_bB σ v) (hdg : decode cc pc = .ok (.putfield index, 3)) (kk : ∀ (H1 : Heap) (locs1 : List Loc), va_P D vwCl (cW k a ρ σ1) H1 → va_D A (cW k a ρ σ1) → va_S A s.heap H1 locs1 → W p l e R s m args below meth c H1 locs1 cells slots Q (F0 m (pc + 3) ls rest)) : W p l e R s m args below meth c H locs cells slots Q (F0 m pc ls (.int v :: .ref (a 0) :: rest)) := by
  subst he
  exact va_put (D := D) (ci := 2) (v := .int v) (ty := .int) (C := RX3) (T := TX3) (N := 4) X.1 X.2.1 X.2.2.2.2 hin tyX3 tyX3_ok nmX3 X.2.2.2.1 hK hP hD hS 0 rfl rfl 3 (by decide) (X.2.2.2.2 _ hlk) (fun _ h => h) rfl (by decide +kernel) rfl rfl (Nat.le_of_ble_eq_true rfl) hdg (fun H1 locs1 h1 h2 h3 => kk H1 locs1 h1 h2 h3)
theorem gX0_x (X : CallFix p m c cc nL s args Ts own) (hin : ∀ w ∈ wsX00, w ∈ Ts) (hK : va_K D vwCl (cT k) s) (hP : va_P D vwCl (cW k a ρ σ) H) (hlk : Cond.fieldLink own index "MarginTable$Points" "x" "[I" ∈ Ts) (hdg : decode cc pc = .ok (.getfield index, 3)) (kk : W p l e R s m args below meth c H locs cells slots Q (F0 m (pc + 3) ls (.ref (a 3) :: rest))) : W p l e R s m args below meth c H locs cells slots Q (F0 m pc ls (.ref (a 1) :: rest)) := va_get (D := D) (ci := 0) (v := .ref (a 3)) (C := RX0) (T := TX0) (N := 5) X.1 X.2.1 X.2.2.2.2 hin X.2.2.2.1 hK hP 1 rfl rfl 0 (by decide) (X.2.2.2.2 _ hlk) (fun _ h => h) rfl hdg kk
theorem gX0_y (X : CallFix p m c cc nL s args Ts own) (hin : ∀ w ∈ wsX00, w ∈ Ts) (hK : va_K D vwCl (cT k) s) (hP : va_P D vwCl (cW k a ρ σ) H) (hlk : Cond.fieldLink own index "MarginTable$Points" "y" "[I" ∈ Ts) (hdg : decode cc pc = .ok (.getfield index, 3)) (kk : W p l e R s m args below meth c H locs cells slots Q (F0 m (pc + 3) ls (.ref (a 4) :: rest))) : W p l e R s m args below meth c H locs cells slots Q (F0 m pc ls (.ref (a 1) :: rest)) := va_get (D := D) (ci := 0) (v := .ref (a 4)) (C := RX0) (T := TX0) (N := 5) X.1 X.2.1 X.2.2.2.2 hin X.2.2.2.1 hK hP 1 rfl rfl 1 (by decide) (X.2.2.2.2 _ hlk) (fun _ h => h) rfl hdg kk
theorem gX0_label (X : CallFix p m c cc nL s args Ts own) (hin : ∀ w ∈ wsX00, w ∈ Ts) (hK : va_K D vwCl (cT k) s) (hP : va_P D vwCl (cW k a ρ σ) H) (hlk : Cond.fieldLink own index "MarginTable$Points" "label" "[I" ∈ Ts) (hdg : decode cc pc = .ok (.getfield index, 3)) (kk : W p l e R s m args below meth c H locs cells slots Q (F0 m (pc + 3) ls (.ref (a 5) :: rest))) : W p l e R s m args below meth c H locs cells slots Q (F0 m pc ls (.ref (a 1) :: rest)) := va_get (D := D) (ci := 0) (v := .ref (a 5)) (C := RX0) (T := TX0) (N := 5) X.1 X.2.1 X.2.2.2.2 hin X.2.2.2.1 hK hP 1 rfl rfl 2 (by decide) (X.2.2.2.2 _ hlk) (fun _ h => h) rfl hdg kk
theorem gX0_size (X : CallFix p m c cc nL s args Ts own) (hin : ∀ w ∈ wsX00, w ∈ Ts) (hK : va_K D vwCl (cT k) s) (hP : va_P D vwCl (cW k a ρ σ) H) (hlk : Cond.fieldLink own index "MarginTable$Points" "size" "I" ∈ Ts) (hdg : decode cc pc = .ok (.getfield index, 3)) (kk : W p l e R s m args below meth c H locs cells slots Q (F0 m (pc + 3) ls (.int (c_sz σ) :: rest))) : W p l e R s m args below meth c H locs cells slots Q (F0 m pc ls (.ref (a 1) :: rest)) := va_get (D := D) (ci := 0) (v := .int (c_sz σ)) (C := RX0) (T := TX0) (N := 5) X.1 X.2.1 X.2.2.2.2 hin X.2.2.2.1 hK hP 1 rfl rfl 3 (by decide) (X.2.2.2.2 _ hlk) (fun _ h => h) rfl hdg kk
theorem pX0_size {v : Int32} (X : CallFix p m c cc nL s args Ts own) (hin : ∀ w ∈ wsX00, w ∈ Ts) (hK : va_K D vwCl (cT k) s) (hP : va_P D vwCl (cW k a ρ σ) H) (hD : va_D A (cW k a ρ σ)) (hS : va_S A s.heap H locs) (hlk : Cond.fieldLink own index "MarginTable$Points" "size" "I" ∈ Ts) (he : σ1 = s_sz σ v) (hdg : decode cc pc = .ok (.putfield index, 3)) (kk : ∀ (H1 : Heap) (locs1 : List Loc), va_P D vwCl (cW k a ρ σ1) H1 → va_D A (cW k a ρ σ1) → va_S A s.heap H1 locs1 → W p l e R s m args below meth c H1 locs1 cells slots Q (F0 m (pc + 3) ls rest)) : W p l e R s m args below meth c H locs cells slots Q (F0 m pc ls (.int v :: .ref (a 1) :: rest)) := by
  subst he
  exact va_put (D := D) (ci := 0) (v := .int v) (ty := .int) (C := RX0) (T := TX0) (N := 5) X.1 X.2.1 X.2.2.2.2 hin tyX0 tyX0_ok nmX0 X.2.2.2.1 hK hP hD hS 1 rfl rfl 3 (by decide) (X.2.2.2.2 _ hlk) (fun _ h => h) rfl (by decide +kernel) rfl rfl (Nat.le_of_ble_eq_true rfl) hdg (fun H1 locs1 h1 h2 h3 => kk H1 locs1 h1 h2 h3)
theorem gX0_power (X : CallFix p m c cc nL s args Ts own) (hin : ∀ w ∈ wsX00, w ∈ Ts) (hK : va_K D vwCl (cT k) s) (hP : va_P D vwCl (cW k a ρ σ) H) (hlk : Cond.fieldLink own index "MarginTable$Points" "power" "I" ∈ Ts) (hdg : decode cc pc = .ok (.getfield index, 3)) (kk : W p l e R s m args below meth c H locs cells slots Q (F0 m (pc + 3) ls (.int (c_pw σ) :: rest))) : W p l e R s m args below meth c H locs cells slots Q (F0 m pc ls (.ref (a 1) :: rest)) := va_get (D := D) (ci := 0) (v := .int (c_pw σ)) (C := RX0) (T := TX0) (N := 5) X.1 X.2.1 X.2.2.2.2 hin X.2.2.2.1 hK hP 1 rfl rfl 4 (by decide) (X.2.2.2.2 _ hlk) (fun _ h => h) rfl hdg kk
theorem pX0_power {v : Int32} (X : CallFix p m c cc nL s args Ts own) (hin : ∀ w ∈ wsX00, w ∈ Ts) (hK : va_K D vwCl (cT k) s) (hP : va_P D vwCl (cW k a ρ σ) H) (hD : va_D A (cW k a ρ σ)) (hS : va_S A s.heap H locs) (hlk : Cond.fieldLink own index "MarginTable$Points" "power" "I" ∈ Ts) (he : σ1 = s_pw σ v) (hdg : decode cc pc = .ok (.putfield index, 3)) (kk : ∀ (H1 : Heap) (locs1 : List Loc), va_P D vwCl (cW k a ρ σ1) H1 → va_D A (cW k a ρ σ1) → va_S A s.heap H1 locs1 → W p l e R s m args below meth c H1 locs1 cells slots Q (F0 m (pc + 3) ls rest)) : W p l e R s m args below meth c H locs cells slots Q (F0 m pc ls (.int v :: .ref (a 1) :: rest)) := by
  subst he
  exact va_put (D := D) (ci := 0) (v := .int v) (ty := .int) (C := RX0) (T := TX0) (N := 5) X.1 X.2.1 X.2.2.2.2 hin tyX0 tyX0_ok nmX0 X.2.2.2.1 hK hP hD hS 1 rfl rfl 4 (by decide) (X.2.2.2.2 _ hlk) (fun _ h => h) rfl (by decide +kernel) rfl rfl (Nat.le_of_ble_eq_true rfl) hdg (fun H1 locs1 h1 h2 h3 => kk H1 locs1 h1 h2 h3)
theorem gX1_cell (X : CallFix p m c cc nL s args Ts own) (hin : ∀ w ∈ wsX10, w ∈ Ts) (hK : va_K D vwCl (cT k) s) (hP : va_P D vwCl (cW k a ρ σ) H) (hlk : Cond.fieldLink own index "MarginTable$Table" "cell" "[[J" ∈ Ts) (hdg : decode cc pc = .ok (.getfield index, 3)) (kk : W p l e R s m args below meth c H locs cells slots Q (F0 m (pc + 3) ls (.ref (a 10) :: rest))) : W p l e R s m args below meth c H locs cells slots Q (F0 m pc ls (.ref (a 2) :: rest)) := va_get (D := D) (ci := 1) (v := .ref (a 10)) (C := RX1) (T := TX1) (N := 9) X.1 X.2.1 X.2.2.2.2 hin X.2.2.2.1 hK hP 2 rfl rfl 0 (by decide) (X.2.2.2.2 _ hlk) (fun _ h => h) rfl hdg kk
theorem gX1_tells (X : CallFix p m c cc nL s args Ts own) (hin : ∀ w ∈ wsX10, w ∈ Ts) (hK : va_K D vwCl (cT k) s) (hP : va_P D vwCl (cW k a ρ σ) H) (hlk : Cond.fieldLink own index "MarginTable$Table" "tells" "[I" ∈ Ts) (hdg : decode cc pc = .ok (.getfield index, 3)) (kk : W p l e R s m args below meth c H locs cells slots Q (F0 m (pc + 3) ls (.ref (a 6) :: rest))) : W p l e R s m args below meth c H locs cells slots Q (F0 m pc ls (.ref (a 2) :: rest)) := va_get (D := D) (ci := 1) (v := .ref (a 6)) (C := RX1) (T := TX1) (N := 9) X.1 X.2.1 X.2.2.2.2 hin X.2.2.2.1 hK hP 2 rfl rfl 1 (by decide) (X.2.2.2.2 _ hlk) (fun _ h => h) rfl hdg kk
theorem gX1_entered (X : CallFix p m c cc nL s args Ts own) (hin : ∀ w ∈ wsX10, w ∈ Ts) (hK : va_K D vwCl (cT k) s) (hP : va_P D vwCl (cW k a ρ σ) H) (hlk : Cond.fieldLink own index "MarginTable$Table" "entered" "[I" ∈ Ts) (hdg : decode cc pc = .ok (.getfield index, 3)) (kk : W p l e R s m args below meth c H locs cells slots Q (F0 m (pc + 3) ls (.ref (a 7) :: rest))) : W p l e R s m args below meth c H locs cells slots Q (F0 m pc ls (.ref (a 2) :: rest)) := va_get (D := D) (ci := 1) (v := .ref (a 7)) (C := RX1) (T := TX1) (N := 9) X.1 X.2.1 X.2.2.2.2 hin X.2.2.2.1 hK hP 2 rfl rfl 2 (by decide) (X.2.2.2.2 _ hlk) (fun _ h => h) rfl hdg kk
theorem gX1_left (X : CallFix p m c cc nL s args Ts own) (hin : ∀ w ∈ wsX10, w ∈ Ts) (hK : va_K D vwCl (cT k) s) (hP : va_P D vwCl (cW k a ρ σ) H) (hlk : Cond.fieldLink own index "MarginTable$Table" "left" "[I" ∈ Ts) (hdg : decode cc pc = .ok (.getfield index, 3)) (kk : W p l e R s m args below meth c H locs cells slots Q (F0 m (pc + 3) ls (.ref (a 8) :: rest))) : W p l e R s m args below meth c H locs cells slots Q (F0 m pc ls (.ref (a 2) :: rest)) := va_get (D := D) (ci := 1) (v := .ref (a 8)) (C := RX1) (T := TX1) (N := 9) X.1 X.2.1 X.2.2.2.2 hin X.2.2.2.1 hK hP 2 rfl rfl 3 (by decide) (X.2.2.2.2 _ hlk) (fun _ h => h) rfl hdg kk
theorem gX1_turnedAt (X : CallFix p m c cc nL s args Ts own) (hin : ∀ w ∈ wsX10, w ∈ Ts) (hK : va_K D vwCl (cT k) s) (hP : va_P D vwCl (cW k a ρ σ) H) (hlk : Cond.fieldLink own index "MarginTable$Table" "turnedAt" "[I" ∈ Ts) (hdg : decode cc pc = .ok (.getfield index, 3)) (kk : W p l e R s m args below meth c H locs cells slots Q (F0 m (pc + 3) ls (.ref (a 9) :: rest))) : W p l e R s m args below meth c H locs cells slots Q (F0 m pc ls (.ref (a 2) :: rest)) := va_get (D := D) (ci := 1) (v := .ref (a 9)) (C := RX1) (T := TX1) (N := 9) X.1 X.2.1 X.2.2.2.2 hin X.2.2.2.1 hK hP 2 rfl rfl 4 (by decide) (X.2.2.2.2 _ hlk) (fun _ h => h) rfl hdg kk
theorem gX1_rows (X : CallFix p m c cc nL s args Ts own) (hin : ∀ w ∈ wsX10, w ∈ Ts) (hK : va_K D vwCl (cT k) s) (hP : va_P D vwCl (cW k a ρ σ) H) (hlk : Cond.fieldLink own index "MarginTable$Table" "rows" "I" ∈ Ts) (hdg : decode cc pc = .ok (.getfield index, 3)) (kk : W p l e R s m args below meth c H locs cells slots Q (F0 m (pc + 3) ls (.int (c_rw σ) :: rest))) : W p l e R s m args below meth c H locs cells slots Q (F0 m pc ls (.ref (a 2) :: rest)) := va_get (D := D) (ci := 1) (v := .int (c_rw σ)) (C := RX1) (T := TX1) (N := 9) X.1 X.2.1 X.2.2.2.2 hin X.2.2.2.1 hK hP 2 rfl rfl 5 (by decide) (X.2.2.2.2 _ hlk) (fun _ h => h) rfl hdg kk
theorem pX1_rows {v : Int32} (X : CallFix p m c cc nL s args Ts own) (hin : ∀ w ∈ wsX10, w ∈ Ts) (hK : va_K D vwCl (cT k) s) (hP : va_P D vwCl (cW k a ρ σ) H) (hD : va_D A (cW k a ρ σ)) (hS : va_S A s.heap H locs) (hlk : Cond.fieldLink own index "MarginTable$Table" "rows" "I" ∈ Ts) (he : σ1 = s_rw σ v) (hdg : decode cc pc = .ok (.putfield index, 3)) (kk : ∀ (H1 : Heap) (locs1 : List Loc), va_P D vwCl (cW k a ρ σ1) H1 → va_D A (cW k a ρ σ1) → va_S A s.heap H1 locs1 → W p l e R s m args below meth c H1 locs1 cells slots Q (F0 m (pc + 3) ls rest)) : W p l e R s m args below meth c H locs cells slots Q (F0 m pc ls (.int v :: .ref (a 2) :: rest)) := by
  subst he
  exact va_put (D := D) (ci := 1) (v := .int v) (ty := .int) (C := RX1) (T := TX1) (N := 9) X.1 X.2.1 X.2.2.2.2 hin tyX1 tyX1_ok nmX1 X.2.2.2.1 hK hP hD hS 2 rfl rfl 5 (by decide) (X.2.2.2.2 _ hlk) (fun _ h => h) rfl (by decide +kernel) rfl rfl (Nat.le_of_ble_eq_true rfl) hdg (fun H1 locs1 h1 h2 h3 => kk H1 locs1 h1 h2 h3)
theorem gX1_steps (X : CallFix p m c cc nL s args Ts own) (hin : ∀ w ∈ wsX10, w ∈ Ts) (hK : va_K D vwCl (cT k) s) (hP : va_P D vwCl (cW k a ρ σ) H) (hlk : Cond.fieldLink own index "MarginTable$Table" "steps" "I" ∈ Ts) (hdg : decode cc pc = .ok (.getfield index, 3)) (kk : W p l e R s m args below meth c H locs cells slots Q (F0 m (pc + 3) ls (.int (c_st σ) :: rest))) : W p l e R s m args below meth c H locs cells slots Q (F0 m pc ls (.ref (a 2) :: rest)) := va_get (D := D) (ci := 1) (v := .int (c_st σ)) (C := RX1) (T := TX1) (N := 9) X.1 X.2.1 X.2.2.2.2 hin X.2.2.2.1 hK hP 2 rfl rfl 6 (by decide) (X.2.2.2.2 _ hlk) (fun _ h => h) rfl hdg kk
theorem pX1_steps {v : Int32} (X : CallFix p m c cc nL s args Ts own) (hin : ∀ w ∈ wsX10, w ∈ Ts) (hK : va_K D vwCl (cT k) s) (hP : va_P D vwCl (cW k a ρ σ) H) (hD : va_D A (cW k a ρ σ)) (hS : va_S A s.heap H locs) (hlk : Cond.fieldLink own index "MarginTable$Table" "steps" "I" ∈ Ts) (he : σ1 = s_st σ v) (hdg : decode cc pc = .ok (.putfield index, 3)) (kk : ∀ (H1 : Heap) (locs1 : List Loc), va_P D vwCl (cW k a ρ σ1) H1 → va_D A (cW k a ρ σ1) → va_S A s.heap H1 locs1 → W p l e R s m args below meth c H1 locs1 cells slots Q (F0 m (pc + 3) ls rest)) : W p l e R s m args below meth c H locs cells slots Q (F0 m pc ls (.int v :: .ref (a 2) :: rest)) := by
  subst he
  exact va_put (D := D) (ci := 1) (v := .int v) (ty := .int) (C := RX1) (T := TX1) (N := 9) X.1 X.2.1 X.2.2.2.2 hin tyX1 tyX1_ok nmX1 X.2.2.2.1 hK hP hD hS 2 rfl rfl 6 (by decide) (X.2.2.2.2 _ hlk) (fun _ h => h) rfl (by decide +kernel) rfl rfl (Nat.le_of_ble_eq_true rfl) hdg (fun H1 locs1 h1 h2 h3 => kk H1 locs1 h1 h2 h3)
theorem gX1_state (X : CallFix p m c cc nL s args Ts own) (hin : ∀ w ∈ wsX10, w ∈ Ts) (hK : va_K D vwCl (cT k) s) (hP : va_P D vwCl (cW k a ρ σ) H) (hlk : Cond.fieldLink own index "MarginTable$Table" "state" "I" ∈ Ts) (hdg : decode cc pc = .ok (.getfield index, 3)) (kk : W p l e R s m args below meth c H locs cells slots Q (F0 m (pc + 3) ls (.int (c_sa σ) :: rest))) : W p l e R s m args below meth c H locs cells slots Q (F0 m pc ls (.ref (a 2) :: rest)) := va_get (D := D) (ci := 1) (v := .int (c_sa σ)) (C := RX1) (T := TX1) (N := 9) X.1 X.2.1 X.2.2.2.2 hin X.2.2.2.1 hK hP 2 rfl rfl 7 (by decide) (X.2.2.2.2 _ hlk) (fun _ h => h) rfl hdg kk
theorem pX1_state {v : Int32} (X : CallFix p m c cc nL s args Ts own) (hin : ∀ w ∈ wsX10, w ∈ Ts) (hK : va_K D vwCl (cT k) s) (hP : va_P D vwCl (cW k a ρ σ) H) (hD : va_D A (cW k a ρ σ)) (hS : va_S A s.heap H locs) (hlk : Cond.fieldLink own index "MarginTable$Table" "state" "I" ∈ Ts) (he : σ1 = s_sa σ v) (hdg : decode cc pc = .ok (.putfield index, 3)) (kk : ∀ (H1 : Heap) (locs1 : List Loc), va_P D vwCl (cW k a ρ σ1) H1 → va_D A (cW k a ρ σ1) → va_S A s.heap H1 locs1 → W p l e R s m args below meth c H1 locs1 cells slots Q (F0 m (pc + 3) ls rest)) : W p l e R s m args below meth c H locs cells slots Q (F0 m pc ls (.int v :: .ref (a 2) :: rest)) := by
  subst he
  exact va_put (D := D) (ci := 1) (v := .int v) (ty := .int) (C := RX1) (T := TX1) (N := 9) X.1 X.2.1 X.2.2.2.2 hin tyX1 tyX1_ok nmX1 X.2.2.2.1 hK hP hD hS 2 rfl rfl 7 (by decide) (X.2.2.2.2 _ hlk) (fun _ h => h) rfl (by decide +kernel) rfl rfl (Nat.le_of_ble_eq_true rfl) hdg (fun H1 locs1 h1 h2 h3 => kk H1 locs1 h1 h2 h3)
theorem gX1_scale (X : CallFix p m c cc nL s args Ts own) (hin : ∀ w ∈ wsX10, w ∈ Ts) (hK : va_K D vwCl (cT k) s) (hP : va_P D vwCl (cW k a ρ σ) H) (hlk : Cond.fieldLink own index "MarginTable$Table" "scale" "J" ∈ Ts) (hdg : decode cc pc = .ok (.getfield index, 3)) (kk : W p l e R s m args below meth c H locs cells slots Q (F0 m (pc + 3) ls (.long (c_sc σ) :: rest))) : W p l e R s m args below meth c H locs cells slots Q (F0 m pc ls (.ref (a 2) :: rest)) := va_get (D := D) (ci := 1) (v := .long (c_sc σ)) (C := RX1) (T := TX1) (N := 9) X.1 X.2.1 X.2.2.2.2 hin X.2.2.2.1 hK hP 2 rfl rfl 8 (by decide) (X.2.2.2.2 _ hlk) (fun _ h => h) rfl hdg kk
theorem pX1_scale {v : Int64} (X : CallFix p m c cc nL s args Ts own) (hin : ∀ w ∈ wsX10, w ∈ Ts) (hK : va_K D vwCl (cT k) s) (hP : va_P D vwCl (cW k a ρ σ) H) (hD : va_D A (cW k a ρ σ)) (hS : va_S A s.heap H locs) (hlk : Cond.fieldLink own index "MarginTable$Table" "scale" "J" ∈ Ts) (he : σ1 = s_sc σ v) (hdg : decode cc pc = .ok (.putfield index, 3)) (kk : ∀ (H1 : Heap) (locs1 : List Loc), va_P D vwCl (cW k a ρ σ1) H1 → va_D A (cW k a ρ σ1) → va_S A s.heap H1 locs1 → W p l e R s m args below meth c H1 locs1 cells slots Q (F0 m (pc + 3) ls rest)) : W p l e R s m args below meth c H locs cells slots Q (F0 m pc ls (.long v :: .ref (a 2) :: rest)) := by
  subst he
  exact va_put (D := D) (ci := 1) (v := .long v) (ty := .long) (C := RX1) (T := TX1) (N := 9) X.1 X.2.1 X.2.2.2.2 hin tyX1 tyX1_ok nmX1 X.2.2.2.1 hK hP hD hS 2 rfl rfl 8 (by decide) (X.2.2.2.2 _ hlk) (fun _ h => h) rfl (by decide +kernel) rfl rfl (Nat.le_of_ble_eq_true rfl) hdg (fun H1 locs1 h1 h2 h3 => kk H1 locs1 h1 h2 h3)
theorem gX4_points (X : CallFix p m c cc nL s args Ts own) (hin : ∀ w ∈ wsX40, w ∈ Ts) (hK : va_K D vwCl (mT k) s) (hP : va_P D vwCl (mW k a μ) H) (hlk : Cond.fieldLink own index "MarginTableModel" "points" "I" ∈ Ts) (hdg : decode cc pc = .ok (.getfield index, 3)) (kk : W p l e R s m args below meth c H locs cells slots Q (F0 m (pc + 3) ls (.int (m_pt μ) :: rest))) : W p l e R s m args below meth c H locs cells slots Q (F0 m pc ls (.ref (a 0) :: rest)) := va_get (D := D) (ci := 3) (v := .int (m_pt μ)) (C := RX4) (T := TX4) (N := 20) X.1 X.2.1 X.2.2.2.2 hin X.2.2.2.1 hK hP 0 rfl rfl 0 (by decide) (X.2.2.2.2 _ hlk) (fun _ h => h) rfl hdg kk
theorem pX4_points {v : Int32} (X : CallFix p m c cc nL s args Ts own) (hin : ∀ w ∈ wsX40, w ∈ Ts) (hK : va_K D vwCl (mT k) s) (hP : va_P D vwCl (mW k a μ) H) (hD : va_D A (mW k a μ)) (hS : va_S A s.heap H locs) (hlk : Cond.fieldLink own index "MarginTableModel" "points" "I" ∈ Ts) (he : μ1 = n_pt μ v) (hdg : decode cc pc = .ok (.putfield index, 3)) (kk : ∀ (H1 : Heap) (locs1 : List Loc), va_P D vwCl (mW k a μ1) H1 → va_D A (mW k a μ1) → va_S A s.heap H1 locs1 → W p l e R s m args below meth c H1 locs1 cells slots Q (F0 m (pc + 3) ls rest)) : W p l e R s m args below meth c H locs cells slots Q (F0 m pc ls (.int v :: .ref (a 0) :: rest)) := by
  subst he
  exact va_put (D := D) (ci := 3) (v := .int v) (ty := .int) (C := RX4) (T := TX4) (N := 20) X.1 X.2.1 X.2.2.2.2 hin tyX4 tyX4_ok nmX4 X.2.2.2.1 hK hP hD hS 0 rfl rfl 0 (by decide) (X.2.2.2.2 _ hlk) (fun _ h => h) rfl (by decide +kernel) rfl rfl (Nat.le_of_ble_eq_true rfl) hdg (fun H1 locs1 h1 h2 h3 => kk H1 locs1 h1 h2 h3)
theorem gX4_degree (X : CallFix p m c cc nL s args Ts own) (hin : ∀ w ∈ wsX40, w ∈ Ts) (hK : va_K D vwCl (mT k) s) (hP : va_P D vwCl (mW k a μ) H) (hlk : Cond.fieldLink own index "MarginTableModel" "degree" "I" ∈ Ts) (hdg : decode cc pc = .ok (.getfield index, 3)) (kk : W p l e R s m args below meth c H locs cells slots Q (F0 m (pc + 3) ls (.int (m_dg μ) :: rest))) : W p l e R s m args below meth c H locs cells slots Q (F0 m pc ls (.ref (a 0) :: rest)) := va_get (D := D) (ci := 3) (v := .int (m_dg μ)) (C := RX4) (T := TX4) (N := 20) X.1 X.2.1 X.2.2.2.2 hin X.2.2.2.1 hK hP 0 rfl rfl 1 (by decide) (X.2.2.2.2 _ hlk) (fun _ h => h) rfl hdg kk
theorem pX4_degree {v : Int32} (X : CallFix p m c cc nL s args Ts own) (hin : ∀ w ∈ wsX40, w ∈ Ts) (hK : va_K D vwCl (mT k) s) (hP : va_P D vwCl (mW k a μ) H) (hD : va_D A (mW k a μ)) (hS : va_S A s.heap H locs) (hlk : Cond.fieldLink own index "MarginTableModel" "degree" "I" ∈ Ts) (he : μ1 = n_dg μ v) (hdg : decode cc pc = .ok (.putfield index, 3)) (kk : ∀ (H1 : Heap) (locs1 : List Loc), va_P D vwCl (mW k a μ1) H1 → va_D A (mW k a μ1) → va_S A s.heap H1 locs1 → W p l e R s m args below meth c H1 locs1 cells slots Q (F0 m (pc + 3) ls rest)) : W p l e R s m args below meth c H locs cells slots Q (F0 m pc ls (.int v :: .ref (a 0) :: rest)) := by
  subst he
  exact va_put (D := D) (ci := 3) (v := .int v) (ty := .int) (C := RX4) (T := TX4) (N := 20) X.1 X.2.1 X.2.2.2.2 hin tyX4 tyX4_ok nmX4 X.2.2.2.1 hK hP hD hS 0 rfl rfl 1 (by decide) (X.2.2.2.2 _ hlk) (fun _ h => h) rfl (by decide +kernel) rfl rfl (Nat.le_of_ble_eq_true rfl) hdg (fun H1 locs1 h1 h2 h3 => kk H1 locs1 h1 h2 h3)
theorem gX4_boxAbove (X : CallFix p m c cc nL s args Ts own) (hin : ∀ w ∈ wsX40, w ∈ Ts) (hK : va_K D vwCl (mT k) s) (hP : va_P D vwCl (mW k a μ) H) (hlk : Cond.fieldLink own index "MarginTableModel" "boxAbove" "I" ∈ Ts) (hdg : decode cc pc = .ok (.getfield index, 3)) (kk : W p l e R s m args below meth c H locs cells slots Q (F0 m (pc + 3) ls (.int (m_bA μ) :: rest))) : W p l e R s m args below meth c H locs cells slots Q (F0 m pc ls (.ref (a 0) :: rest)) := va_get (D := D) (ci := 3) (v := .int (m_bA μ)) (C := RX4) (T := TX4) (N := 20) X.1 X.2.1 X.2.2.2.2 hin X.2.2.2.1 hK hP 0 rfl rfl 2 (by decide) (X.2.2.2.2 _ hlk) (fun _ h => h) rfl hdg kk
theorem pX4_boxAbove {v : Int32} (X : CallFix p m c cc nL s args Ts own) (hin : ∀ w ∈ wsX40, w ∈ Ts) (hK : va_K D vwCl (mT k) s) (hP : va_P D vwCl (mW k a μ) H) (hD : va_D A (mW k a μ)) (hS : va_S A s.heap H locs) (hlk : Cond.fieldLink own index "MarginTableModel" "boxAbove" "I" ∈ Ts) (he : μ1 = n_bA μ v) (hdg : decode cc pc = .ok (.putfield index, 3)) (kk : ∀ (H1 : Heap) (locs1 : List Loc), va_P D vwCl (mW k a μ1) H1 → va_D A (mW k a μ1) → va_S A s.heap H1 locs1 → W p l e R s m args below meth c H1 locs1 cells slots Q (F0 m (pc + 3) ls rest)) : W p l e R s m args below meth c H locs cells slots Q (F0 m pc ls (.int v :: .ref (a 0) :: rest)) := by
  subst he
  exact va_put (D := D) (ci := 3) (v := .int v) (ty := .int) (C := RX4) (T := TX4) (N := 20) X.1 X.2.1 X.2.2.2.2 hin tyX4 tyX4_ok nmX4 X.2.2.2.1 hK hP hD hS 0 rfl rfl 2 (by decide) (X.2.2.2.2 _ hlk) (fun _ h => h) rfl (by decide +kernel) rfl rfl (Nat.le_of_ble_eq_true rfl) hdg (fun H1 locs1 h1 h2 h3 => kk H1 locs1 h1 h2 h3)
theorem gX4_boxBelow (X : CallFix p m c cc nL s args Ts own) (hin : ∀ w ∈ wsX40, w ∈ Ts) (hK : va_K D vwCl (mT k) s) (hP : va_P D vwCl (mW k a μ) H) (hlk : Cond.fieldLink own index "MarginTableModel" "boxBelow" "I" ∈ Ts) (hdg : decode cc pc = .ok (.getfield index, 3)) (kk : W p l e R s m args below meth c H locs cells slots Q (F0 m (pc + 3) ls (.int (m_bB μ) :: rest))) : W p l e R s m args below meth c H locs cells slots Q (F0 m pc ls (.ref (a 0) :: rest)) := va_get (D := D) (ci := 3) (v := .int (m_bB μ)) (C := RX4) (T := TX4) (N := 20) X.1 X.2.1 X.2.2.2.2 hin X.2.2.2.1 hK hP 0 rfl rfl 3 (by decide) (X.2.2.2.2 _ hlk) (fun _ h => h) rfl hdg kk
theorem pX4_boxBelow {v : Int32} (X : CallFix p m c cc nL s args Ts own) (hin : ∀ w ∈ wsX40, w ∈ Ts) (hK : va_K D vwCl (mT k) s) (hP : va_P D vwCl (mW k a μ) H) (hD : va_D A (mW k a μ)) (hS : va_S A s.heap H locs) (hlk : Cond.fieldLink own index "MarginTableModel" "boxBelow" "I" ∈ Ts) (he : μ1 = n_bB μ v) (hdg : decode cc pc = .ok (.putfield index, 3)) (kk : ∀ (H1 : Heap) (locs1 : List Loc), va_P D vwCl (mW k a μ1) H1 → va_D A (mW k a μ1) → va_S A s.heap H1 locs1 → W p l e R s m args below meth c H1 locs1 cells slots Q (F0 m (pc + 3) ls rest)) : W p l e R s m args below meth c H locs cells slots Q (F0 m pc ls (.int v :: .ref (a 0) :: rest)) := by
  subst he
  exact va_put (D := D) (ci := 3) (v := .int v) (ty := .int) (C := RX4) (T := TX4) (N := 20) X.1 X.2.1 X.2.2.2.2 hin tyX4 tyX4_ok nmX4 X.2.2.2.1 hK hP hD hS 0 rfl rfl 3 (by decide) (X.2.2.2.2 _ hlk) (fun _ h => h) rfl (by decide +kernel) rfl rfl (Nat.le_of_ble_eq_true rfl) hdg (fun H1 locs1 h1 h2 h3 => kk H1 locs1 h1 h2 h3)
theorem gX4_px (X : CallFix p m c cc nL s args Ts own) (hin : ∀ w ∈ wsX40, w ∈ Ts) (hK : va_K D vwCl (mT k) s) (hP : va_P D vwCl (mW k a μ) H) (hlk : Cond.fieldLink own index "MarginTableModel" "px" "[I" ∈ Ts) (hdg : decode cc pc = .ok (.getfield index, 3)) (kk : W p l e R s m args below meth c H locs cells slots Q (F0 m (pc + 3) ls (.ref (a 1) :: rest))) : W p l e R s m args below meth c H locs cells slots Q (F0 m pc ls (.ref (a 0) :: rest)) := va_get (D := D) (ci := 3) (v := .ref (a 1)) (C := RX4) (T := TX4) (N := 20) X.1 X.2.1 X.2.2.2.2 hin X.2.2.2.1 hK hP 0 rfl rfl 4 (by decide) (X.2.2.2.2 _ hlk) (fun _ h => h) rfl hdg kk
theorem gX4_py (X : CallFix p m c cc nL s args Ts own) (hin : ∀ w ∈ wsX40, w ∈ Ts) (hK : va_K D vwCl (mT k) s) (hP : va_P D vwCl (mW k a μ) H) (hlk : Cond.fieldLink own index "MarginTableModel" "py" "[I" ∈ Ts) (hdg : decode cc pc = .ok (.getfield index, 3)) (kk : W p l e R s m args below meth c H locs cells slots Q (F0 m (pc + 3) ls (.ref (a 2) :: rest))) : W p l e R s m args below meth c H locs cells slots Q (F0 m pc ls (.ref (a 0) :: rest)) := va_get (D := D) (ci := 3) (v := .ref (a 2)) (C := RX4) (T := TX4) (N := 20) X.1 X.2.1 X.2.2.2.2 hin X.2.2.2.1 hK hP 0 rfl rfl 5 (by decide) (X.2.2.2.2 _ hlk) (fun _ h => h) rfl hdg kk
theorem gX4_label (X : CallFix p m c cc nL s args Ts own) (hin : ∀ w ∈ wsX40, w ∈ Ts) (hK : va_K D vwCl (mT k) s) (hP : va_P D vwCl (mW k a μ) H) (hlk : Cond.fieldLink own index "MarginTableModel" "label" "[I" ∈ Ts) (hdg : decode cc pc = .ok (.getfield index, 3)) (kk : W p l e R s m args below meth c H locs cells slots Q (F0 m (pc + 3) ls (.ref (a 3) :: rest))) : W p l e R s m args below meth c H locs cells slots Q (F0 m pc ls (.ref (a 0) :: rest)) := va_get (D := D) (ci := 3) (v := .ref (a 3)) (C := RX4) (T := TX4) (N := 20) X.1 X.2.1 X.2.2.2.2 hin X.2.2.2.1 hK hP 0 rfl rfl 6 (by decide) (X.2.2.2.2 _ hlk) (fun _ h => h) rfl hdg kk
theorem gX4_isBegun (X : CallFix p m c cc nL s args Ts own) (hin : ∀ w ∈ wsX40, w ∈ Ts) (hK : va_K D vwCl (mT k) s) (hP : va_P D vwCl (mW k a μ) H) (hlk : Cond.fieldLink own index "MarginTableModel" "isBegun" "Z" ∈ Ts) (hdg : decode cc pc = .ok (.getfield index, 3)) (kk : W p l e R s m args below meth c H locs cells slots Q (F0 m (pc + 3) ls (.int (m_bg μ) :: rest))) : W p l e R s m args below meth c H locs cells slots Q (F0 m pc ls (.ref (a 0) :: rest)) := va_get (D := D) (ci := 3) (v := .int (m_bg μ)) (C := RX4) (T := TX4) (N := 20) X.1 X.2.1 X.2.2.2.2 hin X.2.2.2.1 hK hP 0 rfl rfl 7 (by decide) (X.2.2.2.2 _ hlk) (fun _ h => h) rfl hdg kk
theorem pX4_isBegun {v : Int32} (X : CallFix p m c cc nL s args Ts own) (hin : ∀ w ∈ wsX40, w ∈ Ts) (hK : va_K D vwCl (mT k) s) (hP : va_P D vwCl (mW k a μ) H) (hD : va_D A (mW k a μ)) (hS : va_S A s.heap H locs) (hz : isZ v = true) (hlk : Cond.fieldLink own index "MarginTableModel" "isBegun" "Z" ∈ Ts) (he : μ1 = n_bg μ v) (hdg : decode cc pc = .ok (.putfield index, 3)) (kk : ∀ (H1 : Heap) (locs1 : List Loc), va_P D vwCl (mW k a μ1) H1 → va_D A (mW k a μ1) → va_S A s.heap H1 locs1 → W p l e R s m args below meth c H1 locs1 cells slots Q (F0 m (pc + 3) ls rest)) : W p l e R s m args below meth c H locs cells slots Q (F0 m pc ls (.int v :: .ref (a 0) :: rest)) := by
  subst he
  exact va_put (D := D) (ci := 3) (v := .int v) (ty := .boolean) (C := RX4) (T := TX4) (N := 20) X.1 X.2.1 X.2.2.2.2 hin tyX4 tyX4_ok nmX4 X.2.2.2.1 hK hP hD hS 0 rfl rfl 7 (by decide) (X.2.2.2.2 _ hlk) (fun _ h => h) rfl (by decide +kernel) (isZ_n hz) (by simp only [isZ, Bool.or_eq_true, decide_eq_true_eq] at hz; rcases hz with rfl | rfl <;> rfl) (Nat.le_of_ble_eq_true rfl) hdg (fun H1 locs1 h1 h2 h3 => kk H1 locs1 h1 h2 h3)
theorem gX4_isDone (X : CallFix p m c cc nL s args Ts own) (hin : ∀ w ∈ wsX40, w ∈ Ts) (hK : va_K D vwCl (mT k) s) (hP : va_P D vwCl (mW k a μ) H) (hlk : Cond.fieldLink own index "MarginTableModel" "isDone" "Z" ∈ Ts) (hdg : decode cc pc = .ok (.getfield index, 3)) (kk : W p l e R s m args below meth c H locs cells slots Q (F0 m (pc + 3) ls (.int (m_dn μ) :: rest))) : W p l e R s m args below meth c H locs cells slots Q (F0 m pc ls (.ref (a 0) :: rest)) := va_get (D := D) (ci := 3) (v := .int (m_dn μ)) (C := RX4) (T := TX4) (N := 20) X.1 X.2.1 X.2.2.2.2 hin X.2.2.2.1 hK hP 0 rfl rfl 8 (by decide) (X.2.2.2.2 _ hlk) (fun _ h => h) rfl hdg kk
theorem pX4_isDone {v : Int32} (X : CallFix p m c cc nL s args Ts own) (hin : ∀ w ∈ wsX40, w ∈ Ts) (hK : va_K D vwCl (mT k) s) (hP : va_P D vwCl (mW k a μ) H) (hD : va_D A (mW k a μ)) (hS : va_S A s.heap H locs) (hz : isZ v = true) (hlk : Cond.fieldLink own index "MarginTableModel" "isDone" "Z" ∈ Ts) (he : μ1 = n_dn μ v) (hdg : decode cc pc = .ok (.putfield index, 3)) (kk : ∀ (H1 : Heap) (locs1 : List Loc), va_P D vwCl (mW k a μ1) H1 → va_D A (mW k a μ1) → va_S A s.heap H1 locs1 → W p l e R s m args below meth c H1 locs1 cells slots Q (F0 m (pc + 3) ls rest)) : W p l e R s m args below meth c H locs cells slots Q (F0 m pc ls (.int v :: .ref (a 0) :: rest)) := by
  subst he
  exact va_put (D := D) (ci := 3) (v := .int v) (ty := .boolean) (C := RX4) (T := TX4) (N := 20) X.1 X.2.1 X.2.2.2.2 hin tyX4 tyX4_ok nmX4 X.2.2.2.1 hK hP hD hS 0 rfl rfl 8 (by decide) (X.2.2.2.2 _ hlk) (fun _ h => h) rfl (by decide +kernel) (isZ_n hz) (by simp only [isZ, Bool.or_eq_true, decide_eq_true_eq] at hz; rcases hz with rfl | rfl <;> rfl) (Nat.le_of_ble_eq_true rfl) hdg (fun H1 locs1 h1 h2 h3 => kk H1 locs1 h1 h2 h3)
theorem gX4_isRay (X : CallFix p m c cc nL s args Ts own) (hin : ∀ w ∈ wsX40, w ∈ Ts) (hK : va_K D vwCl (mT k) s) (hP : va_P D vwCl (mW k a μ) H) (hlk : Cond.fieldLink own index "MarginTableModel" "isRay" "Z" ∈ Ts) (hdg : decode cc pc = .ok (.getfield index, 3)) (kk : W p l e R s m args below meth c H locs cells slots Q (F0 m (pc + 3) ls (.int (m_ry μ) :: rest))) : W p l e R s m args below meth c H locs cells slots Q (F0 m pc ls (.ref (a 0) :: rest)) := va_get (D := D) (ci := 3) (v := .int (m_ry μ)) (C := RX4) (T := TX4) (N := 20) X.1 X.2.1 X.2.2.2.2 hin X.2.2.2.1 hK hP 0 rfl rfl 9 (by decide) (X.2.2.2.2 _ hlk) (fun _ h => h) rfl hdg kk
theorem pX4_isRay {v : Int32} (X : CallFix p m c cc nL s args Ts own) (hin : ∀ w ∈ wsX40, w ∈ Ts) (hK : va_K D vwCl (mT k) s) (hP : va_P D vwCl (mW k a μ) H) (hD : va_D A (mW k a μ)) (hS : va_S A s.heap H locs) (hz : isZ v = true) (hlk : Cond.fieldLink own index "MarginTableModel" "isRay" "Z" ∈ Ts) (he : μ1 = n_ry μ v) (hdg : decode cc pc = .ok (.putfield index, 3)) (kk : ∀ (H1 : Heap) (locs1 : List Loc), va_P D vwCl (mW k a μ1) H1 → va_D A (mW k a μ1) → va_S A s.heap H1 locs1 → W p l e R s m args below meth c H1 locs1 cells slots Q (F0 m (pc + 3) ls rest)) : W p l e R s m args below meth c H locs cells slots Q (F0 m pc ls (.int v :: .ref (a 0) :: rest)) := by
  subst he
  exact va_put (D := D) (ci := 3) (v := .int v) (ty := .boolean) (C := RX4) (T := TX4) (N := 20) X.1 X.2.1 X.2.2.2.2 hin tyX4 tyX4_ok nmX4 X.2.2.2.1 hK hP hD hS 0 rfl rfl 9 (by decide) (X.2.2.2.2 _ hlk) (fun _ h => h) rfl (by decide +kernel) (isZ_n hz) (by simp only [isZ, Bool.or_eq_true, decide_eq_true_eq] at hz; rcases hz with rfl | rfl <;> rfl) (Nat.le_of_ble_eq_true rfl) hdg (fun H1 locs1 h1 h2 h3 => kk H1 locs1 h1 h2 h3)
theorem gX4_rows (X : CallFix p m c cc nL s args Ts own) (hin : ∀ w ∈ wsX40, w ∈ Ts) (hK : va_K D vwCl (mT k) s) (hP : va_P D vwCl (mW k a μ) H) (hlk : Cond.fieldLink own index "MarginTableModel" "rows" "I" ∈ Ts) (hdg : decode cc pc = .ok (.getfield index, 3)) (kk : W p l e R s m args below meth c H locs cells slots Q (F0 m (pc + 3) ls (.int (m_rw μ) :: rest))) : W p l e R s m args below meth c H locs cells slots Q (F0 m pc ls (.ref (a 0) :: rest)) := va_get (D := D) (ci := 3) (v := .int (m_rw μ)) (C := RX4) (T := TX4) (N := 20) X.1 X.2.1 X.2.2.2.2 hin X.2.2.2.1 hK hP 0 rfl rfl 10 (by decide) (X.2.2.2.2 _ hlk) (fun _ h => h) rfl hdg kk
theorem pX4_rows {v : Int32} (X : CallFix p m c cc nL s args Ts own) (hin : ∀ w ∈ wsX40, w ∈ Ts) (hK : va_K D vwCl (mT k) s) (hP : va_P D vwCl (mW k a μ) H) (hD : va_D A (mW k a μ)) (hS : va_S A s.heap H locs) (hlk : Cond.fieldLink own index "MarginTableModel" "rows" "I" ∈ Ts) (he : μ1 = n_rw μ v) (hdg : decode cc pc = .ok (.putfield index, 3)) (kk : ∀ (H1 : Heap) (locs1 : List Loc), va_P D vwCl (mW k a μ1) H1 → va_D A (mW k a μ1) → va_S A s.heap H1 locs1 → W p l e R s m args below meth c H1 locs1 cells slots Q (F0 m (pc + 3) ls rest)) : W p l e R s m args below meth c H locs cells slots Q (F0 m pc ls (.int v :: .ref (a 0) :: rest)) := by
  subst he
  exact va_put (D := D) (ci := 3) (v := .int v) (ty := .int) (C := RX4) (T := TX4) (N := 20) X.1 X.2.1 X.2.2.2.2 hin tyX4 tyX4_ok nmX4 X.2.2.2.1 hK hP hD hS 0 rfl rfl 10 (by decide) (X.2.2.2.2 _ hlk) (fun _ h => h) rfl (by decide +kernel) rfl rfl (Nat.le_of_ble_eq_true rfl) hdg (fun H1 locs1 h1 h2 h3 => kk H1 locs1 h1 h2 h3)
theorem gX4_table (X : CallFix p m c cc nL s args Ts own) (hin : ∀ w ∈ wsX40, w ∈ Ts) (hK : va_K D vwCl (mT k) s) (hP : va_P D vwCl (mW k a μ) H) (hlk : Cond.fieldLink own index "MarginTableModel" "table" "[J" ∈ Ts) (hdg : decode cc pc = .ok (.getfield index, 3)) (kk : W p l e R s m args below meth c H locs cells slots Q (F0 m (pc + 3) ls (.ref (a 4) :: rest))) : W p l e R s m args below meth c H locs cells slots Q (F0 m pc ls (.ref (a 0) :: rest)) := va_get (D := D) (ci := 3) (v := .ref (a 4)) (C := RX4) (T := TX4) (N := 20) X.1 X.2.1 X.2.2.2.2 hin X.2.2.2.1 hK hP 0 rfl rfl 11 (by decide) (X.2.2.2.2 _ hlk) (fun _ h => h) rfl hdg kk
theorem gX4_below (X : CallFix p m c cc nL s args Ts own) (hin : ∀ w ∈ wsX40, w ∈ Ts) (hK : va_K D vwCl (mT k) s) (hP : va_P D vwCl (mW k a μ) H) (hlk : Cond.fieldLink own index "MarginTableModel" "below" "J" ∈ Ts) (hdg : decode cc pc = .ok (.getfield index, 3)) (kk : W p l e R s m args below meth c H locs cells slots Q (F0 m (pc + 3) ls (.long (m_bl μ) :: rest))) : W p l e R s m args below meth c H locs cells slots Q (F0 m pc ls (.ref (a 0) :: rest)) := va_get (D := D) (ci := 3) (v := .long (m_bl μ)) (C := RX4) (T := TX4) (N := 20) X.1 X.2.1 X.2.2.2.2 hin X.2.2.2.1 hK hP 0 rfl rfl 12 (by decide) (X.2.2.2.2 _ hlk) (fun _ h => h) rfl hdg kk
theorem pX4_below {v : Int64} (X : CallFix p m c cc nL s args Ts own) (hin : ∀ w ∈ wsX40, w ∈ Ts) (hK : va_K D vwCl (mT k) s) (hP : va_P D vwCl (mW k a μ) H) (hD : va_D A (mW k a μ)) (hS : va_S A s.heap H locs) (hlk : Cond.fieldLink own index "MarginTableModel" "below" "J" ∈ Ts) (he : μ1 = n_bl μ v) (hdg : decode cc pc = .ok (.putfield index, 3)) (kk : ∀ (H1 : Heap) (locs1 : List Loc), va_P D vwCl (mW k a μ1) H1 → va_D A (mW k a μ1) → va_S A s.heap H1 locs1 → W p l e R s m args below meth c H1 locs1 cells slots Q (F0 m (pc + 3) ls rest)) : W p l e R s m args below meth c H locs cells slots Q (F0 m pc ls (.long v :: .ref (a 0) :: rest)) := by
  subst he
  exact va_put (D := D) (ci := 3) (v := .long v) (ty := .long) (C := RX4) (T := TX4) (N := 20) X.1 X.2.1 X.2.2.2.2 hin tyX4 tyX4_ok nmX4 X.2.2.2.1 hK hP hD hS 0 rfl rfl 12 (by decide) (X.2.2.2.2 _ hlk) (fun _ h => h) rfl (by decide +kernel) rfl rfl (Nat.le_of_ble_eq_true rfl) hdg (fun H1 locs1 h1 h2 h3 => kk H1 locs1 h1 h2 h3)
theorem gX4_tells (X : CallFix p m c cc nL s args Ts own) (hin : ∀ w ∈ wsX40, w ∈ Ts) (hK : va_K D vwCl (mT k) s) (hP : va_P D vwCl (mW k a μ) H) (hlk : Cond.fieldLink own index "MarginTableModel" "tells" "[I" ∈ Ts) (hdg : decode cc pc = .ok (.getfield index, 3)) (kk : W p l e R s m args below meth c H locs cells slots Q (F0 m (pc + 3) ls (.ref (a 5) :: rest))) : W p l e R s m args below meth c H locs cells slots Q (F0 m pc ls (.ref (a 0) :: rest)) := va_get (D := D) (ci := 3) (v := .ref (a 5)) (C := RX4) (T := TX4) (N := 20) X.1 X.2.1 X.2.2.2.2 hin X.2.2.2.1 hK hP 0 rfl rfl 13 (by decide) (X.2.2.2.2 _ hlk) (fun _ h => h) rfl hdg kk
theorem gX4_steps (X : CallFix p m c cc nL s args Ts own) (hin : ∀ w ∈ wsX40, w ∈ Ts) (hK : va_K D vwCl (mT k) s) (hP : va_P D vwCl (mW k a μ) H) (hlk : Cond.fieldLink own index "MarginTableModel" "steps" "I" ∈ Ts) (hdg : decode cc pc = .ok (.getfield index, 3)) (kk : W p l e R s m args below meth c H locs cells slots Q (F0 m (pc + 3) ls (.int (m_st μ) :: rest))) : W p l e R s m args below meth c H locs cells slots Q (F0 m pc ls (.ref (a 0) :: rest)) := va_get (D := D) (ci := 3) (v := .int (m_st μ)) (C := RX4) (T := TX4) (N := 20) X.1 X.2.1 X.2.2.2.2 hin X.2.2.2.1 hK hP 0 rfl rfl 14 (by decide) (X.2.2.2.2 _ hlk) (fun _ h => h) rfl hdg kk
theorem pX4_steps {v : Int32} (X : CallFix p m c cc nL s args Ts own) (hin : ∀ w ∈ wsX40, w ∈ Ts) (hK : va_K D vwCl (mT k) s) (hP : va_P D vwCl (mW k a μ) H) (hD : va_D A (mW k a μ)) (hS : va_S A s.heap H locs) (hlk : Cond.fieldLink own index "MarginTableModel" "steps" "I" ∈ Ts) (he : μ1 = n_st μ v) (hdg : decode cc pc = .ok (.putfield index, 3)) (kk : ∀ (H1 : Heap) (locs1 : List Loc), va_P D vwCl (mW k a μ1) H1 → va_D A (mW k a μ1) → va_S A s.heap H1 locs1 → W p l e R s m args below meth c H1 locs1 cells slots Q (F0 m (pc + 3) ls rest)) : W p l e R s m args below meth c H locs cells slots Q (F0 m pc ls (.int v :: .ref (a 0) :: rest)) := by
  subst he
  exact va_put (D := D) (ci := 3) (v := .int v) (ty := .int) (C := RX4) (T := TX4) (N := 20) X.1 X.2.1 X.2.2.2.2 hin tyX4 tyX4_ok nmX4 X.2.2.2.1 hK hP hD hS 0 rfl rfl 14 (by decide) (X.2.2.2.2 _ hlk) (fun _ h => h) rfl (by decide +kernel) rfl rfl (Nat.le_of_ble_eq_true rfl) hdg (fun H1 locs1 h1 h2 h3 => kk H1 locs1 h1 h2 h3)
theorem gX4_entered (X : CallFix p m c cc nL s args Ts own) (hin : ∀ w ∈ wsX40, w ∈ Ts) (hK : va_K D vwCl (mT k) s) (hP : va_P D vwCl (mW k a μ) H) (hlk : Cond.fieldLink own index "MarginTableModel" "entered" "[I" ∈ Ts) (hdg : decode cc pc = .ok (.getfield index, 3)) (kk : W p l e R s m args below meth c H locs cells slots Q (F0 m (pc + 3) ls (.ref (a 6) :: rest))) : W p l e R s m args below meth c H locs cells slots Q (F0 m pc ls (.ref (a 0) :: rest)) := va_get (D := D) (ci := 3) (v := .ref (a 6)) (C := RX4) (T := TX4) (N := 20) X.1 X.2.1 X.2.2.2.2 hin X.2.2.2.1 hK hP 0 rfl rfl 15 (by decide) (X.2.2.2.2 _ hlk) (fun _ h => h) rfl hdg kk
theorem gX4_left (X : CallFix p m c cc nL s args Ts own) (hin : ∀ w ∈ wsX40, w ∈ Ts) (hK : va_K D vwCl (mT k) s) (hP : va_P D vwCl (mW k a μ) H) (hlk : Cond.fieldLink own index "MarginTableModel" "left" "[I" ∈ Ts) (hdg : decode cc pc = .ok (.getfield index, 3)) (kk : W p l e R s m args below meth c H locs cells slots Q (F0 m (pc + 3) ls (.ref (a 7) :: rest))) : W p l e R s m args below meth c H locs cells slots Q (F0 m pc ls (.ref (a 0) :: rest)) := va_get (D := D) (ci := 3) (v := .ref (a 7)) (C := RX4) (T := TX4) (N := 20) X.1 X.2.1 X.2.2.2.2 hin X.2.2.2.1 hK hP 0 rfl rfl 16 (by decide) (X.2.2.2.2 _ hlk) (fun _ h => h) rfl hdg kk
theorem gX4_leftAt (X : CallFix p m c cc nL s args Ts own) (hin : ∀ w ∈ wsX40, w ∈ Ts) (hK : va_K D vwCl (mT k) s) (hP : va_P D vwCl (mW k a μ) H) (hlk : Cond.fieldLink own index "MarginTableModel" "leftAt" "[I" ∈ Ts) (hdg : decode cc pc = .ok (.getfield index, 3)) (kk : W p l e R s m args below meth c H locs cells slots Q (F0 m (pc + 3) ls (.ref (a 8) :: rest))) : W p l e R s m args below meth c H locs cells slots Q (F0 m pc ls (.ref (a 0) :: rest)) := va_get (D := D) (ci := 3) (v := .ref (a 8)) (C := RX4) (T := TX4) (N := 20) X.1 X.2.1 X.2.2.2.2 hin X.2.2.2.1 hK hP 0 rfl rfl 17 (by decide) (X.2.2.2.2 _ hlk) (fun _ h => h) rfl hdg kk
theorem gX4_high (X : CallFix p m c cc nL s args Ts own) (hin : ∀ w ∈ wsX40, w ∈ Ts) (hK : va_K D vwCl (mT k) s) (hP : va_P D vwCl (mW k a μ) H) (hlk : Cond.fieldLink own index "MarginTableModel" "high" "J" ∈ Ts) (hdg : decode cc pc = .ok (.getfield index, 3)) (kk : W p l e R s m args below meth c H locs cells slots Q (F0 m (pc + 3) ls (.long (m_hi μ) :: rest))) : W p l e R s m args below meth c H locs cells slots Q (F0 m pc ls (.ref (a 0) :: rest)) := va_get (D := D) (ci := 3) (v := .long (m_hi μ)) (C := RX4) (T := TX4) (N := 20) X.1 X.2.1 X.2.2.2.2 hin X.2.2.2.1 hK hP 0 rfl rfl 18 (by decide) (X.2.2.2.2 _ hlk) (fun _ h => h) rfl hdg kk
theorem pX4_high {v : Int64} (X : CallFix p m c cc nL s args Ts own) (hin : ∀ w ∈ wsX40, w ∈ Ts) (hK : va_K D vwCl (mT k) s) (hP : va_P D vwCl (mW k a μ) H) (hD : va_D A (mW k a μ)) (hS : va_S A s.heap H locs) (hlk : Cond.fieldLink own index "MarginTableModel" "high" "J" ∈ Ts) (he : μ1 = n_hi μ v) (hdg : decode cc pc = .ok (.putfield index, 3)) (kk : ∀ (H1 : Heap) (locs1 : List Loc), va_P D vwCl (mW k a μ1) H1 → va_D A (mW k a μ1) → va_S A s.heap H1 locs1 → W p l e R s m args below meth c H1 locs1 cells slots Q (F0 m (pc + 3) ls rest)) : W p l e R s m args below meth c H locs cells slots Q (F0 m pc ls (.long v :: .ref (a 0) :: rest)) := by
  subst he
  exact va_put (D := D) (ci := 3) (v := .long v) (ty := .long) (C := RX4) (T := TX4) (N := 20) X.1 X.2.1 X.2.2.2.2 hin tyX4 tyX4_ok nmX4 X.2.2.2.1 hK hP hD hS 0 rfl rfl 18 (by decide) (X.2.2.2.2 _ hlk) (fun _ h => h) rfl (by decide +kernel) rfl rfl (Nat.le_of_ble_eq_true rfl) hdg (fun H1 locs1 h1 h2 h3 => kk H1 locs1 h1 h2 h3)
theorem gX4_low (X : CallFix p m c cc nL s args Ts own) (hin : ∀ w ∈ wsX40, w ∈ Ts) (hK : va_K D vwCl (mT k) s) (hP : va_P D vwCl (mW k a μ) H) (hlk : Cond.fieldLink own index "MarginTableModel" "low" "J" ∈ Ts) (hdg : decode cc pc = .ok (.getfield index, 3)) (kk : W p l e R s m args below meth c H locs cells slots Q (F0 m (pc + 3) ls (.long (m_lo μ) :: rest))) : W p l e R s m args below meth c H locs cells slots Q (F0 m pc ls (.ref (a 0) :: rest)) := va_get (D := D) (ci := 3) (v := .long (m_lo μ)) (C := RX4) (T := TX4) (N := 20) X.1 X.2.1 X.2.2.2.2 hin X.2.2.2.1 hK hP 0 rfl rfl 19 (by decide) (X.2.2.2.2 _ hlk) (fun _ h => h) rfl hdg kk
theorem pX4_low {v : Int64} (X : CallFix p m c cc nL s args Ts own) (hin : ∀ w ∈ wsX40, w ∈ Ts) (hK : va_K D vwCl (mT k) s) (hP : va_P D vwCl (mW k a μ) H) (hD : va_D A (mW k a μ)) (hS : va_S A s.heap H locs) (hlk : Cond.fieldLink own index "MarginTableModel" "low" "J" ∈ Ts) (he : μ1 = n_lo μ v) (hdg : decode cc pc = .ok (.putfield index, 3)) (kk : ∀ (H1 : Heap) (locs1 : List Loc), va_P D vwCl (mW k a μ1) H1 → va_D A (mW k a μ1) → va_S A s.heap H1 locs1 → W p l e R s m args below meth c H1 locs1 cells slots Q (F0 m (pc + 3) ls rest)) : W p l e R s m args below meth c H locs cells slots Q (F0 m pc ls (.long v :: .ref (a 0) :: rest)) := by
  subst he
  exact va_put (D := D) (ci := 3) (v := .long v) (ty := .long) (C := RX4) (T := TX4) (N := 20) X.1 X.2.1 X.2.2.2.2 hin tyX4 tyX4_ok nmX4 X.2.2.2.1 hK hP hD hS 0 rfl rfl 19 (by decide) (X.2.2.2.2 _ hlk) (fun _ h => h) rfl (by decide +kernel) rfl rfl (Nat.le_of_ble_eq_true rfl) hdg (fun H1 locs1 h1 h2 h3 => kk H1 locs1 h1 h2 h3)
theorem lc_xx {i : Int32} (X : CallFix p m c cc nL s args Ts own) (hK : va_K D vwCl (cT k) s) (hP : va_P D vwCl (cW k a ρ σ) H) (hi : inB i 6 = true) (hdg : decode cc pc = .ok (.iaload, 1)) (kk : W p l e R s m args below meth c H locs cells slots Q (F0 m (pc + 1) ls (.int (c_xx σ i.toNatClampNeg) :: rest))) : W p l e R s m args below meth c H locs cells slots Q (F0 m pc ls (.int i :: .ref (a 3) :: rest)) := va_iald X.1 X.2.1 hK hP 3 0 rfl rfl (inB_in hi) hdg kk
theorem tc_xx {i : Int32} {v : Int32} (X : CallFix p m c cc nL s args Ts own) (hK : va_K D vwCl (cT k) s) (hP : va_P D vwCl (cW k a ρ σ) H) (hD : va_D A (cW k a ρ σ)) (hS : va_S A s.heap H locs) (hi : inB i 6 = true) (he : σ1 = s_xx σ (upd (c_xx σ) i.toNatClampNeg v)) (hdg : decode cc pc = .ok (.iastore, 1)) (kk : ∀ (H1 : Heap) (locs1 : List Loc), va_P D vwCl (cW k a ρ σ1) H1 → va_D A (cW k a ρ σ1) → va_S A s.heap H1 locs1 → W p l e R s m args below meth c H1 locs1 cells slots Q (F0 m (pc + 1) ls rest)) : W p l e R s m args below meth c H locs cells slots Q (F0 m pc ls (.int v :: .int i :: .ref (a 3) :: rest)) := by
  subst he
  exact va_iast X.1 X.2.1 hK hP hD hS 3 0 rfl rfl (inB_in hi) hdg (fun H1 locs1 h1 h2 h3 => kk H1 locs1 h1 h2 h3)
theorem lc_yy {i : Int32} (X : CallFix p m c cc nL s args Ts own) (hK : va_K D vwCl (cT k) s) (hP : va_P D vwCl (cW k a ρ σ) H) (hi : inB i 6 = true) (hdg : decode cc pc = .ok (.iaload, 1)) (kk : W p l e R s m args below meth c H locs cells slots Q (F0 m (pc + 1) ls (.int (c_yy σ i.toNatClampNeg) :: rest))) : W p l e R s m args below meth c H locs cells slots Q (F0 m pc ls (.int i :: .ref (a 4) :: rest)) := va_iald X.1 X.2.1 hK hP 4 1 rfl rfl (inB_in hi) hdg kk
theorem tc_yy {i : Int32} {v : Int32} (X : CallFix p m c cc nL s args Ts own) (hK : va_K D vwCl (cT k) s) (hP : va_P D vwCl (cW k a ρ σ) H) (hD : va_D A (cW k a ρ σ)) (hS : va_S A s.heap H locs) (hi : inB i 6 = true) (he : σ1 = s_yy σ (upd (c_yy σ) i.toNatClampNeg v)) (hdg : decode cc pc = .ok (.iastore, 1)) (kk : ∀ (H1 : Heap) (locs1 : List Loc), va_P D vwCl (cW k a ρ σ1) H1 → va_D A (cW k a ρ σ1) → va_S A s.heap H1 locs1 → W p l e R s m args below meth c H1 locs1 cells slots Q (F0 m (pc + 1) ls rest)) : W p l e R s m args below meth c H locs cells slots Q (F0 m pc ls (.int v :: .int i :: .ref (a 4) :: rest)) := by
  subst he
  exact va_iast X.1 X.2.1 hK hP hD hS 4 1 rfl rfl (inB_in hi) hdg (fun H1 locs1 h1 h2 h3 => kk H1 locs1 h1 h2 h3)
theorem lc_lb {i : Int32} (X : CallFix p m c cc nL s args Ts own) (hK : va_K D vwCl (cT k) s) (hP : va_P D vwCl (cW k a ρ σ) H) (hi : inB i 6 = true) (hdg : decode cc pc = .ok (.iaload, 1)) (kk : W p l e R s m args below meth c H locs cells slots Q (F0 m (pc + 1) ls (.int (c_lb σ i.toNatClampNeg) :: rest))) : W p l e R s m args below meth c H locs cells slots Q (F0 m pc ls (.int i :: .ref (a 5) :: rest)) := va_iald X.1 X.2.1 hK hP 5 2 rfl rfl (inB_in hi) hdg kk
theorem tc_lb {i : Int32} {v : Int32} (X : CallFix p m c cc nL s args Ts own) (hK : va_K D vwCl (cT k) s) (hP : va_P D vwCl (cW k a ρ σ) H) (hD : va_D A (cW k a ρ σ)) (hS : va_S A s.heap H locs) (hi : inB i 6 = true) (he : σ1 = s_lb σ (upd (c_lb σ) i.toNatClampNeg v)) (hdg : decode cc pc = .ok (.iastore, 1)) (kk : ∀ (H1 : Heap) (locs1 : List Loc), va_P D vwCl (cW k a ρ σ1) H1 → va_D A (cW k a ρ σ1) → va_S A s.heap H1 locs1 → W p l e R s m args below meth c H1 locs1 cells slots Q (F0 m (pc + 1) ls rest)) : W p l e R s m args below meth c H locs cells slots Q (F0 m pc ls (.int v :: .int i :: .ref (a 5) :: rest)) := by
  subst he
  exact va_iast X.1 X.2.1 hK hP hD hS 5 2 rfl rfl (inB_in hi) hdg (fun H1 locs1 h1 h2 h3 => kk H1 locs1 h1 h2 h3)
theorem lc_tl {i : Int32} (X : CallFix p m c cc nL s args Ts own) (hK : va_K D vwCl (cT k) s) (hP : va_P D vwCl (cW k a ρ σ) H) (hi : inB i 12 = true) (hdg : decode cc pc = .ok (.iaload, 1)) (kk : W p l e R s m args below meth c H locs cells slots Q (F0 m (pc + 1) ls (.int (c_tl σ i.toNatClampNeg) :: rest))) : W p l e R s m args below meth c H locs cells slots Q (F0 m pc ls (.int i :: .ref (a 6) :: rest)) := va_iald X.1 X.2.1 hK hP 6 3 rfl rfl (inB_in hi) hdg kk
theorem tc_tl {i : Int32} {v : Int32} (X : CallFix p m c cc nL s args Ts own) (hK : va_K D vwCl (cT k) s) (hP : va_P D vwCl (cW k a ρ σ) H) (hD : va_D A (cW k a ρ σ)) (hS : va_S A s.heap H locs) (hi : inB i 12 = true) (he : σ1 = s_tl σ (upd (c_tl σ) i.toNatClampNeg v)) (hdg : decode cc pc = .ok (.iastore, 1)) (kk : ∀ (H1 : Heap) (locs1 : List Loc), va_P D vwCl (cW k a ρ σ1) H1 → va_D A (cW k a ρ σ1) → va_S A s.heap H1 locs1 → W p l e R s m args below meth c H1 locs1 cells slots Q (F0 m (pc + 1) ls rest)) : W p l e R s m args below meth c H locs cells slots Q (F0 m pc ls (.int v :: .int i :: .ref (a 6) :: rest)) := by
  subst he
  exact va_iast X.1 X.2.1 hK hP hD hS 6 3 rfl rfl (inB_in hi) hdg (fun H1 locs1 h1 h2 h3 => kk H1 locs1 h1 h2 h3)
theorem lc_en {i : Int32} (X : CallFix p m c cc nL s args Ts own) (hK : va_K D vwCl (cT k) s) (hP : va_P D vwCl (cW k a ρ σ) H) (hi : inB i 200 = true) (hdg : decode cc pc = .ok (.iaload, 1)) (kk : W p l e R s m args below meth c H locs cells slots Q (F0 m (pc + 1) ls (.int (c_en σ i.toNatClampNeg) :: rest))) : W p l e R s m args below meth c H locs cells slots Q (F0 m pc ls (.int i :: .ref (a 7) :: rest)) := va_iald X.1 X.2.1 hK hP 7 4 rfl rfl (inB_in hi) hdg kk
theorem tc_en {i : Int32} {v : Int32} (X : CallFix p m c cc nL s args Ts own) (hK : va_K D vwCl (cT k) s) (hP : va_P D vwCl (cW k a ρ σ) H) (hD : va_D A (cW k a ρ σ)) (hS : va_S A s.heap H locs) (hi : inB i 200 = true) (he : σ1 = s_en σ (upd (c_en σ) i.toNatClampNeg v)) (hdg : decode cc pc = .ok (.iastore, 1)) (kk : ∀ (H1 : Heap) (locs1 : List Loc), va_P D vwCl (cW k a ρ σ1) H1 → va_D A (cW k a ρ σ1) → va_S A s.heap H1 locs1 → W p l e R s m args below meth c H1 locs1 cells slots Q (F0 m (pc + 1) ls rest)) : W p l e R s m args below meth c H locs cells slots Q (F0 m pc ls (.int v :: .int i :: .ref (a 7) :: rest)) := by
  subst he
  exact va_iast X.1 X.2.1 hK hP hD hS 7 4 rfl rfl (inB_in hi) hdg (fun H1 locs1 h1 h2 h3 => kk H1 locs1 h1 h2 h3)
theorem lc_lf {i : Int32} (X : CallFix p m c cc nL s args Ts own) (hK : va_K D vwCl (cT k) s) (hP : va_P D vwCl (cW k a ρ σ) H) (hi : inB i 200 = true) (hdg : decode cc pc = .ok (.iaload, 1)) (kk : W p l e R s m args below meth c H locs cells slots Q (F0 m (pc + 1) ls (.int (c_lf σ i.toNatClampNeg) :: rest))) : W p l e R s m args below meth c H locs cells slots Q (F0 m pc ls (.int i :: .ref (a 8) :: rest)) := va_iald X.1 X.2.1 hK hP 8 5 rfl rfl (inB_in hi) hdg kk
theorem tc_lf {i : Int32} {v : Int32} (X : CallFix p m c cc nL s args Ts own) (hK : va_K D vwCl (cT k) s) (hP : va_P D vwCl (cW k a ρ σ) H) (hD : va_D A (cW k a ρ σ)) (hS : va_S A s.heap H locs) (hi : inB i 200 = true) (he : σ1 = s_lf σ (upd (c_lf σ) i.toNatClampNeg v)) (hdg : decode cc pc = .ok (.iastore, 1)) (kk : ∀ (H1 : Heap) (locs1 : List Loc), va_P D vwCl (cW k a ρ σ1) H1 → va_D A (cW k a ρ σ1) → va_S A s.heap H1 locs1 → W p l e R s m args below meth c H1 locs1 cells slots Q (F0 m (pc + 1) ls rest)) : W p l e R s m args below meth c H locs cells slots Q (F0 m pc ls (.int v :: .int i :: .ref (a 8) :: rest)) := by
  subst he
  exact va_iast X.1 X.2.1 hK hP hD hS 8 5 rfl rfl (inB_in hi) hdg (fun H1 locs1 h1 h2 h3 => kk H1 locs1 h1 h2 h3)
theorem lc_ta {i : Int32} (X : CallFix p m c cc nL s args Ts own) (hK : va_K D vwCl (cT k) s) (hP : va_P D vwCl (cW k a ρ σ) H) (hi : inB i 200 = true) (hdg : decode cc pc = .ok (.iaload, 1)) (kk : W p l e R s m args below meth c H locs cells slots Q (F0 m (pc + 1) ls (.int (c_ta σ i.toNatClampNeg) :: rest))) : W p l e R s m args below meth c H locs cells slots Q (F0 m pc ls (.int i :: .ref (a 9) :: rest)) := va_iald X.1 X.2.1 hK hP 9 6 rfl rfl (inB_in hi) hdg kk
theorem tc_ta {i : Int32} {v : Int32} (X : CallFix p m c cc nL s args Ts own) (hK : va_K D vwCl (cT k) s) (hP : va_P D vwCl (cW k a ρ σ) H) (hD : va_D A (cW k a ρ σ)) (hS : va_S A s.heap H locs) (hi : inB i 200 = true) (he : σ1 = s_ta σ (upd (c_ta σ) i.toNatClampNeg v)) (hdg : decode cc pc = .ok (.iastore, 1)) (kk : ∀ (H1 : Heap) (locs1 : List Loc), va_P D vwCl (cW k a ρ σ1) H1 → va_D A (cW k a ρ σ1) → va_S A s.heap H1 locs1 → W p l e R s m args below meth c H1 locs1 cells slots Q (F0 m (pc + 1) ls rest)) : W p l e R s m args below meth c H locs cells slots Q (F0 m pc ls (.int v :: .int i :: .ref (a 9) :: rest)) := by
  subst he
  exact va_iast X.1 X.2.1 hK hP hD hS 9 6 rfl rfl (inB_in hi) hdg (fun H1 locs1 h1 h2 h3 => kk H1 locs1 h1 h2 h3)
theorem lm_px {i : Int32} (X : CallFix p m c cc nL s args Ts own) (hK : va_K D vwCl (mT k) s) (hP : va_P D vwCl (mW k a μ) H) (hi : inB i 6 = true) (hdg : decode cc pc = .ok (.iaload, 1)) (kk : W p l e R s m args below meth c H locs cells slots Q (F0 m (pc + 1) ls (.int (m_px μ i.toNatClampNeg) :: rest))) : W p l e R s m args below meth c H locs cells slots Q (F0 m pc ls (.int i :: .ref (a 1) :: rest)) := va_iald X.1 X.2.1 hK hP 1 0 rfl rfl (inB_in hi) hdg kk
theorem tm_px {i : Int32} {v : Int32} (X : CallFix p m c cc nL s args Ts own) (hK : va_K D vwCl (mT k) s) (hP : va_P D vwCl (mW k a μ) H) (hD : va_D A (mW k a μ)) (hS : va_S A s.heap H locs) (hi : inB i 6 = true) (he : μ1 = n_px μ (upd (m_px μ) i.toNatClampNeg v)) (hdg : decode cc pc = .ok (.iastore, 1)) (kk : ∀ (H1 : Heap) (locs1 : List Loc), va_P D vwCl (mW k a μ1) H1 → va_D A (mW k a μ1) → va_S A s.heap H1 locs1 → W p l e R s m args below meth c H1 locs1 cells slots Q (F0 m (pc + 1) ls rest)) : W p l e R s m args below meth c H locs cells slots Q (F0 m pc ls (.int v :: .int i :: .ref (a 1) :: rest)) := by
  subst he
  exact va_iast X.1 X.2.1 hK hP hD hS 1 0 rfl rfl (inB_in hi) hdg (fun H1 locs1 h1 h2 h3 => kk H1 locs1 h1 h2 h3)
theorem lm_py {i : Int32} (X : CallFix p m c cc nL s args Ts own) (hK : va_K D vwCl (mT k) s) (hP : va_P D vwCl (mW k a μ) H) (hi : inB i 6 = true) (hdg : decode cc pc = .ok (.iaload, 1)) (kk : W p l e R s m args below meth c H locs cells slots Q (F0 m (pc + 1) ls (.int (m_py μ i.toNatClampNeg) :: rest))) : W p l e R s m args below meth c H locs cells slots Q (F0 m pc ls (.int i :: .ref (a 2) :: rest)) := va_iald X.1 X.2.1 hK hP 2 1 rfl rfl (inB_in hi) hdg kk
theorem tm_py {i : Int32} {v : Int32} (X : CallFix p m c cc nL s args Ts own) (hK : va_K D vwCl (mT k) s) (hP : va_P D vwCl (mW k a μ) H) (hD : va_D A (mW k a μ)) (hS : va_S A s.heap H locs) (hi : inB i 6 = true) (he : μ1 = n_py μ (upd (m_py μ) i.toNatClampNeg v)) (hdg : decode cc pc = .ok (.iastore, 1)) (kk : ∀ (H1 : Heap) (locs1 : List Loc), va_P D vwCl (mW k a μ1) H1 → va_D A (mW k a μ1) → va_S A s.heap H1 locs1 → W p l e R s m args below meth c H1 locs1 cells slots Q (F0 m (pc + 1) ls rest)) : W p l e R s m args below meth c H locs cells slots Q (F0 m pc ls (.int v :: .int i :: .ref (a 2) :: rest)) := by
  subst he
  exact va_iast X.1 X.2.1 hK hP hD hS 2 1 rfl rfl (inB_in hi) hdg (fun H1 locs1 h1 h2 h3 => kk H1 locs1 h1 h2 h3)
theorem lm_lb {i : Int32} (X : CallFix p m c cc nL s args Ts own) (hK : va_K D vwCl (mT k) s) (hP : va_P D vwCl (mW k a μ) H) (hi : inB i 6 = true) (hdg : decode cc pc = .ok (.iaload, 1)) (kk : W p l e R s m args below meth c H locs cells slots Q (F0 m (pc + 1) ls (.int (m_lb μ i.toNatClampNeg) :: rest))) : W p l e R s m args below meth c H locs cells slots Q (F0 m pc ls (.int i :: .ref (a 3) :: rest)) := va_iald X.1 X.2.1 hK hP 3 2 rfl rfl (inB_in hi) hdg kk
theorem tm_lb {i : Int32} {v : Int32} (X : CallFix p m c cc nL s args Ts own) (hK : va_K D vwCl (mT k) s) (hP : va_P D vwCl (mW k a μ) H) (hD : va_D A (mW k a μ)) (hS : va_S A s.heap H locs) (hi : inB i 6 = true) (he : μ1 = n_lb μ (upd (m_lb μ) i.toNatClampNeg v)) (hdg : decode cc pc = .ok (.iastore, 1)) (kk : ∀ (H1 : Heap) (locs1 : List Loc), va_P D vwCl (mW k a μ1) H1 → va_D A (mW k a μ1) → va_S A s.heap H1 locs1 → W p l e R s m args below meth c H1 locs1 cells slots Q (F0 m (pc + 1) ls rest)) : W p l e R s m args below meth c H locs cells slots Q (F0 m pc ls (.int v :: .int i :: .ref (a 3) :: rest)) := by
  subst he
  exact va_iast X.1 X.2.1 hK hP hD hS 3 2 rfl rfl (inB_in hi) hdg (fun H1 locs1 h1 h2 h3 => kk H1 locs1 h1 h2 h3)
theorem lm_tb {i : Int32} (X : CallFix p m c cc nL s args Ts own) (hK : va_K D vwCl (mT k) s) (hP : va_P D vwCl (mW k a μ) H) (hi : inB i 312 = true) (hdg : decode cc pc = .ok (.laload, 1)) (kk : W p l e R s m args below meth c H locs cells slots Q (F0 m (pc + 1) ls (.long (m_tb μ i.toNatClampNeg) :: rest))) : W p l e R s m args below meth c H locs cells slots Q (F0 m pc ls (.int i :: .ref (a 4) :: rest)) := va_lald X.1 X.2.1 hK hP 4 3 rfl rfl (inB_in hi) hdg kk
theorem tm_tb {i : Int32} {v : Int64} (X : CallFix p m c cc nL s args Ts own) (hK : va_K D vwCl (mT k) s) (hP : va_P D vwCl (mW k a μ) H) (hD : va_D A (mW k a μ)) (hS : va_S A s.heap H locs) (hi : inB i 312 = true) (he : μ1 = n_tb μ (vp_updL (m_tb μ) i.toNatClampNeg v)) (hdg : decode cc pc = .ok (.lastore, 1)) (kk : ∀ (H1 : Heap) (locs1 : List Loc), va_P D vwCl (mW k a μ1) H1 → va_D A (mW k a μ1) → va_S A s.heap H1 locs1 → W p l e R s m args below meth c H1 locs1 cells slots Q (F0 m (pc + 1) ls rest)) : W p l e R s m args below meth c H locs cells slots Q (F0 m pc ls (.long v :: .int i :: .ref (a 4) :: rest)) := by
  subst he
  exact va_last X.1 X.2.1 hK hP hD hS 4 3 rfl rfl (inB_in hi) hdg (fun H1 locs1 h1 h2 h3 => kk H1 locs1 h1 h2 h3)
theorem lm_tl {i : Int32} (X : CallFix p m c cc nL s args Ts own) (hK : va_K D vwCl (mT k) s) (hP : va_P D vwCl (mW k a μ) H) (hi : inB i 12 = true) (hdg : decode cc pc = .ok (.iaload, 1)) (kk : W p l e R s m args below meth c H locs cells slots Q (F0 m (pc + 1) ls (.int (m_tl μ i.toNatClampNeg) :: rest))) : W p l e R s m args below meth c H locs cells slots Q (F0 m pc ls (.int i :: .ref (a 5) :: rest)) := va_iald X.1 X.2.1 hK hP 5 4 rfl rfl (inB_in hi) hdg kk
theorem tm_tl {i : Int32} {v : Int32} (X : CallFix p m c cc nL s args Ts own) (hK : va_K D vwCl (mT k) s) (hP : va_P D vwCl (mW k a μ) H) (hD : va_D A (mW k a μ)) (hS : va_S A s.heap H locs) (hi : inB i 12 = true) (he : μ1 = n_tl μ (upd (m_tl μ) i.toNatClampNeg v)) (hdg : decode cc pc = .ok (.iastore, 1)) (kk : ∀ (H1 : Heap) (locs1 : List Loc), va_P D vwCl (mW k a μ1) H1 → va_D A (mW k a μ1) → va_S A s.heap H1 locs1 → W p l e R s m args below meth c H1 locs1 cells slots Q (F0 m (pc + 1) ls rest)) : W p l e R s m args below meth c H locs cells slots Q (F0 m pc ls (.int v :: .int i :: .ref (a 5) :: rest)) := by
  subst he
  exact va_iast X.1 X.2.1 hK hP hD hS 5 4 rfl rfl (inB_in hi) hdg (fun H1 locs1 h1 h2 h3 => kk H1 locs1 h1 h2 h3)
theorem lm_en {i : Int32} (X : CallFix p m c cc nL s args Ts own) (hK : va_K D vwCl (mT k) s) (hP : va_P D vwCl (mW k a μ) H) (hi : inB i 200 = true) (hdg : decode cc pc = .ok (.iaload, 1)) (kk : W p l e R s m args below meth c H locs cells slots Q (F0 m (pc + 1) ls (.int (m_en μ i.toNatClampNeg) :: rest))) : W p l e R s m args below meth c H locs cells slots Q (F0 m pc ls (.int i :: .ref (a 6) :: rest)) := va_iald X.1 X.2.1 hK hP 6 5 rfl rfl (inB_in hi) hdg kk
theorem tm_en {i : Int32} {v : Int32} (X : CallFix p m c cc nL s args Ts own) (hK : va_K D vwCl (mT k) s) (hP : va_P D vwCl (mW k a μ) H) (hD : va_D A (mW k a μ)) (hS : va_S A s.heap H locs) (hi : inB i 200 = true) (he : μ1 = n_en μ (upd (m_en μ) i.toNatClampNeg v)) (hdg : decode cc pc = .ok (.iastore, 1)) (kk : ∀ (H1 : Heap) (locs1 : List Loc), va_P D vwCl (mW k a μ1) H1 → va_D A (mW k a μ1) → va_S A s.heap H1 locs1 → W p l e R s m args below meth c H1 locs1 cells slots Q (F0 m (pc + 1) ls rest)) : W p l e R s m args below meth c H locs cells slots Q (F0 m pc ls (.int v :: .int i :: .ref (a 6) :: rest)) := by
  subst he
  exact va_iast X.1 X.2.1 hK hP hD hS 6 5 rfl rfl (inB_in hi) hdg (fun H1 locs1 h1 h2 h3 => kk H1 locs1 h1 h2 h3)
theorem lm_lf {i : Int32} (X : CallFix p m c cc nL s args Ts own) (hK : va_K D vwCl (mT k) s) (hP : va_P D vwCl (mW k a μ) H) (hi : inB i 200 = true) (hdg : decode cc pc = .ok (.iaload, 1)) (kk : W p l e R s m args below meth c H locs cells slots Q (F0 m (pc + 1) ls (.int (m_lf μ i.toNatClampNeg) :: rest))) : W p l e R s m args below meth c H locs cells slots Q (F0 m pc ls (.int i :: .ref (a 7) :: rest)) := va_iald X.1 X.2.1 hK hP 7 6 rfl rfl (inB_in hi) hdg kk
theorem tm_lf {i : Int32} {v : Int32} (X : CallFix p m c cc nL s args Ts own) (hK : va_K D vwCl (mT k) s) (hP : va_P D vwCl (mW k a μ) H) (hD : va_D A (mW k a μ)) (hS : va_S A s.heap H locs) (hi : inB i 200 = true) (he : μ1 = n_lf μ (upd (m_lf μ) i.toNatClampNeg v)) (hdg : decode cc pc = .ok (.iastore, 1)) (kk : ∀ (H1 : Heap) (locs1 : List Loc), va_P D vwCl (mW k a μ1) H1 → va_D A (mW k a μ1) → va_S A s.heap H1 locs1 → W p l e R s m args below meth c H1 locs1 cells slots Q (F0 m (pc + 1) ls rest)) : W p l e R s m args below meth c H locs cells slots Q (F0 m pc ls (.int v :: .int i :: .ref (a 7) :: rest)) := by
  subst he
  exact va_iast X.1 X.2.1 hK hP hD hS 7 6 rfl rfl (inB_in hi) hdg (fun H1 locs1 h1 h2 h3 => kk H1 locs1 h1 h2 h3)
theorem lm_la {i : Int32} (X : CallFix p m c cc nL s args Ts own) (hK : va_K D vwCl (mT k) s) (hP : va_P D vwCl (mW k a μ) H) (hi : inB i 200 = true) (hdg : decode cc pc = .ok (.iaload, 1)) (kk : W p l e R s m args below meth c H locs cells slots Q (F0 m (pc + 1) ls (.int (m_la μ i.toNatClampNeg) :: rest))) : W p l e R s m args below meth c H locs cells slots Q (F0 m pc ls (.int i :: .ref (a 8) :: rest)) := va_iald X.1 X.2.1 hK hP 8 7 rfl rfl (inB_in hi) hdg kk
theorem tm_la {i : Int32} {v : Int32} (X : CallFix p m c cc nL s args Ts own) (hK : va_K D vwCl (mT k) s) (hP : va_P D vwCl (mW k a μ) H) (hD : va_D A (mW k a μ)) (hS : va_S A s.heap H locs) (hi : inB i 200 = true) (he : μ1 = n_la μ (upd (m_la μ) i.toNatClampNeg v)) (hdg : decode cc pc = .ok (.iastore, 1)) (kk : ∀ (H1 : Heap) (locs1 : List Loc), va_P D vwCl (mW k a μ1) H1 → va_D A (mW k a μ1) → va_S A s.heap H1 locs1 → W p l e R s m args below meth c H1 locs1 cells slots Q (F0 m (pc + 1) ls rest)) : W p l e R s m args below meth c H locs cells slots Q (F0 m pc ls (.int v :: .int i :: .ref (a 8) :: rest)) := by
  subst he
  exact va_iast X.1 X.2.1 hK hP hD hS 8 7 rfl rfl (inB_in hi) hdg (fun H1 locs1 h1 h2 h3 => kk H1 locs1 h1 h2 h3)
theorem lc_cell {i : Int32} (X : CallFix p m c cc nL s args Ts own) (hK : va_K D vwCl (cT k) s) (hP : va_P D vwCl (cW k a ρ σ) H) (hi : inB i 12 = true) (hdg : decode cc pc = .ok (.aaload, 1)) (kk : W p l e R s m args below meth c H locs cells slots Q (F0 m (pc + 1) ls (.ref (ρ i.toNatClampNeg) :: rest))) : W p l e R s m args below meth c H locs cells slots Q (F0 m pc ls (.int i :: .ref (a 10) :: rest)) := by
  refine va_aldA X.1 X.2.1 hK hP 10 7 rfl rfl (inB_in hi) hdg ?_
  have h : cO ρ i.toNatClampNeg = some (ρ i.toNatClampNeg) := if_pos (inB_lt hi)
  rw [h]
  exact kk
theorem lc_row {r i : Int32} (X : CallFix p m c cc nL s args Ts own) (hK : va_K D vwCl (cT k) s) (hP : va_P D vwCl (cW k a ρ σ) H) (hr : inB r 12 = true) (hi : inB i 26 = true) (hdg : decode cc pc = .ok (.laload, 1)) (kk : W p l e R s m args below meth c H locs cells slots Q (F0 m (pc + 1) ls (.long (c_gg σ r.toNatClampNeg i.toNatClampNeg) :: rest))) : W p l e R s m args below meth c H locs cells slots Q (F0 m pc ls (.int i :: .ref (ρ r.toNatClampNeg) :: rest)) := va_lald X.1 X.2.1 hK hP (11 + r.toNatClampNeg) 8 (cW_row (inB_lt hr)) rfl (inB_in hi) hdg kk
theorem tc_row {r i : Int32} {v : Int64} (X : CallFix p m c cc nL s args Ts own) (hK : va_K D vwCl (cT k) s) (hP : va_P D vwCl (cW k a ρ σ) H) (hD : va_D A (cW k a ρ σ)) (hS : va_S A s.heap H locs) (hr : inB r 12 = true) (hi : inB i 26 = true) (he : σ1 = s_gg σ (upG (c_gg σ) r.toNatClampNeg i.toNatClampNeg v)) (hdg : decode cc pc = .ok (.lastore, 1)) (kk : ∀ (H1 : Heap) (locs1 : List Loc), va_P D vwCl (cW k a ρ σ1) H1 → va_D A (cW k a ρ σ1) → va_S A s.heap H1 locs1 → W p l e R s m args below meth c H1 locs1 cells slots Q (F0 m (pc + 1) ls rest)) : W p l e R s m args below meth c H locs cells slots Q (F0 m pc ls (.long v :: .int i :: .ref (ρ r.toNatClampNeg) :: rest)) := by
  subst he
  refine va_last X.1 X.2.1 hK hP hD hS (11 + r.toNatClampNeg) 8 (cW_row (inB_lt hr)) rfl (inB_in hi) hdg (fun H1 locs1 h1 h2 h3 => ?_)
  rw [cW_setrow (inB_lt hr)] at h1 h2
  exact kk H1 locs1 h1 h2 h3
end RW
end
section
theorem zz_ok : True := trivial
end
