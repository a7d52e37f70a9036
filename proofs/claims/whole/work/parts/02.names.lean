def isNest (w : Cond) : Bool := match w with
  | .fieldLinkNest .. => true
  | .methodLinkNest .. => true
  | _ => false
def gtb : List Cond := lw_tbl.filter goodWord
def ntb : List Cond := lw_tbl.filter isNest
theorem gtb_lw {w : Cond} (h : w ∈ gtb) : w ∈ lw_tbl := (List.mem_filter.mp h).1
theorem ntb_lw {w : Cond} (h : w ∈ ntb) : w ∈ lw_tbl := (List.mem_filter.mp h).1
theorem mem_tb {w : Cond} (i : Nat) (h : tables_1[i]? = some w) (hg : goodWord w = true) : w ∈ gtb := List.mem_filter.mpr ⟨List.mem_append_right _ (List.mem_of_getElem? h), hg⟩
theorem mem_nt {w : Cond} (i : Nat) (h : tables_1[i]? = some w) (hg : isNest w = true) : w ∈ ntb := List.mem_filter.mpr ⟨List.mem_append_right _ (List.mem_of_getElem? h), hg⟩
theorem tb_1 {w : Cond} (h : w ∈ tables_1_1) : w ∈ tables_1 := List.mem_append_left _ h
theorem mem_t1 {w : Cond} (i : Nat) (h : tables_1_1[i]? = some w) (hg : goodWord w = true) : w ∈ gtb := List.mem_filter.mpr ⟨List.mem_append_right _ (tb_1 (List.mem_of_getElem? h)), hg⟩
theorem mem_n1 {w : Cond} (i : Nat) (h : tables_1_1[i]? = some w) (hg : isNest w = true) : w ∈ ntb := List.mem_filter.mpr ⟨List.mem_append_right _ (tb_1 (List.mem_of_getElem? h)), hg⟩
theorem tb_2 {w : Cond} (h : w ∈ tables_1_2) : w ∈ tables_1 := List.mem_append_right _ (List.mem_append_left _ h)
theorem mem_t2 {w : Cond} (i : Nat) (h : tables_1_2[i]? = some w) (hg : goodWord w = true) : w ∈ gtb := List.mem_filter.mpr ⟨List.mem_append_right _ (tb_2 (List.mem_of_getElem? h)), hg⟩
theorem mem_n2 {w : Cond} (i : Nat) (h : tables_1_2[i]? = some w) (hg : isNest w = true) : w ∈ ntb := List.mem_filter.mpr ⟨List.mem_append_right _ (tb_2 (List.mem_of_getElem? h)), hg⟩
theorem tb_3 {w : Cond} (h : w ∈ tables_1_3) : w ∈ tables_1 := List.mem_append_right _ (List.mem_append_right _ (List.mem_append_left _ h))
theorem mem_t3 {w : Cond} (i : Nat) (h : tables_1_3[i]? = some w) (hg : goodWord w = true) : w ∈ gtb := List.mem_filter.mpr ⟨List.mem_append_right _ (tb_3 (List.mem_of_getElem? h)), hg⟩
theorem mem_n3 {w : Cond} (i : Nat) (h : tables_1_3[i]? = some w) (hg : isNest w = true) : w ∈ ntb := List.mem_filter.mpr ⟨List.mem_append_right _ (tb_3 (List.mem_of_getElem? h)), hg⟩
theorem tb_4 {w : Cond} (h : w ∈ tables_1_4) : w ∈ tables_1 := List.mem_append_right _ (List.mem_append_right _ (List.mem_append_right _ (List.mem_append_left _ h)))
theorem mem_t4 {w : Cond} (i : Nat) (h : tables_1_4[i]? = some w) (hg : goodWord w = true) : w ∈ gtb := List.mem_filter.mpr ⟨List.mem_append_right _ (tb_4 (List.mem_of_getElem? h)), hg⟩
theorem mem_n4 {w : Cond} (i : Nat) (h : tables_1_4[i]? = some w) (hg : isNest w = true) : w ∈ ntb := List.mem_filter.mpr ⟨List.mem_append_right _ (tb_4 (List.mem_of_getElem? h)), hg⟩
theorem tb_5 {w : Cond} (h : w ∈ tables_1_5) : w ∈ tables_1 := List.mem_append_right _ (List.mem_append_right _ (List.mem_append_right _ (List.mem_append_right _ (h))))
theorem mem_t5 {w : Cond} (i : Nat) (h : tables_1_5[i]? = some w) (hg : goodWord w = true) : w ∈ gtb := List.mem_filter.mpr ⟨List.mem_append_right _ (tb_5 (List.mem_of_getElem? h)), hg⟩
theorem mem_n5 {w : Cond} (i : Nat) (h : tables_1_5[i]? = some w) (hg : isNest w = true) : w ∈ ntb := List.mem_filter.mpr ⟨List.mem_append_right _ (tb_5 (List.mem_of_getElem? h)), hg⟩
theorem mem_pv {y : MethodName} {n : Nat} (h : (y, n) ∈ lw_privs) : Cond.selects y.cls y y ∈ gtb := List.mem_filter.mpr ⟨List.mem_append_left _ (List.mem_map.mpr ⟨(y, n), h, rfl⟩), rfl⟩
theorem mem_ps {ws : List Cond} (ps : List Nat) (h : ws = ps.filterMap (fun i => tables_1[i]?)) (hg : ws.all goodWord = true) : ∀ w ∈ ws, w ∈ gtb := by
  intro w hw
  have h2 := List.all_eq_true.mp hg w hw
  rw [h] at hw
  obtain ⟨i, -, hi⟩ := List.mem_filterMap.mp hw
  exact mem_tb i hi h2
def RX0 : String := "CellPictures$Clues"
def TX0 : u_T := fun k => match k with
  | 0 => ("CellPictures$Clues", "counts", "[I", true)
  | 1 => ("CellPictures$Clues", "lengths", "[I", true)
  | 2 => ("CellPictures$Clues", "hues", "[I", true)
  | 3 => ("CellPictures$Clues", "width", "I", false)
  | 4 => ("CellPictures$Clues", "height", "I", false)
  | 5 => ("CellPictures$Clues", "colours", "I", false)
  | _ => ("CellPictures$Clues", "total", "I", false)
def tyX0 : Nat → FieldType := fun k => match k with
  | 0 => .array .int
  | 1 => .array .int
  | 2 => .array .int
  | 3 => .int
  | 4 => .int
  | 5 => .int
  | _ => .int
abbrev wsX00 : List Cond := u_ws RX0 TX0 7
theorem nmX0 : ∀ a, a < 7 → ∀ b, b < 7 → a ≠ b → (TX0 a).2.1 ≠ (TX0 b).2.1 := by decide +kernel
theorem tyX0_ok : ∀ k, k < 7 → parseFieldDescriptor (TX0 k).2.2.1 = some (tyX0 k) := by decide +kernel
abbrev cX0_init : ByteArray := prog_2_method_1_code
def yX0_init : MethodName := ⟨RX0, "<init>", "()V"⟩
abbrev cX0_begin : ByteArray := prog_2_method_2_code
def yX0_begin : MethodName := ⟨RX0, "begin", "(III)V"⟩
abbrev cX0_copy : ByteArray := prog_2_method_3_code
def yX0_copy : MethodName := ⟨RX0, "copy", "(LCellPictures$Clues;)V"⟩
abbrev cX0_lines : ByteArray := prog_2_method_4_code
def yX0_lines : MethodName := ⟨RX0, "lines", "()I"⟩
abbrev cX0_allLines : ByteArray := prog_2_method_5_code
def yX0_allLines : MethodName := ⟨RX0, "allLines", "()I"⟩
abbrev cX0_cellsOf : ByteArray := prog_2_method_6_code
def yX0_cellsOf : MethodName := ⟨RX0, "cellsOf", "(I)I"⟩
abbrev cX0_xOf : ByteArray := prog_2_method_7_code
def yX0_xOf : MethodName := ⟨RX0, "xOf", "(II)I"⟩
abbrev cX0_yOf : ByteArray := prog_2_method_8_code
def yX0_yOf : MethodName := ⟨RX0, "yOf", "(II)I"⟩
abbrev cX0_lengthOf : ByteArray := prog_2_method_9_code
def yX0_lengthOf : MethodName := ⟨RX0, "lengthOf", "(II)I"⟩
abbrev cX0_colourOf : ByteArray := prog_2_method_10_code
def yX0_colourOf : MethodName := ⟨RX0, "colourOf", "(II)I"⟩
abbrev cX0_add : ByteArray := prog_2_method_11_code
def yX0_add : MethodName := ⟨RX0, "add", "(III)V"⟩
abbrev cX0_needsGapAhead : ByteArray := prog_2_method_12_code
def yX0_needsGapAhead : MethodName := ⟨RX0, "needsGapAhead", "(II)Z"⟩
abbrev cX0_fitsItsCells : ByteArray := prog_2_method_13_code
def yX0_fitsItsCells : MethodName := ⟨RX0, "fitsItsCells", "(I)Z"⟩
abbrev cX0_isBalanced : ByteArray := prog_2_method_14_code
def yX0_isBalanced : MethodName := ⟨RX0, "isBalanced", "()Z"⟩
abbrev cX0_cellsTold : ByteArray := prog_2_method_15_code
def yX0_cellsTold : MethodName := ⟨RX0, "cellsTold", "(III)I"⟩
abbrev cX0_readLine : ByteArray := prog_2_method_16_code
def yX0_readLine : MethodName := ⟨RX0, "readLine", "(ILCellPictures$Grid;)V"⟩
abbrev cX0_addStretch : ByteArray := prog_2_method_17_code
def yX0_addStretch : MethodName := ⟨RX0, "addStretch", "(III)V"⟩
abbrev cX0_hasRunsOf : ByteArray := prog_2_method_18_code
def yX0_hasRunsOf : MethodName := ⟨RX0, "hasRunsOf", "(LCellPictures$Clues;)Z"⟩
abbrev cX0_isLineLike : ByteArray := prog_2_method_19_code
def yX0_isLineLike : MethodName := ⟨RX0, "isLineLike", "(ILCellPictures$Clues;)Z"⟩
def RX1 : String := "CellPictures$Found"
def TX1 : u_T := fun k => match k with
  | 0 => ("CellPictures$Found", "first", "LCellPictures$Grid;", true)
  | 1 => ("CellPictures$Found", "second", "LCellPictures$Grid;", true)
  | 2 => ("CellPictures$Found", "count", "I", false)
  | 3 => ("CellPictures$Found", "nodes", "I", false)
  | _ => ("CellPictures$Found", "isSpent", "Z", false)
def tyX1 : Nat → FieldType := fun k => match k with
  | 0 => .object "CellPictures$Grid"
  | 1 => .object "CellPictures$Grid"
  | 2 => .int
  | 3 => .int
  | _ => .boolean
abbrev wsX10 : List Cond := u_ws RX1 TX1 5
theorem nmX1 : ∀ a, a < 5 → ∀ b, b < 5 → a ≠ b → (TX1 a).2.1 ≠ (TX1 b).2.1 := by decide +kernel
theorem tyX1_ok : ∀ k, k < 5 → parseFieldDescriptor (TX1 k).2.2.1 = some (tyX1 k) := by decide +kernel
abbrev cX1_init : ByteArray := prog_3_method_1_code
def yX1_init : MethodName := ⟨RX1, "<init>", "()V"⟩
abbrev cX1_begin : ByteArray := prog_3_method_2_code
def yX1_begin : MethodName := ⟨RX1, "begin", "()V"⟩
abbrev cX1_forgetSolutions : ByteArray := prog_3_method_3_code
def yX1_forgetSolutions : MethodName := ⟨RX1, "forgetSolutions", "()V"⟩
abbrev cX1_forgetAll : ByteArray := prog_3_method_4_code
def yX1_forgetAll : MethodName := ⟨RX1, "forgetAll", "()V"⟩
abbrev cX1_isKept : ByteArray := prog_3_method_5_code
def yX1_isKept : MethodName := ⟨RX1, "isKept", "(I)Z"⟩
abbrev cX1_kept : ByteArray := prog_3_method_6_code
def yX1_kept : MethodName := ⟨RX1, "kept", "(I)LCellPictures$Grid;"⟩
abbrev cX1_add : ByteArray := prog_3_method_7_code
def yX1_add : MethodName := ⟨RX1, "add", "(LCellPictures$Sets;)V"⟩
def RX2 : String := "CellPictures$Grid"
def TX2 : u_T := fun k => match k with
  | 0 => ("CellPictures$Grid", "values", "[I", true)
  | _ => ("CellPictures$Grid", "told", "I", false)
def tyX2 : Nat → FieldType := fun k => match k with
  | 0 => .array .int
  | _ => .int
abbrev wsX20 : List Cond := u_ws RX2 TX2 2
theorem nmX2 : ∀ a, a < 2 → ∀ b, b < 2 → a ≠ b → (TX2 a).2.1 ≠ (TX2 b).2.1 := by decide +kernel
theorem tyX2_ok : ∀ k, k < 2 → parseFieldDescriptor (TX2 k).2.2.1 = some (tyX2 k) := by decide +kernel
abbrev cX2_init : ByteArray := prog_4_method_1_code
def yX2_init : MethodName := ⟨RX2, "<init>", "()V"⟩
abbrev cX2_clear : ByteArray := prog_4_method_2_code
def yX2_clear : MethodName := ⟨RX2, "clear", "()V"⟩
abbrev cX2_at : ByteArray := prog_4_method_3_code
def yX2_at : MethodName := ⟨RX2, "at", "(II)I"⟩
abbrev cX2_valueAt : ByteArray := prog_4_method_4_code
def yX2_valueAt : MethodName := ⟨RX2, "valueAt", "(II)I"⟩
abbrev cX2_put : ByteArray := prog_4_method_5_code
def yX2_put : MethodName := ⟨RX2, "put", "(III)V"⟩
def RX3 : String := "CellPictures$LineRule"
def TX3 : u_T := fun k => match k with
  | 0 => ("CellPictures$LineRule", "clues", "LCellPictures$Clues;", true)
  | 1 => ("CellPictures$LineRule", "before", "[I", true)
  | 2 => ("CellPictures$LineRule", "starts", "[I", true)
  | 3 => ("CellPictures$LineRule", "rows", "[J", true)
  | _ => ("CellPictures$LineRule", "nextRows", "[J", true)
def tyX3 : Nat → FieldType := fun k => match k with
  | 0 => .object "CellPictures$Clues"
  | 1 => .array .int
  | 2 => .array .int
  | 3 => .array .long
  | _ => .array .long
abbrev wsX30 : List Cond := u_ws RX3 TX3 5
theorem nmX3 : ∀ a, a < 5 → ∀ b, b < 5 → a ≠ b → (TX3 a).2.1 ≠ (TX3 b).2.1 := by decide +kernel
theorem tyX3_ok : ∀ k, k < 5 → parseFieldDescriptor (TX3 k).2.2.1 = some (tyX3 k) := by decide +kernel
abbrev cX3_init : ByteArray := prog_5_method_1_code
def yX3_init : MethodName := ⟨RX3, "<init>", "(LCellPictures$Clues;)V"⟩
abbrev cX3_cellsWith : ByteArray := prog_5_method_2_code
def yX3_cellsWith : MethodName := ⟨RX3, "cellsWith", "(JI)I"⟩
abbrev cX3_keptOf : ByteArray := prog_5_method_3_code
def yX3_keptOf : MethodName := ⟨RX3, "keptOf", "(IJ)J"⟩
abbrev cX3_spreadUp : ByteArray := prog_5_method_4_code
def yX3_spreadUp : MethodName := ⟨RX3, "spreadUp", "(II)I"⟩
abbrev cX3_spreadDown : ByteArray := prog_5_method_5_code
def yX3_spreadDown : MethodName := ⟨RX3, "spreadDown", "(II)I"⟩
abbrev cX3_stretches : ByteArray := prog_5_method_6_code
def yX3_stretches : MethodName := ⟨RX3, "stretches", "(II)I"⟩
abbrev cX3_cover : ByteArray := prog_5_method_7_code
def yX3_cover : MethodName := ⟨RX3, "cover", "(II)I"⟩
abbrev cX3_countWays : ByteArray := prog_5_method_8_code
def yX3_countWays : MethodName := ⟨RX3, "countWays", "(IJ)J"⟩
abbrev cX3_countRun : ByteArray := prog_5_method_9_code
def yX3_countRun : MethodName := ⟨RX3, "countRun", "(IIJ)V"⟩
def RX4 : String := "CellPictures$Sets"
def TX4 : u_T := fun k => match k with
  | 0 => ("CellPictures$Sets", "clues", "LCellPictures$Clues;", true)
  | _ => ("CellPictures$Sets", "lines", "[J", true)
def tyX4 : Nat → FieldType := fun k => match k with
  | 0 => .object "CellPictures$Clues"
  | _ => .array .long
abbrev wsX40 : List Cond := u_ws RX4 TX4 2
theorem nmX4 : ∀ a, a < 2 → ∀ b, b < 2 → a ≠ b → (TX4 a).2.1 ≠ (TX4 b).2.1 := by decide +kernel
theorem tyX4_ok : ∀ k, k < 2 → parseFieldDescriptor (TX4 k).2.2.1 = some (tyX4 k) := by decide +kernel
abbrev cX4_init : ByteArray := prog_6_method_1_code
def yX4_init : MethodName := ⟨RX4, "<init>", "(LCellPictures$Clues;)V"⟩
abbrev cX4_become : ByteArray := prog_6_method_2_code
def yX4_become : MethodName := ⟨RX4, "become", "(LCellPictures$Grid;)V"⟩
abbrev cX4_fill : ByteArray := prog_6_method_3_code
def yX4_fill : MethodName := ⟨RX4, "fill", "()V"⟩
abbrev cX4_tell : ByteArray := prog_6_method_4_code
def yX4_tell : MethodName := ⟨RX4, "tell", "(LCellPictures$Grid;)V"⟩
abbrev cX4_copy : ByteArray := prog_6_method_5_code
def yX4_copy : MethodName := ⟨RX4, "copy", "(LCellPictures$Sets;)V"⟩
abbrev cX4_saveTo : ByteArray := prog_6_method_6_code
def yX4_saveTo : MethodName := ⟨RX4, "saveTo", "([JI)V"⟩
abbrev cX4_restoreFrom : ByteArray := prog_6_method_7_code
def yX4_restoreFrom : MethodName := ⟨RX4, "restoreFrom", "([JI)V"⟩
abbrev cX4_fix : ByteArray := prog_6_method_8_code
def yX4_fix : MethodName := ⟨RX4, "fix", "(III)V"⟩
abbrev cX4_drop : ByteArray := prog_6_method_9_code
def yX4_drop : MethodName := ⟨RX4, "drop", "(III)V"⟩
abbrev cX4_valuesAt : ByteArray := prog_6_method_10_code
def yX4_valuesAt : MethodName := ⟨RX4, "valuesAt", "(II)I"⟩
abbrev cX4_valuesIn : ByteArray := prog_6_method_11_code
def yX4_valuesIn : MethodName := ⟨RX4, "valuesIn", "(JI)I"⟩
abbrev cX4_leastOf : ByteArray := prog_6_method_12_code
def yX4_leastOf : MethodName := ⟨RX4, "leastOf", "(I)I"⟩
abbrev cX4_linesThrough : ByteArray := prog_6_method_13_code
def yX4_linesThrough : MethodName := ⟨RX4, "linesThrough", "(II)I"⟩
abbrev cX4_narrow : ByteArray := prog_6_method_14_code
def yX4_narrow : MethodName := ⟨RX4, "narrow", "(IJ)I"⟩
abbrev cX4_countSingles : ByteArray := prog_6_method_15_code
def yX4_countSingles : MethodName := ⟨RX4, "countSingles", "()I"⟩
abbrev cX4_firstOfFewest : ByteArray := prog_6_method_16_code
def yX4_firstOfFewest : MethodName := ⟨RX4, "firstOfFewest", "()I"⟩
def RX5 : String := "CellPictures$Solver"
def TX5 : u_T := fun k => match k with
  | 0 => ("CellPictures$Solver", "clues", "LCellPictures$Clues;", true)
  | 1 => ("CellPictures$Solver", "lineRule", "LCellPictures$LineRule;", true)
  | 2 => ("CellPictures$Solver", "work", "LCellPictures$Sets;", true)
  | 3 => ("CellPictures$Solver", "trial", "LCellPictures$Sets;", true)
  | 4 => ("CellPictures$Solver", "savedSets", "[J", true)
  | 5 => ("CellPictures$Solver", "chosenCell", "[I", true)
  | 6 => ("CellPictures$Solver", "untried", "[I", true)
  | _ => ("CellPictures$Solver", "depth", "I", false)
def tyX5 : Nat → FieldType := fun k => match k with
  | 0 => .object "CellPictures$Clues"
  | 1 => .object "CellPictures$LineRule"
  | 2 => .object "CellPictures$Sets"
  | 3 => .object "CellPictures$Sets"
  | 4 => .array .long
  | 5 => .array .int
  | 6 => .array .int
  | _ => .int
abbrev wsX50 : List Cond := u_ws RX5 TX5 8
theorem nmX5 : ∀ a, a < 8 → ∀ b, b < 8 → a ≠ b → (TX5 a).2.1 ≠ (TX5 b).2.1 := by decide +kernel
theorem tyX5_ok : ∀ k, k < 8 → parseFieldDescriptor (TX5 k).2.2.1 = some (tyX5 k) := by decide +kernel
abbrev cX5_init : ByteArray := prog_7_method_1_code
def yX5_init : MethodName := ⟨RX5, "<init>", "(LCellPictures$Clues;LCellPictures$LineRule;)V"⟩
abbrev cX5_settle : ByteArray := prog_7_method_2_code
def yX5_settle : MethodName := ⟨RX5, "settle", "(LCellPictures$Sets;I)I"⟩
abbrev cX5_sift : ByteArray := prog_7_method_3_code
def yX5_sift : MethodName := ⟨RX5, "sift", "(LCellPictures$Sets;)I"⟩
abbrev cX5_siftCell : ByteArray := prog_7_method_4_code
def yX5_siftCell : MethodName := ⟨RX5, "siftCell", "(LCellPictures$Sets;II)I"⟩
abbrev cX5_seek : ByteArray := prog_7_method_5_code
def yX5_seek : MethodName := ⟨RX5, "seek", "(LCellPictures$Grid;IILCellPictures$Found;)V"⟩
abbrev cX5_opensChoice : ByteArray := prog_7_method_6_code
def yX5_opensChoice : MethodName := ⟨RX5, "opensChoice", "()Z"⟩
abbrev cX5_closeEmptyChoices : ByteArray := prog_7_method_7_code
def yX5_closeEmptyChoices : MethodName := ⟨RX5, "closeEmptyChoices", "()V"⟩
abbrev cX5_followsChoice : ByteArray := prog_7_method_8_code
def yX5_followsChoice : MethodName := ⟨RX5, "followsChoice", "()Z"⟩
abbrev cX5_judge : ByteArray := prog_7_method_9_code
def yX5_judge : MethodName := ⟨RX5, "judge", "(LCellPictures$Grid;LCellPictures$Found;)I"⟩
def RX6 : String := "CellPictures$Tape"
def TX6 : u_T := fun k => match k with
  | 0 => ("CellPictures$Tape", "bytes", "[B", true)
  | _ => ("CellPictures$Tape", "size", "I", false)
def tyX6 : Nat → FieldType := fun k => match k with
  | 0 => .array .byte
  | _ => .int
abbrev wsX60 : List Cond := u_ws RX6 TX6 2
theorem nmX6 : ∀ a, a < 2 → ∀ b, b < 2 → a ≠ b → (TX6 a).2.1 ≠ (TX6 b).2.1 := by decide +kernel
theorem tyX6_ok : ∀ k, k < 2 → parseFieldDescriptor (TX6 k).2.2.1 = some (tyX6 k) := by decide +kernel
abbrev cX6_init : ByteArray := prog_8_method_1_code
def yX6_init : MethodName := ⟨RX6, "<init>", "()V"⟩
abbrev cX6_append : ByteArray := prog_8_method_2_code
def yX6_append : MethodName := ⟨RX6, "append", "(I)V"⟩
abbrev cX6_byteAt : ByteArray := prog_8_method_3_code
def yX6_byteAt : MethodName := ⟨RX6, "byteAt", "(I)I"⟩
def RX7 : String := "CellPictures$TextReader"
def TX7 : u_T := fun k => match k with
  | 0 => ("CellPictures$TextReader", "tape", "LCellPictures$Tape;", true)
  | 1 => ("CellPictures$TextReader", "draft", "LCellPictures$Clues;", true)
  | 2 => ("CellPictures$TextReader", "kind", "I", false)
  | 3 => ("CellPictures$TextReader", "place", "I", false)
  | 4 => ("CellPictures$TextReader", "token", "I", false)
  | 5 => ("CellPictures$TextReader", "start", "I", false)
  | 6 => ("CellPictures$TextReader", "value", "I", false)
  | _ => ("CellPictures$TextReader", "next", "I", false)
def tyX7 : Nat → FieldType := fun k => match k with
  | 0 => .object "CellPictures$Tape"
  | 1 => .object "CellPictures$Clues"
  | 2 => .int
  | 3 => .int
  | 4 => .int
  | 5 => .int
  | 6 => .int
  | _ => .int
abbrev wsX70 : List Cond := u_ws RX7 TX7 8
theorem nmX7 : ∀ a, a < 8 → ∀ b, b < 8 → a ≠ b → (TX7 a).2.1 ≠ (TX7 b).2.1 := by decide +kernel
theorem tyX7_ok : ∀ k, k < 8 → parseFieldDescriptor (TX7 k).2.2.1 = some (tyX7 k) := by decide +kernel
abbrev cX7_init : ByteArray := prog_9_method_1_code
def yX7_init : MethodName := ⟨RX7, "<init>", "(LCellPictures$Tape;LCellPictures$Clues;)V"⟩
abbrev cX7_readsAll : ByteArray := prog_9_method_2_code
def yX7_readsAll : MethodName := ⟨RX7, "readsAll", "()Z"⟩
abbrev cX7_refuse : ByteArray := prog_9_method_3_code
def yX7_refuse : MethodName := ⟨RX7, "refuse", "(I)Z"⟩
abbrev cX7_isDigit : ByteArray := prog_9_method_4_code
def yX7_isDigit : MethodName := ⟨RX7, "isDigit", "(I)Z"⟩
abbrev cX7_isLetter : ByteArray := prog_9_method_5_code
def yX7_isLetter : MethodName := ⟨RX7, "isLetter", "(I)Z"⟩
abbrev cX7_isSpace : ByteArray := prog_9_method_6_code
def yX7_isSpace : MethodName := ⟨RX7, "isSpace", "(I)Z"⟩
abbrev cX7_endOfDigits : ByteArray := prog_9_method_7_code
def yX7_endOfDigits : MethodName := ⟨RX7, "endOfDigits", "(I)I"⟩
abbrev cX7_cutsClean : ByteArray := prog_9_method_8_code
def yX7_cutsClean : MethodName := ⟨RX7, "cutsClean", "()Z"⟩
abbrev cX7_advance : ByteArray := prog_9_method_9_code
def yX7_advance : MethodName := ⟨RX7, "advance", "()V"⟩
abbrev cX7_readsHead : ByteArray := prog_9_method_10_code
def yX7_readsHead : MethodName := ⟨RX7, "readsHead", "()Z"⟩
abbrev cX7_sizeRead : ByteArray := prog_9_method_11_code
def yX7_sizeRead : MethodName := ⟨RX7, "sizeRead", "(I)I"⟩
abbrev cX7_readsLine : ByteArray := prog_9_method_12_code
def yX7_readsLine : MethodName := ⟨RX7, "readsLine", "(I)Z"⟩
abbrev cX7_readsRun : ByteArray := prog_9_method_13_code
def yX7_readsRun : MethodName := ⟨RX7, "readsRun", "(II)Z"⟩
def RX8 : String := "CellPictures"
def TX8 : u_T := fun k => match k with
  | 0 => ("CellPictures", "tape", "LCellPictures$Tape;", true)
  | 1 => ("CellPictures", "clues", "LCellPictures$Clues;", true)
  | 2 => ("CellPictures", "draft", "LCellPictures$Clues;", true)
  | 3 => ("CellPictures", "reader", "LCellPictures$TextReader;", true)
  | 4 => ("CellPictures", "givens", "LCellPictures$Grid;", true)
  | 5 => ("CellPictures", "marks", "LCellPictures$Grid;", true)
  | 6 => ("CellPictures", "lineRule", "LCellPictures$LineRule;", true)
  | 7 => ("CellPictures", "solver", "LCellPictures$Solver;", true)
  | 8 => ("CellPictures", "sets", "LCellPictures$Sets;", true)
  | 9 => ("CellPictures", "handSets", "LCellPictures$Sets;", true)
  | 10 => ("CellPictures", "found", "LCellPictures$Found;", true)
  | 11 => ("CellPictures", "judged", "LCellPictures$Found;", true)
  | 12 => ("CellPictures", "hasSets", "Z", false)
  | _ => ("CellPictures", "latestFault", "I", false)
def tyX8 : Nat → FieldType := fun k => match k with
  | 0 => .object "CellPictures$Tape"
  | 1 => .object "CellPictures$Clues"
  | 2 => .object "CellPictures$Clues"
  | 3 => .object "CellPictures$TextReader"
  | 4 => .object "CellPictures$Grid"
  | 5 => .object "CellPictures$Grid"
  | 6 => .object "CellPictures$LineRule"
  | 7 => .object "CellPictures$Solver"
  | 8 => .object "CellPictures$Sets"
  | 9 => .object "CellPictures$Sets"
  | 10 => .object "CellPictures$Found"
  | 11 => .object "CellPictures$Found"
  | 12 => .boolean
  | _ => .int
abbrev wsX80 : List Cond := u_ws RX8 TX8 14
theorem nmX8 : ∀ a, a < 14 → ∀ b, b < 14 → a ≠ b → (TX8 a).2.1 ≠ (TX8 b).2.1 := by decide +kernel
theorem tyX8_ok : ∀ k, k < 14 → parseFieldDescriptor (TX8 k).2.2.1 = some (tyX8 k) := by decide +kernel
abbrev cX8_init : ByteArray := prog_1_method_1_code
def yX8_init : MethodName := ⟨RX8, "<init>", "()V"⟩
abbrev cX8_feed : ByteArray := prog_1_method_2_code
def yX8_feed : MethodName := ⟨RX8, "feed", "(IIIII)I"⟩
abbrev cX8_end : ByteArray := prog_1_method_3_code
def yX8_end : MethodName := ⟨RX8, "end", "(I)I"⟩
abbrev cX8_load : ByteArray := prog_1_method_4_code
def yX8_load : MethodName := ⟨RX8, "load", "()I"⟩
abbrev cX8_fault : ByteArray := prog_1_method_5_code
def yX8_fault : MethodName := ⟨RX8, "fault", "()I"⟩
abbrev cX8_blank : ByteArray := prog_1_method_6_code
def yX8_blank : MethodName := ⟨RX8, "blank", "(III)Z"⟩
abbrev cX8_about : ByteArray := prog_1_method_7_code
def yX8_about : MethodName := ⟨RX8, "about", "(I)I"⟩
abbrev cX8_run : ByteArray := prog_1_method_8_code
def yX8_run : MethodName := ⟨RX8, "run", "(III)I"⟩
abbrev cX8_give : ByteArray := prog_1_method_9_code
def yX8_give : MethodName := ⟨RX8, "give", "(III)Z"⟩
abbrev cX8_given : ByteArray := prog_1_method_10_code
def yX8_given : MethodName := ⟨RX8, "given", "(II)I"⟩
abbrev cX8_fresh : ByteArray := prog_1_method_11_code
def yX8_fresh : MethodName := ⟨RX8, "fresh", "()Z"⟩
abbrev cX8_rule : ByteArray := prog_1_method_12_code
def yX8_rule : MethodName := ⟨RX8, "rule", "(I)I"⟩
abbrev cX8_ways : ByteArray := prog_1_method_13_code
def yX8_ways : MethodName := ⟨RX8, "ways", "(I)J"⟩
abbrev cX8_rest : ByteArray := prog_1_method_14_code
def yX8_rest : MethodName := ⟨RX8, "rest", "()I"⟩
abbrev cX8_tries : ByteArray := prog_1_method_15_code
def yX8_tries : MethodName := ⟨RX8, "tries", "()I"⟩
abbrev cX8_set : ByteArray := prog_1_method_16_code
def yX8_set : MethodName := ⟨RX8, "set", "(II)I"⟩
abbrev cX8_search : ByteArray := prog_1_method_17_code
def yX8_search : MethodName := ⟨RX8, "search", "(II)I"⟩
abbrev cX8_nodes : ByteArray := prog_1_method_18_code
def yX8_nodes : MethodName := ⟨RX8, "nodes", "()I"⟩
abbrev cX8_solution : ByteArray := prog_1_method_19_code
def yX8_solution : MethodName := ⟨RX8, "solution", "(III)I"⟩
abbrev cX8_level : ByteArray := prog_1_method_20_code
def yX8_level : MethodName := ⟨RX8, "level", "()I"⟩
abbrev cX8_mark : ByteArray := prog_1_method_21_code
def yX8_mark : MethodName := ⟨RX8, "mark", "(III)Z"⟩
abbrev cX8_marked : ByteArray := prog_1_method_22_code
def yX8_marked : MethodName := ⟨RX8, "marked", "(II)I"⟩
abbrev cX8_done : ByteArray := prog_1_method_23_code
def yX8_done : MethodName := ⟨RX8, "done", "()I"⟩
abbrev cX8_wrong : ByteArray := prog_1_method_24_code
def yX8_wrong : MethodName := ⟨RX8, "wrong", "()I"⟩
abbrev cX8_hint : ByteArray := prog_1_method_25_code
def yX8_hint : MethodName := ⟨RX8, "hint", "()I"⟩
abbrev cX8_draw : ByteArray := prog_1_method_26_code
def yX8_draw : MethodName := ⟨RX8, "draw", "()I"⟩
abbrev cX8_mend : ByteArray := prog_1_method_27_code
def yX8_mend : MethodName := ⟨RX8, "mend", "()I"⟩
abbrev cX8_hasPuzzle : ByteArray := prog_1_method_28_code
def yX8_hasPuzzle : MethodName := ⟨RX8, "hasPuzzle", "()Z"⟩
abbrev cX8_isCell : ByteArray := prog_1_method_29_code
def yX8_isCell : MethodName := ⟨RX8, "isCell", "(II)Z"⟩
abbrev cX8_isLine : ByteArray := prog_1_method_30_code
def yX8_isLine : MethodName := ⟨RX8, "isLine", "(I)Z"⟩
abbrev cX8_isValueOrNone : ByteArray := prog_1_method_31_code
def yX8_isValueOrNone : MethodName := ⟨RX8, "isValueOrNone", "(I)Z"⟩
abbrev cX8_isSize : ByteArray := prog_1_method_32_code
def yX8_isSize : MethodName := ⟨RX8, "isSize", "(II)Z"⟩
abbrev cX8_beginPuzzle : ByteArray := prog_1_method_33_code
def yX8_beginPuzzle : MethodName := ⟨RX8, "beginPuzzle", "()V"⟩
abbrev cX8_draftFromMarks : ByteArray := prog_1_method_34_code
def yX8_draftFromMarks : MethodName := ⟨RX8, "draftFromMarks", "()V"⟩
abbrev cX8_areGivensMarked : ByteArray := prog_1_method_35_code
def yX8_areGivensMarked : MethodName := ⟨RX8, "areGivensMarked", "()Z"⟩
abbrev cX8_hintOf : ByteArray := prog_1_method_36_code
def yX8_hintOf : MethodName := ⟨RX8, "hintOf", "(IJ)I"⟩
abbrev cX8_giveFirstUnlike : ByteArray := prog_1_method_37_code
def yX8_giveFirstUnlike : MethodName := ⟨RX8, "giveFirstUnlike", "()V"⟩
def RX9 : String := "CellPicturesModel"
def TX9 : u_T := fun k => match k with
  | 0 => ("CellPicturesModel", "thrown", "I", false)
  | 1 => ("CellPicturesModel", "w", "I", false)
  | 2 => ("CellPicturesModel", "h", "I", false)
  | 3 => ("CellPicturesModel", "colours", "I", false)
  | 4 => ("CellPicturesModel", "runs", "[I", true)
  | 5 => ("CellPicturesModel", "length", "[I", true)
  | 6 => ("CellPicturesModel", "colour", "[I", true)
  | 7 => ("CellPicturesModel", "given", "[I", true)
  | 8 => ("CellPicturesModel", "mark", "[I", true)
  | 9 => ("CellPicturesModel", "sets", "[I", true)
  | 10 => ("CellPicturesModel", "hasSets", "Z", false)
  | 11 => ("CellPicturesModel", "hasFound", "Z", false)
  | 12 => ("CellPicturesModel", "searched", "I", false)
  | 13 => ("CellPicturesModel", "foundMany", "I", false)
  | 14 => ("CellPicturesModel", "found", "[I", true)
  | 15 => ("CellPicturesModel", "tape", "[I", true)
  | 16 => ("CellPicturesModel", "taped", "I", false)
  | 17 => ("CellPicturesModel", "fault", "I", false)
  | 18 => ("CellPicturesModel", "faultAt", "I", false)
  | 19 => ("CellPicturesModel", "latestFault", "I", false)
  | 20 => ("CellPicturesModel", "tSort", "[I", true)
  | 21 => ("CellPicturesModel", "tAt", "[I", true)
  | 22 => ("CellPicturesModel", "tValue", "[I", true)
  | 23 => ("CellPicturesModel", "tokens", "I", false)
  | 24 => ("CellPicturesModel", "t", "I", false)
  | 25 => ("CellPicturesModel", "rW", "I", false)
  | 26 => ("CellPicturesModel", "rH", "I", false)
  | 27 => ("CellPicturesModel", "rC", "I", false)
  | 28 => ("CellPicturesModel", "rRuns", "[I", true)
  | 29 => ("CellPicturesModel", "rLength", "[I", true)
  | 30 => ("CellPicturesModel", "rColour", "[I", true)
  | 31 => ("CellPicturesModel", "of", "[I", false)
  | 32 => ("CellPicturesModel", "base", "I", false)
  | 33 => ("CellPicturesModel", "line", "I", false)
  | 34 => ("CellPicturesModel", "way", "[I", true)
  | 35 => ("CellPicturesModel", "union", "[I", true)
  | 36 => ("CellPicturesModel", "wayMany", "J", false)
  | 37 => ("CellPicturesModel", "uses", "I", false)
  | 38 => ("CellPicturesModel", "trial", "[I", true)
  | 39 => ("CellPicturesModel", "left", "I", false)
  | 40 => ("CellPicturesModel", "pile", "[I", true)
  | 41 => ("CellPicturesModel", "nodes", "I", false)
  | 42 => ("CellPicturesModel", "mostNodes", "I", false)
  | 43 => ("CellPicturesModel", "wanted", "I", false)
  | 44 => ("CellPicturesModel", "solutions", "I", false)
  | 45 => ("CellPicturesModel", "isSpent", "Z", false)
  | 46 => ("CellPicturesModel", "solved", "[I", true)
  | 47 => ("CellPicturesModel", "own", "[I", true)
  | 48 => ("CellPicturesModel", "readLength", "[I", true)
  | _ => ("CellPicturesModel", "readColour", "[I", true)
def tyX9 : Nat → FieldType := fun k => match k with
  | 0 => .int
  | 1 => .int
  | 2 => .int
  | 3 => .int
  | 4 => .array .int
  | 5 => .array .int
  | 6 => .array .int
  | 7 => .array .int
  | 8 => .array .int
  | 9 => .array .int
  | 10 => .boolean
  | 11 => .boolean
  | 12 => .int
  | 13 => .int
  | 14 => .array .int
  | 15 => .array .int
  | 16 => .int
  | 17 => .int
  | 18 => .int
  | 19 => .int
  | 20 => .array .int
  | 21 => .array .int
  | 22 => .array .int
  | 23 => .int
  | 24 => .int
  | 25 => .int
  | 26 => .int
  | 27 => .int
  | 28 => .array .int
  | 29 => .array .int
  | 30 => .array .int
  | 31 => .array .int
  | 32 => .int
  | 33 => .int
  | 34 => .array .int
  | 35 => .array .int
  | 36 => .long
  | 37 => .int
  | 38 => .array .int
  | 39 => .int
  | 40 => .array .int
  | 41 => .int
  | 42 => .int
  | 43 => .int
  | 44 => .int
  | 45 => .boolean
  | 46 => .array .int
  | 47 => .array .int
  | 48 => .array .int
  | _ => .array .int
abbrev wsX90 : List Cond := u_ws RX9 TX9 50
theorem nmX9 : ∀ a, a < 50 → ∀ b, b < 50 → a ≠ b → (TX9 a).2.1 ≠ (TX9 b).2.1 := by decide +kernel
theorem tyX9_ok : ∀ k, k < 50 → parseFieldDescriptor (TX9 k).2.2.1 = some (tyX9 k) := by decide +kernel
abbrev cX9_init : ByteArray := prog_11_method_1_code
def yX9_init : MethodName := ⟨RX9, "<init>", "()V"⟩
abbrev cX9_in : ByteArray := prog_11_method_3_code
def yX9_in : MethodName := ⟨RX9, "in", "(III)Z"⟩
abbrev cX9_is : ByteArray := prog_11_method_4_code
def yX9_is : MethodName := ⟨RX9, "is", "()Z"⟩
abbrev cX9_lines : ByteArray := prog_11_method_5_code
def yX9_lines : MethodName := ⟨RX9, "lines", "()I"⟩
abbrev cX9_isLine : ByteArray := prog_11_method_6_code
def yX9_isLine : MethodName := ⟨RX9, "isLine", "(I)Z"⟩
abbrev cX9_isCell : ByteArray := prog_11_method_7_code
def yX9_isCell : MethodName := ⟨RX9, "isCell", "(II)Z"⟩
abbrev cX9_sizeOf : ByteArray := prog_11_method_8_code
def yX9_sizeOf : MethodName := ⟨RX9, "sizeOf", "(I)I"⟩
abbrev cX9_cellOf : ByteArray := prog_11_method_9_code
def yX9_cellOf : MethodName := ⟨RX9, "cellOf", "(II)I"⟩
abbrev cX9_inOrder : ByteArray := prog_11_method_10_code
def yX9_inOrder : MethodName := ⟨RX9, "inOrder", "(I)I"⟩
abbrev cX9_isNew : ByteArray := prog_11_method_11_code
def yX9_isNew : MethodName := ⟨RX9, "isNew", "()V"⟩
abbrev cX9_noMarks : ByteArray := prog_11_method_12_code
def yX9_noMarks : MethodName := ⟨RX9, "noMarks", "()V"⟩
abbrev cX9_runMany : ByteArray := prog_11_method_13_code
def yX9_runMany : MethodName := ⟨RX9, "runMany", "()I"⟩
abbrev cX9_four : ByteArray := prog_11_method_14_code
def yX9_four : MethodName := ⟨RX9, "four", "(I)V"⟩
abbrev cX9_feed : ByteArray := prog_11_method_15_code
def yX9_feed : MethodName := ⟨RX9, "feed", "(IIIII)I"⟩
abbrev cX9_end : ByteArray := prog_11_method_16_code
def yX9_end : MethodName := ⟨RX9, "end", "(I)I"⟩
abbrev cX9_fails : ByteArray := prog_11_method_17_code
def yX9_fails : MethodName := ⟨RX9, "fails", "(II)V"⟩
abbrev cX9_good : ByteArray := prog_11_method_18_code
def yX9_good : MethodName := ⟨RX9, "good", "()Z"⟩
abbrev cX9_token : ByteArray := prog_11_method_19_code
def yX9_token : MethodName := ⟨RX9, "token", "(III)V"⟩
abbrev cX9_cut : ByteArray := prog_11_method_20_code
def yX9_cut : MethodName := ⟨RX9, "cut", "()V"⟩
abbrev cX9_number : ByteArray := prog_11_method_21_code
def yX9_number : MethodName := ⟨RX9, "number", "(II)I"⟩
abbrev cX9_semi : ByteArray := prog_11_method_22_code
def yX9_semi : MethodName := ⟨RX9, "semi", "()V"⟩
abbrev cX9_oneRun : ByteArray := prog_11_method_23_code
def yX9_oneRun : MethodName := ⟨RX9, "oneRun", "(I)V"⟩
abbrev cX9_oneLine : ByteArray := prog_11_method_24_code
def yX9_oneLine : MethodName := ⟨RX9, "oneLine", "(I)V"⟩
abbrev cX9_colourSumsDiffer : ByteArray := prog_11_method_25_code
def yX9_colourSumsDiffer : MethodName := ⟨RX9, "colourSumsDiffer", "()Z"⟩
abbrev cX9_load : ByteArray := prog_11_method_26_code
def yX9_load : MethodName := ⟨RX9, "load", "()I"⟩
abbrev cX9_fault : ByteArray := prog_11_method_27_code
def yX9_fault : MethodName := ⟨RX9, "fault", "()I"⟩
abbrev cX9_blank : ByteArray := prog_11_method_28_code
def yX9_blank : MethodName := ⟨RX9, "blank", "(III)Z"⟩
abbrev cX9_many : ByteArray := prog_11_method_29_code
def yX9_many : MethodName := ⟨RX9, "many", "(I)I"⟩
abbrev cX9_about : ByteArray := prog_11_method_30_code
def yX9_about : MethodName := ⟨RX9, "about", "(I)I"⟩
abbrev cX9_run : ByteArray := prog_11_method_31_code
def yX9_run : MethodName := ⟨RX9, "run", "(III)I"⟩
abbrev cX9_give : ByteArray := prog_11_method_32_code
def yX9_give : MethodName := ⟨RX9, "give", "(III)Z"⟩
abbrev cX9_given : ByteArray := prog_11_method_33_code
def yX9_given : MethodName := ⟨RX9, "given", "(II)I"⟩
abbrev cX9_first : ByteArray := prog_11_method_34_code
def yX9_first : MethodName := ⟨RX9, "first", "([II)V"⟩
abbrev cX9_fresh : ByteArray := prog_11_method_35_code
def yX9_fresh : MethodName := ⟨RX9, "fresh", "()Z"⟩
abbrev cX9_can : ByteArray := prog_11_method_36_code
def yX9_can : MethodName := ⟨RX9, "can", "(II)Z"⟩
abbrev cX9_lay : ByteArray := prog_11_method_37_code
def yX9_lay : MethodName := ⟨RX9, "lay", "(II)V"⟩
abbrev cX9_allWays : ByteArray := prog_11_method_38_code
def yX9_allWays : MethodName := ⟨RX9, "allWays", "([III)V"⟩
abbrev cX9_lineRule : ByteArray := prog_11_method_39_code
def yX9_lineRule : MethodName := ⟨RX9, "lineRule", "([III)I"⟩
abbrev cX9_toRest : ByteArray := prog_11_method_40_code
def yX9_toRest : MethodName := ⟨RX9, "toRest", "([II)Z"⟩
abbrev cX9_trying : ByteArray := prog_11_method_41_code
def yX9_trying : MethodName := ⟨RX9, "trying", "([I)Z"⟩
abbrev cX9_rule : ByteArray := prog_11_method_42_code
def yX9_rule : MethodName := ⟨RX9, "rule", "(I)I"⟩
abbrev cX9_ways : ByteArray := prog_11_method_43_code
def yX9_ways : MethodName := ⟨RX9, "ways", "(I)J"⟩
abbrev cX9_needSets : ByteArray := prog_11_method_44_code
def yX9_needSets : MethodName := ⟨RX9, "needSets", "()V"⟩
abbrev cX9_rest : ByteArray := prog_11_method_45_code
def yX9_rest : MethodName := ⟨RX9, "rest", "()I"⟩
abbrev cX9_tries : ByteArray := prog_11_method_46_code
def yX9_tries : MethodName := ⟨RX9, "tries", "()I"⟩
abbrev cX9_set : ByteArray := prog_11_method_47_code
def yX9_set : MethodName := ⟨RX9, "set", "(II)I"⟩
abbrev cX9_allOne : ByteArray := prog_11_method_48_code
def yX9_allOne : MethodName := ⟨RX9, "allOne", "([II)Z"⟩
abbrev cX9_least : ByteArray := prog_11_method_49_code
def yX9_least : MethodName := ⟨RX9, "least", "(I)I"⟩
abbrev cX9_branch : ByteArray := prog_11_method_50_code
def yX9_branch : MethodName := ⟨RX9, "branch", "(I)I"⟩
abbrev cX9_look : ByteArray := prog_11_method_51_code
def yX9_look : MethodName := ⟨RX9, "look", "(I)V"⟩
abbrev cX9_searches : ByteArray := prog_11_method_52_code
def yX9_searches : MethodName := ⟨RX9, "searches", "(II)V"⟩
abbrev cX9_search : ByteArray := prog_11_method_53_code
def yX9_search : MethodName := ⟨RX9, "search", "(II)I"⟩
abbrev cX9_nodes : ByteArray := prog_11_method_54_code
def yX9_nodes : MethodName := ⟨RX9, "nodes", "()I"⟩
abbrev cX9_solution : ByteArray := prog_11_method_55_code
def yX9_solution : MethodName := ⟨RX9, "solution", "(III)I"⟩
abbrev cX9_level : ByteArray := prog_11_method_56_code
def yX9_level : MethodName := ⟨RX9, "level", "()I"⟩
abbrev cX9_mark : ByteArray := prog_11_method_57_code
def yX9_mark : MethodName := ⟨RX9, "mark", "(III)Z"⟩
abbrev cX9_marked : ByteArray := prog_11_method_58_code
def yX9_marked : MethodName := ⟨RX9, "marked", "(II)I"⟩
abbrev cX9_shown : ByteArray := prog_11_method_59_code
def yX9_shown : MethodName := ⟨RX9, "shown", "(I)I"⟩
abbrev cX9_readsAs : ByteArray := prog_11_method_60_code
def yX9_readsAs : MethodName := ⟨RX9, "readsAs", "(I)I"⟩
abbrev cX9_isDone : ByteArray := prog_11_method_61_code
def yX9_isDone : MethodName := ⟨RX9, "isDone", "()Z"⟩
abbrev cX9_done : ByteArray := prog_11_method_62_code
def yX9_done : MethodName := ⟨RX9, "done", "()I"⟩
abbrev cX9_wrong : ByteArray := prog_11_method_63_code
def yX9_wrong : MethodName := ⟨RX9, "wrong", "()I"⟩
abbrev cX9_hint : ByteArray := prog_11_method_64_code
def yX9_hint : MethodName := ⟨RX9, "hint", "()I"⟩
abbrev cX9_draw : ByteArray := prog_11_method_65_code
def yX9_draw : MethodName := ⟨RX9, "draw", "()I"⟩
abbrev cX9_mend : ByteArray := prog_11_method_66_code
def yX9_mend : MethodName := ⟨RX9, "mend", "()I"⟩
def RJ6 : String := "java/lang/Integer"
def TJ6 : u_T := fun k => match k with
  | _ => ("", "", "", false)
def tyJ6 : Nat → FieldType := fun k => match k with
  | _ => .int
abbrev wsJ60 : List Cond := u_ws RJ6 TJ6 0
theorem nmJ6 : ∀ a, a < 0 → ∀ b, b < 0 → a ≠ b → (TJ6 a).2.1 ≠ (TJ6 b).2.1 := by decide +kernel
theorem tyJ6_ok : ∀ k, k < 0 → parseFieldDescriptor (TJ6 k).2.2.1 = some (tyJ6 k) := by decide +kernel
abbrev cJ6_bitCount_0f7a4 : ByteArray := prog_12_method_49_code
def yJ6_bitCount_0f7a4 : MethodName := ⟨RJ6, "bitCount", "(I)I"⟩
def RJ9 : String := "java/lang/Math"
def TJ9 : u_T := fun k => match k with
  | _ => ("", "", "", false)
def tyJ9 : Nat → FieldType := fun k => match k with
  | _ => .int
abbrev wsJ90 : List Cond := u_ws RJ9 TJ9 0
theorem nmJ9 : ∀ a, a < 0 → ∀ b, b < 0 → a ≠ b → (TJ9 a).2.1 ≠ (TJ9 b).2.1 := by decide +kernel
theorem tyJ9_ok : ∀ k, k < 0 → parseFieldDescriptor (TJ9 k).2.2.1 = some (tyJ9 k) := by decide +kernel
abbrev cJ9_max_7cf53 : ByteArray := prog_13_method_65_code
def yJ9_max_7cf53 : MethodName := ⟨RJ9, "max", "(II)I"⟩
def RJ10 : String := "java/lang/System"
def TJ10 : u_T := fun k => match k with
  | _ => ("", "", "", false)
def tyJ10 : Nat → FieldType := fun k => match k with
  | _ => .int
abbrev wsJ100 : List Cond := u_ws RJ10 TJ10 0
theorem nmJ10 : ∀ a, a < 0 → ∀ b, b < 0 → a ≠ b → (TJ10 a).2.1 ≠ (TJ10 b).2.1 := by decide +kernel
theorem tyJ10_ok : ∀ k, k < 0 → parseFieldDescriptor (TJ10 k).2.2.1 = some (tyJ10 k) := by decide +kernel
def RJ7 : String := "java/util/Arrays"
def TJ7 : u_T := fun k => match k with
  | _ => ("", "", "", false)
def tyJ7 : Nat → FieldType := fun k => match k with
  | _ => .int
abbrev wsJ70 : List Cond := u_ws RJ7 TJ7 0
theorem nmJ7 : ∀ a, a < 0 → ∀ b, b < 0 → a ≠ b → (TJ7 a).2.1 ≠ (TJ7 b).2.1 := by decide +kernel
theorem tyJ7_ok : ∀ k, k < 0 → parseFieldDescriptor (TJ7 k).2.2.1 = some (tyJ7 k) := by decide +kernel
abbrev cJ7_fill_53178 : ByteArray := prog_15_method_103_code
def yJ7_fill_53178 : MethodName := ⟨RJ7, "fill", "([II)V"⟩
def RL : String := "CellPicturesLaw"
abbrev cL_law : ByteArray := code
theorem inX0 : ∀ w ∈ u_ws RX0 TX0 7, w ∈ gtb := mem_ps [67, 69, 71, 73, 75, 77, 79] (by decide +kernel) (by decide +kernel)
theorem inX1 : ∀ w ∈ u_ws RX1 TX1 5, w ∈ gtb := mem_ps [226, 228, 230, 232, 234] (by decide +kernel) (by decide +kernel)
theorem inX2 : ∀ w ∈ u_ws RX2 TX2 2, w ∈ gtb := mem_ps [128, 130] (by decide +kernel) (by decide +kernel)
theorem inX3 : ∀ w ∈ u_ws RX3 TX3 5, w ∈ gtb := mem_ps [144, 146, 148, 150, 152] (by decide +kernel) (by decide +kernel)
theorem inX4 : ∀ w ∈ u_ws RX4 TX4 2, w ∈ gtb := mem_ps [173, 175] (by decide +kernel) (by decide +kernel)
theorem inX5 : ∀ w ∈ u_ws RX5 TX5 8, w ∈ gtb := mem_ps [186, 188, 190, 192, 194, 196, 198, 200] (by decide +kernel) (by decide +kernel)
theorem inX6 : ∀ w ∈ u_ws RX6 TX6 2, w ∈ gtb := mem_ps [33, 35] (by decide +kernel) (by decide +kernel)
theorem inX7 : ∀ w ∈ u_ws RX7 TX7 8, w ∈ gtb := mem_ps [99, 101, 103, 105, 107, 109, 111, 113] (by decide +kernel) (by decide +kernel)
theorem inX8 : ∀ w ∈ u_ws RX8 TX8 14, w ∈ gtb := mem_ps [251, 253, 255, 257, 259, 261, 263, 265, 267, 269, 271, 273, 275, 277] (by decide +kernel) (by decide +kernel)
theorem inX9 : ∀ w ∈ u_ws RX9 TX9 50, w ∈ gtb := mem_ps [823, 825, 827, 829, 831, 833, 835, 837, 839, 841, 843, 845, 847, 849, 851, 853, 855, 857, 859, 861, 863, 865, 867, 869, 871, 873, 875, 877, 879, 881, 883, 885, 887, 889, 891, 893, 895, 897, 899, 901, 903, 905, 907, 909, 911, 913, 915, 917, 919, 921] (by decide +kernel) (by decide +kernel)
abbrev vwCl : List vw_C := [(RX0, TX0, 7), (RX1, TX1, 5), (RX2, TX2, 2), (RX3, TX3, 5), (RX4, TX4, 2), (RX5, TX5, 8), (RX6, TX6, 2), (RX7, TX7, 8), (RX8, TX8, 14), (RX9, TX9, 50)]
def shp : List (Nat × Nat × List Nat) := [
  (0, 8, [4, 6, 10, 14, 15, 17, 19, 24, 32, 34, 36, 41, 0, 0]),
  (0, 6, [5, 0]),
  (2, 900, []),
  (0, 0, [7, 8, 9, 0, 0, 0, 0]),
  (1, 24, []),
  (1, 288, []),
  (1, 288, []),
  (0, 0, [11, 12, 13, 0, 0, 0, 0]),
  (1, 24, []),
  (1, 288, []),
  (1, 288, []),
  (0, 7, [4, 10, 0, 0, 0, 0, 0, 0]),
  (0, 2, [16, 0]),
  (1, 144, []),
  (0, 2, [18, 0]),
  (1, 144, []),
  (0, 3, [6, 20, 21, 22, 23]),
  (1, 13, []),
  (1, 12, []),
  (3, 13, []),
  (3, 13, []),
  (0, 5, [6, 19, 28, 30, 25, 26, 27, 0]),
  (3, 3456, []),
  (1, 144, []),
  (1, 144, []),
  (0, 4, [6, 29]),
  (3, 24, []),
  (0, 4, [6, 31]),
  (3, 24, []),
  (0, 4, [6, 33]),
  (3, 24, []),
  (0, 4, [6, 35]),
  (3, 24, []),
  (0, 1, [37, 39, 0, 0, 0]),
  (0, 2, [38, 0]),
  (1, 144, []),
  (0, 2, [40, 0]),
  (1, 144, []),
  (0, 1, [42, 44, 0, 0, 0]),
  (0, 2, [43, 0]),
  (1, 144, []),
  (0, 2, [45, 0]),
  (1, 144, []),
  (0, 9, [0, 0, 0, 0, 47, 48, 49, 50, 51, 52, 0, 0, 0, 0, 53, 54, 0, 0, 0, 0, 55, 56, 57, 0, 0, 0, 0, 0, 58, 59, 60, 2, 0, 0, 61, 62, 1, 0, 63, 0, 64, 0, 0, 0, 0, 0, 65, 66, 67, 68]),
  (1, 24, []),
  (1, 288, []),
  (1, 288, []),
  (1, 144, []),
  (1, 144, []),
  (1, 144, []),
  (1, 288, []),
  (1, 900, []),
  (1, 901, []),
  (1, 901, []),
  (1, 901, []),
  (1, 24, []),
  (1, 288, []),
  (1, 288, []),
  (1, 12, []),
  (1, 12, []),
  (1, 144, []),
  (1, 21024, []),
  (1, 288, []),
  (1, 144, []),
  (1, 12, []),
  (1, 12, [])]
