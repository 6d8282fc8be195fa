/-! THE TABLES: names, fields, methods, links of the claim (printed by wip/gen/gen02.py) -/
def hm_nm (o : Nat) : String := match o with
  | 0 => "HeapLaw$Formula"
  | 1 => "HeapLaw$Memory"
  | 2 => "HeapLaw$Parting"
  | 3 => "HeapLaw$Plan"
  | 4 => "HeapLaw$Sharing"
  | 5 => "HeapLaw$Stepper"
  | 6 => "HeapLaw"
  | 7 => "HeapLawModel"
  | 8 => "HeapLawLaw"
  | 9 => "java/lang/Integer"
  | _ => "java/lang/Math"
def hm_F0 : u_T := fun k => match k with
  | 0 => ("HeapLaw$Formula", "pures", "[I", true)
  | 1 => ("HeapLaw$Formula", "parts", "[I", true)
  | 2 => ("HeapLaw$Formula", "pureCount", "I", false)
  | _ => ("HeapLaw$Formula", "partCount", "I", false)
def hm_y0 : Nat → FieldType := fun k => match k with
  | 0 => .array .int
  | 1 => .array .int
  | 2 => .int
  | _ => .int
def hm_F1 : u_T := fun k => match k with
  | 0 => ("HeapLaw$Memory", "cells", "[I", true)
  | 1 => ("HeapLaw$Memory", "values", "[I", true)
  | _ => ("HeapLaw$Memory", "present", "I", false)
def hm_y1 : Nat → FieldType := fun k => match k with
  | 0 => .array .int
  | 1 => .array .int
  | _ => .int
def hm_F2 : u_T := fun k => match k with
  | 0 => ("HeapLaw$Parting", "trial", "LHeapLaw$Memory;", true)
  | 1 => ("HeapLaw$Parting", "fitting", "LHeapLaw$Plan;", true)
  | _ => ("HeapLaw$Parting", "failing", "LHeapLaw$Plan;", true)
def hm_y2 : Nat → FieldType := fun k => match k with
  | 0 => .object "HeapLaw$Memory"
  | 1 => .object "HeapLaw$Plan"
  | _ => .object "HeapLaw$Plan"
def hm_F3 : u_T := fun k => match k with
  | 0 => ("HeapLaw$Plan", "codes", "[I", true)
  | 1 => ("HeapLaw$Plan", "starts", "[I", true)
  | _ => ("HeapLaw$Plan", "terms", "I", false)
def hm_y3 : Nat → FieldType := fun k => match k with
  | 0 => .array .int
  | 1 => .array .int
  | _ => .int
def hm_F4 : u_T := fun k => match k with
  | 0 => ("HeapLaw$Sharing", "sorts", "[I", true)
  | 1 => ("HeapLaw$Sharing", "goesTo", "[I", true)
  | 2 => ("HeapLaw$Sharing", "plan", "LHeapLaw$Plan;", true)
  | 3 => ("HeapLaw$Sharing", "longOnes", "I", false)
  | 4 => ("HeapLaw$Sharing", "terms", "I", false)
  | _ => ("HeapLaw$Sharing", "other", "LHeapLaw$Formula;", false)
def hm_y4 : Nat → FieldType := fun k => match k with
  | 0 => .array .int
  | 1 => .array .int
  | 2 => .object "HeapLaw$Plan"
  | 3 => .int
  | 4 => .int
  | _ => .object "HeapLaw$Formula"
def hm_F5 : u_T := fun k => match k with
  | 0 => ("HeapLaw$Stepper", "cases", "[LHeapLaw$Formula;", true)
  | 1 => ("HeapLaw$Stepper", "sharing", "LHeapLaw$Sharing;", true)
  | 2 => ("HeapLaw$Stepper", "slots", "[LHeapLaw$Formula;", false)
  | 3 => ("HeapLaw$Stepper", "firstSlot", "I", false)
  | 4 => ("HeapLaw$Stepper", "act", "I", false)
  | 5 => ("HeapLaw$Stepper", "x", "I", false)
  | 6 => ("HeapLaw$Stepper", "y", "I", false)
  | _ => ("HeapLaw$Stepper", "filled", "I", false)
def hm_y5 : Nat → FieldType := fun k => match k with
  | 0 => .array (.object "HeapLaw$Formula")
  | 1 => .object "HeapLaw$Sharing"
  | 2 => .array (.object "HeapLaw$Formula")
  | 3 => .int
  | 4 => .int
  | 5 => .int
  | 6 => .int
  | _ => .int
def hm_F6 : u_T := fun k => match k with
  | 0 => ("HeapLaw", "formulas", "[LHeapLaw$Formula;", true)
  | 1 => ("HeapLaw", "memory", "LHeapLaw$Memory;", true)
  | 2 => ("HeapLaw", "plan", "LHeapLaw$Plan;", true)
  | 3 => ("HeapLaw", "sharing", "LHeapLaw$Sharing;", true)
  | 4 => ("HeapLaw", "stepper", "LHeapLaw$Stepper;", true)
  | 5 => ("HeapLaw", "parting", "LHeapLaw$Parting;", true)
  | 6 => ("HeapLaw", "made", "I", false)
  | _ => ("HeapLaw", "differed", "I", false)
def hm_y6 : Nat → FieldType := fun k => match k with
  | 0 => .array (.object "HeapLaw$Formula")
  | 1 => .object "HeapLaw$Memory"
  | 2 => .object "HeapLaw$Plan"
  | 3 => .object "HeapLaw$Sharing"
  | 4 => .object "HeapLaw$Stepper"
  | 5 => .object "HeapLaw$Parting"
  | 6 => .int
  | _ => .int
def hm_F7 : u_T := fun k => match k with
  | 0 => ("HeapLawModel", "code", "I", false)
  | 1 => ("HeapLawModel", "formulas", "I", false)
  | 2 => ("HeapLawModel", "pures", "[I", true)
  | 3 => ("HeapLawModel", "pureHow", "[I", true)
  | 4 => ("HeapLawModel", "pureX", "[I", true)
  | 5 => ("HeapLawModel", "pureY", "[I", true)
  | 6 => ("HeapLawModel", "parts", "[I", true)
  | 7 => ("HeapLawModel", "partHow", "[I", true)
  | 8 => ("HeapLawModel", "partX", "[I", true)
  | 9 => ("HeapLawModel", "partY", "[I", true)
  | 10 => ("HeapLawModel", "values", "[I", true)
  | 11 => ("HeapLawModel", "cells", "[I", true)
  | 12 => ("HeapLawModel", "dealt", "[Z", true)
  | 13 => ("HeapLawModel", "classOf", "[I", true)
  | 14 => ("HeapLawModel", "used", "[I", true)
  | 15 => ("HeapLawModel", "usedMany", "I", false)
  | 16 => ("HeapLawModel", "classes", "I", false)
  | 17 => ("HeapLawModel", "begins", "[I", true)
  | 18 => ("HeapLawModel", "loose", "[I", true)
  | 19 => ("HeapLawModel", "looseMany", "I", false)
  | 20 => ("HeapLawModel", "within", "[I", true)
  | 21 => ("HeapLawModel", "rank", "[I", true)
  | 22 => ("HeapLawModel", "next", "[I", true)
  | 23 => ("HeapLawModel", "nodes", "I", false)
  | 24 => ("HeapLawModel", "taken", "[Z", true)
  | 25 => ("HeapLawModel", "cases", "I", false)
  | 26 => ("HeapLawModel", "results", "I", false)
  | 27 => ("HeapLawModel", "known", "[Z", true)
  | 28 => ("HeapLawModel", "waits", "[I", true)
  | 29 => ("HeapLawModel", "asked", "I", false)
  | 30 => ("HeapLawModel", "keptCells", "[I", true)
  | _ => ("HeapLawModel", "keptValues", "[I", true)
def hm_y7 : Nat → FieldType := fun k => match k with
  | 0 => .int
  | 1 => .int
  | 2 => .array .int
  | 3 => .array .int
  | 4 => .array .int
  | 5 => .array .int
  | 6 => .array .int
  | 7 => .array .int
  | 8 => .array .int
  | 9 => .array .int
  | 10 => .array .int
  | 11 => .array .int
  | 12 => .array .boolean
  | 13 => .array .int
  | 14 => .array .int
  | 15 => .int
  | 16 => .int
  | 17 => .array .int
  | 18 => .array .int
  | 19 => .int
  | 20 => .array .int
  | 21 => .array .int
  | 22 => .array .int
  | 23 => .int
  | 24 => .array .boolean
  | 25 => .int
  | 26 => .int
  | 27 => .array .boolean
  | 28 => .array .int
  | 29 => .int
  | 30 => .array .int
  | _ => .array .int
def hm_T (c : Nat) : u_T := match c with
  | 0 => hm_F0
  | 1 => hm_F1
  | 2 => hm_F2
  | 3 => hm_F3
  | 4 => hm_F4
  | 5 => hm_F5
  | 6 => hm_F6
  | _ => hm_F7
def hm_ty (c : Nat) : Nat → FieldType := match c with
  | 0 => hm_y0
  | 1 => hm_y1
  | 2 => hm_y2
  | 3 => hm_y3
  | 4 => hm_y4
  | 5 => hm_y5
  | 6 => hm_y6
  | _ => hm_y7
def hm_N (c : Nat) : Nat := match c with
  | 0 => 4
  | 1 => 3
  | 2 => 3
  | 3 => 3
  | 4 => 6
  | 5 => 8
  | 6 => 8
  | _ => 32
/-- is field k of class c a reference? -/
def hm_isr (c k : Nat) : Bool := match c, k with
  | 0, 0 => true
  | 0, 1 => true
  | 1, 0 => true
  | 1, 1 => true
  | 2, 0 => true
  | 2, 1 => true
  | 2, 2 => true
  | 3, 0 => true
  | 3, 1 => true
  | 4, 0 => true
  | 4, 1 => true
  | 4, 2 => true
  | 4, 5 => true
  | 5, 0 => true
  | 5, 1 => true
  | 5, 2 => true
  | 6, 0 => true
  | 6, 1 => true
  | 6, 2 => true
  | 6, 3 => true
  | 6, 4 => true
  | 6, 5 => true
  | 7, 2 => true
  | 7, 3 => true
  | 7, 4 => true
  | 7, 5 => true
  | 7, 6 => true
  | 7, 7 => true
  | 7, 8 => true
  | 7, 9 => true
  | 7, 10 => true
  | 7, 11 => true
  | 7, 12 => true
  | 7, 13 => true
  | 7, 14 => true
  | 7, 17 => true
  | 7, 18 => true
  | 7, 20 => true
  | 7, 21 => true
  | 7, 22 => true
  | 7, 24 => true
  | 7, 27 => true
  | 7, 28 => true
  | 7, 30 => true
  | 7, 31 => true
  | _, _ => false
def hm_cl : List vw_C := [(hm_nm 0, hm_T 0, hm_N 0), (hm_nm 1, hm_T 1, hm_N 1), (hm_nm 2, hm_T 2, hm_N 2), (hm_nm 3, hm_T 3, hm_N 3), (hm_nm 4, hm_T 4, hm_N 4), (hm_nm 5, hm_T 5, hm_N 5), (hm_nm 6, hm_T 6, hm_N 6), (hm_nm 7, hm_T 7, hm_N 7)]
def hm_good : List Cond := lw_tbl.filter goodWord
def hm_at (z : Nat) (w : Cond) : Bool := decide (lw_tbl[z]? = some w) && goodWord w
theorem hm_at_in {z : Nat} {w : Cond} (h : hm_at z w = true) : w ∈ hm_good := by
  simp only [hm_at, Bool.and_eq_true, decide_eq_true_eq] at h
  exact List.mem_filter.mpr ⟨List.mem_of_getElem? h.1, h.2⟩
theorem hm_g_good {w : Cond} (h : w ∈ hm_good) : w ∈ lw_tbl ∧ goodWord w = true := List.mem_filter.mp h
theorem hm_goodIn {ws : List Cond} (h : ∀ w ∈ ws, w ∈ hm_good) : GoodIn hm_good ws := fun w hw => ⟨h w hw, good_of_word (hm_g_good (h w hw)).2⟩
abbrev hm_Me : Type := MethodName × ByteArray × Nat × Option FieldType
def hm_pk (w : Cond) : Option hm_Me := match w with | .code y b n r => some (y, b, n, r) | _ => none
def hm_raw : List hm_Me := [
  (⟨"HeapLaw", "<init>", "()V"⟩, prog_1_method_1_code, 2, none),
  (⟨"java/lang/Object", "<init>", "()V"⟩, object_method_1_code, 1, none),
  (⟨"HeapLaw$Memory", "<init>", "()V"⟩, prog_3_method_1_code, 2, none),
  (⟨"HeapLaw$Plan", "<init>", "()V"⟩, prog_5_method_1_code, 1, none),
  (⟨"HeapLaw$Sharing", "<init>", "()V"⟩, prog_6_method_1_code, 1, none),
  (⟨"HeapLaw$Stepper", "<init>", "()V"⟩, prog_7_method_1_code, 2, none),
  (⟨"HeapLaw$Formula", "<init>", "()V"⟩, prog_2_method_1_code, 1, none),
  (⟨"HeapLaw$Parting", "<init>", "()V"⟩, prog_4_method_1_code, 1, none),
  (⟨"HeapLaw", "formula", "()I"⟩, prog_1_method_2_code, 1, some .int),
  (⟨"HeapLaw$Formula", "clear", "()V"⟩, prog_2_method_2_code, 1, none),
  (⟨"HeapLaw", "pure", "(IIII)I"⟩, prog_1_method_3_code, 5, some .int),
  (⟨"HeapLaw", "isFormula", "(I)Z"⟩, prog_1_method_21_code, 2, some .boolean),
  (⟨"HeapLaw", "isHow", "(I)Z"⟩, prog_1_method_22_code, 1, some .boolean),
  (⟨"HeapLaw", "isTerm", "(I)Z"⟩, prog_1_method_23_code, 1, some .boolean),
  (⟨"HeapLaw", "pack", "(III)I"⟩, prog_1_method_30_code, 3, some .int),
  (⟨"HeapLaw$Formula", "addPure", "(I)Z"⟩, prog_2_method_5_code, 2, some .boolean),
  (⟨"HeapLaw", "part", "(IIII)I"⟩, prog_1_method_4_code, 5, some .int),
  (⟨"HeapLaw$Formula", "addPart", "(I)Z"⟩, prog_2_method_7_code, 2, some .boolean),
  (⟨"HeapLaw$Formula", "insertPart", "(II)Z"⟩, prog_2_method_8_code, 4, some .boolean),
  (⟨"HeapLaw", "beside", "(II)I"⟩, prog_1_method_5_code, 3, some .int),
  (⟨"HeapLaw$Formula", "copyFrom", "(LHeapLaw$Formula;)V"⟩, prog_2_method_3_code, 2, none),
  (⟨"HeapLaw$Formula", "append", "(LHeapLaw$Formula;)Z"⟩, prog_2_method_4_code, 2, some .boolean),
  (⟨"HeapLaw", "size", "(II)I"⟩, prog_1_method_6_code, 3, some .int),
  (⟨"HeapLaw", "told", "(IIII)I"⟩, prog_1_method_7_code, 7, some .int),
  (⟨"HeapLaw", "kindOf", "(I)I"⟩, prog_1_method_31_code, 1, some .int),
  (⟨"HeapLaw", "xOf", "(I)I"⟩, prog_1_method_32_code, 1, some .int),
  (⟨"HeapLaw", "yOf", "(I)I"⟩, prog_1_method_33_code, 1, some .int),
  (⟨"HeapLaw", "drop", "()I"⟩, prog_1_method_8_code, 1, some .int),
  (⟨"HeapLaw", "set", "(II)I"⟩, prog_1_method_9_code, 4, some .int),
  (⟨"HeapLaw", "isName", "(I)Z"⟩, prog_1_method_24_code, 1, some .boolean),
  (⟨"HeapLaw", "isAddress", "(I)Z"⟩, prog_1_method_25_code, 1, some .boolean),
  (⟨"HeapLaw", "cell", "(II)I"⟩, prog_1_method_10_code, 4, some .int),
  (⟨"HeapLaw", "isCellAddress", "(I)Z"⟩, prog_1_method_26_code, 1, some .boolean),
  (⟨"HeapLaw$Memory", "put", "(II)V"⟩, prog_3_method_3_code, 3, none),
  (⟨"HeapLaw", "value", "(I)I"⟩, prog_1_method_11_code, 2, some .int),
  (⟨"HeapLaw", "holds", "(I)I"⟩, prog_1_method_12_code, 2, some .int),
  (⟨"HeapLaw", "held", "()I"⟩, prog_1_method_13_code, 1, some .int),
  (⟨"java/lang/Integer", "bitCount", "(I)I"⟩, prog_10_method_49_code, 1, some .int),
  (⟨"HeapLaw", "fits", "(I)I"⟩, prog_1_method_14_code, 2, some .int),
  (⟨"HeapLaw$Plan", "lay", "(LHeapLaw$Formula;)V"⟩, prog_5_method_2_code, 4, none),
  (⟨"HeapLaw$Formula", "terms", "()I"⟩, prog_2_method_11_code, 3, some .int),
  (⟨"HeapLaw$Plan", "gather", "([IIII)I"⟩, prog_5_method_3_code, 7, some .int),
  (⟨"java/lang/Math", "max", "(II)I"⟩, prog_11_method_65_code, 2, some .int),
  (⟨"HeapLaw$Memory", "isFitted", "(LHeapLaw$Plan;)Z"⟩, prog_3_method_6_code, 2, some .boolean),
  (⟨"HeapLaw$Memory", "suits", "(LHeapLaw$Plan;II)Z"⟩, prog_3_method_7_code, 6, some .boolean),
  (⟨"HeapLaw", "has", "(II)Z"⟩, prog_1_method_34_code, 2, some .boolean),
  (⟨"HeapLaw$Memory", "deal", "(LHeapLaw$Plan;II)I"⟩, prog_3_method_8_code, 7, some .int),
  (⟨"HeapLaw$Memory", "dealOne", "(IIII)I"⟩, prog_3_method_9_code, 5, some .int),
  (⟨"HeapLaw$Memory", "walk", "(III)I"⟩, prog_3_method_10_code, 8, some .int),
  (⟨"HeapLaw", "run", "(IIII)I"⟩, prog_1_method_15_code, 5, some .int),
  (⟨"HeapLaw", "areNames", "(III)Z"⟩, prog_1_method_29_code, 3, some .boolean),
  (⟨"HeapLaw", "isAct", "(I)Z"⟩, prog_1_method_27_code, 1, some .boolean),
  (⟨"HeapLaw", "needsY", "(I)Z"⟩, prog_1_method_28_code, 1, some .boolean),
  (⟨"HeapLaw$Memory", "makeCell", "(II)I"⟩, prog_3_method_4_code, 4, some .int),
  (⟨"HeapLaw$Memory", "perform", "(III)I"⟩, prog_3_method_5_code, 4, some .int),
  (⟨"HeapLaw", "is", "(I)I"⟩, prog_1_method_16_code, 2, some .int),
  (⟨"HeapLaw$Sharing", "isFit", "(LHeapLaw$Formula;)Z"⟩, prog_6_method_2_code, 2, some .boolean),
  (⟨"HeapLaw$Sharing", "searchFrom", "(III)Z"⟩, prog_6_method_4_code, 6, some .boolean),
  (⟨"HeapLaw$Sharing", "isCovered", "(I)Z"⟩, prog_6_method_7_code, 7, some .boolean),
  (⟨"HeapLaw$Sharing", "coverCell", "(III)I"⟩, prog_6_method_8_code, 5, some .int),
  (⟨"HeapLaw$Sharing", "coverRow", "(IIII)I"⟩, prog_6_method_9_code, 9, some .int),
  (⟨"HeapLaw$Sharing", lw_nm429, "(II)I"⟩, prog_6_method_5_code, 6, some .int),
  (⟨"HeapLaw$Sharing", "admitOne", "(IIII)I"⟩, prog_6_method_6_code, 5, some .int),
  (⟨"HeapLaw", "says", "(II)I"⟩, prog_1_method_17_code, 3, some .int),
  (⟨"HeapLaw$Formula", "hasSpare", "()Z"⟩, prog_2_method_12_code, 1, some .boolean),
  (⟨"HeapLaw$Sharing", "canPart", "(LHeapLaw$Formula;LHeapLaw$Formula;)Z"⟩, prog_6_method_3_code, 3, some .boolean),
  (⟨"HeapLaw", "step", "(IIII)I"⟩, prog_1_method_18_code, 7, some .int),
  (⟨"HeapLaw$Stepper", "start", "(LHeapLaw$Formula;III)V"⟩, prog_7_method_2_code, 5, none),
  (⟨"HeapLaw$Stepper", "fillFrom", "([LHeapLaw$Formula;I)V"⟩, prog_7_method_3_code, 3, none),
  (⟨"HeapLaw$Stepper", "goThroughAll", "()I"⟩, prog_7_method_4_code, 1, some .int),
  (⟨"HeapLaw$Stepper", "goThrough", "(I)I"⟩, prog_7_method_5_code, 5, some .int),
  (⟨"HeapLaw$Formula", "known", "(I)I"⟩, prog_2_method_14_code, 6, some .int),
  (⟨"HeapLaw$Formula", "firstFrom", "(II)I"⟩, prog_2_method_15_code, 4, some .int),
  (⟨"HeapLaw$Stepper", "open", "(LHeapLaw$Formula;II)I"⟩, prog_7_method_6_code, 6, some .int),
  (⟨"HeapLaw$Stepper", "makeEmpty", "(LHeapLaw$Formula;I)Z"⟩, prog_7_method_7_code, 3, some .boolean),
  (⟨"HeapLaw$Formula", "removePart", "(I)V"⟩, prog_2_method_9_code, 3, none),
  (⟨"HeapLaw$Formula", "putPure", "(I)Z"⟩, prog_2_method_6_code, 3, some .boolean),
  (⟨"HeapLaw$Stepper", "makeLonger", "(LHeapLaw$Formula;I)Z"⟩, prog_7_method_8_code, 4, some .boolean),
  (⟨"HeapLaw", "spareBeside", "(I)I"⟩, prog_1_method_35_code, 2, some .int),
  (⟨"HeapLaw$Stepper", "change", "(LHeapLaw$Formula;I)Z"⟩, prog_7_method_9_code, 3, some .boolean),
  (⟨"HeapLaw$Stepper", "become", "(LHeapLaw$Formula;I)Z"⟩, prog_7_method_10_code, 4, some .boolean),
  (⟨"HeapLaw$Stepper", "vacate", "(LHeapLaw$Formula;)I"⟩, prog_7_method_12_code, 4, some .int),
  (⟨"HeapLaw$Formula", "rename", "([IIII)V"⟩, prog_2_method_13_code, 7, none),
  (⟨"HeapLaw$Stepper", "becomeNew", "(LHeapLaw$Formula;)Z"⟩, prog_7_method_11_code, 3, some .boolean),
  (⟨"HeapLaw", "differ", "(II)I"⟩, prog_1_method_19_code, 3, some .int),
  (⟨"HeapLaw$Parting", "find", "(LHeapLaw$Formula;LHeapLaw$Formula;)Z"⟩, prog_4_method_2_code, 5, some .boolean),
  (⟨"HeapLaw$Formula", "canTake", "(I)Z"⟩, prog_2_method_10_code, 4, some .boolean),
  (⟨"HeapLaw$Parting", "findFrom", "(II)Z"⟩, prog_4_method_3_code, 6, some .boolean),
  (⟨"HeapLaw$Memory", "copyFrom", "(LHeapLaw$Memory;)V"⟩, prog_3_method_2_code, 2, none),
  (⟨"HeapLaw", "count", "(I)I"⟩, prog_1_method_20_code, 2, some .int),
  (⟨"HeapLawModel", "<init>", "()V"⟩, prog_9_method_1_code, 1, none),
  (⟨"HeapLawModel", "formula", "()I"⟩, prog_9_method_6_code, 1, some .int),
  (⟨"HeapLawModel", "pure", "(IIII)I"⟩, prog_9_method_13_code, 5, some .int),
  (⟨"HeapLawModel", "isFormula", "(I)Z"⟩, prog_9_method_3_code, 2, some .boolean),
  (⟨"HeapLawModel", "isTerm", "(I)Z"⟩, prog_9_method_4_code, 1, some .boolean),
  (⟨"HeapLawModel", "addPure", "(IIII)V"⟩, prog_9_method_8_code, 6, none),
  (⟨"HeapLawModel", "part", "(IIII)I"⟩, prog_9_method_14_code, 5, some .int),
  (⟨"HeapLawModel", "addPart", "(IIIII)V"⟩, prog_9_method_9_code, 7, none),
  (⟨"HeapLawModel", "movePart", "(III)V"⟩, prog_9_method_10_code, 4, none),
  (⟨"HeapLawModel", "beside", "(II)I"⟩, prog_9_method_15_code, 5, some .int),
  (⟨"HeapLawModel", "copy", "(II)V"⟩, prog_9_method_12_code, 4, none),
  (⟨"HeapLawModel", "size", "(II)I"⟩, prog_9_method_16_code, 3, some .int),
  (⟨"HeapLawModel", "told", "(IIII)I"⟩, prog_9_method_17_code, 5, some .int),
  (⟨"HeapLawModel", "drop", "()I"⟩, prog_9_method_18_code, 1, some .int),
  (⟨"HeapLawModel", "set", "(II)I"⟩, prog_9_method_22_code, 4, some .int),
  (⟨"HeapLawModel", "isName", "(I)Z"⟩, prog_9_method_5_code, 1, some .boolean),
  (⟨"HeapLawModel", "isAddress", "(I)Z"⟩, prog_9_method_21_code, 1, some .boolean),
  (⟨"HeapLawModel", "cell", "(II)I"⟩, prog_9_method_23_code, 4, some .int),
  (⟨"HeapLawModel", "value", "(I)I"⟩, prog_9_method_24_code, 2, some .int),
  (⟨"HeapLawModel", "holds", "(I)I"⟩, prog_9_method_25_code, 2, some .int),
  (⟨"HeapLawModel", "held", "()I"⟩, prog_9_method_26_code, 3, some .int),
  (⟨"HeapLawModel", "fits", "(I)I"⟩, prog_9_method_29_code, 2, some .int),
  (⟨"HeapLawModel", "fitsSome", "(I)Z"⟩, prog_9_method_28_code, 8, some .boolean),
  (⟨"HeapLawModel", "has", "(II)Z"⟩, prog_9_method_19_code, 4, some .boolean),
  (⟨"HeapLawModel", "fitsNow", "(I)Z"⟩, prog_9_method_27_code, 8, some .boolean),
  (⟨"HeapLawModel", "run", "(IIII)I"⟩, prog_9_method_31_code, 7, some .int),
  (⟨"HeapLawModel", "needsY", "(I)Z"⟩, prog_9_method_30_code, 1, some .boolean),
  (⟨"HeapLawModel", "is", "(I)I"⟩, prog_9_method_39_code, 2, some .int),
  (⟨"HeapLawModel", "isFit", "(I)Z"⟩, prog_9_method_38_code, 3, some .boolean),
  (⟨"HeapLawModel", "gather", "(II)V"⟩, prog_9_method_35_code, 4, none),
  (⟨"HeapLawModel", "firstClasses", "()V"⟩, prog_9_method_36_code, 2, none),
  (⟨"HeapLawModel", "suits", "(I)Z"⟩, prog_9_method_34_code, 4, some .boolean),
  (⟨"HeapLawModel", "pureHolds", "(I)Z"⟩, prog_9_method_32_code, 3, some .boolean),
  (⟨"HeapLawModel", "isEmpty", "(II)Z"⟩, prog_9_method_33_code, 3, some .boolean),
  (⟨"HeapLawModel", "nextClasses", "()Z"⟩, prog_9_method_37_code, 4, some .boolean),
  (⟨"HeapLawModel", "says", "(II)I"⟩, prog_9_method_40_code, 4, some .int),
  (⟨"HeapLawModel", "hasSpare", "(I)Z"⟩, prog_9_method_20_code, 2, some .boolean),
  (⟨"HeapLawModel", "always", "(II)Z"⟩, prog_9_method_41_code, 6, some .boolean),
  (⟨"HeapLawModel", "isOrdered", "()Z"⟩, prog_9_method_43_code, 4, some .boolean),
  (⟨"HeapLawModel", "mayLie", "(I)Z"⟩, prog_9_method_44_code, 4, some .boolean),
  (⟨"HeapLawModel", "allGaps", "(II)Z"⟩, prog_9_method_46_code, 5, some .boolean),
  (⟨"HeapLawModel", "build", "(II)V"⟩, prog_9_method_47_code, 11, none),
  (⟨"HeapLawModel", "looseAt", "(II)I"⟩, prog_9_method_45_code, 4, some .int),
  (⟨"HeapLawModel", "suitsMemory", "(I)Z"⟩, prog_9_method_48_code, 7, some .boolean),
  (⟨"HeapLawModel", "nextPlaces", "(I)Z"⟩, prog_9_method_42_code, 3, some .boolean),
  (⟨"HeapLawModel", "step", "(IIII)I"⟩, prog_9_method_58_code, 9, some .int),
  (⟨"HeapLawModel", "openOther", "(I)Z"⟩, prog_9_method_54_code, 6, some .boolean),
  (⟨"HeapLawModel", "leastSpare", "(I)I"⟩, prog_9_method_49_code, 3, some .int),
  (⟨"HeapLawModel", "dropPart", "(II)V"⟩, prog_9_method_11_code, 4, none),
  (⟨"HeapLawModel", "put", "(IIII)Z"⟩, prog_9_method_52_code, 5, some .boolean),
  (⟨"HeapLawModel", "stands", "(IIII)Z"⟩, prog_9_method_7_code, 6, some .boolean),
  (⟨"HeapLawModel", "know", "(II)V"⟩, prog_9_method_50_code, 7, none),
  (⟨"HeapLawModel", "partFrom", "(II)I"⟩, prog_9_method_51_code, 4, some .int),
  (⟨"HeapLawModel", "open", "(II)Z"⟩, prog_9_method_53_code, 6, some .boolean),
  (⟨"HeapLawModel", "act", "(IIIII)Z"⟩, prog_9_method_57_code, 6, some .boolean),
  (⟨"HeapLawModel", "becomes", "(IIIII)Z"⟩, prog_9_method_56_code, 8, some .boolean),
  (⟨"HeapLawModel", "rename", "(III)V"⟩, prog_9_method_55_code, 5, none),
  (⟨"HeapLawModel", "differ", "(II)I"⟩, prog_9_method_59_code, 4, some .int),
  (⟨"HeapLawModel", "layValues", "(I)V"⟩, prog_9_method_60_code, 3, none),
  (⟨"HeapLawModel", "count", "(I)I"⟩, prog_9_method_61_code, 2, some .int)]
set_option maxHeartbeats 4000000 in
set_option maxRecDepth 100000 in
theorem hm_raw_eq : lw_tbl.filterMap hm_pk = hm_raw := by rfl
/-- the numbers of the methods, by their places in the table -/
def hm_ix : List Nat := [0, 1, 2, 3, 4, 5, 6, 7, 8, 9, 10, 11, 12, 13, 14, 15, 16, 17, 18, 19, 20, 21, 22, 23, 24, 25, 26, 27, 28, 29, 30, 31, 32, 33, 34, 35, 36, 37, 38, 39, 40, 41, 42, 44, 45, 46, 47, 48, 49, 50, 51, 52, 53, 54, 55, 56, 57, 58, 59, 60, 61, 62, 63, 64, 65, 66, 67, 68, 70, 71, 72, 73, 74, 75, 76, 77, 78, 79, 80, 81, 82, 69, 83, 84, 85, 86, 87, 88, 89, 90, 91, 92, 93, 94, 95, 96, 97, 98, 99, 100, 101, 102, 103, 104, 105, 106, 107, 108, 109, 110, 111, 112, 113, 114, 115, 116, 117, 118, 119, 120, 121, 122, 123, 124, 125, 126, 127, 128, 129, 130, 131, 132, 133, 134, 135, 136, 137, 138, 139, 140, 141, 142, 143, 144, 145, 146, 147, 148, 149, 43]
def hm_ml : List hm_Me := [
  (⟨"HeapLaw", "<init>", "()V"⟩, prog_1_method_1_code, 2, none),
  (⟨"java/lang/Object", "<init>", "()V"⟩, object_method_1_code, 1, none),
  (⟨"HeapLaw$Memory", "<init>", "()V"⟩, prog_3_method_1_code, 2, none),
  (⟨"HeapLaw$Plan", "<init>", "()V"⟩, prog_5_method_1_code, 1, none),
  (⟨"HeapLaw$Sharing", "<init>", "()V"⟩, prog_6_method_1_code, 1, none),
  (⟨"HeapLaw$Stepper", "<init>", "()V"⟩, prog_7_method_1_code, 2, none),
  (⟨"HeapLaw$Formula", "<init>", "()V"⟩, prog_2_method_1_code, 1, none),
  (⟨"HeapLaw$Parting", "<init>", "()V"⟩, prog_4_method_1_code, 1, none),
  (⟨"HeapLaw", "formula", "()I"⟩, prog_1_method_2_code, 1, some .int),
  (⟨"HeapLaw$Formula", "clear", "()V"⟩, prog_2_method_2_code, 1, none),
  (⟨"HeapLaw", "pure", "(IIII)I"⟩, prog_1_method_3_code, 5, some .int),
  (⟨"HeapLaw", "isFormula", "(I)Z"⟩, prog_1_method_21_code, 2, some .boolean),
  (⟨"HeapLaw", "isHow", "(I)Z"⟩, prog_1_method_22_code, 1, some .boolean),
  (⟨"HeapLaw", "isTerm", "(I)Z"⟩, prog_1_method_23_code, 1, some .boolean),
  (⟨"HeapLaw", "pack", "(III)I"⟩, prog_1_method_30_code, 3, some .int),
  (⟨"HeapLaw$Formula", "addPure", "(I)Z"⟩, prog_2_method_5_code, 2, some .boolean),
  (⟨"HeapLaw", "part", "(IIII)I"⟩, prog_1_method_4_code, 5, some .int),
  (⟨"HeapLaw$Formula", "addPart", "(I)Z"⟩, prog_2_method_7_code, 2, some .boolean),
  (⟨"HeapLaw$Formula", "insertPart", "(II)Z"⟩, prog_2_method_8_code, 4, some .boolean),
  (⟨"HeapLaw", "beside", "(II)I"⟩, prog_1_method_5_code, 3, some .int),
  (⟨"HeapLaw$Formula", "copyFrom", "(LHeapLaw$Formula;)V"⟩, prog_2_method_3_code, 2, none),
  (⟨"HeapLaw$Formula", "append", "(LHeapLaw$Formula;)Z"⟩, prog_2_method_4_code, 2, some .boolean),
  (⟨"HeapLaw", "size", "(II)I"⟩, prog_1_method_6_code, 3, some .int),
  (⟨"HeapLaw", "told", "(IIII)I"⟩, prog_1_method_7_code, 7, some .int),
  (⟨"HeapLaw", "kindOf", "(I)I"⟩, prog_1_method_31_code, 1, some .int),
  (⟨"HeapLaw", "xOf", "(I)I"⟩, prog_1_method_32_code, 1, some .int),
  (⟨"HeapLaw", "yOf", "(I)I"⟩, prog_1_method_33_code, 1, some .int),
  (⟨"HeapLaw", "drop", "()I"⟩, prog_1_method_8_code, 1, some .int),
  (⟨"HeapLaw", "set", "(II)I"⟩, prog_1_method_9_code, 4, some .int),
  (⟨"HeapLaw", "isName", "(I)Z"⟩, prog_1_method_24_code, 1, some .boolean),
  (⟨"HeapLaw", "isAddress", "(I)Z"⟩, prog_1_method_25_code, 1, some .boolean),
  (⟨"HeapLaw", "cell", "(II)I"⟩, prog_1_method_10_code, 4, some .int),
  (⟨"HeapLaw", "isCellAddress", "(I)Z"⟩, prog_1_method_26_code, 1, some .boolean),
  (⟨"HeapLaw$Memory", "put", "(II)V"⟩, prog_3_method_3_code, 3, none),
  (⟨"HeapLaw", "value", "(I)I"⟩, prog_1_method_11_code, 2, some .int),
  (⟨"HeapLaw", "holds", "(I)I"⟩, prog_1_method_12_code, 2, some .int),
  (⟨"HeapLaw", "held", "()I"⟩, prog_1_method_13_code, 1, some .int),
  (⟨"java/lang/Integer", "bitCount", "(I)I"⟩, prog_10_method_49_code, 1, some .int),
  (⟨"HeapLaw", "fits", "(I)I"⟩, prog_1_method_14_code, 2, some .int),
  (⟨"HeapLaw$Plan", "lay", "(LHeapLaw$Formula;)V"⟩, prog_5_method_2_code, 4, none),
  (⟨"HeapLaw$Formula", "terms", "()I"⟩, prog_2_method_11_code, 3, some .int),
  (⟨"HeapLaw$Plan", "gather", "([IIII)I"⟩, prog_5_method_3_code, 7, some .int),
  (⟨"java/lang/Math", "max", "(II)I"⟩, prog_11_method_65_code, 2, some .int),
  (⟨"HeapLaw$Memory", "suits", "(LHeapLaw$Plan;II)Z"⟩, prog_3_method_7_code, 6, some .boolean),
  (⟨"HeapLaw", "has", "(II)Z"⟩, prog_1_method_34_code, 2, some .boolean),
  (⟨"HeapLaw$Memory", "deal", "(LHeapLaw$Plan;II)I"⟩, prog_3_method_8_code, 7, some .int),
  (⟨"HeapLaw$Memory", "dealOne", "(IIII)I"⟩, prog_3_method_9_code, 5, some .int),
  (⟨"HeapLaw$Memory", "walk", "(III)I"⟩, prog_3_method_10_code, 8, some .int),
  (⟨"HeapLaw", "run", "(IIII)I"⟩, prog_1_method_15_code, 5, some .int),
  (⟨"HeapLaw", "areNames", "(III)Z"⟩, prog_1_method_29_code, 3, some .boolean),
  (⟨"HeapLaw", "isAct", "(I)Z"⟩, prog_1_method_27_code, 1, some .boolean),
  (⟨"HeapLaw", "needsY", "(I)Z"⟩, prog_1_method_28_code, 1, some .boolean),
  (⟨"HeapLaw$Memory", "makeCell", "(II)I"⟩, prog_3_method_4_code, 4, some .int),
  (⟨"HeapLaw$Memory", "perform", "(III)I"⟩, prog_3_method_5_code, 4, some .int),
  (⟨"HeapLaw", "is", "(I)I"⟩, prog_1_method_16_code, 2, some .int),
  (⟨"HeapLaw$Sharing", "isFit", "(LHeapLaw$Formula;)Z"⟩, prog_6_method_2_code, 2, some .boolean),
  (⟨"HeapLaw$Sharing", "searchFrom", "(III)Z"⟩, prog_6_method_4_code, 6, some .boolean),
  (⟨"HeapLaw$Sharing", "isCovered", "(I)Z"⟩, prog_6_method_7_code, 7, some .boolean),
  (⟨"HeapLaw$Sharing", "coverCell", "(III)I"⟩, prog_6_method_8_code, 5, some .int),
  (⟨"HeapLaw$Sharing", "coverRow", "(IIII)I"⟩, prog_6_method_9_code, 9, some .int),
  (⟨"HeapLaw$Sharing", lw_nm429, "(II)I"⟩, prog_6_method_5_code, 6, some .int),
  (⟨"HeapLaw$Sharing", "admitOne", "(IIII)I"⟩, prog_6_method_6_code, 5, some .int),
  (⟨"HeapLaw", "says", "(II)I"⟩, prog_1_method_17_code, 3, some .int),
  (⟨"HeapLaw$Formula", "hasSpare", "()Z"⟩, prog_2_method_12_code, 1, some .boolean),
  (⟨"HeapLaw$Sharing", "canPart", "(LHeapLaw$Formula;LHeapLaw$Formula;)Z"⟩, prog_6_method_3_code, 3, some .boolean),
  (⟨"HeapLaw", "step", "(IIII)I"⟩, prog_1_method_18_code, 7, some .int),
  (⟨"HeapLaw$Stepper", "start", "(LHeapLaw$Formula;III)V"⟩, prog_7_method_2_code, 5, none),
  (⟨"HeapLaw$Stepper", "fillFrom", "([LHeapLaw$Formula;I)V"⟩, prog_7_method_3_code, 3, none),
  (⟨"HeapLaw$Stepper", "goThrough", "(I)I"⟩, prog_7_method_5_code, 5, some .int),
  (⟨"HeapLaw$Formula", "known", "(I)I"⟩, prog_2_method_14_code, 6, some .int),
  (⟨"HeapLaw$Formula", "firstFrom", "(II)I"⟩, prog_2_method_15_code, 4, some .int),
  (⟨"HeapLaw$Stepper", "open", "(LHeapLaw$Formula;II)I"⟩, prog_7_method_6_code, 6, some .int),
  (⟨"HeapLaw$Stepper", "makeEmpty", "(LHeapLaw$Formula;I)Z"⟩, prog_7_method_7_code, 3, some .boolean),
  (⟨"HeapLaw$Formula", "removePart", "(I)V"⟩, prog_2_method_9_code, 3, none),
  (⟨"HeapLaw$Formula", "putPure", "(I)Z"⟩, prog_2_method_6_code, 3, some .boolean),
  (⟨"HeapLaw$Stepper", "makeLonger", "(LHeapLaw$Formula;I)Z"⟩, prog_7_method_8_code, 4, some .boolean),
  (⟨"HeapLaw", "spareBeside", "(I)I"⟩, prog_1_method_35_code, 2, some .int),
  (⟨"HeapLaw$Stepper", "change", "(LHeapLaw$Formula;I)Z"⟩, prog_7_method_9_code, 3, some .boolean),
  (⟨"HeapLaw$Stepper", "become", "(LHeapLaw$Formula;I)Z"⟩, prog_7_method_10_code, 4, some .boolean),
  (⟨"HeapLaw$Stepper", "vacate", "(LHeapLaw$Formula;)I"⟩, prog_7_method_12_code, 4, some .int),
  (⟨"HeapLaw$Formula", "rename", "([IIII)V"⟩, prog_2_method_13_code, 7, none),
  (⟨"HeapLaw$Stepper", "goThroughAll", "()I"⟩, prog_7_method_4_code, 1, some .int),
  (⟨"HeapLaw$Stepper", "becomeNew", "(LHeapLaw$Formula;)Z"⟩, prog_7_method_11_code, 3, some .boolean),
  (⟨"HeapLaw", "differ", "(II)I"⟩, prog_1_method_19_code, 3, some .int),
  (⟨"HeapLaw$Parting", "find", "(LHeapLaw$Formula;LHeapLaw$Formula;)Z"⟩, prog_4_method_2_code, 5, some .boolean),
  (⟨"HeapLaw$Formula", "canTake", "(I)Z"⟩, prog_2_method_10_code, 4, some .boolean),
  (⟨"HeapLaw$Parting", "findFrom", "(II)Z"⟩, prog_4_method_3_code, 6, some .boolean),
  (⟨"HeapLaw$Memory", "copyFrom", "(LHeapLaw$Memory;)V"⟩, prog_3_method_2_code, 2, none),
  (⟨"HeapLaw", "count", "(I)I"⟩, prog_1_method_20_code, 2, some .int),
  (⟨"HeapLawModel", "<init>", "()V"⟩, prog_9_method_1_code, 1, none),
  (⟨"HeapLawModel", "formula", "()I"⟩, prog_9_method_6_code, 1, some .int),
  (⟨"HeapLawModel", "pure", "(IIII)I"⟩, prog_9_method_13_code, 5, some .int),
  (⟨"HeapLawModel", "isFormula", "(I)Z"⟩, prog_9_method_3_code, 2, some .boolean),
  (⟨"HeapLawModel", "isTerm", "(I)Z"⟩, prog_9_method_4_code, 1, some .boolean),
  (⟨"HeapLawModel", "addPure", "(IIII)V"⟩, prog_9_method_8_code, 6, none),
  (⟨"HeapLawModel", "part", "(IIII)I"⟩, prog_9_method_14_code, 5, some .int),
  (⟨"HeapLawModel", "addPart", "(IIIII)V"⟩, prog_9_method_9_code, 7, none),
  (⟨"HeapLawModel", "movePart", "(III)V"⟩, prog_9_method_10_code, 4, none),
  (⟨"HeapLawModel", "beside", "(II)I"⟩, prog_9_method_15_code, 5, some .int),
  (⟨"HeapLawModel", "copy", "(II)V"⟩, prog_9_method_12_code, 4, none),
  (⟨"HeapLawModel", "size", "(II)I"⟩, prog_9_method_16_code, 3, some .int),
  (⟨"HeapLawModel", "told", "(IIII)I"⟩, prog_9_method_17_code, 5, some .int),
  (⟨"HeapLawModel", "drop", "()I"⟩, prog_9_method_18_code, 1, some .int),
  (⟨"HeapLawModel", "set", "(II)I"⟩, prog_9_method_22_code, 4, some .int),
  (⟨"HeapLawModel", "isName", "(I)Z"⟩, prog_9_method_5_code, 1, some .boolean),
  (⟨"HeapLawModel", "isAddress", "(I)Z"⟩, prog_9_method_21_code, 1, some .boolean),
  (⟨"HeapLawModel", "cell", "(II)I"⟩, prog_9_method_23_code, 4, some .int),
  (⟨"HeapLawModel", "value", "(I)I"⟩, prog_9_method_24_code, 2, some .int),
  (⟨"HeapLawModel", "holds", "(I)I"⟩, prog_9_method_25_code, 2, some .int),
  (⟨"HeapLawModel", "held", "()I"⟩, prog_9_method_26_code, 3, some .int),
  (⟨"HeapLawModel", "fits", "(I)I"⟩, prog_9_method_29_code, 2, some .int),
  (⟨"HeapLawModel", "fitsSome", "(I)Z"⟩, prog_9_method_28_code, 8, some .boolean),
  (⟨"HeapLawModel", "has", "(II)Z"⟩, prog_9_method_19_code, 4, some .boolean),
  (⟨"HeapLawModel", "fitsNow", "(I)Z"⟩, prog_9_method_27_code, 8, some .boolean),
  (⟨"HeapLawModel", "run", "(IIII)I"⟩, prog_9_method_31_code, 7, some .int),
  (⟨"HeapLawModel", "needsY", "(I)Z"⟩, prog_9_method_30_code, 1, some .boolean),
  (⟨"HeapLawModel", "is", "(I)I"⟩, prog_9_method_39_code, 2, some .int),
  (⟨"HeapLawModel", "isFit", "(I)Z"⟩, prog_9_method_38_code, 3, some .boolean),
  (⟨"HeapLawModel", "gather", "(II)V"⟩, prog_9_method_35_code, 4, none),
  (⟨"HeapLawModel", "firstClasses", "()V"⟩, prog_9_method_36_code, 2, none),
  (⟨"HeapLawModel", "suits", "(I)Z"⟩, prog_9_method_34_code, 4, some .boolean),
  (⟨"HeapLawModel", "pureHolds", "(I)Z"⟩, prog_9_method_32_code, 3, some .boolean),
  (⟨"HeapLawModel", "isEmpty", "(II)Z"⟩, prog_9_method_33_code, 3, some .boolean),
  (⟨"HeapLawModel", "nextClasses", "()Z"⟩, prog_9_method_37_code, 4, some .boolean),
  (⟨"HeapLawModel", "says", "(II)I"⟩, prog_9_method_40_code, 4, some .int),
  (⟨"HeapLawModel", "hasSpare", "(I)Z"⟩, prog_9_method_20_code, 2, some .boolean),
  (⟨"HeapLawModel", "always", "(II)Z"⟩, prog_9_method_41_code, 6, some .boolean),
  (⟨"HeapLawModel", "isOrdered", "()Z"⟩, prog_9_method_43_code, 4, some .boolean),
  (⟨"HeapLawModel", "mayLie", "(I)Z"⟩, prog_9_method_44_code, 4, some .boolean),
  (⟨"HeapLawModel", "allGaps", "(II)Z"⟩, prog_9_method_46_code, 5, some .boolean),
  (⟨"HeapLawModel", "build", "(II)V"⟩, prog_9_method_47_code, 11, none),
  (⟨"HeapLawModel", "looseAt", "(II)I"⟩, prog_9_method_45_code, 4, some .int),
  (⟨"HeapLawModel", "suitsMemory", "(I)Z"⟩, prog_9_method_48_code, 7, some .boolean),
  (⟨"HeapLawModel", "nextPlaces", "(I)Z"⟩, prog_9_method_42_code, 3, some .boolean),
  (⟨"HeapLawModel", "step", "(IIII)I"⟩, prog_9_method_58_code, 9, some .int),
  (⟨"HeapLawModel", "openOther", "(I)Z"⟩, prog_9_method_54_code, 6, some .boolean),
  (⟨"HeapLawModel", "leastSpare", "(I)I"⟩, prog_9_method_49_code, 3, some .int),
  (⟨"HeapLawModel", "dropPart", "(II)V"⟩, prog_9_method_11_code, 4, none),
  (⟨"HeapLawModel", "put", "(IIII)Z"⟩, prog_9_method_52_code, 5, some .boolean),
  (⟨"HeapLawModel", "stands", "(IIII)Z"⟩, prog_9_method_7_code, 6, some .boolean),
  (⟨"HeapLawModel", "know", "(II)V"⟩, prog_9_method_50_code, 7, none),
  (⟨"HeapLawModel", "partFrom", "(II)I"⟩, prog_9_method_51_code, 4, some .int),
  (⟨"HeapLawModel", "open", "(II)Z"⟩, prog_9_method_53_code, 6, some .boolean),
  (⟨"HeapLawModel", "act", "(IIIII)Z"⟩, prog_9_method_57_code, 6, some .boolean),
  (⟨"HeapLawModel", "becomes", "(IIIII)Z"⟩, prog_9_method_56_code, 8, some .boolean),
  (⟨"HeapLawModel", "rename", "(III)V"⟩, prog_9_method_55_code, 5, none),
  (⟨"HeapLawModel", "differ", "(II)I"⟩, prog_9_method_59_code, 4, some .int),
  (⟨"HeapLawModel", "layValues", "(I)V"⟩, prog_9_method_60_code, 3, none),
  (⟨"HeapLawModel", "count", "(I)I"⟩, prog_9_method_61_code, 2, some .int),
  (⟨"HeapLaw$Memory", "isFitted", "(LHeapLaw$Plan;)Z"⟩, prog_3_method_6_code, 2, some .boolean)]
def hm_m0 : hm_Me := (⟨"", "", ""⟩, ⟨#[]⟩, 0, none)
set_option maxHeartbeats 4000000 in
set_option maxRecDepth 100000 in
theorem hm_ml_eq : hm_ix.map (fun i => hm_raw.getD i hm_m0) = hm_ml := by rfl
theorem hm_ix_lt : ∀ i ∈ hm_ix, i < 150 := by decide +kernel
def hm_me (j : Nat) : hm_Me := hm_ml.getD j (⟨"", "", ""⟩, ⟨#[]⟩, 0, none)
theorem hm_me_tbl {j : Nat} (h : j < 150) : Cond.code (hm_me j).1 (hm_me j).2.1 (hm_me j).2.2.1 (hm_me j).2.2.2 ∈ hm_good := by
  have e : hm_ml[j]? = some (hm_me j) := by
    have hl : hm_ml.length = 150 := rfl
    simp [hm_me, List.getD_eq_getElem?_getD, List.getElem?_eq_getElem (show j < hm_ml.length by omega)]
  have h0 : hm_me j ∈ hm_ix.map (fun i => hm_raw.getD i hm_m0) := by rw [hm_ml_eq]; exact List.mem_of_getElem? e
  obtain ⟨i, hi, he⟩ := List.mem_map.mp h0
  have hlt := hm_ix_lt i hi
  have hr : hm_raw.length = 150 := rfl
  have h1 : hm_me j ∈ lw_tbl.filterMap hm_pk := by
    rw [hm_raw_eq, ← he]
    refine List.mem_of_getElem? (i := i) ?_
    simp [List.getD_eq_getElem?_getD, List.getElem?_eq_getElem (show i < hm_raw.length by omega)]
  obtain ⟨w, hw, hk⟩ := List.mem_filterMap.mp h1
  cases w <;> simp only [hm_pk, reduceCtorEq] at hk
  rw [← Option.some.inj hk]
  exact List.mem_filter.mpr ⟨hw, rfl⟩
def hm_np (j : Nat) : Nat := [0, 0, 0, 0, 0, 0, 0, 0, 0, 0, 4, 1, 1, 1, 3, 1, 4, 1, 2, 2, 1, 1, 2, 4, 1, 1, 1, 0, 2, 1, 1, 2, 1, 2, 1, 1, 0, 1, 1, 1, 0, 4, 2, 3, 2, 3, 4, 3, 4, 3, 1, 1, 2, 3, 1, 1, 3, 1, 3, 4, 2, 4, 2, 0, 2, 4, 4, 2, 1, 1, 2, 3, 2, 1, 1, 2, 1, 2, 2, 1, 4, 0, 1, 2, 2, 1, 2, 1, 1, 0, 0, 4, 1, 1, 4, 4, 5, 3, 2, 2, 2, 4, 0, 2, 1, 1, 2, 1, 1, 0, 1, 1, 2, 1, 4, 1, 1, 1, 2, 0, 1, 1, 2, 0, 2, 1, 2, 0, 1, 2, 2, 2, 1, 1, 4, 1, 1, 2, 4, 4, 2, 2, 2, 5, 5, 3, 2, 1, 1, 1].getD j 0
def hm_mc (j : Nat) : Nat := match j with
  | 0 => 283
  | 2 => 2
  | 3 => 2
  | 4 => 5
  | 5 => 43
  | 6 => 2
  | 7 => 9
  | 89 => 23
  | _ => 0
def hm_ms (j : Nat) : Nat := match j with
  | 0 => 2891
  | 2 => 18
  | 3 => 35
  | 4 => 54
  | 5 => 432
  | 6 => 26
  | 7 => 97
  | 89 => 16430
  | _ => 0
def hm_nest : List Cond := lw_tbl.filter (fun w => match w with | .methodLinkNest _ _ _ _ => true | _ => false)
def hm_FL : List (Nat × Nat × Nat × Nat × Nat) := [(0, 9, 0, 0, 162), (0, 15, 0, 1, 167), (0, 18, 0, 2, 172), (0, 22, 0, 3, 177), (1, 9, 1, 0, 82), (1, 15, 1, 1, 84), (1, 24, 1, 2, 87), (1, 40, 3, 2, 113), (1, 49, 3, 1, 109), (1, 52, 3, 0, 106), (2, 12, 2, 0, 227), (2, 21, 2, 1, 229), (2, 25, 2, 2, 230), (2, 40, 1, 2, 88), (2, 64, 3, 2, 112), (2, 70, 1, 1, 85), (3, 9, 3, 0, 104), (3, 15, 3, 1, 107), (3, 24, 3, 2, 110), (3, 27, 0, 0, 163), (3, 30, 0, 2, 173), (3, 37, 0, 1, 168), (3, 40, 0, 3, 178), (4, 9, 4, 0, 129), (4, 15, 4, 1, 130), (4, 21, 4, 2, 131), (4, 25, 4, 5, 134), (4, 33, 3, 2, 111), (4, 37, 4, 4, 133), (4, 64, 3, 1, 108), (4, 67, 3, 0, 105), (4, 84, 4, 3, 132), (4, 87, 0, 2, 175), (4, 90, 0, 0, 164), (4, 93, 0, 3, 180), (4, 96, 0, 1, 171), (5, 11, 5, 0, 191), (5, 20, 5, 1, 192), (5, 29, 5, 4, 195), (5, 33, 5, 5, 196), (5, 36, 5, 6, 197), (5, 39, 5, 2, 193), (5, 42, 5, 3, 194), (5, 45, 5, 7, 198), (5, 77, 0, 1, 169), (5, 126, 0, 0, 166), (5, 129, 0, 2, 176), (5, 136, 0, 3, 181), (6, 11, 6, 0, 239), (6, 18, 6, 1, 240), (6, 25, 6, 2, 241), (6, 32, 6, 3, 242), (6, 39, 6, 4, 243), (6, 46, 6, 5, 244), (6, 51, 6, 6, 245), (6, 75, 0, 2, 174), (6, 81, 0, 3, 179), (6, 92, 0, 0, 165), (6, 96, 0, 1, 170), (6, 115, 1, 1, 86), (6, 121, 1, 0, 83), (6, 128, 1, 2, 89), (6, 177, 5, 7, 199), (6, 180, 6, 7, 246), (6, 186, 2, 0, 228), (7, 7, 7, 2, 625), (7, 13, 7, 3, 626), (7, 16, 7, 4, 627), (7, 19, 7, 5, 628), (7, 22, 7, 6, 629), (7, 25, 7, 7, 630), (7, 28, 7, 8, 631), (7, 31, 7, 9, 632), (7, 34, 7, 10, 633), (7, 37, 7, 11, 634), (7, 40, 7, 12, 635), (7, 44, 7, 13, 636), (7, 47, 7, 14, 637), (7, 50, 7, 17, 640), (7, 53, 7, 18, 641), (7, 56, 7, 20, 643), (7, 59, 7, 21, 644), (7, 62, 7, 22, 645), (7, 65, 7, 24, 647), (7, 68, 7, 27, 650), (7, 71, 7, 28, 651), (7, 74, 7, 30, 653), (7, 77, 7, 31, 654), (7, 84, 7, 1, 624), (7, 139, 7, 15, 638), (7, 142, 7, 16, 639), (7, 167, 7, 19, 642), (7, 188, 7, 23, 646), (7, 199, 7, 25, 648), (7, 219, 7, 26, 649), (7, 237, 7, 29, 652)]
def hm_ML : List (Nat × Nat × Nat × Nat × Nat) := [(0, 25, 1, 9, 313), (0, 28, 1, 21, 314), (0, 38, 1, 15, 555), (0, 42, 1, 18, 301), (0, 46, 3, 24, 531), (0, 50, 3, 25, 394), (0, 53, 3, 26, 395), (0, 56, 1, 40, 499), (0, 60, 3, 14, 581), (0, 64, 3, 44, 536), (1, 28, 3, 44, 413), (1, 32, 1, 33, 448), (1, 36, 1, 43, 409), (1, 45, 1, 45, 416), (1, 55, 3, 24, 420), (1, 59, 3, 25, 421), (1, 62, 3, 26, 422), (1, 65, 1, 46, 423), (1, 69, 1, 47, 427), (2, 11, 2, 2, 224), (2, 20, 5, 3, 226), (2, 28, 1, 39, 595), (2, 32, 1, 33, 596), (2, 36, 1, 45, 597), (2, 44, 0, 37, 598), (2, 50, 1, 85, 599), (2, 56, 1, 86, 603), (2, 60, 1, 149, 607), (2, 67, 3, 44, 608), (3, 18, 1, 40, 390), (3, 33, 1, 41, 396), (3, 43, 3, 25, 400), (3, 47, 3, 26, 401), (4, 20, 5, 3, 128), (4, 29, 1, 39, 461), (4, 38, 1, 56, 462), (4, 42, 1, 40, 504), (4, 47, 1, 57, 466), (4, 51, 3, 44, 477), (4, 55, 1, 60, 482), (4, 70, 3, 24, 470), (4, 74, 3, 25, 471), (4, 77, 3, 26, 472), (4, 80, 1, 61, 486), (4, 99, 1, 58, 473), (4, 103, 1, 59, 478), (5, 19, 5, 4, 156), (5, 24, 5, 6, 158), (5, 25, 1, 20, 513), (5, 48, 1, 68, 522), (5, 52, 1, 55, 526), (5, 56, 1, 69, 527), (5, 59, 1, 70, 532), (5, 63, 1, 71, 537), (5, 67, 1, 77, 565), (5, 71, 0, 72, 541), (5, 74, 0, 75, 556), (5, 81, 1, 73, 544), (5, 85, 3, 25, 548), (5, 88, 3, 26, 549), (5, 91, 3, 14, 550), (5, 95, 1, 74, 551), (5, 99, 1, 40, 559), (5, 103, 3, 76, 560), (5, 106, 1, 18, 564), (5, 110, 1, 78, 569), (5, 113, 1, 82, 582), (5, 116, 1, 79, 573), (5, 120, 1, 17, 586), (5, 123, 3, 44, 577), (5, 132, 0, 80, 578), (6, 17, 2, 2, 78), (6, 24, 5, 3, 100), (6, 31, 5, 4, 123), (6, 38, 2, 5, 150), (6, 45, 5, 7, 219), (6, 50, 5, 6, 238), (6, 55, 1, 9, 268), (6, 58, 1, 11, 276), (6, 62, 0, 12, 280), (6, 65, 0, 13, 283), (6, 68, 0, 14, 286), (6, 72, 1, 15, 289), (6, 78, 1, 17, 297), (6, 84, 1, 20, 309), (6, 88, 1, 21, 321), (6, 99, 0, 24, 330), (6, 103, 0, 25, 333), (6, 106, 0, 26, 336), (6, 109, 0, 29, 347), (6, 112, 0, 30, 350), (6, 118, 0, 32, 357), (6, 124, 1, 33, 360), (6, 131, 0, 37, 376), (6, 136, 1, 39, 386), (6, 139, 1, 149, 405), (6, 143, 0, 49, 435), (6, 147, 1, 52, 444), (6, 151, 1, 53, 449), (6, 154, 1, 55, 457), (6, 157, 1, 63, 495), (6, 161, 1, 64, 500), (6, 165, 1, 66, 509), (6, 169, 1, 67, 514), (6, 173, 1, 81, 518), (6, 183, 1, 84, 591), (6, 189, 1, 87, 609), (6, 192, 0, 50, 438), (6, 195, 0, 51, 441), (6, 198, 0, 44, 563), (7, 87, 1, 97, 748), (7, 91, 1, 92, 729), (7, 95, 0, 93, 733), (7, 98, 1, 94, 736), (7, 102, 1, 96, 744), (7, 106, 1, 99, 756), (7, 110, 1, 112, 806), (7, 114, 0, 104, 776), (7, 117, 0, 105, 779), (7, 120, 1, 109, 814), (7, 124, 1, 113, 810), (7, 127, 1, 111, 802), (7, 130, 0, 115, 819), (7, 133, 1, 121, 842), (7, 136, 1, 122, 846), (7, 145, 1, 118, 830), (7, 148, 1, 119, 834), (7, 151, 1, 120, 838), (7, 154, 1, 123, 850), (7, 158, 1, 117, 826), (7, 161, 1, 125, 858), (7, 164, 1, 126, 862), (7, 170, 1, 127, 866), (7, 173, 1, 128, 870), (7, 176, 1, 129, 874), (7, 179, 1, 133, 890), (7, 182, 1, 130, 878), (7, 185, 1, 132, 886), (7, 191, 1, 131, 882), (7, 195, 1, 139, 914), (7, 202, 1, 137, 906), (7, 205, 1, 138, 910), (7, 208, 1, 136, 902), (7, 212, 1, 145, 938), (7, 215, 1, 144, 934), (7, 222, 1, 135, 898), (7, 225, 1, 140, 918), (7, 228, 1, 141, 922), (7, 231, 1, 142, 926), (7, 234, 1, 143, 930), (7, 240, 1, 147, 946), (8, 9, 2, 0, 68), (8, 12, 2, 89, 620), (8, 13, 1, 8, 264), (8, 17, 1, 90, 721), (8, 18, 1, 10, 272), (8, 22, 1, 91, 725), (8, 23, 1, 16, 293), (8, 26, 1, 95, 740), (8, 27, 1, 19, 305), (8, 31, 1, 98, 752), (8, 32, 1, 22, 322), (8, 35, 1, 100, 760), (8, 36, 1, 23, 326), (8, 39, 1, 101, 764), (8, 40, 1, 27, 339), (8, 43, 1, 102, 768), (8, 44, 1, 28, 343), (8, 47, 1, 103, 772), (8, 48, 1, 31, 353), (8, 51, 1, 106, 782), (8, 52, 1, 34, 364), (8, 56, 1, 107, 786), (8, 57, 1, 35, 368), (8, 60, 1, 108, 790), (8, 61, 1, 36, 372), (8, 64, 1, 109, 794), (8, 65, 1, 38, 382), (8, 68, 1, 110, 798), (8, 69, 1, 48, 431), (8, 72, 1, 114, 815), (8, 73, 1, 54, 453), (8, 76, 1, 116, 822), (8, 77, 1, 62, 491), (8, 80, 1, 124, 854), (8, 81, 1, 65, 505), (8, 84, 1, 134, 894), (8, 85, 1, 83, 587), (8, 88, 1, 146, 942), (8, 89, 1, 88, 614), (8, 92, 1, 148, 950)]
def hm_CL : List (Nat × Nat × Nat × Nat) := [(2, 9, 1, 223), (2, 18, 3, 225), (4, 18, 3, 127), (5, 9, 0, 154), (5, 17, 4, 155), (6, 9, 0, 74), (6, 15, 1, 76), (6, 22, 3, 98), (6, 29, 4, 121), (6, 36, 5, 148), (6, 43, 2, 217), (8, 7, 6, 66), (8, 10, 7, 618)]
def hm_OI : List (Nat × Nat × Nat) := [(0, 3, 161), (1, 3, 81), (2, 3, 222), (3, 3, 103), (4, 3, 126), (5, 3, 153), (6, 3, 71), (7, 1, 623)]
def hm_AC : List (Nat × Nat × Nat) := [(0, 32, 318), (1, 18, 613)]
def hm_MX : List (Nat × Nat × Nat) := [(3, 50, 402), (4, 59, 490)]
/-- where the words of method j stand: initialized; static or instanceMethod; selects; its kind (0 static, 1 instance, 2 constructor) -/
def hm_mz : List (Nat × Nat × Nat × Nat) := [(55, 69, 0, 2), (0, 0, 0, 9), (56, 79, 0, 2), (57, 101, 0, 2), (58, 124, 0, 2), (59, 151, 0, 2), (60, 159, 0, 2), (61, 220, 0, 2), (55, 265, 266, 1), (60, 269, 270, 1), (55, 273, 274, 1), (55, 278, 0, 1), (55, 281, 0, 0), (55, 284, 0, 0), (55, 287, 0, 0), (60, 290, 291, 1), (55, 294, 295, 1), (60, 298, 299, 1), (60, 302, 303, 1), (55, 306, 307, 1), (60, 310, 311, 1), (60, 315, 316, 1), (55, 323, 324, 1), (55, 327, 328, 1), (55, 331, 0, 0), (55, 334, 0, 0), (55, 337, 0, 0), (55, 340, 341, 1), (55, 344, 345, 1), (55, 348, 0, 0), (55, 351, 0, 0), (55, 354, 355, 1), (55, 358, 0, 0), (56, 361, 362, 1), (55, 365, 366, 1), (55, 369, 370, 1), (55, 373, 374, 1), (64, 377, 0, 0), (55, 383, 384, 1), (57, 387, 388, 1), (60, 391, 392, 1), (57, 398, 1, 1), (0, 0, 0, 9), (56, 411, 2, 1), (55, 414, 0, 0), (56, 417, 418, 1), (56, 425, 3, 1), (56, 429, 4, 1), (55, 432, 433, 1), (55, 436, 0, 0), (55, 439, 0, 0), (55, 442, 0, 0), (56, 445, 446, 1), (56, 450, 451, 1), (55, 454, 455, 1), (58, 458, 459, 1), (58, 464, 5, 1), (58, 468, 6, 1), (58, 475, 7, 1), (58, 480, 8, 1), (58, 484, 9, 1), (58, 488, 10, 1), (55, 492, 493, 1), (60, 496, 497, 1), (58, 501, 502, 1), (55, 506, 507, 1), (59, 510, 511, 1), (59, 515, 516, 1), (59, 524, 11, 1), (60, 528, 529, 1), (60, 533, 534, 1), (59, 539, 12, 1), (59, 542, 0, 0), (60, 545, 546, 1), (60, 552, 553, 1), (59, 557, 0, 0), (55, 561, 0, 0), (59, 567, 13, 1), (59, 571, 14, 1), (59, 575, 15, 1), (60, 579, 0, 0), (59, 519, 520, 1), (59, 584, 16, 1), (55, 588, 589, 1), (61, 592, 593, 1), (60, 600, 601, 1), (61, 605, 17, 1), (56, 610, 611, 1), (55, 615, 616, 1), (62, 621, 0, 2), (62, 722, 723, 1), (62, 726, 727, 1), (62, 731, 18, 1), (62, 734, 0, 0), (62, 738, 19, 1), (62, 741, 742, 1), (62, 746, 20, 1), (62, 750, 21, 1), (62, 753, 754, 1), (62, 758, 22, 1), (62, 761, 762, 1), (62, 765, 766, 1), (62, 769, 770, 1), (62, 773, 774, 1), (62, 777, 0, 0), (62, 780, 0, 0), (62, 783, 784, 1), (62, 787, 788, 1), (62, 791, 792, 1), (62, 795, 796, 1), (62, 799, 800, 1), (62, 804, 23, 1), (62, 808, 24, 1), (62, 812, 25, 1), (62, 816, 817, 1), (62, 820, 0, 0), (62, 823, 824, 1), (62, 828, 26, 1), (62, 832, 27, 1), (62, 836, 28, 1), (62, 840, 29, 1), (62, 844, 30, 1), (62, 848, 31, 1), (62, 852, 32, 1), (62, 855, 856, 1), (62, 860, 33, 1), (62, 864, 34, 1), (62, 868, 35, 1), (62, 872, 36, 1), (62, 876, 37, 1), (62, 880, 38, 1), (62, 884, 39, 1), (62, 888, 40, 1), (62, 892, 41, 1), (62, 895, 896, 1), (62, 900, 42, 1), (62, 904, 43, 1), (62, 908, 44, 1), (62, 912, 45, 1), (62, 916, 46, 1), (62, 920, 47, 1), (62, 924, 48, 1), (62, 928, 49, 1), (62, 932, 50, 1), (62, 936, 51, 1), (62, 940, 52, 1), (62, 943, 944, 1), (62, 948, 53, 1), (62, 951, 952, 1), (56, 406, 407, 1)]
def hm_kind (j : Nat) : Nat := (hm_mz.getD j (0, 0, 0, 9)).2.2.2
def hm_me1 (j : Nat) (z : Nat × Nat × Nat × Nat) : Bool := hm_at z.1 (.initialized (hm_me j).1.cls) && plainName (hm_me j).1.cls && decide ((hm_me j).1.cls ≠ "java/lang/invoke/MethodHandle") && decide ((hm_me j).1.cls ≠ "java/lang/invoke/VarHandle") && decide ((parseMethodDescriptor (hm_me j).1.desc).map (fun d => d.parameters.length) = some (hm_np j)) && decide ((hm_me j).2.2.1 ≤ 21) &&
  (match z.2.2.2 with
  | 0 => hm_at z.2.1 (.static (hm_me j).1)
  | 1 => hm_at z.2.1 (.instanceMethod (hm_me j).1) && hm_at z.2.2.1 (.selects (hm_me j).1.cls (hm_me j).1 (hm_me j).1)
  | _ => hm_at z.2.1 (.instanceMethod (hm_me j).1) && decide ((hm_me j).1.name = "<init>") && decide ((hm_me j).2.2.2 = none))
def hm_fl1 (q : Nat × Nat × Nat × Nat × Nat) : Bool := hm_at q.2.2.2.2 (.fieldLink (hm_nm q.1) q.2.1 (hm_T q.2.2.1 q.2.2.2.1).1 (hm_T q.2.2.1 q.2.2.2.1).2.1 (hm_T q.2.2.1 q.2.2.2.1).2.2.1) && decide (q.2.2.1 < 8) && decide (q.2.2.2.1 < hm_N q.2.2.1)
def hm_ml1 (q : Nat × Nat × Nat × Nat × Nat) : Bool := match q.2.2.1 with
  | 0 => hm_at q.2.2.2.2 (.methodLink (hm_nm q.1) q.2.1 (hm_me q.2.2.2.1).1) && decide (hm_kind q.2.2.2.1 = 0)
  | 1 => hm_at q.2.2.2.2 (.methodLink (hm_nm q.1) q.2.1 (hm_me q.2.2.2.1).1) && decide (hm_kind q.2.2.2.1 = 1)
  | 2 => hm_at q.2.2.2.2 (.methodLink (hm_nm q.1) q.2.1 (hm_me q.2.2.2.1).1) && decide (hm_kind q.2.2.2.1 = 2)
  | 3 => decide (lw_tbl[q.2.2.2.2]? = some (.methodLinkNest (hm_nm q.1) q.2.1 (hm_me q.2.2.2.1).1 "HeapLaw")) && decide (hm_kind q.2.2.2.1 = 0)
  | 5 => decide (lw_tbl[q.2.2.2.2]? = some (.methodLinkNest (hm_nm q.1) q.2.1 (hm_me q.2.2.2.1).1 "HeapLaw")) && decide (hm_kind q.2.2.2.1 = 2)
  | _ => false
def hm_cl1 (q : Nat × Nat × Nat × Nat) : Bool := hm_at q.2.2.2 (.classLink (hm_nm q.1) q.2.1 (hm_nm q.2.2.1)) && decide (q.2.2.1 < 8)
def hm_oi1 (q : Nat × Nat × Nat) : Bool := hm_at q.2.2 (.methodLink (hm_nm q.1) q.2.1 objectInit)
def hm_ac1 (q : Nat × Nat × Nat) : Bool := hm_at q.2.2 (.methodLink (hm_nm q.1) q.2.1 arraycopyName)
def hm_mx1 (q : Nat × Nat × Nat) : Bool := hm_at q.2.2 (.methodLink (hm_nm q.1) q.2.1 Lib.Math.max.name)
def hm_alls : List (Nat × (Nat × Nat × Nat × Nat)) := (List.range 150).zip hm_mz
theorem hm_me_ok0 : (List.range' 0 25).all (fun j => hm_me1 j (hm_mz.getD j (0, 0, 0, 9)) || (j == 1 || j == 42)) = true := by decide +kernel
theorem hm_me_ok25 : (List.range' 25 25).all (fun j => hm_me1 j (hm_mz.getD j (0, 0, 0, 9)) || (j == 1 || j == 42)) = true := by decide +kernel
theorem hm_me_ok50 : (List.range' 50 25).all (fun j => hm_me1 j (hm_mz.getD j (0, 0, 0, 9)) || (j == 1 || j == 42)) = true := by decide +kernel
theorem hm_me_ok75 : (List.range' 75 25).all (fun j => hm_me1 j (hm_mz.getD j (0, 0, 0, 9)) || (j == 1 || j == 42)) = true := by decide +kernel
theorem hm_me_ok100 : (List.range' 100 25).all (fun j => hm_me1 j (hm_mz.getD j (0, 0, 0, 9)) || (j == 1 || j == 42)) = true := by decide +kernel
theorem hm_me_ok125 : (List.range' 125 25).all (fun j => hm_me1 j (hm_mz.getD j (0, 0, 0, 9)) || (j == 1 || j == 42)) = true := by decide +kernel
theorem hm_me_ok : ∀ j, j < 150 → j ≠ 1 → j ≠ 42 → hm_me1 j (hm_mz.getD j (0, 0, 0, 9)) = true := by
  intro j hj hn hn2
  have key : ∀ a n, (List.range' a n).all (fun j => hm_me1 j (hm_mz.getD j (0, 0, 0, 9)) || (j == 1 || j == 42)) = true → a ≤ j → j < a + n → hm_me1 j (hm_mz.getD j (0, 0, 0, 9)) = true := by
    intro a n h h1 h2
    have h3 := List.all_eq_true.mp h j (List.mem_range'_1.mpr ⟨h1, h2⟩)
    simp only [Bool.or_eq_true, beq_iff_eq, hn, hn2, or_false] at h3
    exact h3
  rcases Nat.lt_or_ge j 25 with h | h
  · exact key _ _ hm_me_ok0 (by omega) (by omega)
  rcases Nat.lt_or_ge j 50 with h | h
  · exact key _ _ hm_me_ok25 (by omega) (by omega)
  rcases Nat.lt_or_ge j 75 with h | h
  · exact key _ _ hm_me_ok50 (by omega) (by omega)
  rcases Nat.lt_or_ge j 100 with h | h
  · exact key _ _ hm_me_ok75 (by omega) (by omega)
  rcases Nat.lt_or_ge j 125 with h | h
  · exact key _ _ hm_me_ok100 (by omega) (by omega)
  rcases Nat.lt_or_ge j 150 with h | h
  · exact key _ _ hm_me_ok125 (by omega) (by omega)
  omega
theorem hm_FL_ok : hm_FL.all hm_fl1 = true := by decide +kernel
theorem hm_ML_ok0 : ((hm_ML.drop 0).take 50).all hm_ml1 = true := by decide +kernel
theorem hm_ML_ok50 : ((hm_ML.drop 50).take 50).all hm_ml1 = true := by decide +kernel
theorem hm_ML_ok100 : ((hm_ML.drop 100).take 50).all hm_ml1 = true := by decide +kernel
theorem hm_ML_ok150 : ((hm_ML.drop 150).take 50).all hm_ml1 = true := by decide +kernel
theorem hm_ML_ok : ∀ q ∈ hm_ML, hm_ml1 q = true := by
  intro q hq
  have e : hm_ML = (hm_ML.drop 0).take 50 ++ ((hm_ML.drop 50).take 50 ++ ((hm_ML.drop 100).take 50 ++ ((hm_ML.drop 150).take 50))) := by decide +kernel
  rw [e] at hq
  simp only [List.mem_append] at hq
  rcases hq with h | h | h | h
  · exact List.all_eq_true.mp hm_ML_ok0 q h
  · exact List.all_eq_true.mp hm_ML_ok50 q h
  · exact List.all_eq_true.mp hm_ML_ok100 q h
  · exact List.all_eq_true.mp hm_ML_ok150 q h
theorem hm_CL_ok : hm_CL.all hm_cl1 = true := by decide +kernel
theorem hm_OI_ok : hm_OI.all hm_oi1 = true := by decide +kernel
theorem hm_AC_ok : hm_AC.all hm_ac1 = true := by decide +kernel
theorem hm_MX_ok : hm_MX.all hm_mx1 = true := by decide +kernel
theorem hm_mxcode : Cond.code Lib.Math.max.name Lib.Math.max.code 2 (some .int) ∈ hm_good := hm_me_tbl (j := 42) (by decide)
theorem hm_once0 : hm_at 72 (.instanceMethod objectInit) = true := by decide +kernel
theorem hm_once1 : hm_at 320 (.native arraycopyName) = true := by decide +kernel
theorem hm_once2 : hm_at 319 (.static arraycopyName) = true := by decide +kernel
theorem hm_once3 : hm_at 63 (.initialized "java/lang/System") = true := by decide +kernel
theorem hm_once4 : hm_at 97 (.arrayClass .int) = true := by decide +kernel
theorem hm_once5 : hm_at 720 (.arrayClass .boolean) = true := by decide +kernel
theorem hm_once6 : hm_at 403 (.static Lib.Math.max.name) = true := by decide +kernel
theorem hm_once7 : hm_at 65 (.initialized "java/lang/Math") = true := by decide +kernel
theorem hm_once8 : hm_at 379 (.constant "java/lang/Integer" 265 1431655765) = true := by decide +kernel
theorem hm_once9 : hm_at 380 (.constant "java/lang/Integer" 266 858993459) = true := by decide +kernel
theorem hm_once10 : hm_at 381 (.constant "java/lang/Integer" 267 252645135) = true := by decide +kernel
theorem hm_oicode : Cond.code objectInit ⟨#[0xb1]⟩ 1 none ∈ hm_good := hm_me_tbl (j := 1) (by decide)
theorem hm_cls0 : ((u_ws (hm_nm 0) (hm_T 0) (hm_N 0)).zip [182, 184, 186, 188]).all (fun q => hm_at q.2 q.1) = true ∧ hm_at 157 (.instantiable (hm_nm 0) (hm_N 0)) = true ∧ hm_at 60 (.initialized (hm_nm 0)) = true := by decide +kernel
theorem hm_nmf0 : ∀ a, a < hm_N 0 → ∀ b, b < hm_N 0 → a ≠ b → (hm_T 0 a).2.1 ≠ (hm_T 0 b).2.1 := by decide +kernel
theorem hm_tyf0 : ∀ k, k < hm_N 0 → parseFieldDescriptor (hm_T 0 k).2.2.1 = some (hm_ty 0 k) ∧ (hm_T 0 k).1 = hm_nm 0 ∧ (hm_isr 0 k = true → refKind (hm_ty 0 k) = true) ∧ (hm_isr 0 k = false → hm_ty 0 k = .int) := by decide +kernel
theorem hm_cls1 : ((u_ws (hm_nm 1) (hm_T 1) (hm_N 1)).zip [90, 92, 94]).all (fun q => hm_at q.2 q.1) = true ∧ hm_at 77 (.instantiable (hm_nm 1) (hm_N 1)) = true ∧ hm_at 56 (.initialized (hm_nm 1)) = true := by decide +kernel
theorem hm_nmf1 : ∀ a, a < hm_N 1 → ∀ b, b < hm_N 1 → a ≠ b → (hm_T 1 a).2.1 ≠ (hm_T 1 b).2.1 := by decide +kernel
theorem hm_tyf1 : ∀ k, k < hm_N 1 → parseFieldDescriptor (hm_T 1 k).2.2.1 = some (hm_ty 1 k) ∧ (hm_T 1 k).1 = hm_nm 1 ∧ (hm_isr 1 k = true → refKind (hm_ty 1 k) = true) ∧ (hm_isr 1 k = false → hm_ty 1 k = .int) := by decide +kernel
theorem hm_cls2 : ((u_ws (hm_nm 2) (hm_T 2) (hm_N 2)).zip [231, 233, 235]).all (fun q => hm_at q.2 q.1) = true ∧ hm_at 218 (.instantiable (hm_nm 2) (hm_N 2)) = true ∧ hm_at 61 (.initialized (hm_nm 2)) = true := by decide +kernel
theorem hm_nmf2 : ∀ a, a < hm_N 2 → ∀ b, b < hm_N 2 → a ≠ b → (hm_T 2 a).2.1 ≠ (hm_T 2 b).2.1 := by decide +kernel
theorem hm_tyf2 : ∀ k, k < hm_N 2 → parseFieldDescriptor (hm_T 2 k).2.2.1 = some (hm_ty 2 k) ∧ (hm_T 2 k).1 = hm_nm 2 ∧ (hm_isr 2 k = true → refKind (hm_ty 2 k) = true) ∧ (hm_isr 2 k = false → hm_ty 2 k = .int) := by decide +kernel
theorem hm_cls3 : ((u_ws (hm_nm 3) (hm_T 3) (hm_N 3)).zip [114, 116, 118]).all (fun q => hm_at q.2 q.1) = true ∧ hm_at 99 (.instantiable (hm_nm 3) (hm_N 3)) = true ∧ hm_at 57 (.initialized (hm_nm 3)) = true := by decide +kernel
theorem hm_nmf3 : ∀ a, a < hm_N 3 → ∀ b, b < hm_N 3 → a ≠ b → (hm_T 3 a).2.1 ≠ (hm_T 3 b).2.1 := by decide +kernel
theorem hm_tyf3 : ∀ k, k < hm_N 3 → parseFieldDescriptor (hm_T 3 k).2.2.1 = some (hm_ty 3 k) ∧ (hm_T 3 k).1 = hm_nm 3 ∧ (hm_isr 3 k = true → refKind (hm_ty 3 k) = true) ∧ (hm_isr 3 k = false → hm_ty 3 k = .int) := by decide +kernel
theorem hm_cls4 : ((u_ws (hm_nm 4) (hm_T 4) (hm_N 4)).zip [135, 137, 139, 141, 143, 145]).all (fun q => hm_at q.2 q.1) = true ∧ hm_at 122 (.instantiable (hm_nm 4) (hm_N 4)) = true ∧ hm_at 58 (.initialized (hm_nm 4)) = true := by decide +kernel
theorem hm_nmf4 : ∀ a, a < hm_N 4 → ∀ b, b < hm_N 4 → a ≠ b → (hm_T 4 a).2.1 ≠ (hm_T 4 b).2.1 := by decide +kernel
theorem hm_tyf4 : ∀ k, k < hm_N 4 → parseFieldDescriptor (hm_T 4 k).2.2.1 = some (hm_ty 4 k) ∧ (hm_T 4 k).1 = hm_nm 4 ∧ (hm_isr 4 k = true → refKind (hm_ty 4 k) = true) ∧ (hm_isr 4 k = false → hm_ty 4 k = .int) := by decide +kernel
theorem hm_cls5 : ((u_ws (hm_nm 5) (hm_T 5) (hm_N 5)).zip [200, 202, 204, 206, 208, 210, 212, 214]).all (fun q => hm_at q.2 q.1) = true ∧ hm_at 149 (.instantiable (hm_nm 5) (hm_N 5)) = true ∧ hm_at 59 (.initialized (hm_nm 5)) = true := by decide +kernel
theorem hm_nmf5 : ∀ a, a < hm_N 5 → ∀ b, b < hm_N 5 → a ≠ b → (hm_T 5 a).2.1 ≠ (hm_T 5 b).2.1 := by decide +kernel
theorem hm_tyf5 : ∀ k, k < hm_N 5 → parseFieldDescriptor (hm_T 5 k).2.2.1 = some (hm_ty 5 k) ∧ (hm_T 5 k).1 = hm_nm 5 ∧ (hm_isr 5 k = true → refKind (hm_ty 5 k) = true) ∧ (hm_isr 5 k = false → hm_ty 5 k = .int) := by decide +kernel
theorem hm_cls6 : ((u_ws (hm_nm 6) (hm_T 6) (hm_N 6)).zip [247, 249, 251, 253, 255, 257, 259, 261]).all (fun q => hm_at q.2 q.1) = true ∧ hm_at 67 (.instantiable (hm_nm 6) (hm_N 6)) = true ∧ hm_at 55 (.initialized (hm_nm 6)) = true := by decide +kernel
theorem hm_nmf6 : ∀ a, a < hm_N 6 → ∀ b, b < hm_N 6 → a ≠ b → (hm_T 6 a).2.1 ≠ (hm_T 6 b).2.1 := by decide +kernel
theorem hm_tyf6 : ∀ k, k < hm_N 6 → parseFieldDescriptor (hm_T 6 k).2.2.1 = some (hm_ty 6 k) ∧ (hm_T 6 k).1 = hm_nm 6 ∧ (hm_isr 6 k = true → refKind (hm_ty 6 k) = true) ∧ (hm_isr 6 k = false → hm_ty 6 k = .int) := by decide +kernel
theorem hm_cls7 : ((u_ws (hm_nm 7) (hm_T 7) (hm_N 7)).zip [655, 657, 659, 661, 663, 665, 667, 669, 671, 673, 675, 677, 679, 681, 683, 685, 687, 689, 691, 693, 695, 697, 699, 701, 703, 705, 707, 709, 711, 713, 715, 717]).all (fun q => hm_at q.2 q.1) = true ∧ hm_at 619 (.instantiable (hm_nm 7) (hm_N 7)) = true ∧ hm_at 62 (.initialized (hm_nm 7)) = true := by decide +kernel
theorem hm_nmf7 : ∀ a, a < hm_N 7 → ∀ b, b < hm_N 7 → a ≠ b → (hm_T 7 a).2.1 ≠ (hm_T 7 b).2.1 := by decide +kernel
theorem hm_tyf7 : ∀ k, k < hm_N 7 → parseFieldDescriptor (hm_T 7 k).2.2.1 = some (hm_ty 7 k) ∧ (hm_T 7 k).1 = hm_nm 7 ∧ (hm_isr 7 k = true → refKind (hm_ty 7 k) = true) ∧ (hm_isr 7 k = false → hm_ty 7 k = .int) := by decide +kernel
