/-! THE TABLES: names, fields, methods, links of the claim (printed by wip/gen/gen02.py) -/
def hm_nm (o : Nat) : String := match o with
  | 0 => "HeapLaw$Formula"
  | 1 => "HeapLaw$Memory"
  | 2 => "HeapLaw$Parting"
  | 3 => "HeapLaw$Plan"
  | 4 => "HeapLaw$Sharing"
  | 5 => "HeapLaw$Stepper"
  | 6 => "HeapLaw"
  | 7 => "HeapLawModel"
  | 8 => "HeapLawLaw"
  | 9 => "java/lang/Integer"
  | _ => "java/lang/Math"
def hm_F0 : u_T := fun k => match k with
  | 0 => ("HeapLaw$Formula", "pures", "[I", true)
  | 1 => ("HeapLaw$Formula", "parts", "[I", true)
  | 2 => ("HeapLaw$Formula", "pureCount", "I", false)
  | _ => ("HeapLaw$Formula", "partCount", "I", false)
def hm_y0 : Nat → FieldType := fun k => match k with
  | 0 => .array .int
  | 1 => .array .int
  | 2 => .int
  | _ => .int
def hm_F1 : u_T := fun k => match k with
  | 0 => ("HeapLaw$Memory", "cells", "[I", true)
  | 1 => ("HeapLaw$Memory", "values", "[I", true)
  | _ => ("HeapLaw$Memory", "present", "I", false)
def hm_y1 : Nat → FieldType := fun k => match k with
  | 0 => .array .int
  | 1 => .array .int
  | _ => .int
def hm_F2 : u_T := fun k => match k with
  | 0 => ("HeapLaw$Parting", "trial", "LHeapLaw$Memory;", true)
  | 1 => ("HeapLaw$Parting", "fitting", "LHeapLaw$Plan;", true)
  | _ => ("HeapLaw$Parting", "failing", "LHeapLaw$Plan;", true)
def hm_y2 : Nat → FieldType := fun k => match k with
  | 0 => .object "HeapLaw$Memory"
  | 1 => .object "HeapLaw$Plan"
  | _ => .object "HeapLaw$Plan"
def hm_F3 : u_T := fun k => match k with
  | 0 => ("HeapLaw$Plan", "codes", "[I", true)
  | 1 => ("HeapLaw$Plan", "starts", "[I", true)
  | _ => ("HeapLaw$Plan", "terms", "I", false)
def hm_y3 : Nat → FieldType := fun k => match k with
  | 0 => .array .int
  | 1 => .array .int
  | _ => .int
def hm_F4 : u_T := fun k => match k with
  | 0 => ("HeapLaw$Sharing", "sorts", "[I", true)
  | 1 => ("HeapLaw$Sharing", "goesTo", "[I", true)
  | 2 => ("HeapLaw$Sharing", "plan", "LHeapLaw$Plan;", true)
  | 3 => ("HeapLaw$Sharing", "longOnes", "I", false)
  | 4 => ("HeapLaw$Sharing", "terms", "I", false)
  | _ => ("HeapLaw$Sharing", "other", "LHeapLaw$Formula;", false)
def hm_y4 : Nat → FieldType := fun k => match k with
  | 0 => .array .int
  | 1 => .array .int
  | 2 => .object "HeapLaw$Plan"
  | 3 => .int
  | 4 => .int
  | _ => .object "HeapLaw$Formula"
def hm_F5 : u_T := fun k => match k with
  | 0 => ("HeapLaw$Stepper", "cases", "[LHeapLaw$Formula;", true)
  | 1 => ("HeapLaw$Stepper", "sharing", "LHeapLaw$Sharing;", true)
  | 2 => ("HeapLaw$Stepper", "slots", "[LHeapLaw$Formula;", false)
  | 3 => ("HeapLaw$Stepper", "firstSlot", "I", false)
  | 4 => ("HeapLaw$Stepper", "act", "I", false)
  | 5 => ("HeapLaw$Stepper", "x", "I", false)
  | 6 => ("HeapLaw$Stepper", "y", "I", false)
  | _ => ("HeapLaw$Stepper", "filled", "I", false)
def hm_y5 : Nat → FieldType := fun k => match k with
  | 0 => .array (.object "HeapLaw$Formula")
  | 1 => .object "HeapLaw$Sharing"
  | 2 => .array (.object "HeapLaw$Formula")
  | 3 => .int
  | 4 => .int
  | 5 => .int
  | 6 => .int
  | _ => .int
def hm_F6 : u_T := fun k => match k with
  | 0 => ("HeapLaw", "formulas", "[LHeapLaw$Formula;", true)
  | 1 => ("HeapLaw", "memory", "LHeapLaw$Memory;", true)
  | 2 => ("HeapLaw", "plan", "LHeapLaw$Plan;", true)
  | 3 => ("HeapLaw", "sharing", "LHeapLaw$Sharing;", true)
  | 4 => ("HeapLaw", "stepper", "LHeapLaw$Stepper;", true)
  | 5 => ("HeapLaw", "parting", "LHeapLaw$Parting;", true)
  | 6 => ("HeapLaw", "made", "I", false)
  | _ => ("HeapLaw", "differed", "I", false)
def hm_y6 : Nat → FieldType := fun k => match k with
  | 0 => .array (.object "HeapLaw$Formula")
  | 1 => .object "HeapLaw$Memory"
  | 2 => .object "HeapLaw$Plan"
  | 3 => .object "HeapLaw$Sharing"
  | 4 => .object "HeapLaw$Stepper"
  | 5 => .object "HeapLaw$Parting"
  | 6 => .int
  | _ => .int
def hm_F7 : u_T := fun k => match k with
  | 0 => ("HeapLawModel", "code", "I", false)
  | 1 => ("HeapLawModel", "formulas", "I", false)
  | 2 => ("HeapLawModel", "pures", "[I", true)
  | 3 => ("HeapLawModel", "pureHow", "[I", true)
  | 4 => ("HeapLawModel", "pureX", "[I", true)
  | 5 => ("HeapLawModel", "pureY", "[I", true)
  | 6 => ("HeapLawModel", "parts", "[I", true)
  | 7 => ("HeapLawModel", "partHow", "[I", true)
  | 8 => ("HeapLawModel", "partX", "[I", true)
  | 9 => ("HeapLawModel", "partY", "[I", true)
  | 10 => ("HeapLawModel", "values", "[I", true)
  | 11 => ("HeapLawModel", "cells", "[I", true)
  | 12 => ("HeapLawModel", "dealt", "[Z", true)
  | 13 => ("HeapLawModel", "classOf", "[I", true)
  | 14 => ("HeapLawModel", "used", "[I", true)
  | 15 => ("HeapLawModel", "usedMany", "I", false)
  | 16 => ("HeapLawModel", "classes", "I", false)
  | 17 => ("HeapLawModel", "begins", "[I", true)
  | 18 => ("HeapLawModel", "loose", "[I", true)
  | 19 => ("HeapLawModel", "looseMany", "I", false)
  | 20 => ("HeapLawModel", "within", "[I", true)
  | 21 => ("HeapLawModel", "rank", "[I", true)
  | 22 => ("HeapLawModel", "next", "[I", true)
  | 23 => ("HeapLawModel", "nodes", "I", false)
  | 24 => ("HeapLawModel", "taken", "[Z", true)
  | 25 => ("HeapLawModel", "cases", "I", false)
  | 26 => ("HeapLawModel", "results", "I", false)
  | 27 => ("HeapLawModel", "known", "[Z", true)
  | 28 => ("HeapLawModel", "waits", "[I", true)
  | 29 => ("HeapLawModel", "asked", "I", false)
  | 30 => ("HeapLawModel", "keptCells", "[I", true)
  | _ => ("HeapLawModel", "keptValues", "[I", true)
def hm_y7 : Nat → FieldType := fun k => match k with
  | 0 => .int
  | 1 => .int
  | 2 => .array .int
  | 3 => .array .int
  | 4 => .array .int
  | 5 => .array .int
  | 6 => .array .int
  | 7 => .array .int
  | 8 => .array .int
  | 9 => .array .int
  | 10 => .array .int
  | 11 => .array .int
  | 12 => .array .boolean
  | 13 => .array .int
  | 14 => .array .int
  | 15 => .int
  | 16 => .int
  | 17 => .array .int
  | 18 => .array .int
  | 19 => .int
  | 20 => .array .int
  | 21 => .array .int
  | 22 => .array .int
  | 23 => .int
  | 24 => .array .boolean
  | 25 => .int
  | 26 => .int
  | 27 => .array .boolean
  | 28 => .array .int
  | 29 => .int
  | 30 => .array .int
  | _ => .array .int
def hm_T (c : Nat) : u_T := match c with
  | 0 => hm_F0
  | 1 => hm_F1
  | 2 => hm_F2
  | 3 => hm_F3
  | 4 => hm_F4
  | 5 => hm_F5
  | 6 => hm_F6
  | _ => hm_F7
def hm_ty (c : Nat) : Nat → FieldType := match c with
  | 0 => hm_y0
  | 1 => hm_y1
  | 2 => hm_y2
  | 3 => hm_y3
  | 4 => hm_y4
  | 5 => hm_y5
  | 6 => hm_y6
  | _ => hm_y7
def hm_N (c : Nat) : Nat := match c with
  | 0 => 4
  | 1 => 3
  | 2 => 3
  | 3 => 3
  | 4 => 6
  | 5 => 8
  | 6 => 8
  | _ => 32
/-- is field k of class c a reference? -/
def hm_isr (c k : Nat) : Bool := match c, k with
  | 0, 0 => true
  | 0, 1 => true
  | 1, 0 => true
  | 1, 1 => true
  | 2, 0 => true
  | 2, 1 => true
  | 2, 2 => true
  | 3, 0 => true
  | 3, 1 => true
  | 4, 0 => true
  | 4, 1 => true
  | 4, 2 => true
  | 4, 5 => true
  | 5, 0 => true
  | 5, 1 => true
  | 5, 2 => true
  | 6, 0 => true
  | 6, 1 => true
  | 6, 2 => true
  | 6, 3 => true
  | 6, 4 => true
  | 6, 5 => true
  | 7, 2 => true
  | 7, 3 => true
  | 7, 4 => true
  | 7, 5 => true
  | 7, 6 => true
  | 7, 7 => true
  | 7, 8 => true
  | 7, 9 => true
  | 7, 10 => true
  | 7, 11 => true
  | 7, 12 => true
  | 7, 13 => true
  | 7, 14 => true
  | 7, 17 => true
  | 7, 18 => true
  | 7, 20 => true
  | 7, 21 => true
  | 7, 22 => true
  | 7, 24 => true
  | 7, 27 => true
  | 7, 28 => true
  | 7, 30 => true
  | 7, 31 => true
  | _, _ => false
def hm_cl : List vw_C := [(hm_nm 0, hm_T 0, hm_N 0), (hm_nm 1, hm_T 1, hm_N 1), (hm_nm 2, hm_T 2, hm_N 2), (hm_nm 3, hm_T 3, hm_N 3), (hm_nm 4, hm_T 4, hm_N 4), (hm_nm 5, hm_T 5, hm_N 5), (hm_nm 6, hm_T 6, hm_N 6), (hm_nm 7, hm_T 7, hm_N 7)]
def hm_good : List Cond := lw_tbl.filter goodWord
def hm_at (z : Nat) (w : Cond) : Bool := decide (lw_tbl[z]? = some w) && goodWord w
theorem hm_at_in {z : Nat} {w : Cond} (h : hm_at z w = true) : w ∈ hm_good := by
  simp only [hm_at, Bool.and_eq_true, decide_eq_true_eq] at h
  exact List.mem_filter.mpr ⟨List.mem_of_getElem? h.1, h.2⟩
theorem hm_g_good {w : Cond} (h : w ∈ hm_good) : w ∈ lw_tbl ∧ goodWord w = true := List.mem_filter.mp h
theorem hm_goodIn {ws : List Cond} (h : ∀ w ∈ ws, w ∈ hm_good) : GoodIn hm_good ws := fun w hw => ⟨h w hw, good_of_word (hm_g_good (h w hw)).2⟩
abbrev hm_Me : Type := MethodName × ByteArray × Nat × Option FieldType
def hm_pk (w : Cond) : Option hm_Me := match w with | .code y b n r => some (y, b, n, r) | _ => none
def hm_ml : List hm_Me := [
  (⟨"HeapLaw", "<init>", "()V"⟩, prog_1_method_1_code, 2, none),
  (⟨"java/lang/Object", "<init>", "()V"⟩, object_method_1_code, 1, none),
  (⟨"HeapLaw$Memory", "<init>", "()V"⟩, prog_3_method_1_code, 2, none),
  (⟨"HeapLaw$Plan", "<init>", "()V"⟩, prog_5_method_1_code, 1, none),
  (⟨"HeapLaw$Sharing", "<init>", "()V"⟩, prog_6_method_1_code, 1, none),
  (⟨"HeapLaw$Stepper", "<init>", "()V"⟩, prog_7_method_1_code, 2, none),
  (⟨"HeapLaw$Formula", "<init>", "()V"⟩, prog_2_method_1_code, 1, none),
  (⟨"HeapLaw$Parting", "<init>", "()V"⟩, prog_4_method_1_code, 1, none),
  (⟨"HeapLaw", "formula", "()I"⟩, prog_1_method_2_code, 1, some .int),
  (⟨"HeapLaw$Formula", "clear", "()V"⟩, prog_2_method_2_code, 1, none),
  (⟨"HeapLaw", "pure", "(IIII)I"⟩, prog_1_method_3_code, 5, some .int),
  (⟨"HeapLaw", "isFormula", "(I)Z"⟩, prog_1_method_21_code, 2, some .boolean),
  (⟨"HeapLaw", "isHow", "(I)Z"⟩, prog_1_method_22_code, 1, some .boolean),
  (⟨"HeapLaw", "isTerm", "(I)Z"⟩, prog_1_method_23_code, 1, some .boolean),
  (⟨"HeapLaw", "pack", "(III)I"⟩, prog_1_method_30_code, 3, some .int),
  (⟨"HeapLaw$Formula", "addPure", "(I)Z"⟩, prog_2_method_5_code, 2, some .boolean),
  (⟨"HeapLaw", "part", "(IIII)I"⟩, prog_1_method_4_code, 5, some .int),
  (⟨"HeapLaw$Formula", "addPart", "(I)Z"⟩, prog_2_method_7_code, 2, some .boolean),
  (⟨"HeapLaw$Formula", "insertPart", "(II)Z"⟩, prog_2_method_8_code, 4, some .boolean),
  (⟨"HeapLaw", "beside", "(II)I"⟩, prog_1_method_5_code, 3, some .int),
  (⟨"HeapLaw$Formula", "copyFrom", "(LHeapLaw$Formula;)V"⟩, prog_2_method_3_code, 2, none),
  (⟨"HeapLaw$Formula", "append", "(LHeapLaw$Formula;)Z"⟩, prog_2_method_4_code, 2, some .boolean),
  (⟨"HeapLaw", "size", "(II)I"⟩, prog_1_method_6_code, 3, some .int),
  (⟨"HeapLaw", "told", "(IIII)I"⟩, prog_1_method_7_code, 7, some .int),
  (⟨"HeapLaw", "kindOf", "(I)I"⟩, prog_1_method_31_code, 1, some .int),
  (⟨"HeapLaw", "xOf", "(I)I"⟩, prog_1_method_32_code, 1, some .int),
  (⟨"HeapLaw", "yOf", "(I)I"⟩, prog_1_method_33_code, 1, some .int),
  (⟨"HeapLaw", "drop", "()I"⟩, prog_1_method_8_code, 1, some .int),
  (⟨"HeapLaw", "set", "(II)I"⟩, prog_1_method_9_code, 4, some .int),
  (⟨"HeapLaw", "isName", "(I)Z"⟩, prog_1_method_24_code, 1, some .boolean),
  (⟨"HeapLaw", "isAddress", "(I)Z"⟩, prog_1_method_25_code, 1, some .boolean),
  (⟨"HeapLaw", "cell", "(II)I"⟩, prog_1_method_10_code, 4, some .int),
  (⟨"HeapLaw", "isCellAddress", "(I)Z"⟩, prog_1_method_26_code, 1, some .boolean),
  (⟨"HeapLaw$Memory", "put", "(II)V"⟩, prog_3_method_3_code, 3, none),
  (⟨"HeapLaw", "value", "(I)I"⟩, prog_1_method_11_code, 2, some .int),
  (⟨"HeapLaw", "holds", "(I)I"⟩, prog_1_method_12_code, 2, some .int),
  (⟨"HeapLaw", "held", "()I"⟩, prog_1_method_13_code, 1, some .int),
  (⟨"java/lang/Integer", "bitCount", "(I)I"⟩, prog_10_method_49_code, 1, some .int),
  (⟨"HeapLaw", "fits", "(I)I"⟩, prog_1_method_14_code, 2, some .int),
  (⟨"HeapLaw$Plan", "lay", "(LHeapLaw$Formula;)V"⟩, prog_5_method_2_code, 4, none),
  (⟨"HeapLaw$Formula", "terms", "()I"⟩, prog_2_method_11_code, 3, some .int),
  (⟨"HeapLaw$Plan", "gather", "([IIII)I"⟩, prog_5_method_3_code, 7, some .int),
  (⟨"java/lang/Math", "max", "(II)I"⟩, prog_11_method_65_code, 2, some .int),
  (⟨"HeapLaw$Memory", "suits", "(LHeapLaw$Plan;II)Z"⟩, prog_3_method_6_code, 6, some .boolean),
  (⟨"HeapLaw", "has", "(II)Z"⟩, prog_1_method_34_code, 2, some .boolean),
  (⟨"HeapLaw$Memory", "deal", "(LHeapLaw$Plan;II)I"⟩, prog_3_method_7_code, 7, some .int),
  (⟨"HeapLaw$Memory", "dealOne", "(IIII)I"⟩, prog_3_method_8_code, 5, some .int),
  (⟨"HeapLaw$Memory", "walk", "(III)I"⟩, prog_3_method_9_code, 8, some .int),
  (⟨"HeapLaw", "run", "(IIII)I"⟩, prog_1_method_15_code, 5, some .int),
  (⟨"HeapLaw", "areNames", "(III)Z"⟩, prog_1_method_29_code, 3, some .boolean),
  (⟨"HeapLaw", "isAct", "(I)Z"⟩, prog_1_method_27_code, 1, some .boolean),
  (⟨"HeapLaw", "needsY", "(I)Z"⟩, prog_1_method_28_code, 1, some .boolean),
  (⟨"HeapLaw$Memory", "makeCell", "(II)I"⟩, prog_3_method_4_code, 4, some .int),
  (⟨"HeapLaw$Memory", "perform", "(III)I"⟩, prog_3_method_5_code, 4, some .int),
  (⟨"HeapLaw", "is", "(I)I"⟩, prog_1_method_16_code, 2, some .int),
  (⟨"HeapLaw$Sharing", "isFit", "(LHeapLaw$Formula;)Z"⟩, prog_6_method_2_code, 2, some .boolean),
  (⟨"HeapLaw$Sharing", "searchFrom", "(III)Z"⟩, prog_6_method_4_code, 6, some .boolean),
  (⟨"HeapLaw$Sharing", "isCovered", "(I)Z"⟩, prog_6_method_7_code, 7, some .boolean),
  (⟨"HeapLaw$Sharing", "coverCell", "(III)I"⟩, prog_6_method_8_code, 5, some .int),
  (⟨"HeapLaw$Sharing", "coverRow", "(IIII)I"⟩, prog_6_method_9_code, 9, some .int),
  (⟨"HeapLaw$Sharing", lw_nm423, "(II)I"⟩, prog_6_method_5_code, 6, some .int),
  (⟨"HeapLaw$Sharing", "admitOne", "(IIII)I"⟩, prog_6_method_6_code, 5, some .int),
  (⟨"HeapLaw", "says", "(II)I"⟩, prog_1_method_17_code, 3, some .int),
  (⟨"HeapLaw$Formula", "hasSpare", "()Z"⟩, prog_2_method_12_code, 1, some .boolean),
  (⟨"HeapLaw$Sharing", "canPart", "(LHeapLaw$Formula;LHeapLaw$Formula;)Z"⟩, prog_6_method_3_code, 3, some .boolean),
  (⟨"HeapLaw", "step", "(IIII)I"⟩, prog_1_method_18_code, 7, some .int),
  (⟨"HeapLaw$Stepper", "start", "(LHeapLaw$Formula;III)V"⟩, prog_7_method_2_code, 5, none),
  (⟨"HeapLaw$Stepper", "fillFrom", "([LHeapLaw$Formula;I)V"⟩, prog_7_method_3_code, 3, none),
  (⟨"HeapLaw$Stepper", "goThrough", "(I)I"⟩, prog_7_method_4_code, 5, some .int),
  (⟨"HeapLaw$Formula", "known", "(I)I"⟩, prog_2_method_15_code, 6, some .int),
  (⟨"HeapLaw$Formula", "firstFrom", "(II)I"⟩, prog_2_method_16_code, 4, some .int),
  (⟨"HeapLaw$Stepper", "open", "(LHeapLaw$Formula;II)I"⟩, prog_7_method_5_code, 6, some .int),
  (⟨"HeapLaw$Stepper", "makeEmpty", "(LHeapLaw$Formula;I)Z"⟩, prog_7_method_6_code, 3, some .boolean),
  (⟨"HeapLaw$Formula", "removePart", "(I)V"⟩, prog_2_method_9_code, 3, none),
  (⟨"HeapLaw$Formula", "putPure", "(I)Z"⟩, prog_2_method_6_code, 3, some .boolean),
  (⟨"HeapLaw$Stepper", "makeLonger", "(LHeapLaw$Formula;I)Z"⟩, prog_7_method_7_code, 4, some .boolean),
  (⟨"HeapLaw", "spareBeside", "(I)I"⟩, prog_1_method_35_code, 2, some .int),
  (⟨"HeapLaw$Stepper", "change", "(LHeapLaw$Formula;I)Z"⟩, prog_7_method_8_code, 3, some .boolean),
  (⟨"HeapLaw$Stepper", "become", "(LHeapLaw$Formula;I)Z"⟩, prog_7_method_9_code, 4, some .boolean),
  (⟨"HeapLaw$Stepper", "vacate", "(LHeapLaw$Formula;)I"⟩, prog_7_method_11_code, 4, some .int),
  (⟨"HeapLaw$Formula", "rename", "(II)V"⟩, prog_2_method_13_code, 4, none),
  (⟨"HeapLaw$Formula", "renamed", "(III)I"⟩, prog_2_method_14_code, 5, some .int),
  (⟨"HeapLaw$Stepper", "becomeNew", "(LHeapLaw$Formula;)Z"⟩, prog_7_method_10_code, 3, some .boolean),
  (⟨"HeapLaw", "differ", "(II)I"⟩, prog_1_method_19_code, 3, some .int),
  (⟨"HeapLaw$Parting", "find", "(LHeapLaw$Formula;LHeapLaw$Formula;)Z"⟩, prog_4_method_2_code, 5, some .boolean),
  (⟨"HeapLaw$Formula", "canTake", "(I)Z"⟩, prog_2_method_10_code, 4, some .boolean),
  (⟨"HeapLaw$Parting", "findFrom", "(II)Z"⟩, prog_4_method_3_code, 6, some .boolean),
  (⟨"HeapLaw$Memory", "copyFrom", "(LHeapLaw$Memory;)V"⟩, prog_3_method_2_code, 2, none),
  (⟨"HeapLaw", "count", "(I)I"⟩, prog_1_method_20_code, 2, some .int),
  (⟨"HeapLawModel", "<init>", "()V"⟩, prog_9_method_1_code, 1, none),
  (⟨"HeapLawModel", "formula", "()I"⟩, prog_9_method_6_code, 1, some .int),
  (⟨"HeapLawModel", "pure", "(IIII)I"⟩, prog_9_method_13_code, 5, some .int),
  (⟨"HeapLawModel", "isFormula", "(I)Z"⟩, prog_9_method_3_code, 2, some .boolean),
  (⟨"HeapLawModel", "isTerm", "(I)Z"⟩, prog_9_method_4_code, 1, some .boolean),
  (⟨"HeapLawModel", "addPure", "(IIII)V"⟩, prog_9_method_8_code, 6, none),
  (⟨"HeapLawModel", "part", "(IIII)I"⟩, prog_9_method_14_code, 5, some .int),
  (⟨"HeapLawModel", "addPart", "(IIIII)V"⟩, prog_9_method_9_code, 7, none),
  (⟨"HeapLawModel", "movePart", "(III)V"⟩, prog_9_method_10_code, 4, none),
  (⟨"HeapLawModel", "beside", "(II)I"⟩, prog_9_method_15_code, 5, some .int),
  (⟨"HeapLawModel", "copy", "(II)V"⟩, prog_9_method_12_code, 4, none),
  (⟨"HeapLawModel", "size", "(II)I"⟩, prog_9_method_16_code, 3, some .int),
  (⟨"HeapLawModel", "told", "(IIII)I"⟩, prog_9_method_17_code, 5, some .int),
  (⟨"HeapLawModel", "drop", "()I"⟩, prog_9_method_18_code, 1, some .int),
  (⟨"HeapLawModel", "set", "(II)I"⟩, prog_9_method_22_code, 4, some .int),
  (⟨"HeapLawModel", "isName", "(I)Z"⟩, prog_9_method_5_code, 1, some .boolean),
  (⟨"HeapLawModel", "isAddress", "(I)Z"⟩, prog_9_method_21_code, 1, some .boolean),
  (⟨"HeapLawModel", "cell", "(II)I"⟩, prog_9_method_23_code, 4, some .int),
  (⟨"HeapLawModel", "value", "(I)I"⟩, prog_9_method_24_code, 2, some .int),
  (⟨"HeapLawModel", "holds", "(I)I"⟩, prog_9_method_25_code, 2, some .int),
  (⟨"HeapLawModel", "held", "()I"⟩, prog_9_method_26_code, 3, some .int),
  (⟨"HeapLawModel", "fits", "(I)I"⟩, prog_9_method_29_code, 2, some .int),
  (⟨"HeapLawModel", "fitsSome", "(I)Z"⟩, prog_9_method_28_code, 8, some .boolean),
  (⟨"HeapLawModel", "has", "(II)Z"⟩, prog_9_method_19_code, 4, some .boolean),
  (⟨"HeapLawModel", "fitsNow", "(I)Z"⟩, prog_9_method_27_code, 8, some .boolean),
  (⟨"HeapLawModel", "run", "(IIII)I"⟩, prog_9_method_31_code, 7, some .int),
  (⟨"HeapLawModel", "needsY", "(I)Z"⟩, prog_9_method_30_code, 1, some .boolean),
  (⟨"HeapLawModel", "is", "(I)I"⟩, prog_9_method_39_code, 2, some .int),
  (⟨"HeapLawModel", "isFit", "(I)Z"⟩, prog_9_method_38_code, 3, some .boolean),
  (⟨"HeapLawModel", "gather", "(II)V"⟩, prog_9_method_35_code, 4, none),
  (⟨"HeapLawModel", "firstClasses", "()V"⟩, prog_9_method_36_code, 2, none),
  (⟨"HeapLawModel", "suits", "(I)Z"⟩, prog_9_method_34_code, 4, some .boolean),
  (⟨"HeapLawModel", "pureHolds", "(I)Z"⟩, prog_9_method_32_code, 3, some .boolean),
  (⟨"HeapLawModel", "isEmpty", "(II)Z"⟩, prog_9_method_33_code, 3, some .boolean),
  (⟨"HeapLawModel", "nextClasses", "()Z"⟩, prog_9_method_37_code, 4, some .boolean),
  (⟨"HeapLawModel", "says", "(II)I"⟩, prog_9_method_40_code, 4, some .int),
  (⟨"HeapLawModel", "hasSpare", "(I)Z"⟩, prog_9_method_20_code, 2, some .boolean),
  (⟨"HeapLawModel", "always", "(II)Z"⟩, prog_9_method_41_code, 6, some .boolean),
  (⟨"HeapLawModel", "isOrdered", "()Z"⟩, prog_9_method_43_code, 4, some .boolean),
  (⟨"HeapLawModel", "mayLie", "(I)Z"⟩, prog_9_method_44_code, 4, some .boolean),
  (⟨"HeapLawModel", "allGaps", "(II)Z"⟩, prog_9_method_46_code, 5, some .boolean),
  (⟨"HeapLawModel", "build", "(II)V"⟩, prog_9_method_47_code, 11, none),
  (⟨"HeapLawModel", "looseAt", "(II)I"⟩, prog_9_method_45_code, 4, some .int),
  (⟨"HeapLawModel", "suitsMemory", "(I)Z"⟩, prog_9_method_48_code, 7, some .boolean),
  (⟨"HeapLawModel", "nextPlaces", "(I)Z"⟩, prog_9_method_42_code, 3, some .boolean),
  (⟨"HeapLawModel", "step", "(IIII)I"⟩, prog_9_method_58_code, 9, some .int),
  (⟨"HeapLawModel", "openOther", "(I)Z"⟩, prog_9_method_54_code, 6, some .boolean),
  (⟨"HeapLawModel", "leastSpare", "(I)I"⟩, prog_9_method_49_code, 3, some .int),
  (⟨"HeapLawModel", "dropPart", "(II)V"⟩, prog_9_method_11_code, 4, none),
  (⟨"HeapLawModel", "put", "(IIII)Z"⟩, prog_9_method_52_code, 5, some .boolean),
  (⟨"HeapLawModel", "stands", "(IIII)Z"⟩, prog_9_method_7_code, 6, some .boolean),
  (⟨"HeapLawModel", "know", "(II)V"⟩, prog_9_method_50_code, 7, none),
  (⟨"HeapLawModel", "partFrom", "(II)I"⟩, prog_9_method_51_code, 4, some .int),
  (⟨"HeapLawModel", "open", "(II)Z"⟩, prog_9_method_53_code, 6, some .boolean),
  (⟨"HeapLawModel", "act", "(IIIII)Z"⟩, prog_9_method_57_code, 6, some .boolean),
  (⟨"HeapLawModel", "becomes", "(IIIII)Z"⟩, prog_9_method_56_code, 8, some .boolean),
  (⟨"HeapLawModel", "rename", "(III)V"⟩, prog_9_method_55_code, 5, none),
  (⟨"HeapLawModel", "differ", "(II)I"⟩, prog_9_method_59_code, 4, some .int),
  (⟨"HeapLawModel", "layValues", "(I)V"⟩, prog_9_method_60_code, 3, none),
  (⟨"HeapLawModel", "count", "(I)I"⟩, prog_9_method_61_code, 2, some .int)]
set_option maxHeartbeats 4000000 in
set_option maxRecDepth 100000 in
theorem hm_ml_eq : lw_tbl.filterMap hm_pk = hm_ml := by rfl
def hm_me (j : Nat) : hm_Me := hm_ml.getD j (⟨"", "", ""⟩, ⟨#[]⟩, 0, none)
theorem hm_me_tbl {j : Nat} (h : j < 149) : Cond.code (hm_me j).1 (hm_me j).2.1 (hm_me j).2.2.1 (hm_me j).2.2.2 ∈ hm_good := by
  have e : hm_ml[j]? = some (hm_me j) := by
    have hl : hm_ml.length = 149 := rfl
    simp [hm_me, List.getD_eq_getElem?_getD, List.getElem?_eq_getElem (show j < hm_ml.length by omega)]
  have h1 : hm_me j ∈ lw_tbl.filterMap hm_pk := by rw [hm_ml_eq]; exact List.mem_of_getElem? e
  obtain ⟨w, hw, hk⟩ := List.mem_filterMap.mp h1
  cases w <;> simp only [hm_pk, reduceCtorEq] at hk
  rw [← Option.some.inj hk]
  exact List.mem_filter.mpr ⟨hw, rfl⟩
def hm_np (j : Nat) : Nat := [0, 0, 0, 0, 0, 0, 0, 0, 0, 0, 4, 1, 1, 1, 3, 1, 4, 1, 2, 2, 1, 1, 2, 4, 1, 1, 1, 0, 2, 1, 1, 2, 1, 2, 1, 1, 0, 1, 1, 1, 0, 4, 2, 3, 2, 3, 4, 3, 4, 3, 1, 1, 2, 3, 1, 1, 3, 1, 3, 4, 2, 4, 2, 0, 2, 4, 4, 2, 1, 1, 2, 3, 2, 1, 1, 2, 1, 2, 2, 1, 2, 3, 1, 2, 2, 1, 2, 1, 1, 0, 0, 4, 1, 1, 4, 4, 5, 3, 2, 2, 2, 4, 0, 2, 1, 1, 2, 1, 1, 0, 1, 1, 2, 1, 4, 1, 1, 1, 2, 0, 1, 1, 2, 0, 2, 1, 2, 0, 1, 2, 2, 2, 1, 1, 4, 1, 1, 2, 4, 4, 2, 2, 2, 5, 5, 3, 2, 1, 1].getD j 0
def hm_mc (j : Nat) : Nat := match j with
  | 0 => 283
  | 2 => 2
  | 3 => 2
  | 4 => 5
  | 5 => 43
  | 6 => 2
  | 7 => 9
  | 89 => 23
  | _ => 0
def hm_ms (j : Nat) : Nat := match j with
  | 0 => 2891
  | 2 => 18
  | 3 => 35
  | 4 => 54
  | 5 => 432
  | 6 => 26
  | 7 => 97
  | 89 => 16430
  | _ => 0
def hm_nest : List Cond := lw_tbl.filter (fun w => match w with | .methodLinkNest _ _ _ _ => true | _ => false)
def hm_FL : List (Nat × Nat × Nat × Nat × Nat) := [(0, 9, 0, 0, 160), (0, 15, 0, 1, 164), (0, 18, 0, 2, 169), (0, 22, 0, 3, 173), (1, 9, 1, 0, 80), (1, 15, 1, 1, 82), (1, 24, 1, 2, 85), (1, 36, 3, 2, 111), (1, 49, 3, 1, 107), (1, 52, 3, 0, 104), (2, 12, 2, 0, 222), (2, 21, 2, 1, 224), (2, 25, 2, 2, 225), (2, 40, 1, 2, 86), (2, 64, 3, 2, 110), (2, 70, 1, 1, 83), (3, 9, 3, 0, 102), (3, 15, 3, 1, 105), (3, 24, 3, 2, 108), (3, 27, 0, 0, 161), (3, 30, 0, 2, 170), (3, 37, 0, 1, 165), (3, 40, 0, 3, 174), (4, 9, 4, 0, 127), (4, 15, 4, 1, 128), (4, 21, 4, 2, 129), (4, 25, 4, 5, 132), (4, 33, 3, 2, 109), (4, 37, 4, 4, 131), (4, 64, 3, 1, 106), (4, 67, 3, 0, 103), (4, 84, 4, 3, 130), (4, 87, 0, 2, 172), (4, 90, 0, 0, 162), (4, 93, 0, 3, 176), (4, 96, 0, 1, 168), (5, 11, 5, 0, 186), (5, 20, 5, 1, 187), (5, 29, 5, 4, 190), (5, 33, 5, 5, 191), (5, 36, 5, 6, 192), (5, 39, 5, 2, 188), (5, 42, 5, 3, 189), (5, 45, 5, 7, 193), (5, 77, 0, 1, 166), (6, 11, 6, 0, 234), (6, 18, 6, 1, 235), (6, 25, 6, 2, 236), (6, 32, 6, 3, 237), (6, 39, 6, 4, 238), (6, 46, 6, 5, 239), (6, 51, 6, 6, 240), (6, 75, 0, 2, 171), (6, 81, 0, 3, 175), (6, 92, 0, 0, 163), (6, 96, 0, 1, 167), (6, 115, 1, 1, 84), (6, 121, 1, 0, 81), (6, 128, 1, 2, 87), (6, 176, 5, 7, 194), (6, 179, 6, 7, 241), (6, 185, 2, 0, 223), (7, 7, 7, 2, 618), (7, 13, 7, 3, 619), (7, 16, 7, 4, 620), (7, 19, 7, 5, 621), (7, 22, 7, 6, 622), (7, 25, 7, 7, 623), (7, 28, 7, 8, 624), (7, 31, 7, 9, 625), (7, 34, 7, 10, 626), (7, 37, 7, 11, 627), (7, 40, 7, 12, 628), (7, 44, 7, 13, 629), (7, 47, 7, 14, 630), (7, 50, 7, 17, 633), (7, 53, 7, 18, 634), (7, 56, 7, 20, 636), (7, 59, 7, 21, 637), (7, 62, 7, 22, 638), (7, 65, 7, 24, 640), (7, 68, 7, 27, 643), (7, 71, 7, 28, 644), (7, 74, 7, 30, 646), (7, 77, 7, 31, 647), (7, 84, 7, 1, 617), (7, 139, 7, 15, 631), (7, 142, 7, 16, 632), (7, 167, 7, 19, 635), (7, 188, 7, 23, 639), (7, 199, 7, 25, 641), (7, 219, 7, 26, 642), (7, 237, 7, 29, 645)]
def hm_ML : List (Nat × Nat × Nat × Nat × Nat) := [(0, 25, 1, 9, 308), (0, 28, 1, 21, 309), (0, 38, 1, 15, 543), (0, 42, 1, 18, 296), (0, 46, 3, 24, 519), (0, 50, 3, 25, 389), (0, 53, 3, 26, 390), (0, 56, 1, 40, 491), (0, 60, 0, 81, 571), (0, 64, 3, 14, 574), (0, 67, 3, 44, 524), (1, 28, 3, 44, 404), (1, 32, 1, 33, 440), (1, 41, 1, 45, 407), (1, 45, 1, 43, 422), (1, 55, 3, 24, 411), (1, 59, 3, 25, 412), (1, 62, 3, 26, 413), (1, 65, 1, 46, 414), (1, 69, 1, 47, 418), (2, 11, 2, 2, 219), (2, 20, 5, 3, 221), (2, 28, 1, 39, 588), (2, 32, 1, 33, 589), (2, 36, 1, 45, 590), (2, 44, 0, 37, 591), (2, 50, 1, 85, 592), (2, 56, 1, 86, 596), (2, 60, 1, 43, 600), (2, 67, 3, 44, 601), (3, 18, 1, 40, 385), (3, 33, 1, 41, 391), (3, 43, 3, 25, 395), (3, 47, 3, 26, 396), (4, 20, 5, 3, 126), (4, 29, 1, 39, 453), (4, 38, 1, 56, 454), (4, 42, 1, 40, 496), (4, 47, 1, 57, 458), (4, 51, 3, 44, 469), (4, 55, 1, 60, 474), (4, 70, 3, 24, 462), (4, 74, 3, 25, 463), (4, 77, 3, 26, 464), (4, 80, 1, 61, 478), (4, 99, 1, 58, 465), (4, 103, 1, 59, 470), (5, 19, 5, 4, 154), (5, 24, 5, 6, 156), (5, 25, 1, 20, 505), (5, 48, 1, 55, 514), (5, 52, 1, 69, 515), (5, 56, 1, 70, 520), (5, 60, 1, 71, 525), (5, 64, 1, 77, 554), (5, 68, 0, 72, 529), (5, 71, 1, 68, 544), (5, 74, 0, 75, 545), (5, 81, 1, 73, 532), (5, 85, 3, 25, 536), (5, 88, 3, 26, 537), (5, 91, 3, 14, 538), (5, 95, 1, 74, 539), (5, 99, 1, 40, 548), (5, 103, 3, 76, 549), (5, 106, 1, 18, 553), (5, 110, 1, 78, 558), (5, 113, 1, 82, 575), (5, 116, 1, 79, 562), (5, 120, 1, 17, 579), (5, 123, 3, 44, 566), (5, 126, 1, 80, 567), (6, 17, 2, 2, 76), (6, 24, 5, 3, 98), (6, 31, 5, 4, 121), (6, 38, 2, 5, 148), (6, 45, 5, 7, 214), (6, 50, 5, 6, 233), (6, 55, 1, 9, 263), (6, 58, 1, 11, 271), (6, 62, 0, 12, 275), (6, 65, 0, 13, 278), (6, 68, 0, 14, 281), (6, 72, 1, 15, 284), (6, 78, 1, 17, 292), (6, 84, 1, 20, 304), (6, 88, 1, 21, 316), (6, 99, 0, 24, 325), (6, 103, 0, 25, 328), (6, 106, 0, 26, 331), (6, 109, 0, 29, 342), (6, 112, 0, 30, 345), (6, 118, 0, 32, 352), (6, 124, 1, 33, 355), (6, 131, 0, 37, 371), (6, 136, 1, 39, 381), (6, 139, 1, 43, 400), (6, 143, 0, 49, 427), (6, 147, 1, 52, 436), (6, 151, 1, 53, 441), (6, 154, 1, 55, 449), (6, 157, 1, 63, 487), (6, 161, 1, 64, 492), (6, 165, 1, 66, 501), (6, 169, 1, 67, 506), (6, 173, 1, 68, 510), (6, 182, 1, 84, 584), (6, 188, 1, 87, 602), (6, 191, 0, 50, 430), (6, 194, 0, 51, 433), (6, 197, 0, 44, 552), (7, 87, 1, 97, 741), (7, 91, 1, 92, 722), (7, 95, 0, 93, 726), (7, 98, 1, 94, 729), (7, 102, 1, 96, 737), (7, 106, 1, 99, 749), (7, 110, 1, 112, 799), (7, 114, 0, 104, 769), (7, 117, 0, 105, 772), (7, 120, 1, 109, 807), (7, 124, 1, 113, 803), (7, 127, 1, 111, 795), (7, 130, 0, 115, 812), (7, 133, 1, 121, 835), (7, 136, 1, 122, 839), (7, 145, 1, 118, 823), (7, 148, 1, 119, 827), (7, 151, 1, 120, 831), (7, 154, 1, 123, 843), (7, 158, 1, 117, 819), (7, 161, 1, 125, 851), (7, 164, 1, 126, 855), (7, 170, 1, 127, 859), (7, 173, 1, 128, 863), (7, 176, 1, 129, 867), (7, 179, 1, 133, 883), (7, 182, 1, 130, 871), (7, 185, 1, 132, 879), (7, 191, 1, 131, 875), (7, 195, 1, 139, 907), (7, 202, 1, 137, 899), (7, 205, 1, 138, 903), (7, 208, 1, 136, 895), (7, 212, 1, 145, 931), (7, 215, 1, 144, 927), (7, 222, 1, 135, 891), (7, 225, 1, 140, 911), (7, 228, 1, 141, 915), (7, 231, 1, 142, 919), (7, 234, 1, 143, 923), (7, 240, 1, 147, 939), (8, 9, 2, 0, 66), (8, 12, 2, 89, 613), (8, 13, 1, 8, 259), (8, 17, 1, 90, 714), (8, 18, 1, 10, 267), (8, 22, 1, 91, 718), (8, 23, 1, 16, 288), (8, 26, 1, 95, 733), (8, 27, 1, 19, 300), (8, 31, 1, 98, 745), (8, 32, 1, 22, 317), (8, 35, 1, 100, 753), (8, 36, 1, 23, 321), (8, 39, 1, 101, 757), (8, 40, 1, 27, 334), (8, 43, 1, 102, 761), (8, 44, 1, 28, 338), (8, 47, 1, 103, 765), (8, 48, 1, 31, 348), (8, 51, 1, 106, 775), (8, 52, 1, 34, 359), (8, 56, 1, 107, 779), (8, 57, 1, 35, 363), (8, 60, 1, 108, 783), (8, 61, 1, 36, 367), (8, 64, 1, 109, 787), (8, 65, 1, 38, 377), (8, 68, 1, 110, 791), (8, 69, 1, 48, 423), (8, 72, 1, 114, 808), (8, 73, 1, 54, 445), (8, 76, 1, 116, 815), (8, 77, 1, 62, 483), (8, 80, 1, 124, 847), (8, 81, 1, 65, 497), (8, 84, 1, 134, 887), (8, 85, 1, 83, 580), (8, 88, 1, 146, 935), (8, 89, 1, 88, 607), (8, 92, 1, 148, 943)]
def hm_CL : List (Nat × Nat × Nat × Nat) := [(2, 9, 1, 218), (2, 18, 3, 220), (4, 18, 3, 125), (5, 9, 0, 152), (5, 17, 4, 153), (6, 9, 0, 72), (6, 15, 1, 74), (6, 22, 3, 96), (6, 29, 4, 119), (6, 36, 5, 146), (6, 43, 2, 212), (8, 7, 6, 64), (8, 10, 7, 611)]
def hm_OI : List (Nat × Nat × Nat) := [(0, 3, 159), (1, 3, 79), (2, 3, 217), (3, 3, 101), (4, 3, 124), (5, 3, 151), (6, 3, 69), (7, 1, 616)]
def hm_AC : List (Nat × Nat × Nat) := [(0, 32, 313), (1, 18, 606)]
def hm_MX : List (Nat × Nat × Nat) := [(3, 50, 397), (4, 59, 482)]
/-- where the words of method j stand: initialized; static or instanceMethod; selects; its kind (0 static, 1 instance, 2 constructor) -/
def hm_mz : List (Nat × Nat × Nat × Nat) := [(53, 67, 0, 2), (0, 0, 0, 9), (54, 77, 0, 2), (55, 99, 0, 2), (56, 122, 0, 2), (57, 149, 0, 2), (58, 157, 0, 2), (59, 215, 0, 2), (53, 260, 261, 1), (58, 264, 265, 1), (53, 268, 269, 1), (53, 273, 0, 1), (53, 276, 0, 0), (53, 279, 0, 0), (53, 282, 0, 0), (58, 285, 286, 1), (53, 289, 290, 1), (58, 293, 294, 1), (58, 297, 298, 1), (53, 301, 302, 1), (58, 305, 306, 1), (58, 310, 311, 1), (53, 318, 319, 1), (53, 322, 323, 1), (53, 326, 0, 0), (53, 329, 0, 0), (53, 332, 0, 0), (53, 335, 336, 1), (53, 339, 340, 1), (53, 343, 0, 0), (53, 346, 0, 0), (53, 349, 350, 1), (53, 353, 0, 0), (54, 356, 357, 1), (53, 360, 361, 1), (53, 364, 365, 1), (53, 368, 369, 1), (62, 372, 0, 0), (53, 378, 379, 1), (55, 382, 383, 1), (58, 386, 387, 1), (55, 393, 1, 1), (0, 0, 0, 9), (54, 401, 402, 1), (53, 405, 0, 0), (54, 408, 409, 1), (54, 416, 2, 1), (54, 420, 3, 1), (53, 424, 425, 1), (53, 428, 0, 0), (53, 431, 0, 0), (53, 434, 0, 0), (54, 437, 438, 1), (54, 442, 443, 1), (53, 446, 447, 1), (56, 450, 451, 1), (56, 456, 4, 1), (56, 460, 5, 1), (56, 467, 6, 1), (56, 472, 7, 1), (56, 476, 8, 1), (56, 480, 9, 1), (53, 484, 485, 1), (58, 488, 489, 1), (56, 493, 494, 1), (53, 498, 499, 1), (57, 502, 503, 1), (57, 507, 508, 1), (57, 511, 512, 1), (58, 516, 517, 1), (58, 521, 522, 1), (57, 527, 10, 1), (57, 530, 0, 0), (58, 533, 534, 1), (58, 540, 541, 1), (57, 546, 0, 0), (53, 550, 0, 0), (57, 556, 11, 1), (57, 560, 12, 1), (57, 564, 13, 1), (58, 568, 569, 1), (58, 572, 0, 0), (57, 577, 14, 1), (53, 581, 582, 1), (59, 585, 586, 1), (58, 593, 594, 1), (59, 598, 15, 1), (54, 603, 604, 1), (53, 608, 609, 1), (60, 614, 0, 2), (60, 715, 716, 1), (60, 719, 720, 1), (60, 724, 16, 1), (60, 727, 0, 0), (60, 731, 17, 1), (60, 734, 735, 1), (60, 739, 18, 1), (60, 743, 19, 1), (60, 746, 747, 1), (60, 751, 20, 1), (60, 754, 755, 1), (60, 758, 759, 1), (60, 762, 763, 1), (60, 766, 767, 1), (60, 770, 0, 0), (60, 773, 0, 0), (60, 776, 777, 1), (60, 780, 781, 1), (60, 784, 785, 1), (60, 788, 789, 1), (60, 792, 793, 1), (60, 797, 21, 1), (60, 801, 22, 1), (60, 805, 23, 1), (60, 809, 810, 1), (60, 813, 0, 0), (60, 816, 817, 1), (60, 821, 24, 1), (60, 825, 25, 1), (60, 829, 26, 1), (60, 833, 27, 1), (60, 837, 28, 1), (60, 841, 29, 1), (60, 845, 30, 1), (60, 848, 849, 1), (60, 853, 31, 1), (60, 857, 32, 1), (60, 861, 33, 1), (60, 865, 34, 1), (60, 869, 35, 1), (60, 873, 36, 1), (60, 877, 37, 1), (60, 881, 38, 1), (60, 885, 39, 1), (60, 888, 889, 1), (60, 893, 40, 1), (60, 897, 41, 1), (60, 901, 42, 1), (60, 905, 43, 1), (60, 909, 44, 1), (60, 913, 45, 1), (60, 917, 46, 1), (60, 921, 47, 1), (60, 925, 48, 1), (60, 929, 49, 1), (60, 933, 50, 1), (60, 936, 937, 1), (60, 941, 51, 1), (60, 944, 945, 1)]
def hm_kind (j : Nat) : Nat := (hm_mz.getD j (0, 0, 0, 9)).2.2.2
def hm_me1 (j : Nat) (z : Nat × Nat × Nat × Nat) : Bool := hm_at z.1 (.initialized (hm_me j).1.cls) && plainName (hm_me j).1.cls && decide ((hm_me j).1.cls ≠ "java/lang/invoke/MethodHandle") && decide ((hm_me j).1.cls ≠ "java/lang/invoke/VarHandle") && decide ((parseMethodDescriptor (hm_me j).1.desc).map (fun d => d.parameters.length) = some (hm_np j)) && decide ((hm_me j).2.2.1 ≤ 21) &&
  (match z.2.2.2 with
  | 0 => hm_at z.2.1 (.static (hm_me j).1)
  | 1 => hm_at z.2.1 (.instanceMethod (hm_me j).1) && hm_at z.2.2.1 (.selects (hm_me j).1.cls (hm_me j).1 (hm_me j).1)
  | _ => hm_at z.2.1 (.instanceMethod (hm_me j).1) && decide ((hm_me j).1.name = "<init>") && decide ((hm_me j).2.2.2 = none))
def hm_fl1 (q : Nat × Nat × Nat × Nat × Nat) : Bool := hm_at q.2.2.2.2 (.fieldLink (hm_nm q.1) q.2.1 (hm_T q.2.2.1 q.2.2.2.1).1 (hm_T q.2.2.1 q.2.2.2.1).2.1 (hm_T q.2.2.1 q.2.2.2.1).2.2.1) && decide (q.2.2.1 < 8) && decide (q.2.2.2.1 < hm_N q.2.2.1)
def hm_ml1 (q : Nat × Nat × Nat × Nat × Nat) : Bool := match q.2.2.1 with
  | 0 => hm_at q.2.2.2.2 (.methodLink (hm_nm q.1) q.2.1 (hm_me q.2.2.2.1).1) && decide (hm_kind q.2.2.2.1 = 0)
  | 1 => hm_at q.2.2.2.2 (.methodLink (hm_nm q.1) q.2.1 (hm_me q.2.2.2.1).1) && decide (hm_kind q.2.2.2.1 = 1)
  | 2 => hm_at q.2.2.2.2 (.methodLink (hm_nm q.1) q.2.1 (hm_me q.2.2.2.1).1) && decide (hm_kind q.2.2.2.1 = 2)
  | 3 => decide (lw_tbl[q.2.2.2.2]? = some (.methodLinkNest (hm_nm q.1) q.2.1 (hm_me q.2.2.2.1).1 "HeapLaw")) && decide (hm_kind q.2.2.2.1 = 0)
  | 5 => decide (lw_tbl[q.2.2.2.2]? = some (.methodLinkNest (hm_nm q.1) q.2.1 (hm_me q.2.2.2.1).1 "HeapLaw")) && decide (hm_kind q.2.2.2.1 = 2)
  | _ => false
def hm_cl1 (q : Nat × Nat × Nat × Nat) : Bool := hm_at q.2.2.2 (.classLink (hm_nm q.1) q.2.1 (hm_nm q.2.2.1)) && decide (q.2.2.1 < 8)
def hm_oi1 (q : Nat × Nat × Nat) : Bool := hm_at q.2.2 (.methodLink (hm_nm q.1) q.2.1 objectInit)
def hm_ac1 (q : Nat × Nat × Nat) : Bool := hm_at q.2.2 (.methodLink (hm_nm q.1) q.2.1 arraycopyName)
def hm_mx1 (q : Nat × Nat × Nat) : Bool := hm_at q.2.2 (.methodLink (hm_nm q.1) q.2.1 Lib.Math.max.name)
def hm_alls : List (Nat × (Nat × Nat × Nat × Nat)) := (List.range 149).zip hm_mz
theorem hm_me_ok0 : (List.range' 0 25).all (fun j => hm_me1 j (hm_mz.getD j (0, 0, 0, 9)) || (j == 1 || j == 42)) = true := by decide +kernel
theorem hm_me_ok25 : (List.range' 25 25).all (fun j => hm_me1 j (hm_mz.getD j (0, 0, 0, 9)) || (j == 1 || j == 42)) = true := by decide +kernel
theorem hm_me_ok50 : (List.range' 50 25).all (fun j => hm_me1 j (hm_mz.getD j (0, 0, 0, 9)) || (j == 1 || j == 42)) = true := by decide +kernel
theorem hm_me_ok75 : (List.range' 75 25).all (fun j => hm_me1 j (hm_mz.getD j (0, 0, 0, 9)) || (j == 1 || j == 42)) = true := by decide +kernel
theorem hm_me_ok100 : (List.range' 100 25).all (fun j => hm_me1 j (hm_mz.getD j (0, 0, 0, 9)) || (j == 1 || j == 42)) = true := by decide +kernel
theorem hm_me_ok125 : (List.range' 125 24).all (fun j => hm_me1 j (hm_mz.getD j (0, 0, 0, 9)) || (j == 1 || j == 42)) = true := by decide +kernel
theorem hm_me_ok : ∀ j, j < 149 → j ≠ 1 → j ≠ 42 → hm_me1 j (hm_mz.getD j (0, 0, 0, 9)) = true := by
  intro j hj hn hn2
  have key : ∀ a n, (List.range' a n).all (fun j => hm_me1 j (hm_mz.getD j (0, 0, 0, 9)) || (j == 1 || j == 42)) = true → a ≤ j → j < a + n → hm_me1 j (hm_mz.getD j (0, 0, 0, 9)) = true := by
    intro a n h h1 h2
    have h3 := List.all_eq_true.mp h j (List.mem_range'_1.mpr ⟨h1, h2⟩)
    simp only [Bool.or_eq_true, beq_iff_eq, hn, hn2, or_false] at h3
    exact h3
  rcases Nat.lt_or_ge j 25 with h | h
  · exact key _ _ hm_me_ok0 (by omega) (by omega)
  rcases Nat.lt_or_ge j 50 with h | h
  · exact key _ _ hm_me_ok25 (by omega) (by omega)
  rcases Nat.lt_or_ge j 75 with h | h
  · exact key _ _ hm_me_ok50 (by omega) (by omega)
  rcases Nat.lt_or_ge j 100 with h | h
  · exact key _ _ hm_me_ok75 (by omega) (by omega)
  rcases Nat.lt_or_ge j 125 with h | h
  · exact key _ _ hm_me_ok100 (by omega) (by omega)
  rcases Nat.lt_or_ge j 149 with h | h
  · exact key _ _ hm_me_ok125 (by omega) (by omega)
  omega
theorem hm_FL_ok : hm_FL.all hm_fl1 = true := by decide +kernel
theorem hm_ML_ok0 : ((hm_ML.drop 0).take 50).all hm_ml1 = true := by decide +kernel
theorem hm_ML_ok50 : ((hm_ML.drop 50).take 50).all hm_ml1 = true := by decide +kernel
theorem hm_ML_ok100 : ((hm_ML.drop 100).take 50).all hm_ml1 = true := by decide +kernel
theorem hm_ML_ok150 : ((hm_ML.drop 150).take 50).all hm_ml1 = true := by decide +kernel
theorem hm_ML_ok : ∀ q ∈ hm_ML, hm_ml1 q = true := by
  intro q hq
  have e : hm_ML = (hm_ML.drop 0).take 50 ++ ((hm_ML.drop 50).take 50 ++ ((hm_ML.drop 100).take 50 ++ ((hm_ML.drop 150).take 50))) := by decide +kernel
  rw [e] at hq
  simp only [List.mem_append] at hq
  rcases hq with h | h | h | h
  · exact List.all_eq_true.mp hm_ML_ok0 q h
  · exact List.all_eq_true.mp hm_ML_ok50 q h
  · exact List.all_eq_true.mp hm_ML_ok100 q h
  · exact List.all_eq_true.mp hm_ML_ok150 q h
theorem hm_CL_ok : hm_CL.all hm_cl1 = true := by decide +kernel
theorem hm_OI_ok : hm_OI.all hm_oi1 = true := by decide +kernel
theorem hm_AC_ok : hm_AC.all hm_ac1 = true := by decide +kernel
theorem hm_MX_ok : hm_MX.all hm_mx1 = true := by decide +kernel
theorem hm_mxcode : Cond.code Lib.Math.max.name Lib.Math.max.code 2 (some .int) ∈ hm_good := hm_me_tbl (j := 42) (by decide)
theorem hm_once0 : hm_at 70 (.instanceMethod objectInit) = true := by decide +kernel
theorem hm_once1 : hm_at 315 (.native arraycopyName) = true := by decide +kernel
theorem hm_once2 : hm_at 314 (.static arraycopyName) = true := by decide +kernel
theorem hm_once3 : hm_at 61 (.initialized "java/lang/System") = true := by decide +kernel
theorem hm_once4 : hm_at 95 (.arrayClass .int) = true := by decide +kernel
theorem hm_once5 : hm_at 713 (.arrayClass .boolean) = true := by decide +kernel
theorem hm_once6 : hm_at 398 (.static Lib.Math.max.name) = true := by decide +kernel
theorem hm_once7 : hm_at 63 (.initialized "java/lang/Math") = true := by decide +kernel
theorem hm_once8 : hm_at 374 (.constant "java/lang/Integer" 265 1431655765) = true := by decide +kernel
theorem hm_once9 : hm_at 375 (.constant "java/lang/Integer" 266 858993459) = true := by decide +kernel
theorem hm_once10 : hm_at 376 (.constant "java/lang/Integer" 267 252645135) = true := by decide +kernel
theorem hm_oicode : Cond.code objectInit ⟨#[0xb1]⟩ 1 none ∈ hm_good := hm_me_tbl (j := 1) (by decide)
theorem hm_cls0 : ((u_ws (hm_nm 0) (hm_T 0) (hm_N 0)).zip [177, 179, 181, 183]).all (fun q => hm_at q.2 q.1) = true ∧ hm_at 155 (.instantiable (hm_nm 0) (hm_N 0)) = true ∧ hm_at 58 (.initialized (hm_nm 0)) = true := by decide +kernel
theorem hm_nmf0 : ∀ a, a < hm_N 0 → ∀ b, b < hm_N 0 → a ≠ b → (hm_T 0 a).2.1 ≠ (hm_T 0 b).2.1 := by decide +kernel
theorem hm_tyf0 : ∀ k, k < hm_N 0 → parseFieldDescriptor (hm_T 0 k).2.2.1 = some (hm_ty 0 k) ∧ (hm_T 0 k).1 = hm_nm 0 ∧ (hm_isr 0 k = true → refKind (hm_ty 0 k) = true) ∧ (hm_isr 0 k = false → hm_ty 0 k = .int) := by decide +kernel
theorem hm_cls1 : ((u_ws (hm_nm 1) (hm_T 1) (hm_N 1)).zip [88, 90, 92]).all (fun q => hm_at q.2 q.1) = true ∧ hm_at 75 (.instantiable (hm_nm 1) (hm_N 1)) = true ∧ hm_at 54 (.initialized (hm_nm 1)) = true := by decide +kernel
theorem hm_nmf1 : ∀ a, a < hm_N 1 → ∀ b, b < hm_N 1 → a ≠ b → (hm_T 1 a).2.1 ≠ (hm_T 1 b).2.1 := by decide +kernel
theorem hm_tyf1 : ∀ k, k < hm_N 1 → parseFieldDescriptor (hm_T 1 k).2.2.1 = some (hm_ty 1 k) ∧ (hm_T 1 k).1 = hm_nm 1 ∧ (hm_isr 1 k = true → refKind (hm_ty 1 k) = true) ∧ (hm_isr 1 k = false → hm_ty 1 k = .int) := by decide +kernel
theorem hm_cls2 : ((u_ws (hm_nm 2) (hm_T 2) (hm_N 2)).zip [226, 228, 230]).all (fun q => hm_at q.2 q.1) = true ∧ hm_at 213 (.instantiable (hm_nm 2) (hm_N 2)) = true ∧ hm_at 59 (.initialized (hm_nm 2)) = true := by decide +kernel
theorem hm_nmf2 : ∀ a, a < hm_N 2 → ∀ b, b < hm_N 2 → a ≠ b → (hm_T 2 a).2.1 ≠ (hm_T 2 b).2.1 := by decide +kernel
theorem hm_tyf2 : ∀ k, k < hm_N 2 → parseFieldDescriptor (hm_T 2 k).2.2.1 = some (hm_ty 2 k) ∧ (hm_T 2 k).1 = hm_nm 2 ∧ (hm_isr 2 k = true → refKind (hm_ty 2 k) = true) ∧ (hm_isr 2 k = false → hm_ty 2 k = .int) := by decide +kernel
theorem hm_cls3 : ((u_ws (hm_nm 3) (hm_T 3) (hm_N 3)).zip [112, 114, 116]).all (fun q => hm_at q.2 q.1) = true ∧ hm_at 97 (.instantiable (hm_nm 3) (hm_N 3)) = true ∧ hm_at 55 (.initialized (hm_nm 3)) = true := by decide +kernel
theorem hm_nmf3 : ∀ a, a < hm_N 3 → ∀ b, b < hm_N 3 → a ≠ b → (hm_T 3 a).2.1 ≠ (hm_T 3 b).2.1 := by decide +kernel
theorem hm_tyf3 : ∀ k, k < hm_N 3 → parseFieldDescriptor (hm_T 3 k).2.2.1 = some (hm_ty 3 k) ∧ (hm_T 3 k).1 = hm_nm 3 ∧ (hm_isr 3 k = true → refKind (hm_ty 3 k) = true) ∧ (hm_isr 3 k = false → hm_ty 3 k = .int) := by decide +kernel
theorem hm_cls4 : ((u_ws (hm_nm 4) (hm_T 4) (hm_N 4)).zip [133, 135, 137, 139, 141, 143]).all (fun q => hm_at q.2 q.1) = true ∧ hm_at 120 (.instantiable (hm_nm 4) (hm_N 4)) = true ∧ hm_at 56 (.initialized (hm_nm 4)) = true := by decide +kernel
theorem hm_nmf4 : ∀ a, a < hm_N 4 → ∀ b, b < hm_N 4 → a ≠ b → (hm_T 4 a).2.1 ≠ (hm_T 4 b).2.1 := by decide +kernel
theorem hm_tyf4 : ∀ k, k < hm_N 4 → parseFieldDescriptor (hm_T 4 k).2.2.1 = some (hm_ty 4 k) ∧ (hm_T 4 k).1 = hm_nm 4 ∧ (hm_isr 4 k = true → refKind (hm_ty 4 k) = true) ∧ (hm_isr 4 k = false → hm_ty 4 k = .int) := by decide +kernel
theorem hm_cls5 : ((u_ws (hm_nm 5) (hm_T 5) (hm_N 5)).zip [195, 197, 199, 201, 203, 205, 207, 209]).all (fun q => hm_at q.2 q.1) = true ∧ hm_at 147 (.instantiable (hm_nm 5) (hm_N 5)) = true ∧ hm_at 57 (.initialized (hm_nm 5)) = true := by decide +kernel
theorem hm_nmf5 : ∀ a, a < hm_N 5 → ∀ b, b < hm_N 5 → a ≠ b → (hm_T 5 a).2.1 ≠ (hm_T 5 b).2.1 := by decide +kernel
theorem hm_tyf5 : ∀ k, k < hm_N 5 → parseFieldDescriptor (hm_T 5 k).2.2.1 = some (hm_ty 5 k) ∧ (hm_T 5 k).1 = hm_nm 5 ∧ (hm_isr 5 k = true → refKind (hm_ty 5 k) = true) ∧ (hm_isr 5 k = false → hm_ty 5 k = .int) := by decide +kernel
theorem hm_cls6 : ((u_ws (hm_nm 6) (hm_T 6) (hm_N 6)).zip [242, 244, 246, 248, 250, 252, 254, 256]).all (fun q => hm_at q.2 q.1) = true ∧ hm_at 65 (.instantiable (hm_nm 6) (hm_N 6)) = true ∧ hm_at 53 (.initialized (hm_nm 6)) = true := by decide +kernel
theorem hm_nmf6 : ∀ a, a < hm_N 6 → ∀ b, b < hm_N 6 → a ≠ b → (hm_T 6 a).2.1 ≠ (hm_T 6 b).2.1 := by decide +kernel
theorem hm_tyf6 : ∀ k, k < hm_N 6 → parseFieldDescriptor (hm_T 6 k).2.2.1 = some (hm_ty 6 k) ∧ (hm_T 6 k).1 = hm_nm 6 ∧ (hm_isr 6 k = true → refKind (hm_ty 6 k) = true) ∧ (hm_isr 6 k = false → hm_ty 6 k = .int) := by decide +kernel
theorem hm_cls7 : ((u_ws (hm_nm 7) (hm_T 7) (hm_N 7)).zip [648, 650, 652, 654, 656, 658, 660, 662, 664, 666, 668, 670, 672, 674, 676, 678, 680, 682, 684, 686, 688, 690, 692, 694, 696, 698, 700, 702, 704, 706, 708, 710]).all (fun q => hm_at q.2 q.1) = true ∧ hm_at 612 (.instantiable (hm_nm 7) (hm_N 7)) = true ∧ hm_at 60 (.initialized (hm_nm 7)) = true := by decide +kernel
theorem hm_nmf7 : ∀ a, a < hm_N 7 → ∀ b, b < hm_N 7 → a ≠ b → (hm_T 7 a).2.1 ≠ (hm_T 7 b).2.1 := by decide +kernel
theorem hm_tyf7 : ∀ k, k < hm_N 7 → parseFieldDescriptor (hm_T 7 k).2.2.1 = some (hm_ty 7 k) ∧ (hm_T 7 k).1 = hm_nm 7 ∧ (hm_isr 7 k = true → refKind (hm_ty 7 k) = true) ∧ (hm_isr 7 k = false → hm_ty 7 k = .int) := by decide +kernel
