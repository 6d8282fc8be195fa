/-! THE TABLES: names, fields, methods, links of the claim (printed by wip/gen/gen02.py) -/
def hm_nm (o : Nat) : String := match o with
  | 0 => "HeapLaw$Formula"
  | 1 => "HeapLaw$Memory"
  | 2 => "HeapLaw$Parting"
  | 3 => "HeapLaw$Plan"
  | 4 => "HeapLaw$Sharing"
  | 5 => "HeapLaw$Stepper"
  | 6 => "HeapLaw"
  | 7 => "HeapLawModel"
  | 8 => "HeapLawLaw"
  | 9 => "java/lang/Integer"
  | _ => "java/lang/Math"
def hm_F0 : u_T := fun k => match k with
  | 0 => ("HeapLaw$Formula", "pures", "[I", true)
  | 1 => ("HeapLaw$Formula", "parts", "[I", true)
  | 2 => ("HeapLaw$Formula", "pureCount", "I", false)
  | _ => ("HeapLaw$Formula", "partCount", "I", false)
def hm_y0 : Nat → FieldType := fun k => match k with
  | 0 => .array .int
  | 1 => .array .int
  | 2 => .int
  | _ => .int
def hm_F1 : u_T := fun k => match k with
  | 0 => ("HeapLaw$Memory", "cells", "[I", true)
  | 1 => ("HeapLaw$Memory", "values", "[I", true)
  | _ => ("HeapLaw$Memory", "present", "I", false)
def hm_y1 : Nat → FieldType := fun k => match k with
  | 0 => .array .int
  | 1 => .array .int
  | _ => .int
def hm_F2 : u_T := fun k => match k with
  | 0 => ("HeapLaw$Parting", "trial", "LHeapLaw$Memory;", true)
  | 1 => ("HeapLaw$Parting", "fitting", "LHeapLaw$Plan;", true)
  | _ => ("HeapLaw$Parting", "failing", "LHeapLaw$Plan;", true)
def hm_y2 : Nat → FieldType := fun k => match k with
  | 0 => .object "HeapLaw$Memory"
  | 1 => .object "HeapLaw$Plan"
  | _ => .object "HeapLaw$Plan"
def hm_F3 : u_T := fun k => match k with
  | 0 => ("HeapLaw$Plan", "codes", "[I", true)
  | 1 => ("HeapLaw$Plan", "starts", "[I", true)
  | _ => ("HeapLaw$Plan", "terms", "I", false)
def hm_y3 : Nat → FieldType := fun k => match k with
  | 0 => .array .int
  | 1 => .array .int
  | _ => .int
def hm_F4 : u_T := fun k => match k with
  | 0 => ("HeapLaw$Sharing", "sorts", "[I", true)
  | 1 => ("HeapLaw$Sharing", "goesTo", "[I", true)
  | 2 => ("HeapLaw$Sharing", "plan", "LHeapLaw$Plan;", true)
  | 3 => ("HeapLaw$Sharing", "longOnes", "I", false)
  | 4 => ("HeapLaw$Sharing", "terms", "I", false)
  | _ => ("HeapLaw$Sharing", "other", "LHeapLaw$Formula;", false)
def hm_y4 : Nat → FieldType := fun k => match k with
  | 0 => .array .int
  | 1 => .array .int
  | 2 => .object "HeapLaw$Plan"
  | 3 => .int
  | 4 => .int
  | _ => .object "HeapLaw$Formula"
def hm_F5 : u_T := fun k => match k with
  | 0 => ("HeapLaw$Stepper", "cases", "[LHeapLaw$Formula;", true)
  | 1 => ("HeapLaw$Stepper", "sharing", "LHeapLaw$Sharing;", true)
  | 2 => ("HeapLaw$Stepper", "slots", "[LHeapLaw$Formula;", false)
  | 3 => ("HeapLaw$Stepper", "firstSlot", "I", false)
  | 4 => ("HeapLaw$Stepper", "act", "I", false)
  | 5 => ("HeapLaw$Stepper", "x", "I", false)
  | 6 => ("HeapLaw$Stepper", "y", "I", false)
  | _ => ("HeapLaw$Stepper", "filled", "I", false)
def hm_y5 : Nat → FieldType := fun k => match k with
  | 0 => .array (.object "HeapLaw$Formula")
  | 1 => .object "HeapLaw$Sharing"
  | 2 => .array (.object "HeapLaw$Formula")
  | 3 => .int
  | 4 => .int
  | 5 => .int
  | 6 => .int
  | _ => .int
def hm_F6 : u_T := fun k => match k with
  | 0 => ("HeapLaw", "formulas", "[LHeapLaw$Formula;", true)
  | 1 => ("HeapLaw", "memory", "LHeapLaw$Memory;", true)
  | 2 => ("HeapLaw", "plan", "LHeapLaw$Plan;", true)
  | 3 => ("HeapLaw", "sharing", "LHeapLaw$Sharing;", true)
  | 4 => ("HeapLaw", "stepper", "LHeapLaw$Stepper;", true)
  | 5 => ("HeapLaw", "parting", "LHeapLaw$Parting;", true)
  | 6 => ("HeapLaw", "made", "I", false)
  | _ => ("HeapLaw", "differed", "I", false)
def hm_y6 : Nat → FieldType := fun k => match k with
  | 0 => .array (.object "HeapLaw$Formula")
  | 1 => .object "HeapLaw$Memory"
  | 2 => .object "HeapLaw$Plan"
  | 3 => .object "HeapLaw$Sharing"
  | 4 => .object "HeapLaw$Stepper"
  | 5 => .object "HeapLaw$Parting"
  | 6 => .int
  | _ => .int
def hm_F7 : u_T := fun k => match k with
  | 0 => ("HeapLawModel", "code", "I", false)
  | 1 => ("HeapLawModel", "formulas", "I", false)
  | 2 => ("HeapLawModel", "pures", "[I", true)
  | 3 => ("HeapLawModel", "pureHow", "[I", true)
  | 4 => ("HeapLawModel", "pureX", "[I", true)
  | 5 => ("HeapLawModel", "pureY", "[I", true)
  | 6 => ("HeapLawModel", "parts", "[I", true)
  | 7 => ("HeapLawModel", "partHow", "[I", true)
  | 8 => ("HeapLawModel", "partX", "[I", true)
  | 9 => ("HeapLawModel", "partY", "[I", true)
  | 10 => ("HeapLawModel", "values", "[I", true)
  | 11 => ("HeapLawModel", "cells", "[I", true)
  | 12 => ("HeapLawModel", "dealt", "[Z", true)
  | 13 => ("HeapLawModel", "classOf", "[I", true)
  | 14 => ("HeapLawModel", "used", "[I", true)
  | 15 => ("HeapLawModel", "usedMany", "I", false)
  | 16 => ("HeapLawModel", "classes", "I", false)
  | 17 => ("HeapLawModel", "begins", "[I", true)
  | 18 => ("HeapLawModel", "loose", "[I", true)
  | 19 => ("HeapLawModel", "looseMany", "I", false)
  | 20 => ("HeapLawModel", "within", "[I", true)
  | 21 => ("HeapLawModel", "rank", "[I", true)
  | 22 => ("HeapLawModel", "next", "[I", true)
  | 23 => ("HeapLawModel", "nodes", "I", false)
  | 24 => ("HeapLawModel", "taken", "[Z", true)
  | 25 => ("HeapLawModel", "cases", "I", false)
  | 26 => ("HeapLawModel", "results", "I", false)
  | 27 => ("HeapLawModel", "known", "[Z", true)
  | 28 => ("HeapLawModel", "waits", "[I", true)
  | 29 => ("HeapLawModel", "asked", "I", false)
  | 30 => ("HeapLawModel", "keptCells", "[I", true)
  | _ => ("HeapLawModel", "keptValues", "[I", true)
def hm_y7 : Nat → FieldType := fun k => match k with
  | 0 => .int
  | 1 => .int
  | 2 => .array .int
  | 3 => .array .int
  | 4 => .array .int
  | 5 => .array .int
  | 6 => .array .int
  | 7 => .array .int
  | 8 => .array .int
  | 9 => .array .int
  | 10 => .array .int
  | 11 => .array .int
  | 12 => .array .boolean
  | 13 => .array .int
  | 14 => .array .int
  | 15 => .int
  | 16 => .int
  | 17 => .array .int
  | 18 => .array .int
  | 19 => .int
  | 20 => .array .int
  | 21 => .array .int
  | 22 => .array .int
  | 23 => .int
  | 24 => .array .boolean
  | 25 => .int
  | 26 => .int
  | 27 => .array .boolean
  | 28 => .array .int
  | 29 => .int
  | 30 => .array .int
  | _ => .array .int
def hm_T (c : Nat) : u_T := match c with
  | 0 => hm_F0
  | 1 => hm_F1
  | 2 => hm_F2
  | 3 => hm_F3
  | 4 => hm_F4
  | 5 => hm_F5
  | 6 => hm_F6
  | _ => hm_F7
def hm_ty (c : Nat) : Nat → FieldType := match c with
  | 0 => hm_y0
  | 1 => hm_y1
  | 2 => hm_y2
  | 3 => hm_y3
  | 4 => hm_y4
  | 5 => hm_y5
  | 6 => hm_y6
  | _ => hm_y7
def hm_N (c : Nat) : Nat := match c with
  | 0 => 4
  | 1 => 3
  | 2 => 3
  | 3 => 3
  | 4 => 6
  | 5 => 8
  | 6 => 8
  | _ => 32
/-- is field k of class c a reference? -/
def hm_isr (c k : Nat) : Bool := match c, k with
  | 0, 0 => true
  | 0, 1 => true
  | 1, 0 => true
  | 1, 1 => true
  | 2, 0 => true
  | 2, 1 => true
  | 2, 2 => true
  | 3, 0 => true
  | 3, 1 => true
  | 4, 0 => true
  | 4, 1 => true
  | 4, 2 => true
  | 4, 5 => true
  | 5, 0 => true
  | 5, 1 => true
  | 5, 2 => true
  | 6, 0 => true
  | 6, 1 => true
  | 6, 2 => true
  | 6, 3 => true
  | 6, 4 => true
  | 6, 5 => true
  | 7, 2 => true
  | 7, 3 => true
  | 7, 4 => true
  | 7, 5 => true
  | 7, 6 => true
  | 7, 7 => true
  | 7, 8 => true
  | 7, 9 => true
  | 7, 10 => true
  | 7, 11 => true
  | 7, 12 => true
  | 7, 13 => true
  | 7, 14 => true
  | 7, 17 => true
  | 7, 18 => true
  | 7, 20 => true
  | 7, 21 => true
  | 7, 22 => true
  | 7, 24 => true
  | 7, 27 => true
  | 7, 28 => true
  | 7, 30 => true
  | 7, 31 => true
  | _, _ => false
def hm_cl : List vw_C := [(hm_nm 0, hm_T 0, hm_N 0), (hm_nm 1, hm_T 1, hm_N 1), (hm_nm 2, hm_T 2, hm_N 2), (hm_nm 3, hm_T 3, hm_N 3), (hm_nm 4, hm_T 4, hm_N 4), (hm_nm 5, hm_T 5, hm_N 5), (hm_nm 6, hm_T 6, hm_N 6), (hm_nm 7, hm_T 7, hm_N 7)]
def hm_good : List Cond := lw_tbl.filter goodWord
def hm_at (z : Nat) (w : Cond) : Bool := decide (lw_tbl[z]? = some w) && goodWord w
theorem hm_at_in {z : Nat} {w : Cond} (h : hm_at z w = true) : w ∈ hm_good := by
  simp only [hm_at, Bool.and_eq_true, decide_eq_true_eq] at h
  exact List.mem_filter.mpr ⟨List.mem_of_getElem? h.1, h.2⟩
theorem hm_g_good {w : Cond} (h : w ∈ hm_good) : w ∈ lw_tbl ∧ goodWord w = true := List.mem_filter.mp h
theorem hm_goodIn {ws : List Cond} (h : ∀ w ∈ ws, w ∈ hm_good) : GoodIn hm_good ws := fun w hw => ⟨h w hw, good_of_word (hm_g_good (h w hw)).2⟩
abbrev hm_Me : Type := MethodName × ByteArray × Nat × Option FieldType
def hm_pk (w : Cond) : Option hm_Me := match w with | .code y b n r => some (y, b, n, r) | _ => none
def hm_raw : List hm_Me := [
  (⟨"HeapLaw", "<init>", "()V"⟩, prog_1_method_1_code, 2, none),
  (⟨"java/lang/Object", "<init>", "()V"⟩, object_method_1_code, 1, none),
  (⟨"HeapLaw$Memory", "<init>", "()V"⟩, prog_3_method_1_code, 2, none),
  (⟨"HeapLaw$Plan", "<init>", "()V"⟩, prog_5_method_1_code, 1, none),
  (⟨"HeapLaw$Sharing", "<init>", "()V"⟩, prog_6_method_1_code, 1, none),
  (⟨"HeapLaw$Stepper", "<init>", "()V"⟩, prog_7_method_1_code, 2, none),
  (⟨"HeapLaw$Formula", "<init>", "()V"⟩, prog_2_method_1_code, 1, none),
  (⟨"HeapLaw$Parting", "<init>", "()V"⟩, prog_4_method_1_code, 1, none),
  (⟨"HeapLaw", "formula", "()I"⟩, prog_1_method_2_code, 1, some .int),
  (⟨"HeapLaw$Formula", "clear", "()V"⟩, prog_2_method_2_code, 1, none),
  (⟨"HeapLaw", "pure", "(IIII)I"⟩, prog_1_method_3_code, 5, some .int),
  (⟨"HeapLaw", "isFormula", "(I)Z"⟩, prog_1_method_21_code, 2, some .boolean),
  (⟨"HeapLaw", "isHow", "(I)Z"⟩, prog_1_method_22_code, 1, some .boolean),
  (⟨"HeapLaw", "isTerm", "(I)Z"⟩, prog_1_method_23_code, 1, some .boolean),
  (⟨"HeapLaw", "pack", "(III)I"⟩, prog_1_method_30_code, 3, some .int),
  (⟨"HeapLaw$Formula", "addPure", "(I)Z"⟩, prog_2_method_5_code, 2, some .boolean),
  (⟨"HeapLaw", "part", "(IIII)I"⟩, prog_1_method_4_code, 5, some .int),
  (⟨"HeapLaw$Formula", "addPart", "(I)Z"⟩, prog_2_method_7_code, 2, some .boolean),
  (⟨"HeapLaw$Formula", "insertPart", "(II)Z"⟩, prog_2_method_8_code, 4, some .boolean),
  (⟨"HeapLaw", "beside", "(II)I"⟩, prog_1_method_5_code, 3, some .int),
  (⟨"HeapLaw$Formula", "copyFrom", "(LHeapLaw$Formula;)V"⟩, prog_2_method_3_code, 2, none),
  (⟨"HeapLaw$Formula", "append", "(LHeapLaw$Formula;)Z"⟩, prog_2_method_4_code, 2, some .boolean),
  (⟨"HeapLaw", "size", "(II)I"⟩, prog_1_method_6_code, 3, some .int),
  (⟨"HeapLaw", "told", "(IIII)I"⟩, prog_1_method_7_code, 7, some .int),
  (⟨"HeapLaw", "kindOf", "(I)I"⟩, prog_1_method_31_code, 1, some .int),
  (⟨"HeapLaw", "xOf", "(I)I"⟩, prog_1_method_32_code, 1, some .int),
  (⟨"HeapLaw", "yOf", "(I)I"⟩, prog_1_method_33_code, 1, some .int),
  (⟨"HeapLaw", "drop", "()I"⟩, prog_1_method_8_code, 1, some .int),
  (⟨"HeapLaw", "set", "(II)I"⟩, prog_1_method_9_code, 4, some .int),
  (⟨"HeapLaw", "isName", "(I)Z"⟩, prog_1_method_24_code, 1, some .boolean),
  (⟨"HeapLaw", "isAddress", "(I)Z"⟩, prog_1_method_25_code, 1, some .boolean),
  (⟨"HeapLaw", "cell", "(II)I"⟩, prog_1_method_10_code, 4, some .int),
  (⟨"HeapLaw", "isCellAddress", "(I)Z"⟩, prog_1_method_26_code, 1, some .boolean),
  (⟨"HeapLaw$Memory", "put", "(II)V"⟩, prog_3_method_3_code, 3, none),
  (⟨"HeapLaw", "value", "(I)I"⟩, prog_1_method_11_code, 2, some .int),
  (⟨"HeapLaw", "holds", "(I)I"⟩, prog_1_method_12_code, 2, some .int),
  (⟨"HeapLaw", "held", "()I"⟩, prog_1_method_13_code, 1, some .int),
  (⟨"java/lang/Integer", "bitCount", "(I)I"⟩, prog_10_method_49_code, 1, some .int),
  (⟨"HeapLaw", "fits", "(I)I"⟩, prog_1_method_14_code, 2, some .int),
  (⟨"HeapLaw$Plan", "lay", "(LHeapLaw$Formula;)V"⟩, prog_5_method_2_code, 4, none),
  (⟨"HeapLaw$Formula", "terms", "()I"⟩, prog_2_method_11_code, 3, some .int),
  (⟨"HeapLaw$Plan", "gather", "([IIII)I"⟩, prog_5_method_3_code, 7, some .int),
  (⟨"java/lang/Math", "max", "(II)I"⟩, prog_11_method_65_code, 2, some .int),
  (⟨"HeapLaw$Memory", "isFitted", "(LHeapLaw$Plan;)Z"⟩, prog_3_method_6_code, 2, some .boolean),
  (⟨"HeapLaw$Memory", "suits", "(LHeapLaw$Plan;II)Z"⟩, prog_3_method_7_code, 6, some .boolean),
  (⟨"HeapLaw", "has", "(II)Z"⟩, prog_1_method_34_code, 2, some .boolean),
  (⟨"HeapLaw$Memory", "deal", "(LHeapLaw$Plan;II)I"⟩, prog_3_method_8_code, 7, some .int),
  (⟨"HeapLaw$Memory", "dealOne", "(IIII)I"⟩, prog_3_method_9_code, 5, some .int),
  (⟨"HeapLaw$Memory", "walk", "(III)I"⟩, prog_3_method_10_code, 8, some .int),
  (⟨"HeapLaw", "run", "(IIII)I"⟩, prog_1_method_15_code, 5, some .int),
  (⟨"HeapLaw", "areNames", "(III)Z"⟩, prog_1_method_29_code, 3, some .boolean),
  (⟨"HeapLaw", "isAct", "(I)Z"⟩, prog_1_method_27_code, 1, some .boolean),
  (⟨"HeapLaw", "needsY", "(I)Z"⟩, prog_1_method_28_code, 1, some .boolean),
  (⟨"HeapLaw$Memory", "makeCell", "(II)I"⟩, prog_3_method_4_code, 4, some .int),
  (⟨"HeapLaw$Memory", "perform", "(III)I"⟩, prog_3_method_5_code, 4, some .int),
  (⟨"HeapLaw", "is", "(I)I"⟩, prog_1_method_16_code, 2, some .int),
  (⟨"HeapLaw$Sharing", "isFit", "(LHeapLaw$Formula;)Z"⟩, prog_6_method_2_code, 2, some .boolean),
  (⟨"HeapLaw$Sharing", "searchFrom", "(III)Z"⟩, prog_6_method_4_code, 6, some .boolean),
  (⟨"HeapLaw$Sharing", "isCovered", "(I)Z"⟩, prog_6_method_7_code, 7, some .boolean),
  (⟨"HeapLaw$Sharing", "coverCell", "(III)I"⟩, prog_6_method_8_code, 5, some .int),
  (⟨"HeapLaw$Sharing", "coverRow", "(IIII)I"⟩, prog_6_method_9_code, 9, some .int),
  (⟨"HeapLaw$Sharing", lw_nm426, "(II)I"⟩, prog_6_method_5_code, 6, some .int),
  (⟨"HeapLaw$Sharing", "admitOne", "(IIII)I"⟩, prog_6_method_6_code, 5, some .int),
  (⟨"HeapLaw", "says", "(II)I"⟩, prog_1_method_17_code, 3, some .int),
  (⟨"HeapLaw$Formula", "hasSpare", "()Z"⟩, prog_2_method_12_code, 1, some .boolean),
  (⟨"HeapLaw$Sharing", "canPart", "(LHeapLaw$Formula;LHeapLaw$Formula;)Z"⟩, prog_6_method_3_code, 3, some .boolean),
  (⟨"HeapLaw", "step", "(IIII)I"⟩, prog_1_method_18_code, 7, some .int),
  (⟨"HeapLaw$Stepper", "start", "(LHeapLaw$Formula;III)V"⟩, prog_7_method_2_code, 5, none),
  (⟨"HeapLaw$Stepper", "fillFrom", "([LHeapLaw$Formula;I)V"⟩, prog_7_method_3_code, 3, none),
  (⟨"HeapLaw$Stepper", "goThroughAll", "()I"⟩, prog_7_method_4_code, 1, some .int),
  (⟨"HeapLaw$Stepper", "goThrough", "(I)I"⟩, prog_7_method_5_code, 5, some .int),
  (⟨"HeapLaw$Formula", "known", "(I)I"⟩, prog_2_method_15_code, 6, some .int),
  (⟨"HeapLaw$Formula", "firstFrom", "(II)I"⟩, prog_2_method_16_code, 4, some .int),
  (⟨"HeapLaw$Stepper", "open", "(LHeapLaw$Formula;II)I"⟩, prog_7_method_6_code, 6, some .int),
  (⟨"HeapLaw$Stepper", "makeEmpty", "(LHeapLaw$Formula;I)Z"⟩, prog_7_method_7_code, 3, some .boolean),
  (⟨"HeapLaw$Formula", "removePart", "(I)V"⟩, prog_2_method_9_code, 3, none),
  (⟨"HeapLaw$Formula", "putPure", "(I)Z"⟩, prog_2_method_6_code, 3, some .boolean),
  (⟨"HeapLaw$Stepper", "makeLonger", "(LHeapLaw$Formula;I)Z"⟩, prog_7_method_8_code, 4, some .boolean),
  (⟨"HeapLaw", "spareBeside", "(I)I"⟩, prog_1_method_35_code, 2, some .int),
  (⟨"HeapLaw$Stepper", "change", "(LHeapLaw$Formula;I)Z"⟩, prog_7_method_9_code, 3, some .boolean),
  (⟨"HeapLaw$Stepper", "become", "(LHeapLaw$Formula;I)Z"⟩, prog_7_method_10_code, 4, some .boolean),
  (⟨"HeapLaw$Stepper", "vacate", "(LHeapLaw$Formula;)I"⟩, prog_7_method_12_code, 4, some .int),
  (⟨"HeapLaw$Formula", "rename", "(II)V"⟩, prog_2_method_13_code, 4, none),
  (⟨"HeapLaw$Formula", "renamed", "(III)I"⟩, prog_2_method_14_code, 5, some .int),
  (⟨"HeapLaw$Stepper", "becomeNew", "(LHeapLaw$Formula;)Z"⟩, prog_7_method_11_code, 3, some .boolean),
  (⟨"HeapLaw", "differ", "(II)I"⟩, prog_1_method_19_code, 3, some .int),
  (⟨"HeapLaw$Parting", "find", "(LHeapLaw$Formula;LHeapLaw$Formula;)Z"⟩, prog_4_method_2_code, 5, some .boolean),
  (⟨"HeapLaw$Formula", "canTake", "(I)Z"⟩, prog_2_method_10_code, 4, some .boolean),
  (⟨"HeapLaw$Parting", "findFrom", "(II)Z"⟩, prog_4_method_3_code, 6, some .boolean),
  (⟨"HeapLaw$Memory", "copyFrom", "(LHeapLaw$Memory;)V"⟩, prog_3_method_2_code, 2, none),
  (⟨"HeapLaw", "count", "(I)I"⟩, prog_1_method_20_code, 2, some .int),
  (⟨"HeapLawModel", "<init>", "()V"⟩, prog_9_method_1_code, 1, none),
  (⟨"HeapLawModel", "formula", "()I"⟩, prog_9_method_6_code, 1, some .int),
  (⟨"HeapLawModel", "pure", "(IIII)I"⟩, prog_9_method_13_code, 5, some .int),
  (⟨"HeapLawModel", "isFormula", "(I)Z"⟩, prog_9_method_3_code, 2, some .boolean),
  (⟨"HeapLawModel", "isTerm", "(I)Z"⟩, prog_9_method_4_code, 1, some .boolean),
  (⟨"HeapLawModel", "addPure", "(IIII)V"⟩, prog_9_method_8_code, 6, none),
  (⟨"HeapLawModel", "part", "(IIII)I"⟩, prog_9_method_14_code, 5, some .int),
  (⟨"HeapLawModel", "addPart", "(IIIII)V"⟩, prog_9_method_9_code, 7, none),
  (⟨"HeapLawModel", "movePart", "(III)V"⟩, prog_9_method_10_code, 4, none),
  (⟨"HeapLawModel", "beside", "(II)I"⟩, prog_9_method_15_code, 5, some .int),
  (⟨"HeapLawModel", "copy", "(II)V"⟩, prog_9_method_12_code, 4, none),
  (⟨"HeapLawModel", "size", "(II)I"⟩, prog_9_method_16_code, 3, some .int),
  (⟨"HeapLawModel", "told", "(IIII)I"⟩, prog_9_method_17_code, 5, some .int),
  (⟨"HeapLawModel", "drop", "()I"⟩, prog_9_method_18_code, 1, some .int),
  (⟨"HeapLawModel", "set", "(II)I"⟩, prog_9_method_22_code, 4, some .int),
  (⟨"HeapLawModel", "isName", "(I)Z"⟩, prog_9_method_5_code, 1, some .boolean),
  (⟨"HeapLawModel", "isAddress", "(I)Z"⟩, prog_9_method_21_code, 1, some .boolean),
  (⟨"HeapLawModel", "cell", "(II)I"⟩, prog_9_method_23_code, 4, some .int),
  (⟨"HeapLawModel", "value", "(I)I"⟩, prog_9_method_24_code, 2, some .int),
  (⟨"HeapLawModel", "holds", "(I)I"⟩, prog_9_method_25_code, 2, some .int),
  (⟨"HeapLawModel", "held", "()I"⟩, prog_9_method_26_code, 3, some .int),
  (⟨"HeapLawModel", "fits", "(I)I"⟩, prog_9_method_29_code, 2, some .int),
  (⟨"HeapLawModel", "fitsSome", "(I)Z"⟩, prog_9_method_28_code, 8, some .boolean),
  (⟨"HeapLawModel", "has", "(II)Z"⟩, prog_9_method_19_code, 4, some .boolean),
  (⟨"HeapLawModel", "fitsNow", "(I)Z"⟩, prog_9_method_27_code, 8, some .boolean),
  (⟨"HeapLawModel", "run", "(IIII)I"⟩, prog_9_method_31_code, 7, some .int),
  (⟨"HeapLawModel", "needsY", "(I)Z"⟩, prog_9_method_30_code, 1, some .boolean),
  (⟨"HeapLawModel", "is", "(I)I"⟩, prog_9_method_39_code, 2, some .int),
  (⟨"HeapLawModel", "isFit", "(I)Z"⟩, prog_9_method_38_code, 3, some .boolean),
  (⟨"HeapLawModel", "gather", "(II)V"⟩, prog_9_method_35_code, 4, none),
  (⟨"HeapLawModel", "firstClasses", "()V"⟩, prog_9_method_36_code, 2, none),
  (⟨"HeapLawModel", "suits", "(I)Z"⟩, prog_9_method_34_code, 4, some .boolean),
  (⟨"HeapLawModel", "pureHolds", "(I)Z"⟩, prog_9_method_32_code, 3, some .boolean),
  (⟨"HeapLawModel", "isEmpty", "(II)Z"⟩, prog_9_method_33_code, 3, some .boolean),
  (⟨"HeapLawModel", "nextClasses", "()Z"⟩, prog_9_method_37_code, 4, some .boolean),
  (⟨"HeapLawModel", "says", "(II)I"⟩, prog_9_method_40_code, 4, some .int),
  (⟨"HeapLawModel", "hasSpare", "(I)Z"⟩, prog_9_method_20_code, 2, some .boolean),
  (⟨"HeapLawModel", "always", "(II)Z"⟩, prog_9_method_41_code, 6, some .boolean),
  (⟨"HeapLawModel", "isOrdered", "()Z"⟩, prog_9_method_43_code, 4, some .boolean),
  (⟨"HeapLawModel", "mayLie", "(I)Z"⟩, prog_9_method_44_code, 4, some .boolean),
  (⟨"HeapLawModel", "allGaps", "(II)Z"⟩, prog_9_method_46_code, 5, some .boolean),
  (⟨"HeapLawModel", "build", "(II)V"⟩, prog_9_method_47_code, 11, none),
  (⟨"HeapLawModel", "looseAt", "(II)I"⟩, prog_9_method_45_code, 4, some .int),
  (⟨"HeapLawModel", "suitsMemory", "(I)Z"⟩, prog_9_method_48_code, 7, some .boolean),
  (⟨"HeapLawModel", "nextPlaces", "(I)Z"⟩, prog_9_method_42_code, 3, some .boolean),
  (⟨"HeapLawModel", "step", "(IIII)I"⟩, prog_9_method_58_code, 9, some .int),
  (⟨"HeapLawModel", "openOther", "(I)Z"⟩, prog_9_method_54_code, 6, some .boolean),
  (⟨"HeapLawModel", "leastSpare", "(I)I"⟩, prog_9_method_49_code, 3, some .int),
  (⟨"HeapLawModel", "dropPart", "(II)V"⟩, prog_9_method_11_code, 4, none),
  (⟨"HeapLawModel", "put", "(IIII)Z"⟩, prog_9_method_52_code, 5, some .boolean),
  (⟨"HeapLawModel", "stands", "(IIII)Z"⟩, prog_9_method_7_code, 6, some .boolean),
  (⟨"HeapLawModel", "know", "(II)V"⟩, prog_9_method_50_code, 7, none),
  (⟨"HeapLawModel", "partFrom", "(II)I"⟩, prog_9_method_51_code, 4, some .int),
  (⟨"HeapLawModel", "open", "(II)Z"⟩, prog_9_method_53_code, 6, some .boolean),
  (⟨"HeapLawModel", "act", "(IIIII)Z"⟩, prog_9_method_57_code, 6, some .boolean),
  (⟨"HeapLawModel", "becomes", "(IIIII)Z"⟩, prog_9_method_56_code, 8, some .boolean),
  (⟨"HeapLawModel", "rename", "(III)V"⟩, prog_9_method_55_code, 5, none),
  (⟨"HeapLawModel", "differ", "(II)I"⟩, prog_9_method_59_code, 4, some .int),
  (⟨"HeapLawModel", "layValues", "(I)V"⟩, prog_9_method_60_code, 3, none),
  (⟨"HeapLawModel", "count", "(I)I"⟩, prog_9_method_61_code, 2, some .int)]
set_option maxHeartbeats 4000000 in
set_option maxRecDepth 100000 in
theorem hm_raw_eq : lw_tbl.filterMap hm_pk = hm_raw := by rfl
/-- the numbers of the methods, by their places in the table -/
def hm_ix : List Nat := [0, 1, 2, 3, 4, 5, 6, 7, 8, 9, 10, 11, 12, 13, 14, 15, 16, 17, 18, 19, 20, 21, 22, 23, 24, 25, 26, 27, 28, 29, 30, 31, 32, 33, 34, 35, 36, 37, 38, 39, 40, 41, 42, 44, 45, 46, 47, 48, 49, 50, 51, 52, 53, 54, 55, 56, 57, 58, 59, 60, 61, 62, 63, 64, 65, 66, 67, 68, 70, 71, 72, 73, 74, 75, 76, 77, 78, 79, 80, 81, 82, 83, 84, 85, 86, 87, 88, 89, 90, 91, 92, 93, 94, 95, 96, 97, 98, 99, 100, 101, 102, 103, 104, 105, 106, 107, 108, 109, 110, 111, 112, 113, 114, 115, 116, 117, 118, 119, 120, 121, 122, 123, 124, 125, 126, 127, 128, 129, 130, 131, 132, 133, 134, 135, 136, 137, 138, 139, 140, 141, 142, 143, 144, 145, 146, 147, 148, 149, 150, 43, 69]
def hm_ml : List hm_Me := [
  (⟨"HeapLaw", "<init>", "()V"⟩, prog_1_method_1_code, 2, none),
  (⟨"java/lang/Object", "<init>", "()V"⟩, object_method_1_code, 1, none),
  (⟨"HeapLaw$Memory", "<init>", "()V"⟩, prog_3_method_1_code, 2, none),
  (⟨"HeapLaw$Plan", "<init>", "()V"⟩, prog_5_method_1_code, 1, none),
  (⟨"HeapLaw$Sharing", "<init>", "()V"⟩, prog_6_method_1_code, 1, none),
  (⟨"HeapLaw$Stepper", "<init>", "()V"⟩, prog_7_method_1_code, 2, none),
  (⟨"HeapLaw$Formula", "<init>", "()V"⟩, prog_2_method_1_code, 1, none),
  (⟨"HeapLaw$Parting", "<init>", "()V"⟩, prog_4_method_1_code, 1, none),
  (⟨"HeapLaw", "formula", "()I"⟩, prog_1_method_2_code, 1, some .int),
  (⟨"HeapLaw$Formula", "clear", "()V"⟩, prog_2_method_2_code, 1, none),
  (⟨"HeapLaw", "pure", "(IIII)I"⟩, prog_1_method_3_code, 5, some .int),
  (⟨"HeapLaw", "isFormula", "(I)Z"⟩, prog_1_method_21_code, 2, some .boolean),
  (⟨"HeapLaw", "isHow", "(I)Z"⟩, prog_1_method_22_code, 1, some .boolean),
  (⟨"HeapLaw", "isTerm", "(I)Z"⟩, prog_1_method_23_code, 1, some .boolean),
  (⟨"HeapLaw", "pack", "(III)I"⟩, prog_1_method_30_code, 3, some .int),
  (⟨"HeapLaw$Formula", "addPure", "(I)Z"⟩, prog_2_method_5_code, 2, some .boolean),
  (⟨"HeapLaw", "part", "(IIII)I"⟩, prog_1_method_4_code, 5, some .int),
  (⟨"HeapLaw$Formula", "addPart", "(I)Z"⟩, prog_2_method_7_code, 2, some .boolean),
  (⟨"HeapLaw$Formula", "insertPart", "(II)Z"⟩, prog_2_method_8_code, 4, some .boolean),
  (⟨"HeapLaw", "beside", "(II)I"⟩, prog_1_method_5_code, 3, some .int),
  (⟨"HeapLaw$Formula", "copyFrom", "(LHeapLaw$Formula;)V"⟩, prog_2_method_3_code, 2, none),
  (⟨"HeapLaw$Formula", "append", "(LHeapLaw$Formula;)Z"⟩, prog_2_method_4_code, 2, some .boolean),
  (⟨"HeapLaw", "size", "(II)I"⟩, prog_1_method_6_code, 3, some .int),
  (⟨"HeapLaw", "told", "(IIII)I"⟩, prog_1_method_7_code, 7, some .int),
  (⟨"HeapLaw", "kindOf", "(I)I"⟩, prog_1_method_31_code, 1, some .int),
  (⟨"HeapLaw", "xOf", "(I)I"⟩, prog_1_method_32_code, 1, some .int),
  (⟨"HeapLaw", "yOf", "(I)I"⟩, prog_1_method_33_code, 1, some .int),
  (⟨"HeapLaw", "drop", "()I"⟩, prog_1_method_8_code, 1, some .int),
  (⟨"HeapLaw", "set", "(II)I"⟩, prog_1_method_9_code, 4, some .int),
  (⟨"HeapLaw", "isName", "(I)Z"⟩, prog_1_method_24_code, 1, some .boolean),
  (⟨"HeapLaw", "isAddress", "(I)Z"⟩, prog_1_method_25_code, 1, some .boolean),
  (⟨"HeapLaw", "cell", "(II)I"⟩, prog_1_method_10_code, 4, some .int),
  (⟨"HeapLaw", "isCellAddress", "(I)Z"⟩, prog_1_method_26_code, 1, some .boolean),
  (⟨"HeapLaw$Memory", "put", "(II)V"⟩, prog_3_method_3_code, 3, none),
  (⟨"HeapLaw", "value", "(I)I"⟩, prog_1_method_11_code, 2, some .int),
  (⟨"HeapLaw", "holds", "(I)I"⟩, prog_1_method_12_code, 2, some .int),
  (⟨"HeapLaw", "held", "()I"⟩, prog_1_method_13_code, 1, some .int),
  (⟨"java/lang/Integer", "bitCount", "(I)I"⟩, prog_10_method_49_code, 1, some .int),
  (⟨"HeapLaw", "fits", "(I)I"⟩, prog_1_method_14_code, 2, some .int),
  (⟨"HeapLaw$Plan", "lay", "(LHeapLaw$Formula;)V"⟩, prog_5_method_2_code, 4, none),
  (⟨"HeapLaw$Formula", "terms", "()I"⟩, prog_2_method_11_code, 3, some .int),
  (⟨"HeapLaw$Plan", "gather", "([IIII)I"⟩, prog_5_method_3_code, 7, some .int),
  (⟨"java/lang/Math", "max", "(II)I"⟩, prog_11_method_65_code, 2, some .int),
  (⟨"HeapLaw$Memory", "suits", "(LHeapLaw$Plan;II)Z"⟩, prog_3_method_7_code, 6, some .boolean),
  (⟨"HeapLaw", "has", "(II)Z"⟩, prog_1_method_34_code, 2, some .boolean),
  (⟨"HeapLaw$Memory", "deal", "(LHeapLaw$Plan;II)I"⟩, prog_3_method_8_code, 7, some .int),
  (⟨"HeapLaw$Memory", "dealOne", "(IIII)I"⟩, prog_3_method_9_code, 5, some .int),
  (⟨"HeapLaw$Memory", "walk", "(III)I"⟩, prog_3_method_10_code, 8, some .int),
  (⟨"HeapLaw", "run", "(IIII)I"⟩, prog_1_method_15_code, 5, some .int),
  (⟨"HeapLaw", "areNames", "(III)Z"⟩, prog_1_method_29_code, 3, some .boolean),
  (⟨"HeapLaw", "isAct", "(I)Z"⟩, prog_1_method_27_code, 1, some .boolean),
  (⟨"HeapLaw", "needsY", "(I)Z"⟩, prog_1_method_28_code, 1, some .boolean),
  (⟨"HeapLaw$Memory", "makeCell", "(II)I"⟩, prog_3_method_4_code, 4, some .int),
  (⟨"HeapLaw$Memory", "perform", "(III)I"⟩, prog_3_method_5_code, 4, some .int),
  (⟨"HeapLaw", "is", "(I)I"⟩, prog_1_method_16_code, 2, some .int),
  (⟨"HeapLaw$Sharing", "isFit", "(LHeapLaw$Formula;)Z"⟩, prog_6_method_2_code, 2, some .boolean),
  (⟨"HeapLaw$Sharing", "searchFrom", "(III)Z"⟩, prog_6_method_4_code, 6, some .boolean),
  (⟨"HeapLaw$Sharing", "isCovered", "(I)Z"⟩, prog_6_method_7_code, 7, some .boolean),
  (⟨"HeapLaw$Sharing", "coverCell", "(III)I"⟩, prog_6_method_8_code, 5, some .int),
  (⟨"HeapLaw$Sharing", "coverRow", "(IIII)I"⟩, prog_6_method_9_code, 9, some .int),
  (⟨"HeapLaw$Sharing", lw_nm426, "(II)I"⟩, prog_6_method_5_code, 6, some .int),
  (⟨"HeapLaw$Sharing", "admitOne", "(IIII)I"⟩, prog_6_method_6_code, 5, some .int),
  (⟨"HeapLaw", "says", "(II)I"⟩, prog_1_method_17_code, 3, some .int),
  (⟨"HeapLaw$Formula", "hasSpare", "()Z"⟩, prog_2_method_12_code, 1, some .boolean),
  (⟨"HeapLaw$Sharing", "canPart", "(LHeapLaw$Formula;LHeapLaw$Formula;)Z"⟩, prog_6_method_3_code, 3, some .boolean),
  (⟨"HeapLaw", "step", "(IIII)I"⟩, prog_1_method_18_code, 7, some .int),
  (⟨"HeapLaw$Stepper", "start", "(LHeapLaw$Formula;III)V"⟩, prog_7_method_2_code, 5, none),
  (⟨"HeapLaw$Stepper", "fillFrom", "([LHeapLaw$Formula;I)V"⟩, prog_7_method_3_code, 3, none),
  (⟨"HeapLaw$Stepper", "goThrough", "(I)I"⟩, prog_7_method_5_code, 5, some .int),
  (⟨"HeapLaw$Formula", "known", "(I)I"⟩, prog_2_method_15_code, 6, some .int),
  (⟨"HeapLaw$Formula", "firstFrom", "(II)I"⟩, prog_2_method_16_code, 4, some .int),
  (⟨"HeapLaw$Stepper", "open", "(LHeapLaw$Formula;II)I"⟩, prog_7_method_6_code, 6, some .int),
  (⟨"HeapLaw$Stepper", "makeEmpty", "(LHeapLaw$Formula;I)Z"⟩, prog_7_method_7_code, 3, some .boolean),
  (⟨"HeapLaw$Formula", "removePart", "(I)V"⟩, prog_2_method_9_code, 3, none),
  (⟨"HeapLaw$Formula", "putPure", "(I)Z"⟩, prog_2_method_6_code, 3, some .boolean),
  (⟨"HeapLaw$Stepper", "makeLonger", "(LHeapLaw$Formula;I)Z"⟩, prog_7_method_8_code, 4, some .boolean),
  (⟨"HeapLaw", "spareBeside", "(I)I"⟩, prog_1_method_35_code, 2, some .int),
  (⟨"HeapLaw$Stepper", "change", "(LHeapLaw$Formula;I)Z"⟩, prog_7_method_9_code, 3, some .boolean),
  (⟨"HeapLaw$Stepper", "become", "(LHeapLaw$Formula;I)Z"⟩, prog_7_method_10_code, 4, some .boolean),
  (⟨"HeapLaw$Stepper", "vacate", "(LHeapLaw$Formula;)I"⟩, prog_7_method_12_code, 4, some .int),
  (⟨"HeapLaw$Formula", "rename", "(II)V"⟩, prog_2_method_13_code, 4, none),
  (⟨"HeapLaw$Formula", "renamed", "(III)I"⟩, prog_2_method_14_code, 5, some .int),
  (⟨"HeapLaw$Stepper", "becomeNew", "(LHeapLaw$Formula;)Z"⟩, prog_7_method_11_code, 3, some .boolean),
  (⟨"HeapLaw", "differ", "(II)I"⟩, prog_1_method_19_code, 3, some .int),
  (⟨"HeapLaw$Parting", "find", "(LHeapLaw$Formula;LHeapLaw$Formula;)Z"⟩, prog_4_method_2_code, 5, some .boolean),
  (⟨"HeapLaw$Formula", "canTake", "(I)Z"⟩, prog_2_method_10_code, 4, some .boolean),
  (⟨"HeapLaw$Parting", "findFrom", "(II)Z"⟩, prog_4_method_3_code, 6, some .boolean),
  (⟨"HeapLaw$Memory", "copyFrom", "(LHeapLaw$Memory;)V"⟩, prog_3_method_2_code, 2, none),
  (⟨"HeapLaw", "count", "(I)I"⟩, prog_1_method_20_code, 2, some .int),
  (⟨"HeapLawModel", "<init>", "()V"⟩, prog_9_method_1_code, 1, none),
  (⟨"HeapLawModel", "formula", "()I"⟩, prog_9_method_6_code, 1, some .int),
  (⟨"HeapLawModel", "pure", "(IIII)I"⟩, prog_9_method_13_code, 5, some .int),
  (⟨"HeapLawModel", "isFormula", "(I)Z"⟩, prog_9_method_3_code, 2, some .boolean),
  (⟨"HeapLawModel", "isTerm", "(I)Z"⟩, prog_9_method_4_code, 1, some .boolean),
  (⟨"HeapLawModel", "addPure", "(IIII)V"⟩, prog_9_method_8_code, 6, none),
  (⟨"HeapLawModel", "part", "(IIII)I"⟩, prog_9_method_14_code, 5, some .int),
  (⟨"HeapLawModel", "addPart", "(IIIII)V"⟩, prog_9_method_9_code, 7, none),
  (⟨"HeapLawModel", "movePart", "(III)V"⟩, prog_9_method_10_code, 4, none),
  (⟨"HeapLawModel", "beside", "(II)I"⟩, prog_9_method_15_code, 5, some .int),
  (⟨"HeapLawModel", "copy", "(II)V"⟩, prog_9_method_12_code, 4, none),
  (⟨"HeapLawModel", "size", "(II)I"⟩, prog_9_method_16_code, 3, some .int),
  (⟨"HeapLawModel", "told", "(IIII)I"⟩, prog_9_method_17_code, 5, some .int),
  (⟨"HeapLawModel", "drop", "()I"⟩, prog_9_method_18_code, 1, some .int),
  (⟨"HeapLawModel", "set", "(II)I"⟩, prog_9_method_22_code, 4, some .int),
  (⟨"HeapLawModel", "isName", "(I)Z"⟩, prog_9_method_5_code, 1, some .boolean),
  (⟨"HeapLawModel", "isAddress", "(I)Z"⟩, prog_9_method_21_code, 1, some .boolean),
  (⟨"HeapLawModel", "cell", "(II)I"⟩, prog_9_method_23_code, 4, some .int),
  (⟨"HeapLawModel", "value", "(I)I"⟩, prog_9_method_24_code, 2, some .int),
  (⟨"HeapLawModel", "holds", "(I)I"⟩, prog_9_method_25_code, 2, some .int),
  (⟨"HeapLawModel", "held", "()I"⟩, prog_9_method_26_code, 3, some .int),
  (⟨"HeapLawModel", "fits", "(I)I"⟩, prog_9_method_29_code, 2, some .int),
  (⟨"HeapLawModel", "fitsSome", "(I)Z"⟩, prog_9_method_28_code, 8, some .boolean),
  (⟨"HeapLawModel", "has", "(II)Z"⟩, prog_9_method_19_code, 4, some .boolean),
  (⟨"HeapLawModel", "fitsNow", "(I)Z"⟩, prog_9_method_27_code, 8, some .boolean),
  (⟨"HeapLawModel", "run", "(IIII)I"⟩, prog_9_method_31_code, 7, some .int),
  (⟨"HeapLawModel", "needsY", "(I)Z"⟩, prog_9_method_30_code, 1, some .boolean),
  (⟨"HeapLawModel", "is", "(I)I"⟩, prog_9_method_39_code, 2, some .int),
  (⟨"HeapLawModel", "isFit", "(I)Z"⟩, prog_9_method_38_code, 3, some .boolean),
  (⟨"HeapLawModel", "gather", "(II)V"⟩, prog_9_method_35_code, 4, none),
  (⟨"HeapLawModel", "firstClasses", "()V"⟩, prog_9_method_36_code, 2, none),
  (⟨"HeapLawModel", "suits", "(I)Z"⟩, prog_9_method_34_code, 4, some .boolean),
  (⟨"HeapLawModel", "pureHolds", "(I)Z"⟩, prog_9_method_32_code, 3, some .boolean),
  (⟨"HeapLawModel", "isEmpty", "(II)Z"⟩, prog_9_method_33_code, 3, some .boolean),
  (⟨"HeapLawModel", "nextClasses", "()Z"⟩, prog_9_method_37_code, 4, some .boolean),
  (⟨"HeapLawModel", "says", "(II)I"⟩, prog_9_method_40_code, 4, some .int),
  (⟨"HeapLawModel", "hasSpare", "(I)Z"⟩, prog_9_method_20_code, 2, some .boolean),
  (⟨"HeapLawModel", "always", "(II)Z"⟩, prog_9_method_41_code, 6, some .boolean),
  (⟨"HeapLawModel", "isOrdered", "()Z"⟩, prog_9_method_43_code, 4, some .boolean),
  (⟨"HeapLawModel", "mayLie", "(I)Z"⟩, prog_9_method_44_code, 4, some .boolean),
  (⟨"HeapLawModel", "allGaps", "(II)Z"⟩, prog_9_method_46_code, 5, some .boolean),
  (⟨"HeapLawModel", "build", "(II)V"⟩, prog_9_method_47_code, 11, none),
  (⟨"HeapLawModel", "looseAt", "(II)I"⟩, prog_9_method_45_code, 4, some .int),
  (⟨"HeapLawModel", "suitsMemory", "(I)Z"⟩, prog_9_method_48_code, 7, some .boolean),
  (⟨"HeapLawModel", "nextPlaces", "(I)Z"⟩, prog_9_method_42_code, 3, some .boolean),
  (⟨"HeapLawModel", "step", "(IIII)I"⟩, prog_9_method_58_code, 9, some .int),
  (⟨"HeapLawModel", "openOther", "(I)Z"⟩, prog_9_method_54_code, 6, some .boolean),
  (⟨"HeapLawModel", "leastSpare", "(I)I"⟩, prog_9_method_49_code, 3, some .int),
  (⟨"HeapLawModel", "dropPart", "(II)V"⟩, prog_9_method_11_code, 4, none),
  (⟨"HeapLawModel", "put", "(IIII)Z"⟩, prog_9_method_52_code, 5, some .boolean),
  (⟨"HeapLawModel", "stands", "(IIII)Z"⟩, prog_9_method_7_code, 6, some .boolean),
  (⟨"HeapLawModel", "know", "(II)V"⟩, prog_9_method_50_code, 7, none),
  (⟨"HeapLawModel", "partFrom", "(II)I"⟩, prog_9_method_51_code, 4, some .int),
  (⟨"HeapLawModel", "open", "(II)Z"⟩, prog_9_method_53_code, 6, some .boolean),
  (⟨"HeapLawModel", "act", "(IIIII)Z"⟩, prog_9_method_57_code, 6, some .boolean),
  (⟨"HeapLawModel", "becomes", "(IIIII)Z"⟩, prog_9_method_56_code, 8, some .boolean),
  (⟨"HeapLawModel", "rename", "(III)V"⟩, prog_9_method_55_code, 5, none),
  (⟨"HeapLawModel", "differ", "(II)I"⟩, prog_9_method_59_code, 4, some .int),
  (⟨"HeapLawModel", "layValues", "(I)V"⟩, prog_9_method_60_code, 3, none),
  (⟨"HeapLawModel", "count", "(I)I"⟩, prog_9_method_61_code, 2, some .int),
  (⟨"HeapLaw$Memory", "isFitted", "(LHeapLaw$Plan;)Z"⟩, prog_3_method_6_code, 2, some .boolean),
  (⟨"HeapLaw$Stepper", "goThroughAll", "()I"⟩, prog_7_method_4_code, 1, some .int)]
def hm_m0 : hm_Me := (⟨"", "", ""⟩, ⟨#[]⟩, 0, none)
set_option maxHeartbeats 4000000 in
set_option maxRecDepth 100000 in
theorem hm_ml_eq : hm_ix.map (fun i => hm_raw.getD i hm_m0) = hm_ml := by rfl
theorem hm_ix_lt : ∀ i ∈ hm_ix, i < 151 := by decide +kernel
def hm_me (j : Nat) : hm_Me := hm_ml.getD j (⟨"", "", ""⟩, ⟨#[]⟩, 0, none)
theorem hm_me_tbl {j : Nat} (h : j < 151) : Cond.code (hm_me j).1 (hm_me j).2.1 (hm_me j).2.2.1 (hm_me j).2.2.2 ∈ hm_good := by
  have e : hm_ml[j]? = some (hm_me j) := by
    have hl : hm_ml.length = 151 := rfl
    simp [hm_me, List.getD_eq_getElem?_getD, List.getElem?_eq_getElem (show j < hm_ml.length by omega)]
  have h0 : hm_me j ∈ hm_ix.map (fun i => hm_raw.getD i hm_m0) := by rw [hm_ml_eq]; exact List.mem_of_getElem? e
  obtain ⟨i, hi, he⟩ := List.mem_map.mp h0
  have hlt := hm_ix_lt i hi
  have hr : hm_raw.length = 151 := rfl
  have h1 : hm_me j ∈ lw_tbl.filterMap hm_pk := by
    rw [hm_raw_eq, ← he]
    refine List.mem_of_getElem? (i := i) ?_
    simp [List.getD_eq_getElem?_getD, List.getElem?_eq_getElem (show i < hm_raw.length by omega)]
  obtain ⟨w, hw, hk⟩ := List.mem_filterMap.mp h1
  cases w <;> simp only [hm_pk, reduceCtorEq] at hk
  rw [← Option.some.inj hk]
  exact List.mem_filter.mpr ⟨hw, rfl⟩
def hm_np (j : Nat) : Nat := [0, 0, 0, 0, 0, 0, 0, 0, 0, 0, 4, 1, 1, 1, 3, 1, 4, 1, 2, 2, 1, 1, 2, 4, 1, 1, 1, 0, 2, 1, 1, 2, 1, 2, 1, 1, 0, 1, 1, 1, 0, 4, 2, 3, 2, 3, 4, 3, 4, 3, 1, 1, 2, 3, 1, 1, 3, 1, 3, 4, 2, 4, 2, 0, 2, 4, 4, 2, 1, 1, 2, 3, 2, 1, 1, 2, 1, 2, 2, 1, 2, 3, 1, 2, 2, 1, 2, 1, 1, 0, 0, 4, 1, 1, 4, 4, 5, 3, 2, 2, 2, 4, 0, 2, 1, 1, 2, 1, 1, 0, 1, 1, 2, 1, 4, 1, 1, 1, 2, 0, 1, 1, 2, 0, 2, 1, 2, 0, 1, 2, 2, 2, 1, 1, 4, 1, 1, 2, 4, 4, 2, 2, 2, 5, 5, 3, 2, 1, 1, 1, 0].getD j 0
def hm_mc (j : Nat) : Nat := match j with
  | 0 => 283
  | 2 => 2
  | 3 => 2
  | 4 => 5
  | 5 => 43
  | 6 => 2
  | 7 => 9
  | 89 => 23
  | _ => 0
def hm_ms (j : Nat) : Nat := match j with
  | 0 => 2891
  | 2 => 18
  | 3 => 35
  | 4 => 54
  | 5 => 432
  | 6 => 26
  | 7 => 97
  | 89 => 16430
  | _ => 0
def hm_nest : List Cond := lw_tbl.filter (fun w => match w with | .methodLinkNest _ _ _ _ => true | _ => false)
def hm_FL : List (Nat × Nat × Nat × Nat × Nat) := [(0, 9, 0, 0, 162), (0, 15, 0, 1, 166), (0, 18, 0, 2, 171), (0, 22, 0, 3, 175), (1, 9, 1, 0, 82), (1, 15, 1, 1, 84), (1, 24, 1, 2, 87), (1, 40, 3, 2, 113), (1, 49, 3, 1, 109), (1, 52, 3, 0, 106), (2, 12, 2, 0, 224), (2, 21, 2, 1, 226), (2, 25, 2, 2, 227), (2, 40, 1, 2, 88), (2, 64, 3, 2, 112), (2, 70, 1, 1, 85), (3, 9, 3, 0, 104), (3, 15, 3, 1, 107), (3, 24, 3, 2, 110), (3, 27, 0, 0, 163), (3, 30, 0, 2, 172), (3, 37, 0, 1, 167), (3, 40, 0, 3, 176), (4, 9, 4, 0, 129), (4, 15, 4, 1, 130), (4, 21, 4, 2, 131), (4, 25, 4, 5, 134), (4, 33, 3, 2, 111), (4, 37, 4, 4, 133), (4, 64, 3, 1, 108), (4, 67, 3, 0, 105), (4, 84, 4, 3, 132), (4, 87, 0, 2, 174), (4, 90, 0, 0, 164), (4, 93, 0, 3, 178), (4, 96, 0, 1, 170), (5, 11, 5, 0, 188), (5, 20, 5, 1, 189), (5, 29, 5, 4, 192), (5, 33, 5, 5, 193), (5, 36, 5, 6, 194), (5, 39, 5, 2, 190), (5, 42, 5, 3, 191), (5, 45, 5, 7, 195), (5, 77, 0, 1, 168), (6, 11, 6, 0, 236), (6, 18, 6, 1, 237), (6, 25, 6, 2, 238), (6, 32, 6, 3, 239), (6, 39, 6, 4, 240), (6, 46, 6, 5, 241), (6, 51, 6, 6, 242), (6, 75, 0, 2, 173), (6, 81, 0, 3, 177), (6, 92, 0, 0, 165), (6, 96, 0, 1, 169), (6, 115, 1, 1, 86), (6, 121, 1, 0, 83), (6, 128, 1, 2, 89), (6, 177, 5, 7, 196), (6, 180, 6, 7, 243), (6, 186, 2, 0, 225), (7, 7, 7, 2, 626), (7, 13, 7, 3, 627), (7, 16, 7, 4, 628), (7, 19, 7, 5, 629), (7, 22, 7, 6, 630), (7, 25, 7, 7, 631), (7, 28, 7, 8, 632), (7, 31, 7, 9, 633), (7, 34, 7, 10, 634), (7, 37, 7, 11, 635), (7, 40, 7, 12, 636), (7, 44, 7, 13, 637), (7, 47, 7, 14, 638), (7, 50, 7, 17, 641), (7, 53, 7, 18, 642), (7, 56, 7, 20, 644), (7, 59, 7, 21, 645), (7, 62, 7, 22, 646), (7, 65, 7, 24, 648), (7, 68, 7, 27, 651), (7, 71, 7, 28, 652), (7, 74, 7, 30, 654), (7, 77, 7, 31, 655), (7, 84, 7, 1, 625), (7, 139, 7, 15, 639), (7, 142, 7, 16, 640), (7, 167, 7, 19, 643), (7, 188, 7, 23, 647), (7, 199, 7, 25, 649), (7, 219, 7, 26, 650), (7, 237, 7, 29, 653)]
def hm_ML : List (Nat × Nat × Nat × Nat × Nat) := [(0, 25, 1, 9, 310), (0, 28, 1, 21, 311), (0, 38, 1, 15, 552), (0, 42, 1, 18, 298), (0, 46, 3, 24, 528), (0, 50, 3, 25, 391), (0, 53, 3, 26, 392), (0, 56, 1, 40, 496), (0, 60, 0, 81, 579), (0, 64, 3, 14, 582), (0, 67, 3, 44, 533), (1, 28, 3, 44, 410), (1, 32, 1, 33, 445), (1, 36, 1, 43, 406), (1, 45, 1, 45, 413), (1, 55, 3, 24, 417), (1, 59, 3, 25, 418), (1, 62, 3, 26, 419), (1, 65, 1, 46, 420), (1, 69, 1, 47, 424), (2, 11, 2, 2, 221), (2, 20, 5, 3, 223), (2, 28, 1, 39, 596), (2, 32, 1, 33, 597), (2, 36, 1, 45, 598), (2, 44, 0, 37, 599), (2, 50, 1, 85, 600), (2, 56, 1, 86, 604), (2, 60, 1, 149, 608), (2, 67, 3, 44, 609), (3, 18, 1, 40, 387), (3, 33, 1, 41, 393), (3, 43, 3, 25, 397), (3, 47, 3, 26, 398), (4, 20, 5, 3, 128), (4, 29, 1, 39, 458), (4, 38, 1, 56, 459), (4, 42, 1, 40, 501), (4, 47, 1, 57, 463), (4, 51, 3, 44, 474), (4, 55, 1, 60, 479), (4, 70, 3, 24, 467), (4, 74, 3, 25, 468), (4, 77, 3, 26, 469), (4, 80, 1, 61, 483), (4, 99, 1, 58, 470), (4, 103, 1, 59, 475), (5, 19, 5, 4, 156), (5, 24, 5, 6, 158), (5, 25, 1, 20, 510), (5, 48, 1, 68, 519), (5, 52, 1, 55, 523), (5, 56, 1, 69, 524), (5, 59, 1, 70, 529), (5, 63, 1, 71, 534), (5, 67, 1, 77, 562), (5, 71, 0, 72, 538), (5, 74, 0, 75, 553), (5, 81, 1, 73, 541), (5, 85, 3, 25, 545), (5, 88, 3, 26, 546), (5, 91, 3, 14, 547), (5, 95, 1, 74, 548), (5, 99, 1, 40, 556), (5, 103, 3, 76, 557), (5, 106, 1, 18, 561), (5, 110, 1, 78, 566), (5, 113, 1, 82, 583), (5, 116, 1, 79, 570), (5, 120, 1, 17, 587), (5, 123, 3, 44, 574), (5, 126, 1, 80, 575), (6, 17, 2, 2, 78), (6, 24, 5, 3, 100), (6, 31, 5, 4, 123), (6, 38, 2, 5, 150), (6, 45, 5, 7, 216), (6, 50, 5, 6, 235), (6, 55, 1, 9, 265), (6, 58, 1, 11, 273), (6, 62, 0, 12, 277), (6, 65, 0, 13, 280), (6, 68, 0, 14, 283), (6, 72, 1, 15, 286), (6, 78, 1, 17, 294), (6, 84, 1, 20, 306), (6, 88, 1, 21, 318), (6, 99, 0, 24, 327), (6, 103, 0, 25, 330), (6, 106, 0, 26, 333), (6, 109, 0, 29, 344), (6, 112, 0, 30, 347), (6, 118, 0, 32, 354), (6, 124, 1, 33, 357), (6, 131, 0, 37, 373), (6, 136, 1, 39, 383), (6, 139, 1, 149, 402), (6, 143, 0, 49, 432), (6, 147, 1, 52, 441), (6, 151, 1, 53, 446), (6, 154, 1, 55, 454), (6, 157, 1, 63, 492), (6, 161, 1, 64, 497), (6, 165, 1, 66, 506), (6, 169, 1, 67, 511), (6, 173, 1, 150, 515), (6, 183, 1, 84, 592), (6, 189, 1, 87, 610), (6, 192, 0, 50, 435), (6, 195, 0, 51, 438), (6, 198, 0, 44, 560), (7, 87, 1, 97, 749), (7, 91, 1, 92, 730), (7, 95, 0, 93, 734), (7, 98, 1, 94, 737), (7, 102, 1, 96, 745), (7, 106, 1, 99, 757), (7, 110, 1, 112, 807), (7, 114, 0, 104, 777), (7, 117, 0, 105, 780), (7, 120, 1, 109, 815), (7, 124, 1, 113, 811), (7, 127, 1, 111, 803), (7, 130, 0, 115, 820), (7, 133, 1, 121, 843), (7, 136, 1, 122, 847), (7, 145, 1, 118, 831), (7, 148, 1, 119, 835), (7, 151, 1, 120, 839), (7, 154, 1, 123, 851), (7, 158, 1, 117, 827), (7, 161, 1, 125, 859), (7, 164, 1, 126, 863), (7, 170, 1, 127, 867), (7, 173, 1, 128, 871), (7, 176, 1, 129, 875), (7, 179, 1, 133, 891), (7, 182, 1, 130, 879), (7, 185, 1, 132, 887), (7, 191, 1, 131, 883), (7, 195, 1, 139, 915), (7, 202, 1, 137, 907), (7, 205, 1, 138, 911), (7, 208, 1, 136, 903), (7, 212, 1, 145, 939), (7, 215, 1, 144, 935), (7, 222, 1, 135, 899), (7, 225, 1, 140, 919), (7, 228, 1, 141, 923), (7, 231, 1, 142, 927), (7, 234, 1, 143, 931), (7, 240, 1, 147, 947), (8, 9, 2, 0, 68), (8, 12, 2, 89, 621), (8, 13, 1, 8, 261), (8, 17, 1, 90, 722), (8, 18, 1, 10, 269), (8, 22, 1, 91, 726), (8, 23, 1, 16, 290), (8, 26, 1, 95, 741), (8, 27, 1, 19, 302), (8, 31, 1, 98, 753), (8, 32, 1, 22, 319), (8, 35, 1, 100, 761), (8, 36, 1, 23, 323), (8, 39, 1, 101, 765), (8, 40, 1, 27, 336), (8, 43, 1, 102, 769), (8, 44, 1, 28, 340), (8, 47, 1, 103, 773), (8, 48, 1, 31, 350), (8, 51, 1, 106, 783), (8, 52, 1, 34, 361), (8, 56, 1, 107, 787), (8, 57, 1, 35, 365), (8, 60, 1, 108, 791), (8, 61, 1, 36, 369), (8, 64, 1, 109, 795), (8, 65, 1, 38, 379), (8, 68, 1, 110, 799), (8, 69, 1, 48, 428), (8, 72, 1, 114, 816), (8, 73, 1, 54, 450), (8, 76, 1, 116, 823), (8, 77, 1, 62, 488), (8, 80, 1, 124, 855), (8, 81, 1, 65, 502), (8, 84, 1, 134, 895), (8, 85, 1, 83, 588), (8, 88, 1, 146, 943), (8, 89, 1, 88, 615), (8, 92, 1, 148, 951)]
def hm_CL : List (Nat × Nat × Nat × Nat) := [(2, 9, 1, 220), (2, 18, 3, 222), (4, 18, 3, 127), (5, 9, 0, 154), (5, 17, 4, 155), (6, 9, 0, 74), (6, 15, 1, 76), (6, 22, 3, 98), (6, 29, 4, 121), (6, 36, 5, 148), (6, 43, 2, 214), (8, 7, 6, 66), (8, 10, 7, 619)]
def hm_OI : List (Nat × Nat × Nat) := [(0, 3, 161), (1, 3, 81), (2, 3, 219), (3, 3, 103), (4, 3, 126), (5, 3, 153), (6, 3, 71), (7, 1, 624)]
def hm_AC : List (Nat × Nat × Nat) := [(0, 32, 315), (1, 18, 614)]
def hm_MX : List (Nat × Nat × Nat) := [(3, 50, 399), (4, 59, 487)]
/-- where the words of method j stand: initialized; static or instanceMethod; selects; its kind (0 static, 1 instance, 2 constructor) -/
def hm_mz : List (Nat × Nat × Nat × Nat) := [(55, 69, 0, 2), (0, 0, 0, 9), (56, 79, 0, 2), (57, 101, 0, 2), (58, 124, 0, 2), (59, 151, 0, 2), (60, 159, 0, 2), (61, 217, 0, 2), (55, 262, 263, 1), (60, 266, 267, 1), (55, 270, 271, 1), (55, 275, 0, 1), (55, 278, 0, 0), (55, 281, 0, 0), (55, 284, 0, 0), (60, 287, 288, 1), (55, 291, 292, 1), (60, 295, 296, 1), (60, 299, 300, 1), (55, 303, 304, 1), (60, 307, 308, 1), (60, 312, 313, 1), (55, 320, 321, 1), (55, 324, 325, 1), (55, 328, 0, 0), (55, 331, 0, 0), (55, 334, 0, 0), (55, 337, 338, 1), (55, 341, 342, 1), (55, 345, 0, 0), (55, 348, 0, 0), (55, 351, 352, 1), (55, 355, 0, 0), (56, 358, 359, 1), (55, 362, 363, 1), (55, 366, 367, 1), (55, 370, 371, 1), (64, 374, 0, 0), (55, 380, 381, 1), (57, 384, 385, 1), (60, 388, 389, 1), (57, 395, 1, 1), (0, 0, 0, 9), (56, 408, 2, 1), (55, 411, 0, 0), (56, 414, 415, 1), (56, 422, 3, 1), (56, 426, 4, 1), (55, 429, 430, 1), (55, 433, 0, 0), (55, 436, 0, 0), (55, 439, 0, 0), (56, 442, 443, 1), (56, 447, 448, 1), (55, 451, 452, 1), (58, 455, 456, 1), (58, 461, 5, 1), (58, 465, 6, 1), (58, 472, 7, 1), (58, 477, 8, 1), (58, 481, 9, 1), (58, 485, 10, 1), (55, 489, 490, 1), (60, 493, 494, 1), (58, 498, 499, 1), (55, 503, 504, 1), (59, 507, 508, 1), (59, 512, 513, 1), (59, 521, 11, 1), (60, 525, 526, 1), (60, 530, 531, 1), (59, 536, 12, 1), (59, 539, 0, 0), (60, 542, 543, 1), (60, 549, 550, 1), (59, 554, 0, 0), (55, 558, 0, 0), (59, 564, 13, 1), (59, 568, 14, 1), (59, 572, 15, 1), (60, 576, 577, 1), (60, 580, 0, 0), (59, 585, 16, 1), (55, 589, 590, 1), (61, 593, 594, 1), (60, 601, 602, 1), (61, 606, 17, 1), (56, 611, 612, 1), (55, 616, 617, 1), (62, 622, 0, 2), (62, 723, 724, 1), (62, 727, 728, 1), (62, 732, 18, 1), (62, 735, 0, 0), (62, 739, 19, 1), (62, 742, 743, 1), (62, 747, 20, 1), (62, 751, 21, 1), (62, 754, 755, 1), (62, 759, 22, 1), (62, 762, 763, 1), (62, 766, 767, 1), (62, 770, 771, 1), (62, 774, 775, 1), (62, 778, 0, 0), (62, 781, 0, 0), (62, 784, 785, 1), (62, 788, 789, 1), (62, 792, 793, 1), (62, 796, 797, 1), (62, 800, 801, 1), (62, 805, 23, 1), (62, 809, 24, 1), (62, 813, 25, 1), (62, 817, 818, 1), (62, 821, 0, 0), (62, 824, 825, 1), (62, 829, 26, 1), (62, 833, 27, 1), (62, 837, 28, 1), (62, 841, 29, 1), (62, 845, 30, 1), (62, 849, 31, 1), (62, 853, 32, 1), (62, 856, 857, 1), (62, 861, 33, 1), (62, 865, 34, 1), (62, 869, 35, 1), (62, 873, 36, 1), (62, 877, 37, 1), (62, 881, 38, 1), (62, 885, 39, 1), (62, 889, 40, 1), (62, 893, 41, 1), (62, 896, 897, 1), (62, 901, 42, 1), (62, 905, 43, 1), (62, 909, 44, 1), (62, 913, 45, 1), (62, 917, 46, 1), (62, 921, 47, 1), (62, 925, 48, 1), (62, 929, 49, 1), (62, 933, 50, 1), (62, 937, 51, 1), (62, 941, 52, 1), (62, 944, 945, 1), (62, 949, 53, 1), (62, 952, 953, 1), (56, 403, 404, 1), (59, 516, 517, 1)]
def hm_kind (j : Nat) : Nat := (hm_mz.getD j (0, 0, 0, 9)).2.2.2
def hm_me1 (j : Nat) (z : Nat × Nat × Nat × Nat) : Bool := hm_at z.1 (.initialized (hm_me j).1.cls) && plainName (hm_me j).1.cls && decide ((hm_me j).1.cls ≠ "java/lang/invoke/MethodHandle") && decide ((hm_me j).1.cls ≠ "java/lang/invoke/VarHandle") && decide ((parseMethodDescriptor (hm_me j).1.desc).map (fun d => d.parameters.length) = some (hm_np j)) && decide ((hm_me j).2.2.1 ≤ 21) &&
  (match z.2.2.2 with
  | 0 => hm_at z.2.1 (.static (hm_me j).1)
  | 1 => hm_at z.2.1 (.instanceMethod (hm_me j).1) && hm_at z.2.2.1 (.selects (hm_me j).1.cls (hm_me j).1 (hm_me j).1)
  | _ => hm_at z.2.1 (.instanceMethod (hm_me j).1) && decide ((hm_me j).1.name = "<init>") && decide ((hm_me j).2.2.2 = none))
def hm_fl1 (q : Nat × Nat × Nat × Nat × Nat) : Bool := hm_at q.2.2.2.2 (.fieldLink (hm_nm q.1) q.2.1 (hm_T q.2.2.1 q.2.2.2.1).1 (hm_T q.2.2.1 q.2.2.2.1).2.1 (hm_T q.2.2.1 q.2.2.2.1).2.2.1) && decide (q.2.2.1 < 8) && decide (q.2.2.2.1 < hm_N q.2.2.1)
def hm_ml1 (q : Nat × Nat × Nat × Nat × Nat) : Bool := match q.2.2.1 with
  | 0 => hm_at q.2.2.2.2 (.methodLink (hm_nm q.1) q.2.1 (hm_me q.2.2.2.1).1) && decide (hm_kind q.2.2.2.1 = 0)
  | 1 => hm_at q.2.2.2.2 (.methodLink (hm_nm q.1) q.2.1 (hm_me q.2.2.2.1).1) && decide (hm_kind q.2.2.2.1 = 1)
  | 2 => hm_at q.2.2.2.2 (.methodLink (hm_nm q.1) q.2.1 (hm_me q.2.2.2.1).1) && decide (hm_kind q.2.2.2.1 = 2)
  | 3 => decide (lw_tbl[q.2.2.2.2]? = some (.methodLinkNest (hm_nm q.1) q.2.1 (hm_me q.2.2.2.1).1 "HeapLaw")) && decide (hm_kind q.2.2.2.1 = 0)
  | 5 => decide (lw_tbl[q.2.2.2.2]? = some (.methodLinkNest (hm_nm q.1) q.2.1 (hm_me q.2.2.2.1).1 "HeapLaw")) && decide (hm_kind q.2.2.2.1 = 2)
  | _ => false
def hm_cl1 (q : Nat × Nat × Nat × Nat) : Bool := hm_at q.2.2.2 (.classLink (hm_nm q.1) q.2.1 (hm_nm q.2.2.1)) && decide (q.2.2.1 < 8)
def hm_oi1 (q : Nat × Nat × Nat) : Bool := hm_at q.2.2 (.methodLink (hm_nm q.1) q.2.1 objectInit)
def hm_ac1 (q : Nat × Nat × Nat) : Bool := hm_at q.2.2 (.methodLink (hm_nm q.1) q.2.1 arraycopyName)
def hm_mx1 (q : Nat × Nat × Nat) : Bool := hm_at q.2.2 (.methodLink (hm_nm q.1) q.2.1 Lib.Math.max.name)
def hm_alls : List (Nat × (Nat × Nat × Nat × Nat)) := (List.range 151).zip hm_mz
theorem hm_me_ok0 : (List.range' 0 25).all (fun j => hm_me1 j (hm_mz.getD j (0, 0, 0, 9)) || (j == 1 || j == 42)) = true := by decide +kernel
theorem hm_me_ok25 : (List.range' 25 25).all (fun j => hm_me1 j (hm_mz.getD j (0, 0, 0, 9)) || (j == 1 || j == 42)) = true := by decide +kernel
theorem hm_me_ok50 : (List.range' 50 25).all (fun j => hm_me1 j (hm_mz.getD j (0, 0, 0, 9)) || (j == 1 || j == 42)) = true := by decide +kernel
theorem hm_me_ok75 : (List.range' 75 25).all (fun j => hm_me1 j (hm_mz.getD j (0, 0, 0, 9)) || (j == 1 || j == 42)) = true := by decide +kernel
theorem hm_me_ok100 : (List.range' 100 25).all (fun j => hm_me1 j (hm_mz.getD j (0, 0, 0, 9)) || (j == 1 || j == 42)) = true := by decide +kernel
theorem hm_me_ok125 : (List.range' 125 25).all (fun j => hm_me1 j (hm_mz.getD j (0, 0, 0, 9)) || (j == 1 || j == 42)) = true := by decide +kernel
theorem hm_me_ok150 : (List.range' 150 1).all (fun j => hm_me1 j (hm_mz.getD j (0, 0, 0, 9)) || (j == 1 || j == 42)) = true := by decide +kernel
theorem hm_me_ok : ∀ j, j < 151 → j ≠ 1 → j ≠ 42 → hm_me1 j (hm_mz.getD j (0, 0, 0, 9)) = true := by
  intro j hj hn hn2
  have key : ∀ a n, (List.range' a n).all (fun j => hm_me1 j (hm_mz.getD j (0, 0, 0, 9)) || (j == 1 || j == 42)) = true → a ≤ j → j < a + n → hm_me1 j (hm_mz.getD j (0, 0, 0, 9)) = true := by
    intro a n h h1 h2
    have h3 := List.all_eq_true.mp h j (List.mem_range'_1.mpr ⟨h1, h2⟩)
    simp only [Bool.or_eq_true, beq_iff_eq, hn, hn2, or_false] at h3
    exact h3
  rcases Nat.lt_or_ge j 25 with h | h
  · exact key _ _ hm_me_ok0 (by omega) (by omega)
  rcases Nat.lt_or_ge j 50 with h | h
  · exact key _ _ hm_me_ok25 (by omega) (by omega)
  rcases Nat.lt_or_ge j 75 with h | h
  · exact key _ _ hm_me_ok50 (by omega) (by omega)
  rcases Nat.lt_or_ge j 100 with h | h
  · exact key _ _ hm_me_ok75 (by omega) (by omega)
  rcases Nat.lt_or_ge j 125 with h | h
  · exact key _ _ hm_me_ok100 (by omega) (by omega)
  rcases Nat.lt_or_ge j 150 with h | h
  · exact key _ _ hm_me_ok125 (by omega) (by omega)
  rcases Nat.lt_or_ge j 151 with h | h
  · exact key _ _ hm_me_ok150 (by omega) (by omega)
  omega
theorem hm_FL_ok : hm_FL.all hm_fl1 = true := by decide +kernel
theorem hm_ML_ok0 : ((hm_ML.drop 0).take 50).all hm_ml1 = true := by decide +kernel
theorem hm_ML_ok50 : ((hm_ML.drop 50).take 50).all hm_ml1 = true := by decide +kernel
theorem hm_ML_ok100 : ((hm_ML.drop 100).take 50).all hm_ml1 = true := by decide +kernel
theorem hm_ML_ok150 : ((hm_ML.drop 150).take 50).all hm_ml1 = true := by decide +kernel
theorem hm_ML_ok : ∀ q ∈ hm_ML, hm_ml1 q = true := by
  intro q hq
  have e : hm_ML = (hm_ML.drop 0).take 50 ++ ((hm_ML.drop 50).take 50 ++ ((hm_ML.drop 100).take 50 ++ ((hm_ML.drop 150).take 50))) := by decide +kernel
  rw [e] at hq
  simp only [List.mem_append] at hq
  rcases hq with h | h | h | h
  · exact List.all_eq_true.mp hm_ML_ok0 q h
  · exact List.all_eq_true.mp hm_ML_ok50 q h
  · exact List.all_eq_true.mp hm_ML_ok100 q h
  · exact List.all_eq_true.mp hm_ML_ok150 q h
theorem hm_CL_ok : hm_CL.all hm_cl1 = true := by decide +kernel
theorem hm_OI_ok : hm_OI.all hm_oi1 = true := by decide +kernel
theorem hm_AC_ok : hm_AC.all hm_ac1 = true := by decide +kernel
theorem hm_MX_ok : hm_MX.all hm_mx1 = true := by decide +kernel
theorem hm_mxcode : Cond.code Lib.Math.max.name Lib.Math.max.code 2 (some .int) ∈ hm_good := hm_me_tbl (j := 42) (by decide)
theorem hm_once0 : hm_at 72 (.instanceMethod objectInit) = true := by decide +kernel
theorem hm_once1 : hm_at 317 (.native arraycopyName) = true := by decide +kernel
theorem hm_once2 : hm_at 316 (.static arraycopyName) = true := by decide +kernel
theorem hm_once3 : hm_at 63 (.initialized "java/lang/System") = true := by decide +kernel
theorem hm_once4 : hm_at 97 (.arrayClass .int) = true := by decide +kernel
theorem hm_once5 : hm_at 721 (.arrayClass .boolean) = true := by decide +kernel
theorem hm_once6 : hm_at 400 (.static Lib.Math.max.name) = true := by decide +kernel
theorem hm_once7 : hm_at 65 (.initialized "java/lang/Math") = true := by decide +kernel
theorem hm_once8 : hm_at 376 (.constant "java/lang/Integer" 265 1431655765) = true := by decide +kernel
theorem hm_once9 : hm_at 377 (.constant "java/lang/Integer" 266 858993459) = true := by decide +kernel
theorem hm_once10 : hm_at 378 (.constant "java/lang/Integer" 267 252645135) = true := by decide +kernel
theorem hm_oicode : Cond.code objectInit ⟨#[0xb1]⟩ 1 none ∈ hm_good := hm_me_tbl (j := 1) (by decide)
theorem hm_cls0 : ((u_ws (hm_nm 0) (hm_T 0) (hm_N 0)).zip [179, 181, 183, 185]).all (fun q => hm_at q.2 q.1) = true ∧ hm_at 157 (.instantiable (hm_nm 0) (hm_N 0)) = true ∧ hm_at 60 (.initialized (hm_nm 0)) = true := by decide +kernel
theorem hm_nmf0 : ∀ a, a < hm_N 0 → ∀ b, b < hm_N 0 → a ≠ b → (hm_T 0 a).2.1 ≠ (hm_T 0 b).2.1 := by decide +kernel
theorem hm_tyf0 : ∀ k, k < hm_N 0 → parseFieldDescriptor (hm_T 0 k).2.2.1 = some (hm_ty 0 k) ∧ (hm_T 0 k).1 = hm_nm 0 ∧ (hm_isr 0 k = true → refKind (hm_ty 0 k) = true) ∧ (hm_isr 0 k = false → hm_ty 0 k = .int) := by decide +kernel
theorem hm_cls1 : ((u_ws (hm_nm 1) (hm_T 1) (hm_N 1)).zip [90, 92, 94]).all (fun q => hm_at q.2 q.1) = true ∧ hm_at 77 (.instantiable (hm_nm 1) (hm_N 1)) = true ∧ hm_at 56 (.initialized (hm_nm 1)) = true := by decide +kernel
theorem hm_nmf1 : ∀ a, a < hm_N 1 → ∀ b, b < hm_N 1 → a ≠ b → (hm_T 1 a).2.1 ≠ (hm_T 1 b).2.1 := by decide +kernel
theorem hm_tyf1 : ∀ k, k < hm_N 1 → parseFieldDescriptor (hm_T 1 k).2.2.1 = some (hm_ty 1 k) ∧ (hm_T 1 k).1 = hm_nm 1 ∧ (hm_isr 1 k = true → refKind (hm_ty 1 k) = true) ∧ (hm_isr 1 k = false → hm_ty 1 k = .int) := by decide +kernel
theorem hm_cls2 : ((u_ws (hm_nm 2) (hm_T 2) (hm_N 2)).zip [228, 230, 232]).all (fun q => hm_at q.2 q.1) = true ∧ hm_at 215 (.instantiable (hm_nm 2) (hm_N 2)) = true ∧ hm_at 61 (.initialized (hm_nm 2)) = true := by decide +kernel
theorem hm_nmf2 : ∀ a, a < hm_N 2 → ∀ b, b < hm_N 2 → a ≠ b → (hm_T 2 a).2.1 ≠ (hm_T 2 b).2.1 := by decide +kernel
theorem hm_tyf2 : ∀ k, k < hm_N 2 → parseFieldDescriptor (hm_T 2 k).2.2.1 = some (hm_ty 2 k) ∧ (hm_T 2 k).1 = hm_nm 2 ∧ (hm_isr 2 k = true → refKind (hm_ty 2 k) = true) ∧ (hm_isr 2 k = false → hm_ty 2 k = .int) := by decide +kernel
theorem hm_cls3 : ((u_ws (hm_nm 3) (hm_T 3) (hm_N 3)).zip [114, 116, 118]).all (fun q => hm_at q.2 q.1) = true ∧ hm_at 99 (.instantiable (hm_nm 3) (hm_N 3)) = true ∧ hm_at 57 (.initialized (hm_nm 3)) = true := by decide +kernel
theorem hm_nmf3 : ∀ a, a < hm_N 3 → ∀ b, b < hm_N 3 → a ≠ b → (hm_T 3 a).2.1 ≠ (hm_T 3 b).2.1 := by decide +kernel
theorem hm_tyf3 : ∀ k, k < hm_N 3 → parseFieldDescriptor (hm_T 3 k).2.2.1 = some (hm_ty 3 k) ∧ (hm_T 3 k).1 = hm_nm 3 ∧ (hm_isr 3 k = true → refKind (hm_ty 3 k) = true) ∧ (hm_isr 3 k = false → hm_ty 3 k = .int) := by decide +kernel
theorem hm_cls4 : ((u_ws (hm_nm 4) (hm_T 4) (hm_N 4)).zip [135, 137, 139, 141, 143, 145]).all (fun q => hm_at q.2 q.1) = true ∧ hm_at 122 (.instantiable (hm_nm 4) (hm_N 4)) = true ∧ hm_at 58 (.initialized (hm_nm 4)) = true := by decide +kernel
theorem hm_nmf4 : ∀ a, a < hm_N 4 → ∀ b, b < hm_N 4 → a ≠ b → (hm_T 4 a).2.1 ≠ (hm_T 4 b).2.1 := by decide +kernel
theorem hm_tyf4 : ∀ k, k < hm_N 4 → parseFieldDescriptor (hm_T 4 k).2.2.1 = some (hm_ty 4 k) ∧ (hm_T 4 k).1 = hm_nm 4 ∧ (hm_isr 4 k = true → refKind (hm_ty 4 k) = true) ∧ (hm_isr 4 k = false → hm_ty 4 k = .int) := by decide +kernel
theorem hm_cls5 : ((u_ws (hm_nm 5) (hm_T 5) (hm_N 5)).zip [197, 199, 201, 203, 205, 207, 209, 211]).all (fun q => hm_at q.2 q.1) = true ∧ hm_at 149 (.instantiable (hm_nm 5) (hm_N 5)) = true ∧ hm_at 59 (.initialized (hm_nm 5)) = true := by decide +kernel
theorem hm_nmf5 : ∀ a, a < hm_N 5 → ∀ b, b < hm_N 5 → a ≠ b → (hm_T 5 a).2.1 ≠ (hm_T 5 b).2.1 := by decide +kernel
theorem hm_tyf5 : ∀ k, k < hm_N 5 → parseFieldDescriptor (hm_T 5 k).2.2.1 = some (hm_ty 5 k) ∧ (hm_T 5 k).1 = hm_nm 5 ∧ (hm_isr 5 k = true → refKind (hm_ty 5 k) = true) ∧ (hm_isr 5 k = false → hm_ty 5 k = .int) := by decide +kernel
theorem hm_cls6 : ((u_ws (hm_nm 6) (hm_T 6) (hm_N 6)).zip [244, 246, 248, 250, 252, 254, 256, 258]).all (fun q => hm_at q.2 q.1) = true ∧ hm_at 67 (.instantiable (hm_nm 6) (hm_N 6)) = true ∧ hm_at 55 (.initialized (hm_nm 6)) = true := by decide +kernel
theorem hm_nmf6 : ∀ a, a < hm_N 6 → ∀ b, b < hm_N 6 → a ≠ b → (hm_T 6 a).2.1 ≠ (hm_T 6 b).2.1 := by decide +kernel
theorem hm_tyf6 : ∀ k, k < hm_N 6 → parseFieldDescriptor (hm_T 6 k).2.2.1 = some (hm_ty 6 k) ∧ (hm_T 6 k).1 = hm_nm 6 ∧ (hm_isr 6 k = true → refKind (hm_ty 6 k) = true) ∧ (hm_isr 6 k = false → hm_ty 6 k = .int) := by decide +kernel
theorem hm_cls7 : ((u_ws (hm_nm 7) (hm_T 7) (hm_N 7)).zip [656, 658, 660, 662, 664, 666, 668, 670, 672, 674, 676, 678, 680, 682, 684, 686, 688, 690, 692, 694, 696, 698, 700, 702, 704, 706, 708, 710, 712, 714, 716, 718]).all (fun q => hm_at q.2 q.1) = true ∧ hm_at 620 (.instantiable (hm_nm 7) (hm_N 7)) = true ∧ hm_at 62 (.initialized (hm_nm 7)) = true := by decide +kernel
theorem hm_nmf7 : ∀ a, a < hm_N 7 → ∀ b, b < hm_N 7 → a ≠ b → (hm_T 7 a).2.1 ≠ (hm_T 7 b).2.1 := by decide +kernel
theorem hm_tyf7 : ∀ k, k < hm_N 7 → parseFieldDescriptor (hm_T 7 k).2.2.1 = some (hm_ty 7 k) ∧ (hm_T 7 k).1 = hm_nm 7 ∧ (hm_isr 7 k = true → refKind (hm_ty 7 k) = true) ∧ (hm_isr 7 k = false → hm_ty 7 k = .int) := by decide +kernel
