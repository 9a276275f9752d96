section
/-- a private method of a class that the tables say can be made, by its rows of tables_1 -/
def lw_okq (q : MethodName × Nat) : Prop := (q.1.cls ≠ "java/lang/invoke/MethodHandle" ∧ q.1.cls ≠ "java/lang/invoke/VarHandle") ∧ Cond.instantiable q.1.cls q.2 ∈ tables_1 ∧ Cond.privateMethod q.1 ∈ tables_1 ∧ Cond.instanceMethod q.1 ∈ tables_1
theorem lw_p0 : lw_okq (⟨"FilterStack$Checker", "firstEarlyRead", "(LFilterStack$Filter;)I"⟩, 1) := ⟨⟨by decide +kernel, by decide +kernel⟩, List.mem_of_getElem? (i := 85) (by decide +kernel), List.mem_of_getElem? (i := 187) (by decide +kernel), List.mem_of_getElem? (i := 188) (by decide +kernel)⟩
theorem lw_p1 : lw_okq (⟨"FilterStack$Checker", "passOn", "(LFilterStack$Filter;II)V"⟩, 1) := ⟨⟨by decide +kernel, by decide +kernel⟩, List.mem_of_getElem? (i := 85) (by decide +kernel), List.mem_of_getElem? (i := 201) (by decide +kernel), List.mem_of_getElem? (i := 202) (by decide +kernel)⟩
theorem lw_p2 : lw_okq (⟨"FilterStack$Checker", "meet", "(II)V"⟩, 1) := ⟨⟨by decide +kernel, by decide +kernel⟩, List.mem_of_getElem? (i := 85) (by decide +kernel), List.mem_of_getElem? (i := 205) (by decide +kernel), List.mem_of_getElem? (i := 206) (by decide +kernel)⟩
theorem lw_p3 : lw_okq (⟨"FilterStack$RuleList", "lengthOf", "(I)I"⟩, 5) := ⟨⟨by decide +kernel, by decide +kernel⟩, List.mem_of_getElem? (i := 63) (by decide +kernel), List.mem_of_getElem? (i := 255) (by decide +kernel), List.mem_of_getElem? (i := 256) (by decide +kernel)⟩
theorem lw_p4 : lw_okq (⟨"FilterStack$RuleList", "translateOne", "(LFilterStack$Filter;I)V"⟩, 5) := ⟨⟨by decide +kernel, by decide +kernel⟩, List.mem_of_getElem? (i := 63) (by decide +kernel), List.mem_of_getElem? (i := 264) (by decide +kernel), List.mem_of_getElem? (i := 265) (by decide +kernel)⟩
theorem lw_p5 : lw_okq (⟨"FilterStack$Machine", "move", "(II[II)V"⟩, 4) := ⟨⟨by decide +kernel, by decide +kernel⟩, List.mem_of_getElem? (i := 95) (by decide +kernel), List.mem_of_getElem? (i := 281) (by decide +kernel), List.mem_of_getElem? (i := 282) (by decide +kernel)⟩
theorem lw_p6 : lw_okq (⟨"FilterStack$Machine", "result", "(II)I"⟩, 4) := ⟨⟨by decide +kernel, by decide +kernel⟩, List.mem_of_getElem? (i := 95) (by decide +kernel), List.mem_of_getElem? (i := 285) (by decide +kernel), List.mem_of_getElem? (i := 286) (by decide +kernel)⟩
theorem lw_p7 : lw_okq (⟨"FilterStack$Machine", "distance", "(LFilterStack$Filter;I)I"⟩, 4) := ⟨⟨by decide +kernel, by decide +kernel⟩, List.mem_of_getElem? (i := 95) (by decide +kernel), List.mem_of_getElem? (i := 293) (by decide +kernel), List.mem_of_getElem? (i := 294) (by decide +kernel)⟩
theorem lw_p8 : lw_okq (⟨"FilterStack$Machine", "holds", "(II)Z"⟩, 4) := ⟨⟨by decide +kernel, by decide +kernel⟩, List.mem_of_getElem? (i := 95) (by decide +kernel), List.mem_of_getElem? (i := 297) (by decide +kernel), List.mem_of_getElem? (i := 298) (by decide +kernel)⟩
theorem lw_p9 : lw_okq (⟨"FilterStack", "goodFilter", "(I)LFilterStack$Filter;"⟩, 7) := ⟨⟨by decide +kernel, by decide +kernel⟩, List.mem_of_getElem? (i := 16) (by decide +kernel), List.mem_of_getElem? (i := 313) (by decide +kernel), List.mem_of_getElem? (i := 314) (by decide +kernel)⟩
theorem lw_p10 : lw_okq (⟨"java/lang/Throwable", "fillInStackTrace", "(I)Ljava/lang/Throwable;"⟩, 6) := ⟨⟨by decide +kernel, by decide +kernel⟩, List.mem_of_getElem? (i := 355) (by decide +kernel), List.mem_of_getElem? (i := 353) (by decide +kernel), List.mem_of_getElem? (i := 354) (by decide +kernel)⟩
theorem lw_p11 : lw_okq (⟨"FilterStackModel", "put", "(IIIII)V"⟩, 16) := ⟨⟨by decide +kernel, by decide +kernel⟩, List.mem_of_getElem? (i := 425) (by decide +kernel), List.mem_of_getElem? (i := 492) (by decide +kernel), List.mem_of_getElem? (i := 493) (by decide +kernel)⟩
theorem lw_p12 : lw_okq (⟨"FilterStackModel", "is", "(II)Z"⟩, 16) := ⟨⟨by decide +kernel, by decide +kernel⟩, List.mem_of_getElem? (i := 425) (by decide +kernel), List.mem_of_getElem? (i := 508) (by decide +kernel), List.mem_of_getElem? (i := 509) (by decide +kernel)⟩
theorem lw_p13 : lw_okq (⟨"FilterStackModel", "check", "(I)I"⟩, 16) := ⟨⟨by decide +kernel, by decide +kernel⟩, List.mem_of_getElem? (i := 425) (by decide +kernel), List.mem_of_getElem? (i := 520) (by decide +kernel), List.mem_of_getElem? (i := 521) (by decide +kernel)⟩
theorem lw_p14 : lw_okq (⟨"FilterStackModel", "holds", "(III)Z"⟩, 16) := ⟨⟨by decide +kernel, by decide +kernel⟩, List.mem_of_getElem? (i := 425) (by decide +kernel), List.mem_of_getElem? (i := 524) (by decide +kernel), List.mem_of_getElem? (i := 525) (by decide +kernel)⟩
theorem lw_p15 : lw_okq (⟨"FilterStackModel", "bare", "(III)Z"⟩, 16) := ⟨⟨by decide +kernel, by decide +kernel⟩, List.mem_of_getElem? (i := 425) (by decide +kernel), List.mem_of_getElem? (i := 528) (by decide +kernel), List.mem_of_getElem? (i := 529) (by decide +kernel)⟩
def lw_privs_1 : List (MethodName × Nat) := [(⟨"FilterStack$Checker", "firstEarlyRead", "(LFilterStack$Filter;)I"⟩, 1), (⟨"FilterStack$Checker", "passOn", "(LFilterStack$Filter;II)V"⟩, 1), (⟨"FilterStack$Checker", "meet", "(II)V"⟩, 1), (⟨"FilterStack$RuleList", "lengthOf", "(I)I"⟩, 5), (⟨"FilterStack$RuleList", "translateOne", "(LFilterStack$Filter;I)V"⟩, 5), (⟨"FilterStack$Machine", "move", "(II[II)V"⟩, 4), (⟨"FilterStack$Machine", "result", "(II)I"⟩, 4), (⟨"FilterStack$Machine", "distance", "(LFilterStack$Filter;I)I"⟩, 4), (⟨"FilterStack$Machine", "holds", "(II)Z"⟩, 4), (⟨"FilterStack", "goodFilter", "(I)LFilterStack$Filter;"⟩, 7), (⟨"java/lang/Throwable", "fillInStackTrace", "(I)Ljava/lang/Throwable;"⟩, 6), (⟨"FilterStackModel", "put", "(IIIII)V"⟩, 16), (⟨"FilterStackModel", "is", "(II)Z"⟩, 16), (⟨"FilterStackModel", "check", "(I)I"⟩, 16), (⟨"FilterStackModel", "holds", "(III)Z"⟩, 16), (⟨"FilterStackModel", "bare", "(III)Z"⟩, 16)]
theorem lw_r1 : ∀ q ∈ lw_privs_1, lw_okq q := List.forall_mem_cons.mpr ⟨lw_p0, List.forall_mem_cons.mpr ⟨lw_p1, List.forall_mem_cons.mpr ⟨lw_p2, List.forall_mem_cons.mpr ⟨lw_p3, List.forall_mem_cons.mpr ⟨lw_p4, List.forall_mem_cons.mpr ⟨lw_p5, List.forall_mem_cons.mpr ⟨lw_p6, List.forall_mem_cons.mpr ⟨lw_p7, List.forall_mem_cons.mpr ⟨lw_p8, List.forall_mem_cons.mpr ⟨lw_p9, List.forall_mem_cons.mpr ⟨lw_p10, List.forall_mem_cons.mpr ⟨lw_p11, List.forall_mem_cons.mpr ⟨lw_p12, List.forall_mem_cons.mpr ⟨lw_p13, List.forall_mem_cons.mpr ⟨lw_p14, List.forall_mem_cons.mpr ⟨lw_p15, fun _ h => absurd h List.not_mem_nil⟩⟩⟩⟩⟩⟩⟩⟩⟩⟩⟩⟩⟩⟩⟩⟩
theorem lw_p16 : lw_okq (⟨"FilterStackModel", "run", "(I)I"⟩, 16) := ⟨⟨by decide +kernel, by decide +kernel⟩, List.mem_of_getElem? (i := 425) (by decide +kernel), List.mem_of_getElem? (i := 544) (by decide +kernel), List.mem_of_getElem? (i := 545) (by decide +kernel)⟩
def lw_privs_2 : List (MethodName × Nat) := [(⟨"FilterStackModel", "run", "(I)I"⟩, 16)]
theorem lw_r2 : ∀ q ∈ lw_privs_2, lw_okq q := List.forall_mem_cons.mpr ⟨lw_p16, fun _ h => absurd h List.not_mem_nil⟩
def lw_privs : List (MethodName × Nat) := lw_privs_1 ++ (lw_privs_2)
def lw_tbl : List Cond := k2_sels lw_privs ++ tables_1
theorem lw_privs_ok : ∀ q ∈ lw_privs, lw_okq q := by
  show ∀ q ∈ lw_privs_1 ++ (lw_privs_2), lw_okq q
  exact List.forall_mem_append.mpr ⟨lw_r1, lw_r2⟩
/-- the words that a callee may be given -/
def fs_T : List Cond := lw_tbl.filter goodWord
theorem fs_in {w : Cond} (i : Nat) (h : tables_1[i]? = some w) (hg : goodWord w = true) : w ∈ fs_T := List.mem_filter.mpr ⟨List.mem_append_right _ (List.mem_of_getElem? h), hg⟩
theorem fs_inP {w : Cond} (i : Nat) (h : (k2_sels lw_privs)[i]? = some w) (hg : goodWord w = true) : w ∈ fs_T := List.mem_filter.mpr ⟨List.mem_append_left _ (List.mem_of_getElem? h), hg⟩
theorem fs_tbl {w : Cond} (h : w ∈ fs_T) : w ∈ lw_tbl := (List.mem_filter.mp h).1
theorem fs_G {x y : MethodName} {cx cy : ByteArray} {nx ny : Nat} {rx ry : Option FieldType} (hy : Cond.code y cy ny ry ∈ fs_T) : GoodIn (Cond.code x cx nx rx :: fs_T) (Cond.code y cy ny ry :: fs_T) := by
  intro w hw
  rcases List.mem_cons.mp hw with rfl | h
  · exact ⟨List.mem_cons_of_mem _ hy, good_of_word (List.mem_filter.mp hy).2⟩
  · exact ⟨List.mem_cons_of_mem _ h, good_of_word (List.mem_filter.mp h).2⟩
def R_Ck : String := "FilterStack$Checker"
def R_Fi : String := "FilterStack$Filter"
def R_Mc : String := "FilterStack$Machine"
def R_Ru : String := "FilterStack$RuleList"
def R_Fs : String := "FilterStack"
def R_Mo : String := "FilterStackModel"
def R_Lw : String := "FilterStackLaw"
def R_Ar : String := "java/util/Arrays"
def T_Ck : u_T := fun k => match k with
  | _ => ("FilterStack$Checker", "stored", "[I", true)
def t_Ck : Nat → FieldType := fun k => match k with
  | _ => .array .int
theorem n_Ck : ∀ a, a < 1 → ∀ b, b < 1 → a ≠ b → (T_Ck a).2.1 ≠ (T_Ck b).2.1 := by decide +kernel
theorem ok_Ck : ∀ k, k < 1 → parseFieldDescriptor (T_Ck k).2.2.1 = some (t_Ck k) := by decide +kernel
def T_Fi : u_T := fun k => match k with
  | 0 => ("FilterStack$Filter", "operations", "[I", true)
  | 1 => ("FilterStack$Filter", "yes", "[I", true)
  | 2 => ("FilterStack$Filter", "no", "[I", true)
  | 3 => ("FilterStack$Filter", "numbers", "[I", true)
  | _ => ("FilterStack$Filter", "length", "I", false)
def t_Fi : Nat → FieldType := fun k => match k with
  | 0 => .array .int
  | 1 => .array .int
  | 2 => .array .int
  | 3 => .array .int
  | _ => .int
theorem n_Fi : ∀ a, a < 5 → ∀ b, b < 5 → a ≠ b → (T_Fi a).2.1 ≠ (T_Fi b).2.1 := by decide +kernel
theorem ok_Fi : ∀ k, k < 5 → parseFieldDescriptor (T_Fi k).2.2.1 = some (t_Fi k) := by decide +kernel
def T_Mc : u_T := fun k => match k with
  | 0 => ("FilterStack$Machine", "cells", "[I", true)
  | 1 => ("FilterStack$Machine", "a", "I", false)
  | 2 => ("FilterStack$Machine", "x", "I", false)
  | _ => ("FilterStack$Machine", "done", "I", false)
def t_Mc : Nat → FieldType := fun k => match k with
  | 0 => .array .int
  | 1 => .int
  | 2 => .int
  | _ => .int
theorem n_Mc : ∀ a, a < 4 → ∀ b, b < 4 → a ≠ b → (T_Mc a).2.1 ≠ (T_Mc b).2.1 := by decide +kernel
theorem ok_Mc : ∀ k, k < 4 → parseFieldDescriptor (T_Mc k).2.2.1 = some (t_Mc k) := by decide +kernel
def T_Ru : u_T := fun k => match k with
  | 0 => ("FilterStack$RuleList", "calls", "[I", true)
  | 1 => ("FilterStack$RuleList", "arguments", "[I", true)
  | 2 => ("FilterStack$RuleList", "masks", "[I", true)
  | 3 => ("FilterStack$RuleList", "values", "[I", true)
  | _ => ("FilterStack$RuleList", "count", "I", false)
def t_Ru : Nat → FieldType := fun k => match k with
  | 0 => .array .int
  | 1 => .array .int
  | 2 => .array .int
  | 3 => .array .int
  | _ => .int
theorem n_Ru : ∀ a, a < 5 → ∀ b, b < 5 → a ≠ b → (T_Ru a).2.1 ≠ (T_Ru b).2.1 := by decide +kernel
theorem ok_Ru : ∀ k, k < 5 → parseFieldDescriptor (T_Ru k).2.2.1 = some (t_Ru k) := by decide +kernel
def T_Fs : u_T := fun k => match k with
  | 0 => ("FilterStack", "filters", "[LFilterStack$Filter;", true)
  | 1 => ("FilterStack", "stack", "[LFilterStack$Filter;", true)
  | 2 => ("FilterStack", "stacked", "I", false)
  | 3 => ("FilterStack", "words", "[I", true)
  | 4 => ("FilterStack", "rules", "LFilterStack$RuleList;", true)
  | 5 => ("FilterStack", "checker", "LFilterStack$Checker;", true)
  | _ => ("FilterStack", "machine", "LFilterStack$Machine;", true)
def t_Fs : Nat → FieldType := fun k => match k with
  | 0 => .array (.object "FilterStack$Filter")
  | 1 => .array (.object "FilterStack$Filter")
  | 2 => .int
  | 3 => .array .int
  | 4 => .object "FilterStack$RuleList"
  | 5 => .object "FilterStack$Checker"
  | _ => .object "FilterStack$Machine"
theorem n_Fs : ∀ a, a < 7 → ∀ b, b < 7 → a ≠ b → (T_Fs a).2.1 ≠ (T_Fs b).2.1 := by decide +kernel
theorem ok_Fs : ∀ k, k < 7 → parseFieldDescriptor (T_Fs k).2.2.1 = some (t_Fs k) := by decide +kernel
def T_Mo : u_T := fun k => match k with
  | 0 => ("FilterStackModel", "op", "[I", true)
  | 1 => ("FilterStackModel", "yes", "[I", true)
  | 2 => ("FilterStackModel", "no", "[I", true)
  | 3 => ("FilterStackModel", "num", "[I", true)
  | 4 => ("FilterStackModel", "size", "[I", true)
  | 5 => ("FilterStackModel", "stacked", "I", false)
  | 6 => ("FilterStackModel", "record", "[I", true)
  | 7 => ("FilterStackModel", "cell", "[I", true)
  | 8 => ("FilterStackModel", "comes", "[Z", true)
  | 9 => ("FilterStackModel", "ruleCall", "[I", true)
  | 10 => ("FilterStackModel", "ruleArgument", "[I", true)
  | 11 => ("FilterStackModel", "ruleMask", "[I", true)
  | 12 => ("FilterStackModel", "ruleValue", "[I", true)
  | 13 => ("FilterStackModel", "rules", "I", false)
  | 14 => ("FilterStackModel", "steps", "I", false)
  | _ => ("FilterStackModel", "thrown", "I", false)
def t_Mo : Nat → FieldType := fun k => match k with
  | 0 => .array .int
  | 1 => .array .int
  | 2 => .array .int
  | 3 => .array .int
  | 4 => .array .int
  | 5 => .int
  | 6 => .array .int
  | 7 => .array .int
  | 8 => .array .boolean
  | 9 => .array .int
  | 10 => .array .int
  | 11 => .array .int
  | 12 => .array .int
  | 13 => .int
  | 14 => .int
  | _ => .int
theorem n_Mo : ∀ a, a < 16 → ∀ b, b < 16 → a ≠ b → (T_Mo a).2.1 ≠ (T_Mo b).2.1 := by decide +kernel
theorem ok_Mo : ∀ k, k < 16 → parseFieldDescriptor (T_Mo k).2.2.1 = some (t_Mo k) := by decide +kernel
abbrev vwCl : List vw_C := [(R_Ck, T_Ck, 1), (R_Fi, T_Fi, 5), (R_Mc, T_Mc, 4), (R_Ru, T_Ru, 5), (R_Fs, T_Fs, 7), (R_Mo, T_Mo, 16)]
abbrev b_Fs_init : ByteArray := prog_1_method_1_code
def y_Fs_init : MethodName := ⟨R_Fs, "<init>", "()V"⟩
abbrev k_Fs_init : Cond := .code y_Fs_init b_Fs_init 2 none
abbrev b_Fi_init : ByteArray := prog_3_method_1_code
def y_Fi_init : MethodName := ⟨R_Fi, "<init>", "()V"⟩
abbrev k_Fi_init : Cond := .code y_Fi_init b_Fi_init 1 none
abbrev b_Ru_init : ByteArray := prog_5_method_1_code
def y_Ru_init : MethodName := ⟨R_Ru, "<init>", "()V"⟩
abbrev k_Ru_init : Cond := .code y_Ru_init b_Ru_init 1 none
abbrev b_Ck_init : ByteArray := prog_2_method_1_code
def y_Ck_init : MethodName := ⟨R_Ck, "<init>", "()V"⟩
abbrev k_Ck_init : Cond := .code y_Ck_init b_Ck_init 1 none
abbrev b_Mc_init : ByteArray := prog_4_method_1_code
def y_Mc_init : MethodName := ⟨R_Mc, "<init>", "()V"⟩
abbrev k_Mc_init : Cond := .code y_Mc_init b_Mc_init 1 none
abbrev b_Fs_add : ByteArray := prog_1_method_2_code
def y_Fs_add : MethodName := ⟨R_Fs, "add", "(IIIII)I"⟩
abbrev k_Fs_add : Cond := .code y_Fs_add b_Fs_add 6 (some .int)
abbrev b_Fs_isFilter : ByteArray := prog_1_method_18_code
def y_Fs_isFilter : MethodName := ⟨R_Fs, "isFilter", "(I)Z"⟩
abbrev k_Fs_isFilter : Cond := .code y_Fs_isFilter b_Fs_isFilter 1 (some .boolean)
abbrev b_Fs_isDistance : ByteArray := prog_1_method_19_code
def y_Fs_isDistance : MethodName := ⟨R_Fs, "isDistance", "(I)Z"⟩
abbrev k_Fs_isDistance : Cond := .code y_Fs_isDistance b_Fs_isDistance 1 (some .boolean)
abbrev b_Fi_append : ByteArray := prog_3_method_3_code
def y_Fi_append : MethodName := ⟨R_Fi, "append", "(IIII)I"⟩
abbrev k_Fi_append : Cond := .code y_Fi_append b_Fi_append 5 (some .int)
abbrev b_Fs_clear : ByteArray := prog_1_method_3_code
def y_Fs_clear : MethodName := ⟨R_Fs, "clear", "(I)I"⟩
abbrev k_Fs_clear : Cond := .code y_Fs_clear b_Fs_clear 2 (some .int)
abbrev b_Fi_empty : ByteArray := prog_3_method_4_code
def y_Fi_empty : MethodName := ⟨R_Fi, "empty", "()I"⟩
abbrev k_Fi_empty : Cond := .code y_Fi_empty b_Fi_empty 2 (some .int)
abbrev b_Fs_size : ByteArray := prog_1_method_4_code
def y_Fs_size : MethodName := ⟨R_Fs, "size", "(I)I"⟩
abbrev k_Fs_size : Cond := .code y_Fs_size b_Fs_size 2 (some .int)
abbrev b_Fs_shape : ByteArray := prog_1_method_5_code
def y_Fs_shape : MethodName := ⟨R_Fs, "shape", "(II)I"⟩
abbrev k_Fs_shape : Cond := .code y_Fs_shape b_Fs_shape 4 (some .int)
abbrev b_Fi_has : ByteArray := prog_3_method_2_code
def y_Fi_has : MethodName := ⟨R_Fi, "has", "(I)Z"⟩
abbrev k_Fi_has : Cond := .code y_Fi_has b_Fi_has 2 (some .boolean)
abbrev b_Fs_number : ByteArray := prog_1_method_6_code
def y_Fs_number : MethodName := ⟨R_Fs, "number", "(II)I"⟩
abbrev k_Fs_number : Cond := .code y_Fs_number b_Fs_number 3 (some .int)
abbrev b_Fs_fault : ByteArray := prog_1_method_7_code
def y_Fs_fault : MethodName := ⟨R_Fs, "fault", "(I)I"⟩
abbrev k_Fs_fault : Cond := .code y_Fs_fault b_Fs_fault 2 (some .int)
abbrev b_Ck_faultOf : ByteArray := prog_2_method_2_code
def y_Ck_faultOf : MethodName := ⟨R_Ck, "faultOf", "(LFilterStack$Filter;)I"⟩
abbrev k_Ck_faultOf : Cond := .code y_Ck_faultOf b_Ck_faultOf 3 (some .int)
abbrev b_Ck_firstBreach : ByteArray := prog_2_method_3_code
def y_Ck_firstBreach : MethodName := ⟨R_Ck, "firstBreach", "(LFilterStack$Filter;I)I"⟩
abbrev k_Ck_firstBreach : Cond := .code y_Ck_firstBreach b_Ck_firstBreach 4 (some .int)
abbrev b_Ck_firstEarlyRead : ByteArray := prog_2_method_9_code
def y_Ck_firstEarlyRead : MethodName := ⟨R_Ck, "firstEarlyRead", "(LFilterStack$Filter;)I"⟩
abbrev k_Ck_firstEarlyRead : Cond := .code y_Ck_firstEarlyRead b_Ck_firstEarlyRead 5 (some .int)
abbrev b_Ar_fill : ByteArray := prog_15_method_103_code
def y_Ar_fill : MethodName := ⟨R_Ar, "fill", "([II)V"⟩
abbrev k_Ar_fill : Cond := .code y_Ar_fill b_Ar_fill 4 none
abbrev b_Ck_readsCell : ByteArray := prog_2_method_6_code
def y_Ck_readsCell : MethodName := ⟨R_Ck, "readsCell", "(I)Z"⟩
abbrev k_Ck_readsCell : Cond := .code y_Ck_readsCell b_Ck_readsCell 1 (some .boolean)
abbrev b_Ck_storesCell : ByteArray := prog_2_method_7_code
def y_Ck_storesCell : MethodName := ⟨R_Ck, "storesCell", "(I)Z"⟩
abbrev k_Ck_storesCell : Cond := .code y_Ck_storesCell b_Ck_storesCell 1 (some .boolean)
abbrev b_Ck_passOn : ByteArray := prog_2_method_10_code
def y_Ck_passOn : MethodName := ⟨R_Ck, "passOn", "(LFilterStack$Filter;II)V"⟩
abbrev k_Ck_passOn : Cond := .code y_Ck_passOn b_Ck_passOn 5 none
abbrev b_Ck_meet : ByteArray := prog_2_method_11_code
def y_Ck_meet : MethodName := ⟨R_Ck, "meet", "(II)V"⟩
abbrev k_Ck_meet : Cond := .code y_Ck_meet b_Ck_meet 3 none
abbrev b_Ck_isBreach : ByteArray := prog_2_method_4_code
def y_Ck_isBreach : MethodName := ⟨R_Ck, "isBreach", "(LFilterStack$Filter;II)Z"⟩
abbrev k_Ck_isBreach : Cond := .code y_Ck_isBreach b_Ck_isBreach 5 (some .boolean)
abbrev b_Ck_takesIndex : ByteArray := prog_2_method_5_code
def y_Ck_takesIndex : MethodName := ⟨R_Ck, "takesIndex", "(I)Z"⟩
abbrev k_Ck_takesIndex : Cond := .code y_Ck_takesIndex b_Ck_takesIndex 1 (some .boolean)
abbrev b_Ck_leavesFilter : ByteArray := prog_2_method_8_code
def y_Ck_leavesFilter : MethodName := ⟨R_Ck, "leavesFilter", "(LFilterStack$Filter;I)Z"⟩
abbrev k_Ck_leavesFilter : Cond := .code y_Ck_leavesFilter b_Ck_leavesFilter 4 (some .boolean)
abbrev b_Fs_place : ByteArray := prog_1_method_8_code
def y_Fs_place : MethodName := ⟨R_Fs, "place", "(I)I"⟩
abbrev k_Fs_place : Cond := .code y_Fs_place b_Fs_place 2 (some .int)
abbrev b_Fs_set : ByteArray := prog_1_method_9_code
def y_Fs_set : MethodName := ⟨R_Fs, "set", "(II)I"⟩
abbrev k_Fs_set : Cond := .code y_Fs_set b_Fs_set 4 (some .int)
abbrev b_Fs_steps : ByteArray := prog_1_method_11_code
def y_Fs_steps : MethodName := ⟨R_Fs, "steps", "()I"⟩
abbrev k_Fs_steps : Cond := .code y_Fs_steps b_Fs_steps 1 (some .int)
abbrev b_Fs_rule : ByteArray := prog_1_method_12_code
def y_Fs_rule : MethodName := ⟨R_Fs, "rule", "(IIII)I"⟩
abbrev k_Fs_rule : Cond := .code y_Fs_rule b_Fs_rule 5 (some .int)
abbrev b_Ru_append : ByteArray := prog_5_method_2_code
def y_Ru_append : MethodName := ⟨R_Ru, "append", "(IIII)I"⟩
abbrev k_Ru_append : Cond := .code y_Ru_append b_Ru_append 5 (some .int)
abbrev b_Fs_forget : ByteArray := prog_1_method_13_code
def y_Fs_forget : MethodName := ⟨R_Fs, "forget", "()I"⟩
abbrev k_Fs_forget : Cond := .code y_Fs_forget b_Fs_forget 1 (some .int)
abbrev b_Ru_empty : ByteArray := prog_5_method_3_code
def y_Ru_empty : MethodName := ⟨R_Ru, "empty", "()I"⟩
abbrev k_Ru_empty : Cond := .code y_Ru_empty b_Ru_empty 2 (some .int)
abbrev b_Fs_compile : ByteArray := prog_1_method_14_code
def y_Fs_compile : MethodName := ⟨R_Fs, "compile", "(II)I"⟩
abbrev k_Fs_compile : Cond := .code y_Fs_compile b_Fs_compile 3 (some .int)
abbrev b_Ru_translatedLength : ByteArray := prog_5_method_4_code
def y_Ru_translatedLength : MethodName := ⟨R_Ru, "translatedLength", "()I"⟩
abbrev k_Ru_translatedLength : Cond := .code y_Ru_translatedLength b_Ru_translatedLength 3 (some .int)
abbrev b_Ru_lengthOf : ByteArray := prog_5_method_7_code
def y_Ru_lengthOf : MethodName := ⟨R_Ru, "lengthOf", "(I)I"⟩
abbrev k_Ru_lengthOf : Cond := .code y_Ru_lengthOf b_Ru_lengthOf 2 (some .int)
abbrev b_Ru_translate : ByteArray := prog_5_method_5_code
def y_Ru_translate : MethodName := ⟨R_Ru, "translate", "(LFilterStack$Filter;I)V"⟩
abbrev k_Ru_translate : Cond := .code y_Ru_translate b_Ru_translate 4 none
abbrev b_Ru_translateOne : ByteArray := prog_5_method_6_code
def y_Ru_translateOne : MethodName := ⟨R_Ru, "translateOne", "(LFilterStack$Filter;I)V"⟩
abbrev k_Ru_translateOne : Cond := .code y_Ru_translateOne b_Ru_translateOne 3 none
abbrev b_Fs_judge : ByteArray := prog_1_method_16_code
def y_Fs_judge : MethodName := ⟨R_Fs, "judge", "()I"⟩
abbrev k_Fs_judge : Cond := .code y_Fs_judge b_Fs_judge 4 (some .int)
abbrev b_Mc_run : ByteArray := prog_4_method_2_code
def y_Mc_run : MethodName := ⟨R_Mc, "run", "(LFilterStack$Filter;[I)I"⟩
abbrev k_Mc_run : Cond := .code y_Mc_run b_Mc_run 7 (some .int)
abbrev b_Mc_move : ByteArray := prog_4_method_3_code
def y_Mc_move : MethodName := ⟨R_Mc, "move", "(II[II)V"⟩
abbrev k_Mc_move : Cond := .code y_Mc_move b_Mc_move 5 none
abbrev b_Mc_result : ByteArray := prog_4_method_4_code
def y_Mc_result : MethodName := ⟨R_Mc, "result", "(II)I"⟩
abbrev k_Mc_result : Cond := .code y_Mc_result b_Mc_result 3 (some .int)
abbrev b_Mc_quotient : ByteArray := prog_4_method_5_code
def y_Mc_quotient : MethodName := ⟨R_Mc, "quotient", "(II)I"⟩
abbrev k_Mc_quotient : Cond := .code y_Mc_quotient b_Mc_quotient 2 (some .int)
abbrev b_Mc_distance : ByteArray := prog_4_method_6_code
def y_Mc_distance : MethodName := ⟨R_Mc, "distance", "(LFilterStack$Filter;I)I"⟩
abbrev k_Mc_distance : Cond := .code y_Mc_distance b_Mc_distance 4 (some .int)
abbrev b_Mc_holds : ByteArray := prog_4_method_7_code
def y_Mc_holds : MethodName := ⟨R_Mc, "holds", "(II)Z"⟩
abbrev k_Mc_holds : Cond := .code y_Mc_holds b_Mc_holds 3 (some .boolean)
abbrev b_Fs_strictness : ByteArray := prog_1_method_20_code
def y_Fs_strictness : MethodName := ⟨R_Fs, "strictness", "(I)I"⟩
abbrev k_Fs_strictness : Cond := .code y_Fs_strictness b_Fs_strictness 1 (some .int)
abbrev b_Lw_test : ByteArray := method_3_code
def y_Lw_test : MethodName := ⟨R_Lw, "test", "(LFilterStack;I[J)I"⟩
abbrev b_Fs_test : ByteArray := prog_1_method_10_code
def y_Fs_test : MethodName := ⟨R_Fs, "test", "(I)I"⟩
abbrev k_Fs_test : Cond := .code y_Fs_test b_Fs_test 2 (some .int)
abbrev b_Fs_goodFilter : ByteArray := prog_1_method_17_code
def y_Fs_goodFilter : MethodName := ⟨R_Fs, "goodFilter", "(I)LFilterStack$Filter;"⟩
abbrev k_Fs_goodFilter : Cond := .code y_Fs_goodFilter b_Fs_goodFilter 2 (some (.object "FilterStack$Filter"))
abbrev b_Lw_install : ByteArray := method_4_code
def y_Lw_install : MethodName := ⟨R_Lw, "install", "(LFilterStack;I[J)I"⟩
abbrev b_Fs_install : ByteArray := prog_1_method_15_code
def y_Fs_install : MethodName := ⟨R_Fs, "install", "(I)I"⟩
abbrev k_Fs_install : Cond := .code y_Fs_install b_Fs_install 3 (some .int)
abbrev b_Fi_become : ByteArray := prog_3_method_5_code
def y_Fi_become : MethodName := ⟨R_Fi, "become", "(LFilterStack$Filter;)V"⟩
abbrev k_Fi_become : Cond := .code y_Fi_become b_Fi_become 2 none
abbrev b_Mo_init : ByteArray := prog_7_method_1_code
def y_Mo_init : MethodName := ⟨R_Mo, "<init>", "()V"⟩
abbrev k_Mo_init : Cond := .code y_Mo_init b_Mo_init 1 none
abbrev b_Mo_thrown : ByteArray := prog_7_method_2_code
def y_Mo_thrown : MethodName := ⟨R_Mo, "thrown", "()I"⟩
abbrev k_Mo_thrown : Cond := .code y_Mo_thrown b_Mo_thrown 1 (some .int)
abbrev b_Mo_add : ByteArray := prog_7_method_5_code
def y_Mo_add : MethodName := ⟨R_Mo, "add", "(IIIII)I"⟩
abbrev k_Mo_add : Cond := .code y_Mo_add b_Mo_add 6 (some .int)
abbrev b_Mo_within : ByteArray := prog_7_method_3_code
def y_Mo_within : MethodName := ⟨R_Mo, "within", "(III)Z"⟩
abbrev k_Mo_within : Cond := .code y_Mo_within b_Mo_within 3 (some .boolean)
abbrev b_Mo_put : ByteArray := prog_7_method_4_code
def y_Mo_put : MethodName := ⟨R_Mo, "put", "(IIIII)V"⟩
abbrev k_Mo_put : Cond := .code y_Mo_put b_Mo_put 7 none
abbrev b_Mo_clear : ByteArray := prog_7_method_6_code
def y_Mo_clear : MethodName := ⟨R_Mo, "clear", "(I)I"⟩
abbrev k_Mo_clear : Cond := .code y_Mo_clear b_Mo_clear 3 (some .int)
abbrev b_Mo_size : ByteArray := prog_7_method_7_code
def y_Mo_size : MethodName := ⟨R_Mo, "size", "(I)I"⟩
abbrev k_Mo_size : Cond := .code y_Mo_size b_Mo_size 2 (some .int)
abbrev b_Mo_shape : ByteArray := prog_7_method_9_code
def y_Mo_shape : MethodName := ⟨R_Mo, "shape", "(II)I"⟩
abbrev k_Mo_shape : Cond := .code y_Mo_shape b_Mo_shape 3 (some .int)
abbrev b_Mo_is : ByteArray := prog_7_method_8_code
def y_Mo_is : MethodName := ⟨R_Mo, "is", "(II)Z"⟩
abbrev k_Mo_is : Cond := .code y_Mo_is b_Mo_is 3 (some .boolean)
abbrev b_Mo_number : ByteArray := prog_7_method_10_code
def y_Mo_number : MethodName := ⟨R_Mo, "number", "(II)I"⟩
abbrev k_Mo_number : Cond := .code y_Mo_number b_Mo_number 3 (some .int)
abbrev b_Mo_fault : ByteArray := prog_7_method_14_code
def y_Mo_fault : MethodName := ⟨R_Mo, "fault", "(I)I"⟩
abbrev k_Mo_fault : Cond := .code y_Mo_fault b_Mo_fault 2 (some .int)
abbrev b_Mo_check : ByteArray := prog_7_method_13_code
def y_Mo_check : MethodName := ⟨R_Mo, "check", "(I)I"⟩
abbrev k_Mo_check : Cond := .code y_Mo_check b_Mo_check 5 (some .int)
abbrev b_Mo_holds : ByteArray := prog_7_method_11_code
def y_Mo_holds : MethodName := ⟨R_Mo, "holds", "(III)Z"⟩
abbrev k_Mo_holds : Cond := .code y_Mo_holds b_Mo_holds 7 (some .boolean)
abbrev b_Mo_bare : ByteArray := prog_7_method_12_code
def y_Mo_bare : MethodName := ⟨R_Mo, "bare", "(III)Z"⟩
abbrev k_Mo_bare : Cond := .code y_Mo_bare b_Mo_bare 7 (some .boolean)
abbrev b_Mo_place : ByteArray := prog_7_method_15_code
def y_Mo_place : MethodName := ⟨R_Mo, "place", "(I)I"⟩
abbrev k_Mo_place : Cond := .code y_Mo_place b_Mo_place 3 (some .int)
abbrev b_Mo_set : ByteArray := prog_7_method_16_code
def y_Mo_set : MethodName := ⟨R_Mo, "set", "(II)I"⟩
abbrev k_Mo_set : Cond := .code y_Mo_set b_Mo_set 4 (some .int)
abbrev b_Mo_test : ByteArray := prog_7_method_21_code
def y_Mo_test : MethodName := ⟨R_Mo, "test", "(I)I"⟩
abbrev k_Mo_test : Cond := .code y_Mo_test b_Mo_test 2 (some .int)
abbrev b_Mo_run : ByteArray := prog_7_method_20_code
def y_Mo_run : MethodName := ⟨R_Mo, "run", "(I)I"⟩
abbrev k_Mo_run : Cond := .code y_Mo_run b_Mo_run 8 (some .int)
abbrev b_Mo_asked : ByteArray := prog_7_method_19_code
def y_Mo_asked : MethodName := ⟨R_Mo, "asked", "(IIII)Z"⟩
abbrev k_Mo_asked : Cond := .code y_Mo_asked b_Mo_asked 4 (some .boolean)
abbrev b_Mo_plain : ByteArray := prog_7_method_17_code
def y_Mo_plain : MethodName := ⟨R_Mo, "plain", "(I)J"⟩
abbrev k_Mo_plain : Cond := .code y_Mo_plain b_Mo_plain 1 (some .long)
abbrev b_Mo_value : ByteArray := prog_7_method_18_code
def y_Mo_value : MethodName := ⟨R_Mo, "value", "(IIII)I"⟩
abbrev k_Mo_value : Cond := .code y_Mo_value b_Mo_value 4 (some .int)
abbrev b_Mo_steps : ByteArray := prog_7_method_22_code
def y_Mo_steps : MethodName := ⟨R_Mo, "steps", "()I"⟩
abbrev k_Mo_steps : Cond := .code y_Mo_steps b_Mo_steps 1 (some .int)
abbrev b_Mo_rule : ByteArray := prog_7_method_23_code
def y_Mo_rule : MethodName := ⟨R_Mo, "rule", "(IIII)I"⟩
abbrev k_Mo_rule : Cond := .code y_Mo_rule b_Mo_rule 5 (some .int)
abbrev b_Mo_forget : ByteArray := prog_7_method_24_code
def y_Mo_forget : MethodName := ⟨R_Mo, "forget", "()I"⟩
abbrev k_Mo_forget : Cond := .code y_Mo_forget b_Mo_forget 2 (some .int)
abbrev b_Mo_compile : ByteArray := prog_7_method_25_code
def y_Mo_compile : MethodName := ⟨R_Mo, "compile", "(II)I"⟩
abbrev k_Mo_compile : Cond := .code y_Mo_compile b_Mo_compile 6 (some .int)
abbrev b_Mo_install : ByteArray := prog_7_method_26_code
def y_Mo_install : MethodName := ⟨R_Mo, "install", "(I)I"⟩
abbrev k_Mo_install : Cond := .code y_Mo_install b_Mo_install 4 (some .int)
abbrev b_Mo_judge : ByteArray := prog_7_method_27_code
def y_Mo_judge : MethodName := ⟨R_Mo, "judge", "()I"⟩
abbrev k_Mo_judge : Cond := .code y_Mo_judge b_Mo_judge 4 (some .int)
theorem wi_0 : (.initialized "FilterStackLaw" : Cond) ∈ fs_T := fs_in 0 (by decide +kernel) rfl
theorem wi_1 : (.initialized "FilterStack" : Cond) ∈ fs_T := fs_in 1 (by decide +kernel) rfl
theorem wi_2 : (.initialized "FilterStack$Filter" : Cond) ∈ fs_T := fs_in 2 (by decide +kernel) rfl
theorem wi_3 : (.initialized "FilterStack$RuleList" : Cond) ∈ fs_T := fs_in 3 (by decide +kernel) rfl
theorem wi_4 : (.initialized "FilterStack$Checker" : Cond) ∈ fs_T := fs_in 4 (by decide +kernel) rfl
theorem wi_5 : (.initialized "FilterStack$Machine" : Cond) ∈ fs_T := fs_in 5 (by decide +kernel) rfl
theorem wi_6 : (.initialized "FilterStackModel" : Cond) ∈ fs_T := fs_in 6 (by decide +kernel) rfl
theorem wi_7 : (.initialized "java/util/Arrays" : Cond) ∈ fs_T := fs_in 7 (by decide +kernel) rfl
theorem wi_8 : (.initialized "java/lang/Throwable" : Cond) ∈ fs_T := fs_in 8 (by decide +kernel) rfl
theorem wi_9 : (.initialized "java/lang/Exception" : Cond) ∈ fs_T := fs_in 9 (by decide +kernel) rfl
theorem wi_10 : (.initialized "java/lang/RuntimeException" : Cond) ∈ fs_T := fs_in 10 (by decide +kernel) rfl
theorem wi_11 : (.initialized "java/lang/IndexOutOfBoundsException" : Cond) ∈ fs_T := fs_in 11 (by decide +kernel) rfl
theorem wi_12 : (.initialized "java/lang/IllegalStateException" : Cond) ∈ fs_T := fs_in 12 (by decide +kernel) rfl
theorem wi_13 : (.initialized "java/lang/UnsupportedOperationException" : Cond) ∈ fs_T := fs_in 13 (by decide +kernel) rfl
theorem wi_14 : (.initialized "java/lang/System" : Cond) ∈ fs_T := fs_in 14 (by decide +kernel) rfl
theorem wi_15 : (.classLink "FilterStackLaw" (8 : Nat) "FilterStack" : Cond) ∈ fs_T := fs_in 15 (by decide +kernel) rfl
theorem wi_16 : (.instantiable "FilterStack" (7 : Nat) : Cond) ∈ fs_T := fs_in 16 (by decide +kernel) rfl
theorem wi_17 : (.methodLink "FilterStackLaw" (22 : Nat) ({ cls := "FilterStack", name := "<init>", desc := "()V" } : MethodName) : Cond) ∈ fs_T := fs_in 17 (by decide +kernel) rfl
theorem wi_18 : (.instanceMethod ({ cls := "FilterStack", name := "<init>", desc := "()V" } : MethodName) : Cond) ∈ fs_T := fs_in 18 (by decide +kernel) rfl
set_option maxRecDepth 20000 in
theorem wi_19 : (.code ({ cls := "FilterStack", name := "<init>", desc := "()V" } : MethodName) prog_1_method_1_code (2 : Nat) (Option.none : Option Jvm.ClassFile.FieldType) : Cond) ∈ fs_T := fs_in 19 rfl rfl
theorem wi_20 : (.methodLink "FilterStack" (1 : Nat) ({ cls := "java/lang/Object", name := "<init>", desc := "()V" } : MethodName) : Cond) ∈ fs_T := fs_in 20 (by decide +kernel) rfl
theorem wi_21 : (.instanceMethod ({ cls := "java/lang/Object", name := "<init>", desc := "()V" } : MethodName) : Cond) ∈ fs_T := fs_in 21 (by decide +kernel) rfl
set_option maxRecDepth 20000 in
theorem wi_22 : (.code ({ cls := "java/lang/Object", name := "<init>", desc := "()V" } : MethodName) object_method_1_code (1 : Nat) (Option.none : Option Jvm.ClassFile.FieldType) : Cond) ∈ fs_T := fs_in 22 rfl rfl
theorem wi_23 : (.classLink "FilterStack" (9 : Nat) "FilterStack$Filter" : Cond) ∈ fs_T := fs_in 23 (by decide +kernel) rfl
theorem wi_25 : (.instantiable "FilterStack$Filter" (5 : Nat) : Cond) ∈ fs_T := fs_in 25 (by decide +kernel) rfl
theorem wi_27 : (.instanceMethod ({ cls := "FilterStack$Filter", name := "<init>", desc := "()V" } : MethodName) : Cond) ∈ fs_T := fs_in 27 (by decide +kernel) rfl
set_option maxRecDepth 20000 in
theorem wi_28 : (.code ({ cls := "FilterStack$Filter", name := "<init>", desc := "()V" } : MethodName) prog_3_method_1_code (1 : Nat) (Option.none : Option Jvm.ClassFile.FieldType) : Cond) ∈ fs_T := fs_in 28 rfl rfl
theorem wi_29 : (.methodLink "FilterStack$Filter" (3 : Nat) ({ cls := "java/lang/Object", name := "<init>", desc := "()V" } : MethodName) : Cond) ∈ fs_T := fs_in 29 (by decide +kernel) rfl
theorem wi_30 : (.fieldLink "FilterStack$Filter" (9 : Nat) "FilterStack$Filter" "operations" "[I" : Cond) ∈ fs_T := fs_in 30 (by decide +kernel) rfl
theorem wi_31 : (.fieldLink "FilterStack$Machine" (37 : Nat) "FilterStack$Filter" "operations" "[I" : Cond) ∈ fs_T := fs_in 31 (by decide +kernel) rfl
theorem wi_32 : (.fieldLink "FilterStack$Checker" (33 : Nat) "FilterStack$Filter" "operations" "[I" : Cond) ∈ fs_T := fs_in 32 (by decide +kernel) rfl
theorem wi_33 : (.fieldLink "FilterStack" (69 : Nat) "FilterStack$Filter" "operations" "[I" : Cond) ∈ fs_T := fs_in 33 (by decide +kernel) rfl
theorem wi_34 : (.fieldLink "FilterStack$Filter" (15 : Nat) "FilterStack$Filter" "yes" "[I" : Cond) ∈ fs_T := fs_in 34 (by decide +kernel) rfl
theorem wi_35 : (.fieldLink "FilterStack$Machine" (43 : Nat) "FilterStack$Filter" "yes" "[I" : Cond) ∈ fs_T := fs_in 35 (by decide +kernel) rfl
theorem wi_36 : (.fieldLink "FilterStack" (72 : Nat) "FilterStack$Filter" "yes" "[I" : Cond) ∈ fs_T := fs_in 36 (by decide +kernel) rfl
theorem wi_37 : (.fieldLink "FilterStack$Checker" (53 : Nat) "FilterStack$Filter" "yes" "[I" : Cond) ∈ fs_T := fs_in 37 (by decide +kernel) rfl
theorem wi_38 : (.fieldLink "FilterStack$Filter" (18 : Nat) "FilterStack$Filter" "no" "[I" : Cond) ∈ fs_T := fs_in 38 (by decide +kernel) rfl
theorem wi_39 : (.fieldLink "FilterStack" (75 : Nat) "FilterStack$Filter" "no" "[I" : Cond) ∈ fs_T := fs_in 39 (by decide +kernel) rfl
theorem wi_40 : (.fieldLink "FilterStack$Machine" (70 : Nat) "FilterStack$Filter" "no" "[I" : Cond) ∈ fs_T := fs_in 40 (by decide +kernel) rfl
theorem wi_41 : (.fieldLink "FilterStack$Checker" (56 : Nat) "FilterStack$Filter" "no" "[I" : Cond) ∈ fs_T := fs_in 41 (by decide +kernel) rfl
theorem wi_42 : (.fieldLink "FilterStack$Filter" (21 : Nat) "FilterStack$Filter" "numbers" "[I" : Cond) ∈ fs_T := fs_in 42 (by decide +kernel) rfl
theorem wi_43 : (.fieldLink "FilterStack$Machine" (40 : Nat) "FilterStack$Filter" "numbers" "[I" : Cond) ∈ fs_T := fs_in 43 (by decide +kernel) rfl
theorem wi_44 : (.fieldLink "FilterStack$Checker" (36 : Nat) "FilterStack$Filter" "numbers" "[I" : Cond) ∈ fs_T := fs_in 44 (by decide +kernel) rfl
theorem wi_45 : (.fieldLink "FilterStack" (78 : Nat) "FilterStack$Filter" "numbers" "[I" : Cond) ∈ fs_T := fs_in 45 (by decide +kernel) rfl
theorem wi_46 : (.fieldLink "FilterStack$Filter" (24 : Nat) "FilterStack$Filter" "length" "I" : Cond) ∈ fs_T := fs_in 46 (by decide +kernel) rfl
theorem wi_47 : (.fieldLink "FilterStack$Machine" (46 : Nat) "FilterStack$Filter" "length" "I" : Cond) ∈ fs_T := fs_in 47 (by decide +kernel) rfl
theorem wi_48 : (.fieldLink "FilterStack$Checker" (19 : Nat) "FilterStack$Filter" "length" "I" : Cond) ∈ fs_T := fs_in 48 (by decide +kernel) rfl
theorem wi_49 : (.fieldLink "FilterStack" (63 : Nat) "FilterStack$Filter" "length" "I" : Cond) ∈ fs_T := fs_in 49 (by decide +kernel) rfl
theorem wi_50 : (.laysFinal "FilterStack$Filter" "FilterStack$Filter" "operations" "[I" : Cond) ∈ fs_T := fs_in 50 (by decide +kernel) rfl
theorem wi_52 : (.laysFinal "FilterStack$Filter" "FilterStack$Filter" "yes" "[I" : Cond) ∈ fs_T := fs_in 52 (by decide +kernel) rfl
theorem wi_54 : (.laysFinal "FilterStack$Filter" "FilterStack$Filter" "no" "[I" : Cond) ∈ fs_T := fs_in 54 (by decide +kernel) rfl
theorem wi_56 : (.laysFinal "FilterStack$Filter" "FilterStack$Filter" "numbers" "[I" : Cond) ∈ fs_T := fs_in 56 (by decide +kernel) rfl
theorem wi_58 : (.lays "FilterStack$Filter" "FilterStack$Filter" "length" "I" : Cond) ∈ fs_T := fs_in 58 (by decide +kernel) rfl
theorem wi_60 : (.superclass "FilterStack$Filter" "java/lang/Object" : Cond) ∈ fs_T := fs_in 60 (by decide +kernel) rfl
theorem wi_61 : (.arrayClass .int : Cond) ∈ fs_T := fs_in 61 (by decide +kernel) rfl
theorem wi_62 : (.classLink "FilterStack" (27 : Nat) "FilterStack$RuleList" : Cond) ∈ fs_T := fs_in 62 (by decide +kernel) rfl
theorem wi_63 : (.instantiable "FilterStack$RuleList" (5 : Nat) : Cond) ∈ fs_T := fs_in 63 (by decide +kernel) rfl
theorem wi_65 : (.instanceMethod ({ cls := "FilterStack$RuleList", name := "<init>", desc := "()V" } : MethodName) : Cond) ∈ fs_T := fs_in 65 (by decide +kernel) rfl
set_option maxRecDepth 20000 in
theorem wi_66 : (.code ({ cls := "FilterStack$RuleList", name := "<init>", desc := "()V" } : MethodName) prog_5_method_1_code (1 : Nat) (Option.none : Option Jvm.ClassFile.FieldType) : Cond) ∈ fs_T := fs_in 66 rfl rfl
theorem wi_67 : (.methodLink "FilterStack$RuleList" (3 : Nat) ({ cls := "java/lang/Object", name := "<init>", desc := "()V" } : MethodName) : Cond) ∈ fs_T := fs_in 67 (by decide +kernel) rfl
theorem wi_68 : (.fieldLink "FilterStack$RuleList" (9 : Nat) "FilterStack$RuleList" "calls" "[I" : Cond) ∈ fs_T := fs_in 68 (by decide +kernel) rfl
theorem wi_69 : (.fieldLink "FilterStack$RuleList" (15 : Nat) "FilterStack$RuleList" "arguments" "[I" : Cond) ∈ fs_T := fs_in 69 (by decide +kernel) rfl
theorem wi_70 : (.fieldLink "FilterStack$RuleList" (18 : Nat) "FilterStack$RuleList" "masks" "[I" : Cond) ∈ fs_T := fs_in 70 (by decide +kernel) rfl
theorem wi_71 : (.fieldLink "FilterStack$RuleList" (21 : Nat) "FilterStack$RuleList" "values" "[I" : Cond) ∈ fs_T := fs_in 71 (by decide +kernel) rfl
theorem wi_72 : (.fieldLink "FilterStack$RuleList" (24 : Nat) "FilterStack$RuleList" "count" "I" : Cond) ∈ fs_T := fs_in 72 (by decide +kernel) rfl
theorem wi_73 : (.laysFinal "FilterStack$RuleList" "FilterStack$RuleList" "calls" "[I" : Cond) ∈ fs_T := fs_in 73 (by decide +kernel) rfl
theorem wi_75 : (.laysFinal "FilterStack$RuleList" "FilterStack$RuleList" "arguments" "[I" : Cond) ∈ fs_T := fs_in 75 (by decide +kernel) rfl
theorem wi_77 : (.laysFinal "FilterStack$RuleList" "FilterStack$RuleList" "masks" "[I" : Cond) ∈ fs_T := fs_in 77 (by decide +kernel) rfl
theorem wi_79 : (.laysFinal "FilterStack$RuleList" "FilterStack$RuleList" "values" "[I" : Cond) ∈ fs_T := fs_in 79 (by decide +kernel) rfl
theorem wi_81 : (.lays "FilterStack$RuleList" "FilterStack$RuleList" "count" "I" : Cond) ∈ fs_T := fs_in 81 (by decide +kernel) rfl
theorem wi_83 : (.superclass "FilterStack$RuleList" "java/lang/Object" : Cond) ∈ fs_T := fs_in 83 (by decide +kernel) rfl
theorem wi_84 : (.classLink "FilterStack" (34 : Nat) "FilterStack$Checker" : Cond) ∈ fs_T := fs_in 84 (by decide +kernel) rfl
theorem wi_85 : (.instantiable "FilterStack$Checker" (1 : Nat) : Cond) ∈ fs_T := fs_in 85 (by decide +kernel) rfl
theorem wi_87 : (.instanceMethod ({ cls := "FilterStack$Checker", name := "<init>", desc := "()V" } : MethodName) : Cond) ∈ fs_T := fs_in 87 (by decide +kernel) rfl
set_option maxRecDepth 20000 in
theorem wi_88 : (.code ({ cls := "FilterStack$Checker", name := "<init>", desc := "()V" } : MethodName) prog_2_method_1_code (1 : Nat) (Option.none : Option Jvm.ClassFile.FieldType) : Cond) ∈ fs_T := fs_in 88 rfl rfl
theorem wi_89 : (.methodLink "FilterStack$Checker" (3 : Nat) ({ cls := "java/lang/Object", name := "<init>", desc := "()V" } : MethodName) : Cond) ∈ fs_T := fs_in 89 (by decide +kernel) rfl
theorem wi_90 : (.fieldLink "FilterStack$Checker" (9 : Nat) "FilterStack$Checker" "stored" "[I" : Cond) ∈ fs_T := fs_in 90 (by decide +kernel) rfl
theorem wi_91 : (.laysFinal "FilterStack$Checker" "FilterStack$Checker" "stored" "[I" : Cond) ∈ fs_T := fs_in 91 (by decide +kernel) rfl
theorem wi_93 : (.superclass "FilterStack$Checker" "java/lang/Object" : Cond) ∈ fs_T := fs_in 93 (by decide +kernel) rfl
theorem wi_94 : (.classLink "FilterStack" (41 : Nat) "FilterStack$Machine" : Cond) ∈ fs_T := fs_in 94 (by decide +kernel) rfl
theorem wi_95 : (.instantiable "FilterStack$Machine" (4 : Nat) : Cond) ∈ fs_T := fs_in 95 (by decide +kernel) rfl
theorem wi_97 : (.instanceMethod ({ cls := "FilterStack$Machine", name := "<init>", desc := "()V" } : MethodName) : Cond) ∈ fs_T := fs_in 97 (by decide +kernel) rfl
set_option maxRecDepth 20000 in
theorem wi_98 : (.code ({ cls := "FilterStack$Machine", name := "<init>", desc := "()V" } : MethodName) prog_4_method_1_code (1 : Nat) (Option.none : Option Jvm.ClassFile.FieldType) : Cond) ∈ fs_T := fs_in 98 rfl rfl
theorem wi_99 : (.methodLink "FilterStack$Machine" (3 : Nat) ({ cls := "java/lang/Object", name := "<init>", desc := "()V" } : MethodName) : Cond) ∈ fs_T := fs_in 99 (by decide +kernel) rfl
theorem wi_100 : (.fieldLink "FilterStack$Machine" (9 : Nat) "FilterStack$Machine" "cells" "[I" : Cond) ∈ fs_T := fs_in 100 (by decide +kernel) rfl
theorem wi_101 : (.fieldLink "FilterStack$Machine" (15 : Nat) "FilterStack$Machine" "a" "I" : Cond) ∈ fs_T := fs_in 101 (by decide +kernel) rfl
theorem wi_102 : (.fieldLink "FilterStack$Machine" (19 : Nat) "FilterStack$Machine" "x" "I" : Cond) ∈ fs_T := fs_in 102 (by decide +kernel) rfl
theorem wi_103 : (.fieldLink "FilterStack$Machine" (22 : Nat) "FilterStack$Machine" "done" "I" : Cond) ∈ fs_T := fs_in 103 (by decide +kernel) rfl
theorem wi_104 : (.fieldLink "FilterStack" (97 : Nat) "FilterStack$Machine" "done" "I" : Cond) ∈ fs_T := fs_in 104 (by decide +kernel) rfl
theorem wi_105 : (.laysFinal "FilterStack$Machine" "FilterStack$Machine" "cells" "[I" : Cond) ∈ fs_T := fs_in 105 (by decide +kernel) rfl
theorem wi_107 : (.lays "FilterStack$Machine" "FilterStack$Machine" "a" "I" : Cond) ∈ fs_T := fs_in 107 (by decide +kernel) rfl
theorem wi_109 : (.lays "FilterStack$Machine" "FilterStack$Machine" "x" "I" : Cond) ∈ fs_T := fs_in 109 (by decide +kernel) rfl
theorem wi_111 : (.lays "FilterStack$Machine" "FilterStack$Machine" "done" "I" : Cond) ∈ fs_T := fs_in 111 (by decide +kernel) rfl
theorem wi_113 : (.superclass "FilterStack$Machine" "java/lang/Object" : Cond) ∈ fs_T := fs_in 113 (by decide +kernel) rfl
theorem wi_114 : (.fieldLink "FilterStack" (11 : Nat) "FilterStack" "filters" "[LFilterStack$Filter;" : Cond) ∈ fs_T := fs_in 114 (by decide +kernel) rfl
theorem wi_115 : (.fieldLink "FilterStack" (16 : Nat) "FilterStack" "stack" "[LFilterStack$Filter;" : Cond) ∈ fs_T := fs_in 115 (by decide +kernel) rfl
theorem wi_116 : (.fieldLink "FilterStack" (19 : Nat) "FilterStack" "stacked" "I" : Cond) ∈ fs_T := fs_in 116 (by decide +kernel) rfl
theorem wi_117 : (.fieldLink "FilterStack" (23 : Nat) "FilterStack" "words" "[I" : Cond) ∈ fs_T := fs_in 117 (by decide +kernel) rfl
theorem wi_118 : (.fieldLink "FilterStack" (30 : Nat) "FilterStack" "rules" "LFilterStack$RuleList;" : Cond) ∈ fs_T := fs_in 118 (by decide +kernel) rfl
theorem wi_119 : (.fieldLink "FilterStack" (37 : Nat) "FilterStack" "checker" "LFilterStack$Checker;" : Cond) ∈ fs_T := fs_in 119 (by decide +kernel) rfl
theorem wi_120 : (.fieldLink "FilterStack" (44 : Nat) "FilterStack" "machine" "LFilterStack$Machine;" : Cond) ∈ fs_T := fs_in 120 (by decide +kernel) rfl
theorem wi_121 : (.laysFinal "FilterStack" "FilterStack" "filters" "[LFilterStack$Filter;" : Cond) ∈ fs_T := fs_in 121 (by decide +kernel) rfl
theorem wi_123 : (.laysFinal "FilterStack" "FilterStack" "stack" "[LFilterStack$Filter;" : Cond) ∈ fs_T := fs_in 123 (by decide +kernel) rfl
theorem wi_125 : (.lays "FilterStack" "FilterStack" "stacked" "I" : Cond) ∈ fs_T := fs_in 125 (by decide +kernel) rfl
theorem wi_127 : (.laysFinal "FilterStack" "FilterStack" "words" "[I" : Cond) ∈ fs_T := fs_in 127 (by decide +kernel) rfl
theorem wi_129 : (.laysFinal "FilterStack" "FilterStack" "rules" "LFilterStack$RuleList;" : Cond) ∈ fs_T := fs_in 129 (by decide +kernel) rfl
theorem wi_131 : (.laysFinal "FilterStack" "FilterStack" "checker" "LFilterStack$Checker;" : Cond) ∈ fs_T := fs_in 131 (by decide +kernel) rfl
theorem wi_133 : (.laysFinal "FilterStack" "FilterStack" "machine" "LFilterStack$Machine;" : Cond) ∈ fs_T := fs_in 133 (by decide +kernel) rfl
theorem wi_135 : (.superclass "FilterStack" "java/lang/Object" : Cond) ∈ fs_T := fs_in 135 (by decide +kernel) rfl
theorem wi_136 : (.methodLink "FilterStackLaw" (26 : Nat) ({ cls := "FilterStack", name := "add", desc := "(IIIII)I" } : MethodName) : Cond) ∈ fs_T := fs_in 136 (by decide +kernel) rfl
theorem wi_137 : (.instanceMethod ({ cls := "FilterStack", name := "add", desc := "(IIIII)I" } : MethodName) : Cond) ∈ fs_T := fs_in 137 (by decide +kernel) rfl
theorem wi_138 : (.selects "FilterStack" ({ cls := "FilterStack", name := "add", desc := "(IIIII)I" } : MethodName) ({ cls := "FilterStack", name := "add", desc := "(IIIII)I" } : MethodName) : Cond) ∈ fs_T := fs_in 138 (by decide +kernel) rfl
set_option maxRecDepth 20000 in
theorem wi_139 : (.code ({ cls := "FilterStack", name := "add", desc := "(IIIII)I" } : MethodName) prog_1_method_2_code (6 : Nat) (Option.some .int) : Cond) ∈ fs_T := fs_in 139 rfl rfl
theorem wi_140 : (.methodLink "FilterStack" (48 : Nat) ({ cls := "FilterStack", name := "isFilter", desc := "(I)Z" } : MethodName) : Cond) ∈ fs_T := fs_in 140 (by decide +kernel) rfl
theorem wi_141 : (.static ({ cls := "FilterStack", name := "isFilter", desc := "(I)Z" } : MethodName) : Cond) ∈ fs_T := fs_in 141 (by decide +kernel) rfl
set_option maxRecDepth 20000 in
theorem wi_142 : (.code ({ cls := "FilterStack", name := "isFilter", desc := "(I)Z" } : MethodName) prog_1_method_18_code (1 : Nat) (Option.some .boolean) : Cond) ∈ fs_T := fs_in 142 rfl rfl
theorem wi_143 : (.methodLink "FilterStack" (52 : Nat) ({ cls := "FilterStack", name := "isDistance", desc := "(I)Z" } : MethodName) : Cond) ∈ fs_T := fs_in 143 (by decide +kernel) rfl
theorem wi_144 : (.static ({ cls := "FilterStack", name := "isDistance", desc := "(I)Z" } : MethodName) : Cond) ∈ fs_T := fs_in 144 (by decide +kernel) rfl
set_option maxRecDepth 20000 in
theorem wi_145 : (.code ({ cls := "FilterStack", name := "isDistance", desc := "(I)Z" } : MethodName) prog_1_method_19_code (1 : Nat) (Option.some .boolean) : Cond) ∈ fs_T := fs_in 145 rfl rfl
theorem wi_146 : (.methodLink "FilterStack" (55 : Nat) ({ cls := "FilterStack$Filter", name := "append", desc := "(IIII)I" } : MethodName) : Cond) ∈ fs_T := fs_in 146 (by decide +kernel) rfl
theorem wi_147 : (.instanceMethod ({ cls := "FilterStack$Filter", name := "append", desc := "(IIII)I" } : MethodName) : Cond) ∈ fs_T := fs_in 147 (by decide +kernel) rfl
theorem wi_148 : (.selects "FilterStack$Filter" ({ cls := "FilterStack$Filter", name := "append", desc := "(IIII)I" } : MethodName) ({ cls := "FilterStack$Filter", name := "append", desc := "(IIII)I" } : MethodName) : Cond) ∈ fs_T := fs_in 148 (by decide +kernel) rfl
set_option maxRecDepth 20000 in
theorem wi_149 : (.code ({ cls := "FilterStack$Filter", name := "append", desc := "(IIII)I" } : MethodName) prog_3_method_3_code (5 : Nat) (Option.some .int) : Cond) ∈ fs_T := fs_in 149 rfl rfl
theorem wi_150 : (.methodLink "FilterStackLaw" (31 : Nat) ({ cls := "FilterStack", name := "clear", desc := "(I)I" } : MethodName) : Cond) ∈ fs_T := fs_in 150 (by decide +kernel) rfl
theorem wi_151 : (.instanceMethod ({ cls := "FilterStack", name := "clear", desc := "(I)I" } : MethodName) : Cond) ∈ fs_T := fs_in 151 (by decide +kernel) rfl
theorem wi_152 : (.selects "FilterStack" ({ cls := "FilterStack", name := "clear", desc := "(I)I" } : MethodName) ({ cls := "FilterStack", name := "clear", desc := "(I)I" } : MethodName) : Cond) ∈ fs_T := fs_in 152 (by decide +kernel) rfl
set_option maxRecDepth 20000 in
theorem wi_153 : (.code ({ cls := "FilterStack", name := "clear", desc := "(I)I" } : MethodName) prog_1_method_3_code (2 : Nat) (Option.some .int) : Cond) ∈ fs_T := fs_in 153 rfl rfl
theorem wi_154 : (.methodLink "FilterStack" (59 : Nat) ({ cls := "FilterStack$Filter", name := "empty", desc := "()I" } : MethodName) : Cond) ∈ fs_T := fs_in 154 (by decide +kernel) rfl
theorem wi_155 : (.instanceMethod ({ cls := "FilterStack$Filter", name := "empty", desc := "()I" } : MethodName) : Cond) ∈ fs_T := fs_in 155 (by decide +kernel) rfl
theorem wi_156 : (.selects "FilterStack$Filter" ({ cls := "FilterStack$Filter", name := "empty", desc := "()I" } : MethodName) ({ cls := "FilterStack$Filter", name := "empty", desc := "()I" } : MethodName) : Cond) ∈ fs_T := fs_in 156 (by decide +kernel) rfl
set_option maxRecDepth 20000 in
theorem wi_157 : (.code ({ cls := "FilterStack$Filter", name := "empty", desc := "()I" } : MethodName) prog_3_method_4_code (2 : Nat) (Option.some .int) : Cond) ∈ fs_T := fs_in 157 rfl rfl
theorem wi_158 : (.methodLink "FilterStackLaw" (35 : Nat) ({ cls := "FilterStack", name := "size", desc := "(I)I" } : MethodName) : Cond) ∈ fs_T := fs_in 158 (by decide +kernel) rfl
theorem wi_159 : (.instanceMethod ({ cls := "FilterStack", name := "size", desc := "(I)I" } : MethodName) : Cond) ∈ fs_T := fs_in 159 (by decide +kernel) rfl
theorem wi_160 : (.selects "FilterStack" ({ cls := "FilterStack", name := "size", desc := "(I)I" } : MethodName) ({ cls := "FilterStack", name := "size", desc := "(I)I" } : MethodName) : Cond) ∈ fs_T := fs_in 160 (by decide +kernel) rfl
set_option maxRecDepth 20000 in
theorem wi_161 : (.code ({ cls := "FilterStack", name := "size", desc := "(I)I" } : MethodName) prog_1_method_4_code (2 : Nat) (Option.some .int) : Cond) ∈ fs_T := fs_in 161 rfl rfl
theorem wi_162 : (.methodLink "FilterStackLaw" (39 : Nat) ({ cls := "FilterStack", name := "shape", desc := "(II)I" } : MethodName) : Cond) ∈ fs_T := fs_in 162 (by decide +kernel) rfl
theorem wi_163 : (.instanceMethod ({ cls := "FilterStack", name := "shape", desc := "(II)I" } : MethodName) : Cond) ∈ fs_T := fs_in 163 (by decide +kernel) rfl
theorem wi_164 : (.selects "FilterStack" ({ cls := "FilterStack", name := "shape", desc := "(II)I" } : MethodName) ({ cls := "FilterStack", name := "shape", desc := "(II)I" } : MethodName) : Cond) ∈ fs_T := fs_in 164 (by decide +kernel) rfl
set_option maxRecDepth 20000 in
theorem wi_165 : (.code ({ cls := "FilterStack", name := "shape", desc := "(II)I" } : MethodName) prog_1_method_5_code (4 : Nat) (Option.some .int) : Cond) ∈ fs_T := fs_in 165 rfl rfl
theorem wi_166 : (.methodLink "FilterStack" (66 : Nat) ({ cls := "FilterStack$Filter", name := "has", desc := "(I)Z" } : MethodName) : Cond) ∈ fs_T := fs_in 166 (by decide +kernel) rfl
theorem wi_167 : (.instanceMethod ({ cls := "FilterStack$Filter", name := "has", desc := "(I)Z" } : MethodName) : Cond) ∈ fs_T := fs_in 167 (by decide +kernel) rfl
theorem wi_168 : (.selects "FilterStack$Filter" ({ cls := "FilterStack$Filter", name := "has", desc := "(I)Z" } : MethodName) ({ cls := "FilterStack$Filter", name := "has", desc := "(I)Z" } : MethodName) : Cond) ∈ fs_T := fs_in 168 (by decide +kernel) rfl
set_option maxRecDepth 20000 in
theorem wi_169 : (.code ({ cls := "FilterStack$Filter", name := "has", desc := "(I)Z" } : MethodName) prog_3_method_2_code (2 : Nat) (Option.some .boolean) : Cond) ∈ fs_T := fs_in 169 rfl rfl
theorem wi_170 : (.methodLink "FilterStackLaw" (44 : Nat) ({ cls := "FilterStack", name := "number", desc := "(II)I" } : MethodName) : Cond) ∈ fs_T := fs_in 170 (by decide +kernel) rfl
theorem wi_171 : (.instanceMethod ({ cls := "FilterStack", name := "number", desc := "(II)I" } : MethodName) : Cond) ∈ fs_T := fs_in 171 (by decide +kernel) rfl
theorem wi_172 : (.selects "FilterStack" ({ cls := "FilterStack", name := "number", desc := "(II)I" } : MethodName) ({ cls := "FilterStack", name := "number", desc := "(II)I" } : MethodName) : Cond) ∈ fs_T := fs_in 172 (by decide +kernel) rfl
set_option maxRecDepth 20000 in
theorem wi_173 : (.code ({ cls := "FilterStack", name := "number", desc := "(II)I" } : MethodName) prog_1_method_6_code (3 : Nat) (Option.some .int) : Cond) ∈ fs_T := fs_in 173 rfl rfl
theorem wi_174 : (.methodLink "FilterStackLaw" (48 : Nat) ({ cls := "FilterStack", name := "fault", desc := "(I)I" } : MethodName) : Cond) ∈ fs_T := fs_in 174 (by decide +kernel) rfl
theorem wi_175 : (.instanceMethod ({ cls := "FilterStack", name := "fault", desc := "(I)I" } : MethodName) : Cond) ∈ fs_T := fs_in 175 (by decide +kernel) rfl
theorem wi_176 : (.selects "FilterStack" ({ cls := "FilterStack", name := "fault", desc := "(I)I" } : MethodName) ({ cls := "FilterStack", name := "fault", desc := "(I)I" } : MethodName) : Cond) ∈ fs_T := fs_in 176 (by decide +kernel) rfl
set_option maxRecDepth 20000 in
theorem wi_177 : (.code ({ cls := "FilterStack", name := "fault", desc := "(I)I" } : MethodName) prog_1_method_7_code (2 : Nat) (Option.some .int) : Cond) ∈ fs_T := fs_in 177 rfl rfl
theorem wi_178 : (.methodLink "FilterStack" (81 : Nat) ({ cls := "FilterStack$Checker", name := "faultOf", desc := "(LFilterStack$Filter;)I" } : MethodName) : Cond) ∈ fs_T := fs_in 178 (by decide +kernel) rfl
theorem wi_179 : (.instanceMethod ({ cls := "FilterStack$Checker", name := "faultOf", desc := "(LFilterStack$Filter;)I" } : MethodName) : Cond) ∈ fs_T := fs_in 179 (by decide +kernel) rfl
theorem wi_180 : (.selects "FilterStack$Checker" ({ cls := "FilterStack$Checker", name := "faultOf", desc := "(LFilterStack$Filter;)I" } : MethodName) ({ cls := "FilterStack$Checker", name := "faultOf", desc := "(LFilterStack$Filter;)I" } : MethodName) : Cond) ∈ fs_T := fs_in 180 (by decide +kernel) rfl
set_option maxRecDepth 20000 in
theorem wi_181 : (.code ({ cls := "FilterStack$Checker", name := "faultOf", desc := "(LFilterStack$Filter;)I" } : MethodName) prog_2_method_2_code (3 : Nat) (Option.some .int) : Cond) ∈ fs_T := fs_in 181 rfl rfl
theorem wi_182 : (.methodLink "FilterStack$Checker" (15 : Nat) ({ cls := "FilterStack$Checker", name := "firstBreach", desc := "(LFilterStack$Filter;I)I" } : MethodName) : Cond) ∈ fs_T := fs_in 182 (by decide +kernel) rfl
theorem wi_183 : (.instanceMethod ({ cls := "FilterStack$Checker", name := "firstBreach", desc := "(LFilterStack$Filter;I)I" } : MethodName) : Cond) ∈ fs_T := fs_in 183 (by decide +kernel) rfl
theorem wi_184 : (.selects "FilterStack$Checker" ({ cls := "FilterStack$Checker", name := "firstBreach", desc := "(LFilterStack$Filter;I)I" } : MethodName) ({ cls := "FilterStack$Checker", name := "firstBreach", desc := "(LFilterStack$Filter;I)I" } : MethodName) : Cond) ∈ fs_T := fs_in 184 (by decide +kernel) rfl
set_option maxRecDepth 20000 in
theorem wi_185 : (.code ({ cls := "FilterStack$Checker", name := "firstBreach", desc := "(LFilterStack$Filter;I)I" } : MethodName) prog_2_method_3_code (4 : Nat) (Option.some .int) : Cond) ∈ fs_T := fs_in 185 rfl rfl
theorem wi_186 : (.methodLink "FilterStack$Checker" (25 : Nat) ({ cls := "FilterStack$Checker", name := "firstEarlyRead", desc := "(LFilterStack$Filter;)I" } : MethodName) : Cond) ∈ fs_T := fs_in 186 (by decide +kernel) rfl
theorem wi_188 : (.instanceMethod ({ cls := "FilterStack$Checker", name := "firstEarlyRead", desc := "(LFilterStack$Filter;)I" } : MethodName) : Cond) ∈ fs_T := fs_in 188 (by decide +kernel) rfl
set_option maxRecDepth 20000 in
theorem wi_189 : (.code ({ cls := "FilterStack$Checker", name := "firstEarlyRead", desc := "(LFilterStack$Filter;)I" } : MethodName) prog_2_method_9_code (5 : Nat) (Option.some .int) : Cond) ∈ fs_T := fs_in 189 rfl rfl
theorem wi_190 : (.constant "FilterStack$Checker" (59 : Nat) (65535 : Int32) : Cond) ∈ fs_T := fs_in 190 (by decide +kernel) rfl
theorem wi_191 : (.methodLink "FilterStack$Checker" (60 : Nat) ({ cls := "java/util/Arrays", name := "fill", desc := "([II)V" } : MethodName) : Cond) ∈ fs_T := fs_in 191 (by decide +kernel) rfl
theorem wi_192 : (.static ({ cls := "java/util/Arrays", name := "fill", desc := "([II)V" } : MethodName) : Cond) ∈ fs_T := fs_in 192 (by decide +kernel) rfl
set_option maxRecDepth 20000 in
theorem wi_193 : (.code ({ cls := "java/util/Arrays", name := "fill", desc := "([II)V" } : MethodName) prog_15_method_103_code (4 : Nat) (Option.none : Option Jvm.ClassFile.FieldType) : Cond) ∈ fs_T := fs_in 193 rfl rfl
theorem wi_194 : (.methodLink "FilterStack$Checker" (47 : Nat) ({ cls := "FilterStack$Checker", name := "readsCell", desc := "(I)Z" } : MethodName) : Cond) ∈ fs_T := fs_in 194 (by decide +kernel) rfl
theorem wi_195 : (.static ({ cls := "FilterStack$Checker", name := "readsCell", desc := "(I)Z" } : MethodName) : Cond) ∈ fs_T := fs_in 195 (by decide +kernel) rfl
set_option maxRecDepth 20000 in
theorem wi_196 : (.code ({ cls := "FilterStack$Checker", name := "readsCell", desc := "(I)Z" } : MethodName) prog_2_method_6_code (1 : Nat) (Option.some .boolean) : Cond) ∈ fs_T := fs_in 196 rfl rfl
theorem wi_197 : (.methodLink "FilterStack$Checker" (50 : Nat) ({ cls := "FilterStack$Checker", name := "storesCell", desc := "(I)Z" } : MethodName) : Cond) ∈ fs_T := fs_in 197 (by decide +kernel) rfl
theorem wi_198 : (.static ({ cls := "FilterStack$Checker", name := "storesCell", desc := "(I)Z" } : MethodName) : Cond) ∈ fs_T := fs_in 198 (by decide +kernel) rfl
set_option maxRecDepth 20000 in
theorem wi_199 : (.code ({ cls := "FilterStack$Checker", name := "storesCell", desc := "(I)Z" } : MethodName) prog_2_method_7_code (1 : Nat) (Option.some .boolean) : Cond) ∈ fs_T := fs_in 199 rfl rfl
theorem wi_200 : (.methodLink "FilterStack$Checker" (66 : Nat) ({ cls := "FilterStack$Checker", name := "passOn", desc := "(LFilterStack$Filter;II)V" } : MethodName) : Cond) ∈ fs_T := fs_in 200 (by decide +kernel) rfl
theorem wi_202 : (.instanceMethod ({ cls := "FilterStack$Checker", name := "passOn", desc := "(LFilterStack$Filter;II)V" } : MethodName) : Cond) ∈ fs_T := fs_in 202 (by decide +kernel) rfl
set_option maxRecDepth 20000 in
theorem wi_203 : (.code ({ cls := "FilterStack$Checker", name := "passOn", desc := "(LFilterStack$Filter;II)V" } : MethodName) prog_2_method_10_code (5 : Nat) (Option.none : Option Jvm.ClassFile.FieldType) : Cond) ∈ fs_T := fs_in 203 rfl rfl
theorem wi_204 : (.methodLink "FilterStack$Checker" (70 : Nat) ({ cls := "FilterStack$Checker", name := "meet", desc := "(II)V" } : MethodName) : Cond) ∈ fs_T := fs_in 204 (by decide +kernel) rfl
theorem wi_206 : (.instanceMethod ({ cls := "FilterStack$Checker", name := "meet", desc := "(II)V" } : MethodName) : Cond) ∈ fs_T := fs_in 206 (by decide +kernel) rfl
set_option maxRecDepth 20000 in
theorem wi_207 : (.code ({ cls := "FilterStack$Checker", name := "meet", desc := "(II)V" } : MethodName) prog_2_method_11_code (3 : Nat) (Option.none : Option Jvm.ClassFile.FieldType) : Cond) ∈ fs_T := fs_in 207 rfl rfl
theorem wi_208 : (.methodLink "FilterStack$Checker" (29 : Nat) ({ cls := "FilterStack$Checker", name := "isBreach", desc := "(LFilterStack$Filter;II)Z" } : MethodName) : Cond) ∈ fs_T := fs_in 208 (by decide +kernel) rfl
theorem wi_209 : (.static ({ cls := "FilterStack$Checker", name := "isBreach", desc := "(LFilterStack$Filter;II)Z" } : MethodName) : Cond) ∈ fs_T := fs_in 209 (by decide +kernel) rfl
set_option maxRecDepth 20000 in
theorem wi_210 : (.code ({ cls := "FilterStack$Checker", name := "isBreach", desc := "(LFilterStack$Filter;II)Z" } : MethodName) prog_2_method_4_code (5 : Nat) (Option.some .boolean) : Cond) ∈ fs_T := fs_in 210 rfl rfl
theorem wi_211 : (.methodLink "FilterStack$Checker" (39 : Nat) ({ cls := "FilterStack$Checker", name := "takesIndex", desc := "(I)Z" } : MethodName) : Cond) ∈ fs_T := fs_in 211 (by decide +kernel) rfl
theorem wi_212 : (.static ({ cls := "FilterStack$Checker", name := "takesIndex", desc := "(I)Z" } : MethodName) : Cond) ∈ fs_T := fs_in 212 (by decide +kernel) rfl
set_option maxRecDepth 20000 in
theorem wi_213 : (.code ({ cls := "FilterStack$Checker", name := "takesIndex", desc := "(I)Z" } : MethodName) prog_2_method_5_code (1 : Nat) (Option.some .boolean) : Cond) ∈ fs_T := fs_in 213 rfl rfl
theorem wi_214 : (.methodLink "FilterStack$Checker" (43 : Nat) ({ cls := "FilterStack$Checker", name := "leavesFilter", desc := "(LFilterStack$Filter;I)Z" } : MethodName) : Cond) ∈ fs_T := fs_in 214 (by decide +kernel) rfl
theorem wi_215 : (.static ({ cls := "FilterStack$Checker", name := "leavesFilter", desc := "(LFilterStack$Filter;I)Z" } : MethodName) : Cond) ∈ fs_T := fs_in 215 (by decide +kernel) rfl
set_option maxRecDepth 20000 in
theorem wi_216 : (.code ({ cls := "FilterStack$Checker", name := "leavesFilter", desc := "(LFilterStack$Filter;I)Z" } : MethodName) prog_2_method_8_code (4 : Nat) (Option.some .boolean) : Cond) ∈ fs_T := fs_in 216 rfl rfl
theorem wi_217 : (.methodLink "FilterStackLaw" (52 : Nat) ({ cls := "FilterStack", name := "place", desc := "(I)I" } : MethodName) : Cond) ∈ fs_T := fs_in 217 (by decide +kernel) rfl
theorem wi_218 : (.instanceMethod ({ cls := "FilterStack", name := "place", desc := "(I)I" } : MethodName) : Cond) ∈ fs_T := fs_in 218 (by decide +kernel) rfl
theorem wi_219 : (.selects "FilterStack" ({ cls := "FilterStack", name := "place", desc := "(I)I" } : MethodName) ({ cls := "FilterStack", name := "place", desc := "(I)I" } : MethodName) : Cond) ∈ fs_T := fs_in 219 (by decide +kernel) rfl
set_option maxRecDepth 20000 in
theorem wi_220 : (.code ({ cls := "FilterStack", name := "place", desc := "(I)I" } : MethodName) prog_1_method_8_code (2 : Nat) (Option.some .int) : Cond) ∈ fs_T := fs_in 220 rfl rfl
theorem wi_221 : (.methodLink "FilterStack" (85 : Nat) ({ cls := "FilterStack$Checker", name := "firstBreach", desc := "(LFilterStack$Filter;I)I" } : MethodName) : Cond) ∈ fs_T := fs_in 221 (by decide +kernel) rfl
theorem wi_222 : (.methodLink "FilterStackLaw" (56 : Nat) ({ cls := "FilterStack", name := "set", desc := "(II)I" } : MethodName) : Cond) ∈ fs_T := fs_in 222 (by decide +kernel) rfl
theorem wi_223 : (.instanceMethod ({ cls := "FilterStack", name := "set", desc := "(II)I" } : MethodName) : Cond) ∈ fs_T := fs_in 223 (by decide +kernel) rfl
theorem wi_224 : (.selects "FilterStack" ({ cls := "FilterStack", name := "set", desc := "(II)I" } : MethodName) ({ cls := "FilterStack", name := "set", desc := "(II)I" } : MethodName) : Cond) ∈ fs_T := fs_in 224 (by decide +kernel) rfl
set_option maxRecDepth 20000 in
theorem wi_225 : (.code ({ cls := "FilterStack", name := "set", desc := "(II)I" } : MethodName) prog_1_method_9_code (4 : Nat) (Option.some .int) : Cond) ∈ fs_T := fs_in 225 rfl rfl
theorem wi_226 : (.methodLink "FilterStackLaw" (70 : Nat) ({ cls := "FilterStack", name := "steps", desc := "()I" } : MethodName) : Cond) ∈ fs_T := fs_in 226 (by decide +kernel) rfl
theorem wi_227 : (.instanceMethod ({ cls := "FilterStack", name := "steps", desc := "()I" } : MethodName) : Cond) ∈ fs_T := fs_in 227 (by decide +kernel) rfl
theorem wi_228 : (.selects "FilterStack" ({ cls := "FilterStack", name := "steps", desc := "()I" } : MethodName) ({ cls := "FilterStack", name := "steps", desc := "()I" } : MethodName) : Cond) ∈ fs_T := fs_in 228 (by decide +kernel) rfl
set_option maxRecDepth 20000 in
theorem wi_229 : (.code ({ cls := "FilterStack", name := "steps", desc := "()I" } : MethodName) prog_1_method_11_code (1 : Nat) (Option.some .int) : Cond) ∈ fs_T := fs_in 229 rfl rfl
theorem wi_230 : (.methodLink "FilterStackLaw" (74 : Nat) ({ cls := "FilterStack", name := "rule", desc := "(IIII)I" } : MethodName) : Cond) ∈ fs_T := fs_in 230 (by decide +kernel) rfl
theorem wi_231 : (.instanceMethod ({ cls := "FilterStack", name := "rule", desc := "(IIII)I" } : MethodName) : Cond) ∈ fs_T := fs_in 231 (by decide +kernel) rfl
theorem wi_232 : (.selects "FilterStack" ({ cls := "FilterStack", name := "rule", desc := "(IIII)I" } : MethodName) ({ cls := "FilterStack", name := "rule", desc := "(IIII)I" } : MethodName) : Cond) ∈ fs_T := fs_in 232 (by decide +kernel) rfl
set_option maxRecDepth 20000 in
theorem wi_233 : (.code ({ cls := "FilterStack", name := "rule", desc := "(IIII)I" } : MethodName) prog_1_method_12_code (5 : Nat) (Option.some .int) : Cond) ∈ fs_T := fs_in 233 rfl rfl
theorem wi_234 : (.methodLink "FilterStack" (100 : Nat) ({ cls := "FilterStack$RuleList", name := "append", desc := "(IIII)I" } : MethodName) : Cond) ∈ fs_T := fs_in 234 (by decide +kernel) rfl
theorem wi_235 : (.instanceMethod ({ cls := "FilterStack$RuleList", name := "append", desc := "(IIII)I" } : MethodName) : Cond) ∈ fs_T := fs_in 235 (by decide +kernel) rfl
theorem wi_236 : (.selects "FilterStack$RuleList" ({ cls := "FilterStack$RuleList", name := "append", desc := "(IIII)I" } : MethodName) ({ cls := "FilterStack$RuleList", name := "append", desc := "(IIII)I" } : MethodName) : Cond) ∈ fs_T := fs_in 236 (by decide +kernel) rfl
set_option maxRecDepth 20000 in
theorem wi_237 : (.code ({ cls := "FilterStack$RuleList", name := "append", desc := "(IIII)I" } : MethodName) prog_5_method_2_code (5 : Nat) (Option.some .int) : Cond) ∈ fs_T := fs_in 237 rfl rfl
theorem wi_238 : (.methodLink "FilterStackLaw" (79 : Nat) ({ cls := "FilterStack", name := "forget", desc := "()I" } : MethodName) : Cond) ∈ fs_T := fs_in 238 (by decide +kernel) rfl
theorem wi_239 : (.instanceMethod ({ cls := "FilterStack", name := "forget", desc := "()I" } : MethodName) : Cond) ∈ fs_T := fs_in 239 (by decide +kernel) rfl
theorem wi_240 : (.selects "FilterStack" ({ cls := "FilterStack", name := "forget", desc := "()I" } : MethodName) ({ cls := "FilterStack", name := "forget", desc := "()I" } : MethodName) : Cond) ∈ fs_T := fs_in 240 (by decide +kernel) rfl
set_option maxRecDepth 20000 in
theorem wi_241 : (.code ({ cls := "FilterStack", name := "forget", desc := "()I" } : MethodName) prog_1_method_13_code (1 : Nat) (Option.some .int) : Cond) ∈ fs_T := fs_in 241 rfl rfl
theorem wi_242 : (.methodLink "FilterStack" (101 : Nat) ({ cls := "FilterStack$RuleList", name := "empty", desc := "()I" } : MethodName) : Cond) ∈ fs_T := fs_in 242 (by decide +kernel) rfl
theorem wi_243 : (.instanceMethod ({ cls := "FilterStack$RuleList", name := "empty", desc := "()I" } : MethodName) : Cond) ∈ fs_T := fs_in 243 (by decide +kernel) rfl
theorem wi_244 : (.selects "FilterStack$RuleList" ({ cls := "FilterStack$RuleList", name := "empty", desc := "()I" } : MethodName) ({ cls := "FilterStack$RuleList", name := "empty", desc := "()I" } : MethodName) : Cond) ∈ fs_T := fs_in 244 (by decide +kernel) rfl
set_option maxRecDepth 20000 in
theorem wi_245 : (.code ({ cls := "FilterStack$RuleList", name := "empty", desc := "()I" } : MethodName) prog_5_method_3_code (2 : Nat) (Option.some .int) : Cond) ∈ fs_T := fs_in 245 rfl rfl
theorem wi_246 : (.methodLink "FilterStackLaw" (83 : Nat) ({ cls := "FilterStack", name := "compile", desc := "(II)I" } : MethodName) : Cond) ∈ fs_T := fs_in 246 (by decide +kernel) rfl
theorem wi_247 : (.instanceMethod ({ cls := "FilterStack", name := "compile", desc := "(II)I" } : MethodName) : Cond) ∈ fs_T := fs_in 247 (by decide +kernel) rfl
theorem wi_248 : (.selects "FilterStack" ({ cls := "FilterStack", name := "compile", desc := "(II)I" } : MethodName) ({ cls := "FilterStack", name := "compile", desc := "(II)I" } : MethodName) : Cond) ∈ fs_T := fs_in 248 (by decide +kernel) rfl
set_option maxRecDepth 20000 in
theorem wi_249 : (.code ({ cls := "FilterStack", name := "compile", desc := "(II)I" } : MethodName) prog_1_method_14_code (3 : Nat) (Option.some .int) : Cond) ∈ fs_T := fs_in 249 rfl rfl
theorem wi_250 : (.methodLink "FilterStack" (102 : Nat) ({ cls := "FilterStack$RuleList", name := "translatedLength", desc := "()I" } : MethodName) : Cond) ∈ fs_T := fs_in 250 (by decide +kernel) rfl
theorem wi_251 : (.instanceMethod ({ cls := "FilterStack$RuleList", name := "translatedLength", desc := "()I" } : MethodName) : Cond) ∈ fs_T := fs_in 251 (by decide +kernel) rfl
theorem wi_252 : (.selects "FilterStack$RuleList" ({ cls := "FilterStack$RuleList", name := "translatedLength", desc := "()I" } : MethodName) ({ cls := "FilterStack$RuleList", name := "translatedLength", desc := "()I" } : MethodName) : Cond) ∈ fs_T := fs_in 252 (by decide +kernel) rfl
set_option maxRecDepth 20000 in
theorem wi_253 : (.code ({ cls := "FilterStack$RuleList", name := "translatedLength", desc := "()I" } : MethodName) prog_5_method_4_code (3 : Nat) (Option.some .int) : Cond) ∈ fs_T := fs_in 253 rfl rfl
theorem wi_254 : (.methodLink "FilterStack$RuleList" (28 : Nat) ({ cls := "FilterStack$RuleList", name := "lengthOf", desc := "(I)I" } : MethodName) : Cond) ∈ fs_T := fs_in 254 (by decide +kernel) rfl
theorem wi_256 : (.instanceMethod ({ cls := "FilterStack$RuleList", name := "lengthOf", desc := "(I)I" } : MethodName) : Cond) ∈ fs_T := fs_in 256 (by decide +kernel) rfl
set_option maxRecDepth 20000 in
theorem wi_257 : (.code ({ cls := "FilterStack$RuleList", name := "lengthOf", desc := "(I)I" } : MethodName) prog_5_method_7_code (2 : Nat) (Option.some .int) : Cond) ∈ fs_T := fs_in 257 rfl rfl
theorem wi_258 : (.methodLink "FilterStack" (105 : Nat) ({ cls := "FilterStack$RuleList", name := "translate", desc := "(LFilterStack$Filter;I)V" } : MethodName) : Cond) ∈ fs_T := fs_in 258 (by decide +kernel) rfl
theorem wi_259 : (.instanceMethod ({ cls := "FilterStack$RuleList", name := "translate", desc := "(LFilterStack$Filter;I)V" } : MethodName) : Cond) ∈ fs_T := fs_in 259 (by decide +kernel) rfl
theorem wi_260 : (.selects "FilterStack$RuleList" ({ cls := "FilterStack$RuleList", name := "translate", desc := "(LFilterStack$Filter;I)V" } : MethodName) ({ cls := "FilterStack$RuleList", name := "translate", desc := "(LFilterStack$Filter;I)V" } : MethodName) : Cond) ∈ fs_T := fs_in 260 (by decide +kernel) rfl
set_option maxRecDepth 20000 in
theorem wi_261 : (.code ({ cls := "FilterStack$RuleList", name := "translate", desc := "(LFilterStack$Filter;I)V" } : MethodName) prog_5_method_5_code (4 : Nat) (Option.none : Option Jvm.ClassFile.FieldType) : Cond) ∈ fs_T := fs_in 261 rfl rfl
theorem wi_262 : (.methodLink "FilterStack$RuleList" (32 : Nat) ({ cls := "FilterStack$Filter", name := "empty", desc := "()I" } : MethodName) : Cond) ∈ fs_T := fs_in 262 (by decide +kernel) rfl
theorem wi_263 : (.methodLink "FilterStack$RuleList" (38 : Nat) ({ cls := "FilterStack$RuleList", name := "translateOne", desc := "(LFilterStack$Filter;I)V" } : MethodName) : Cond) ∈ fs_T := fs_in 263 (by decide +kernel) rfl
theorem wi_265 : (.instanceMethod ({ cls := "FilterStack$RuleList", name := "translateOne", desc := "(LFilterStack$Filter;I)V" } : MethodName) : Cond) ∈ fs_T := fs_in 265 (by decide +kernel) rfl
set_option maxRecDepth 20000 in
theorem wi_266 : (.code ({ cls := "FilterStack$RuleList", name := "translateOne", desc := "(LFilterStack$Filter;I)V" } : MethodName) prog_5_method_6_code (3 : Nat) (Option.none : Option Jvm.ClassFile.FieldType) : Cond) ∈ fs_T := fs_in 266 rfl rfl
theorem wi_267 : (.methodLink "FilterStack$RuleList" (42 : Nat) ({ cls := "FilterStack$Filter", name := "append", desc := "(IIII)I" } : MethodName) : Cond) ∈ fs_T := fs_in 267 (by decide +kernel) rfl
theorem wi_268 : (.constant "FilterStack$RuleList" (46 : Nat) (1006632960 : Int32) : Cond) ∈ fs_T := fs_in 268 (by decide +kernel) rfl
theorem wi_269 : (.methodLink "FilterStackLaw" (90 : Nat) ({ cls := "FilterStack", name := "judge", desc := "()I" } : MethodName) : Cond) ∈ fs_T := fs_in 269 (by decide +kernel) rfl
theorem wi_270 : (.instanceMethod ({ cls := "FilterStack", name := "judge", desc := "()I" } : MethodName) : Cond) ∈ fs_T := fs_in 270 (by decide +kernel) rfl
theorem wi_271 : (.selects "FilterStack" ({ cls := "FilterStack", name := "judge", desc := "()I" } : MethodName) ({ cls := "FilterStack", name := "judge", desc := "()I" } : MethodName) : Cond) ∈ fs_T := fs_in 271 (by decide +kernel) rfl
set_option maxRecDepth 20000 in
theorem wi_272 : (.code ({ cls := "FilterStack", name := "judge", desc := "()I" } : MethodName) prog_1_method_16_code (4 : Nat) (Option.some .int) : Cond) ∈ fs_T := fs_in 272 rfl rfl
theorem wi_273 : (.constant "FilterStack" (116 : Nat) (1006632960 : Int32) : Cond) ∈ fs_T := fs_in 273 (by decide +kernel) rfl
theorem wi_274 : (.methodLink "FilterStack" (93 : Nat) ({ cls := "FilterStack$Machine", name := "run", desc := "(LFilterStack$Filter;[I)I" } : MethodName) : Cond) ∈ fs_T := fs_in 274 (by decide +kernel) rfl
theorem wi_275 : (.instanceMethod ({ cls := "FilterStack$Machine", name := "run", desc := "(LFilterStack$Filter;[I)I" } : MethodName) : Cond) ∈ fs_T := fs_in 275 (by decide +kernel) rfl
theorem wi_276 : (.selects "FilterStack$Machine" ({ cls := "FilterStack$Machine", name := "run", desc := "(LFilterStack$Filter;[I)I" } : MethodName) ({ cls := "FilterStack$Machine", name := "run", desc := "(LFilterStack$Filter;[I)I" } : MethodName) : Cond) ∈ fs_T := fs_in 276 (by decide +kernel) rfl
set_option maxRecDepth 20000 in
theorem wi_277 : (.code ({ cls := "FilterStack$Machine", name := "run", desc := "(LFilterStack$Filter;[I)I" } : MethodName) prog_4_method_2_code (7 : Nat) (Option.some .int) : Cond) ∈ fs_T := fs_in 277 rfl rfl
theorem wi_278 : (.methodLink "FilterStack$Machine" (25 : Nat) ({ cls := "java/util/Arrays", name := "fill", desc := "([II)V" } : MethodName) : Cond) ∈ fs_T := fs_in 278 (by decide +kernel) rfl
theorem wi_279 : (.methodLink "FilterStack$Machine" (31 : Nat) ({ cls := "FilterStack$Filter", name := "has", desc := "(I)Z" } : MethodName) : Cond) ∈ fs_T := fs_in 279 (by decide +kernel) rfl
theorem wi_280 : (.methodLink "FilterStack$Machine" (49 : Nat) ({ cls := "FilterStack$Machine", name := "move", desc := "(II[II)V" } : MethodName) : Cond) ∈ fs_T := fs_in 280 (by decide +kernel) rfl
theorem wi_282 : (.instanceMethod ({ cls := "FilterStack$Machine", name := "move", desc := "(II[II)V" } : MethodName) : Cond) ∈ fs_T := fs_in 282 (by decide +kernel) rfl
set_option maxRecDepth 20000 in
theorem wi_283 : (.code ({ cls := "FilterStack$Machine", name := "move", desc := "(II[II)V" } : MethodName) prog_4_method_3_code (5 : Nat) (Option.none : Option Jvm.ClassFile.FieldType) : Cond) ∈ fs_T := fs_in 283 rfl rfl
theorem wi_284 : (.methodLink "FilterStack$Machine" (53 : Nat) ({ cls := "FilterStack$Machine", name := "result", desc := "(II)I" } : MethodName) : Cond) ∈ fs_T := fs_in 284 (by decide +kernel) rfl
theorem wi_286 : (.instanceMethod ({ cls := "FilterStack$Machine", name := "result", desc := "(II)I" } : MethodName) : Cond) ∈ fs_T := fs_in 286 (by decide +kernel) rfl
set_option maxRecDepth 20000 in
theorem wi_287 : (.code ({ cls := "FilterStack$Machine", name := "result", desc := "(II)I" } : MethodName) prog_4_method_4_code (3 : Nat) (Option.some .int) : Cond) ∈ fs_T := fs_in 287 rfl rfl
theorem wi_288 : (.methodLink "FilterStack$Machine" (61 : Nat) ({ cls := "FilterStack$Machine", name := "quotient", desc := "(II)I" } : MethodName) : Cond) ∈ fs_T := fs_in 288 (by decide +kernel) rfl
theorem wi_289 : (.static ({ cls := "FilterStack$Machine", name := "quotient", desc := "(II)I" } : MethodName) : Cond) ∈ fs_T := fs_in 289 (by decide +kernel) rfl
set_option maxRecDepth 20000 in
theorem wi_290 : (.code ({ cls := "FilterStack$Machine", name := "quotient", desc := "(II)I" } : MethodName) prog_4_method_5_code (2 : Nat) (Option.some .int) : Cond) ∈ fs_T := fs_in 290 rfl rfl
theorem wi_291 : (.constantLong "FilterStack$Machine" (64 : Nat) (4294967295 : Int64) : Cond) ∈ fs_T := fs_in 291 (by decide +kernel) rfl
theorem wi_292 : (.methodLink "FilterStack$Machine" (57 : Nat) ({ cls := "FilterStack$Machine", name := "distance", desc := "(LFilterStack$Filter;I)I" } : MethodName) : Cond) ∈ fs_T := fs_in 292 (by decide +kernel) rfl
theorem wi_294 : (.instanceMethod ({ cls := "FilterStack$Machine", name := "distance", desc := "(LFilterStack$Filter;I)I" } : MethodName) : Cond) ∈ fs_T := fs_in 294 (by decide +kernel) rfl
set_option maxRecDepth 20000 in
theorem wi_295 : (.code ({ cls := "FilterStack$Machine", name := "distance", desc := "(LFilterStack$Filter;I)I" } : MethodName) prog_4_method_6_code (4 : Nat) (Option.some .int) : Cond) ∈ fs_T := fs_in 295 rfl rfl
theorem wi_296 : (.methodLink "FilterStack$Machine" (66 : Nat) ({ cls := "FilterStack$Machine", name := "holds", desc := "(II)Z" } : MethodName) : Cond) ∈ fs_T := fs_in 296 (by decide +kernel) rfl
theorem wi_298 : (.instanceMethod ({ cls := "FilterStack$Machine", name := "holds", desc := "(II)Z" } : MethodName) : Cond) ∈ fs_T := fs_in 298 (by decide +kernel) rfl
set_option maxRecDepth 20000 in
theorem wi_299 : (.code ({ cls := "FilterStack$Machine", name := "holds", desc := "(II)Z" } : MethodName) prog_4_method_7_code (3 : Nat) (Option.some .boolean) : Cond) ∈ fs_T := fs_in 299 rfl rfl
theorem wi_300 : (.methodLink "FilterStack" (117 : Nat) ({ cls := "FilterStack", name := "strictness", desc := "(I)I" } : MethodName) : Cond) ∈ fs_T := fs_in 300 (by decide +kernel) rfl
theorem wi_301 : (.static ({ cls := "FilterStack", name := "strictness", desc := "(I)I" } : MethodName) : Cond) ∈ fs_T := fs_in 301 (by decide +kernel) rfl
set_option maxRecDepth 20000 in
theorem wi_302 : (.code ({ cls := "FilterStack", name := "strictness", desc := "(I)I" } : MethodName) prog_1_method_20_code (1 : Nat) (Option.some .int) : Cond) ∈ fs_T := fs_in 302 rfl rfl
theorem wi_303 : (.methodLink "FilterStackLaw" (60 : Nat) ({ cls := "FilterStackLaw", name := "test", desc := "(LFilterStack;I[J)I" } : MethodName) : Cond) ∈ fs_T := fs_in 303 (by decide +kernel) rfl
theorem wi_304 : (.static ({ cls := "FilterStackLaw", name := "test", desc := "(LFilterStack;I[J)I" } : MethodName) : Cond) ∈ fs_T := fs_in 304 (by decide +kernel) rfl
set_option maxRecDepth 20000 in
theorem wi_305 : (.codeWith ({ cls := "FilterStackLaw", name := "test", desc := "(LFilterStack;I[J)I" } : MethodName) method_3_code (4 : Nat) (Option.some .int) [((0 : Nat), (9 : Nat), (12 : Nat), (13 : Nat)), ((0 : Nat), (9 : Nat), (15 : Nat), (15 : Nat))] : Cond) ∈ fs_T := fs_in 305 rfl rfl
theorem wi_306 : (.classLink "FilterStackLaw" (13 : Nat) "java/lang/IndexOutOfBoundsException" : Cond) ∈ fs_T := fs_in 306 (by decide +kernel) rfl
theorem wi_307 : (.classLink "FilterStackLaw" (15 : Nat) "java/lang/IllegalStateException" : Cond) ∈ fs_T := fs_in 307 (by decide +kernel) rfl
theorem wi_308 : (.methodLink "FilterStackLaw" (7 : Nat) ({ cls := "FilterStack", name := "test", desc := "(I)I" } : MethodName) : Cond) ∈ fs_T := fs_in 308 (by decide +kernel) rfl
theorem wi_309 : (.instanceMethod ({ cls := "FilterStack", name := "test", desc := "(I)I" } : MethodName) : Cond) ∈ fs_T := fs_in 309 (by decide +kernel) rfl
theorem wi_310 : (.selects "FilterStack" ({ cls := "FilterStack", name := "test", desc := "(I)I" } : MethodName) ({ cls := "FilterStack", name := "test", desc := "(I)I" } : MethodName) : Cond) ∈ fs_T := fs_in 310 (by decide +kernel) rfl
set_option maxRecDepth 20000 in
theorem wi_311 : (.code ({ cls := "FilterStack", name := "test", desc := "(I)I" } : MethodName) prog_1_method_10_code (2 : Nat) (Option.some .int) : Cond) ∈ fs_T := fs_in 311 rfl rfl
theorem wi_312 : (.methodLink "FilterStack" (89 : Nat) ({ cls := "FilterStack", name := "goodFilter", desc := "(I)LFilterStack$Filter;" } : MethodName) : Cond) ∈ fs_T := fs_in 312 (by decide +kernel) rfl
theorem wi_314 : (.instanceMethod ({ cls := "FilterStack", name := "goodFilter", desc := "(I)LFilterStack$Filter;" } : MethodName) : Cond) ∈ fs_T := fs_in 314 (by decide +kernel) rfl
set_option maxRecDepth 20000 in
theorem wi_315 : (.code ({ cls := "FilterStack", name := "goodFilter", desc := "(I)LFilterStack$Filter;" } : MethodName) prog_1_method_17_code (2 : Nat) (Option.some (.object "FilterStack$Filter")) : Cond) ∈ fs_T := fs_in 315 rfl rfl
theorem wi_316 : (.classLink "FilterStack" (121 : Nat) "java/lang/IndexOutOfBoundsException" : Cond) ∈ fs_T := fs_in 316 (by decide +kernel) rfl
theorem wi_317 : (.instantiable "java/lang/IndexOutOfBoundsException" (6 : Nat) : Cond) ∈ fs_T := fs_in 317 (by decide +kernel) rfl
theorem wi_325 : (.selects "java/lang/IndexOutOfBoundsException" ({ cls := "java/lang/Throwable", name := "fillInStackTrace", desc := "(I)Ljava/lang/Throwable;" } : MethodName) ({ cls := "java/lang/Throwable", name := "fillInStackTrace", desc := "(I)Ljava/lang/Throwable;" } : MethodName) : Cond) ∈ fs_T := fs_in 325 (by decide +kernel) rfl
theorem wi_326 : (.selects "java/lang/IndexOutOfBoundsException" ({ cls := "java/lang/Throwable", name := "fillInStackTrace", desc := "()Ljava/lang/Throwable;" } : MethodName) ({ cls := "java/lang/Throwable", name := "fillInStackTrace", desc := "()Ljava/lang/Throwable;" } : MethodName) : Cond) ∈ fs_T := fs_in 326 (by decide +kernel) rfl
theorem wi_327 : (.lays "java/lang/IndexOutOfBoundsException" "java/lang/Throwable" "cause" "Ljava/lang/Throwable;" : Cond) ∈ fs_T := fs_in 327 (by decide +kernel) rfl
theorem wi_328 : (.lays "java/lang/Throwable" "java/lang/Throwable" "cause" "Ljava/lang/Throwable;" : Cond) ∈ fs_T := fs_in 328 (by decide +kernel) rfl
theorem wi_329 : (.lays "java/lang/IndexOutOfBoundsException" "java/lang/Throwable" "stackTrace" "[Ljava/lang/StackTraceElement;" : Cond) ∈ fs_T := fs_in 329 (by decide +kernel) rfl
theorem wi_330 : (.lays "java/lang/Throwable" "java/lang/Throwable" "stackTrace" "[Ljava/lang/StackTraceElement;" : Cond) ∈ fs_T := fs_in 330 (by decide +kernel) rfl
theorem wi_331 : (.lays "java/lang/IndexOutOfBoundsException" "java/lang/Throwable" "suppressedExceptions" "Ljava/util/List;" : Cond) ∈ fs_T := fs_in 331 (by decide +kernel) rfl
theorem wi_332 : (.lays "java/lang/Throwable" "java/lang/Throwable" "suppressedExceptions" "Ljava/util/List;" : Cond) ∈ fs_T := fs_in 332 (by decide +kernel) rfl
theorem wi_333 : (.lays "java/lang/IndexOutOfBoundsException" "java/lang/Throwable" "detailMessage" "Ljava/lang/String;" : Cond) ∈ fs_T := fs_in 333 (by decide +kernel) rfl
theorem wi_334 : (.lays "java/lang/Throwable" "java/lang/Throwable" "detailMessage" "Ljava/lang/String;" : Cond) ∈ fs_T := fs_in 334 (by decide +kernel) rfl
theorem wi_335 : (.lays "java/lang/IndexOutOfBoundsException" "java/lang/Throwable" "backtrace" "Ljava/lang/Object;" : Cond) ∈ fs_T := fs_in 335 (by decide +kernel) rfl
theorem wi_336 : (.lays "java/lang/Throwable" "java/lang/Throwable" "backtrace" "Ljava/lang/Object;" : Cond) ∈ fs_T := fs_in 336 (by decide +kernel) rfl
theorem wi_337 : (.fieldLink "java/lang/Throwable" (198 : Nat) "java/lang/Throwable" "backtrace" "Ljava/lang/Object;" : Cond) ∈ fs_T := fs_in 337 (by decide +kernel) rfl
theorem wi_338 : (.superclass "java/lang/Throwable" "java/lang/Object" : Cond) ∈ fs_T := fs_in 338 (by decide +kernel) rfl
theorem wi_339 : (.instanceMethod ({ cls := "java/lang/Throwable", name := "<init>", desc := "()V" } : MethodName) : Cond) ∈ fs_T := fs_in 339 (by decide +kernel) rfl
set_option maxRecDepth 20000 in
theorem wi_340 : (.code ({ cls := "java/lang/Throwable", name := "<init>", desc := "()V" } : MethodName) prog_13_method_1_code (1 : Nat) (Option.none : Option Jvm.ClassFile.FieldType) : Cond) ∈ fs_T := fs_in 340 rfl rfl
theorem wi_341 : (.methodLink "java/lang/Throwable" (1 : Nat) ({ cls := "java/lang/Object", name := "<init>", desc := "()V" } : MethodName) : Cond) ∈ fs_T := fs_in 341 (by decide +kernel) rfl
theorem wi_342 : (.fieldLink "java/lang/Throwable" (13 : Nat) "java/lang/Throwable" "UNASSIGNED_STACK" "[Ljava/lang/StackTraceElement;" : Cond) ∈ fs_T := fs_in 342 (by decide +kernel) rfl
theorem wi_344 : (.fieldLink "java/lang/Throwable" (20 : Nat) "java/lang/Throwable" "SUPPRESSED_SENTINEL" "Ljava/util/List;" : Cond) ∈ fs_T := fs_in 344 (by decide +kernel) rfl
theorem wi_346 : (.methodLink "java/lang/Throwable" (27 : Nat) ({ cls := "java/lang/Throwable", name := "fillInStackTrace", desc := "()Ljava/lang/Throwable;" } : MethodName) : Cond) ∈ fs_T := fs_in 346 (by decide +kernel) rfl
theorem wi_347 : (.instanceMethod ({ cls := "java/lang/Throwable", name := "fillInStackTrace", desc := "()Ljava/lang/Throwable;" } : MethodName) : Cond) ∈ fs_T := fs_in 347 (by decide +kernel) rfl
theorem wi_349 : (.selects "java/lang/IllegalStateException" ({ cls := "java/lang/Throwable", name := "fillInStackTrace", desc := "()Ljava/lang/Throwable;" } : MethodName) ({ cls := "java/lang/Throwable", name := "fillInStackTrace", desc := "()Ljava/lang/Throwable;" } : MethodName) : Cond) ∈ fs_T := fs_in 349 (by decide +kernel) rfl
theorem wi_350 : (.selects "java/lang/UnsupportedOperationException" ({ cls := "java/lang/Throwable", name := "fillInStackTrace", desc := "()Ljava/lang/Throwable;" } : MethodName) ({ cls := "java/lang/Throwable", name := "fillInStackTrace", desc := "()Ljava/lang/Throwable;" } : MethodName) : Cond) ∈ fs_T := fs_in 350 (by decide +kernel) rfl
set_option maxRecDepth 20000 in
theorem wi_351 : (.codeSync ({ cls := "java/lang/Throwable", name := "fillInStackTrace", desc := "()Ljava/lang/Throwable;" } : MethodName) prog_13_method_18_code (1 : Nat) (Option.some (.object "java/lang/Throwable")) : Cond) ∈ fs_T := fs_in 351 rfl rfl
theorem wi_352 : (.methodLink "java/lang/Throwable" (202 : Nat) ({ cls := "java/lang/Throwable", name := "fillInStackTrace", desc := "(I)Ljava/lang/Throwable;" } : MethodName) : Cond) ∈ fs_T := fs_in 352 (by decide +kernel) rfl
theorem wi_354 : (.instanceMethod ({ cls := "java/lang/Throwable", name := "fillInStackTrace", desc := "(I)Ljava/lang/Throwable;" } : MethodName) : Cond) ∈ fs_T := fs_in 354 (by decide +kernel) rfl
theorem wi_355 : (.instantiable "java/lang/Throwable" (6 : Nat) : Cond) ∈ fs_T := fs_in 355 (by decide +kernel) rfl
theorem wi_356 : (.native ({ cls := "java/lang/Throwable", name := "fillInStackTrace", desc := "(I)Ljava/lang/Throwable;" } : MethodName) : Cond) ∈ fs_T := fs_in 356 (by decide +kernel) rfl
theorem wi_357 : (.methodLink "FilterStack" (123 : Nat) ({ cls := "java/lang/IndexOutOfBoundsException", name := "<init>", desc := "()V" } : MethodName) : Cond) ∈ fs_T := fs_in 357 (by decide +kernel) rfl
theorem wi_358 : (.instanceMethod ({ cls := "java/lang/IndexOutOfBoundsException", name := "<init>", desc := "()V" } : MethodName) : Cond) ∈ fs_T := fs_in 358 (by decide +kernel) rfl
set_option maxRecDepth 20000 in
theorem wi_359 : (.code ({ cls := "java/lang/IndexOutOfBoundsException", name := "<init>", desc := "()V" } : MethodName) prog_10_method_1_code (1 : Nat) (Option.none : Option Jvm.ClassFile.FieldType) : Cond) ∈ fs_T := fs_in 359 rfl rfl
theorem wi_360 : (.methodLink "java/lang/IndexOutOfBoundsException" (1 : Nat) ({ cls := "java/lang/RuntimeException", name := "<init>", desc := "()V" } : MethodName) : Cond) ∈ fs_T := fs_in 360 (by decide +kernel) rfl
theorem wi_361 : (.instanceMethod ({ cls := "java/lang/RuntimeException", name := "<init>", desc := "()V" } : MethodName) : Cond) ∈ fs_T := fs_in 361 (by decide +kernel) rfl
set_option maxRecDepth 20000 in
theorem wi_362 : (.code ({ cls := "java/lang/RuntimeException", name := "<init>", desc := "()V" } : MethodName) prog_11_method_1_code (1 : Nat) (Option.none : Option Jvm.ClassFile.FieldType) : Cond) ∈ fs_T := fs_in 362 rfl rfl
theorem wi_363 : (.methodLink "java/lang/RuntimeException" (1 : Nat) ({ cls := "java/lang/Exception", name := "<init>", desc := "()V" } : MethodName) : Cond) ∈ fs_T := fs_in 363 (by decide +kernel) rfl
theorem wi_364 : (.instanceMethod ({ cls := "java/lang/Exception", name := "<init>", desc := "()V" } : MethodName) : Cond) ∈ fs_T := fs_in 364 (by decide +kernel) rfl
set_option maxRecDepth 20000 in
theorem wi_365 : (.code ({ cls := "java/lang/Exception", name := "<init>", desc := "()V" } : MethodName) prog_8_method_1_code (1 : Nat) (Option.none : Option Jvm.ClassFile.FieldType) : Cond) ∈ fs_T := fs_in 365 rfl rfl
theorem wi_366 : (.methodLink "java/lang/Exception" (1 : Nat) ({ cls := "java/lang/Throwable", name := "<init>", desc := "()V" } : MethodName) : Cond) ∈ fs_T := fs_in 366 (by decide +kernel) rfl
theorem wi_367 : (.fieldLink "java/lang/Throwable" (198 : Nat) "java/lang/Throwable" "backtrace" "Ljava/lang/Object;" : Cond) ∈ fs_T := fs_in 367 (by decide +kernel) rfl
theorem wi_368 : (.fieldLink "java/lang/Throwable" (7 : Nat) "java/lang/Throwable" "cause" "Ljava/lang/Throwable;" : Cond) ∈ fs_T := fs_in 368 (by decide +kernel) rfl
theorem wi_369 : (.fieldLink "java/lang/Throwable" (17 : Nat) "java/lang/Throwable" "stackTrace" "[Ljava/lang/StackTraceElement;" : Cond) ∈ fs_T := fs_in 369 (by decide +kernel) rfl
theorem wi_370 : (.fieldLink "java/lang/Throwable" (24 : Nat) "java/lang/Throwable" "suppressedExceptions" "Ljava/util/List;" : Cond) ∈ fs_T := fs_in 370 (by decide +kernel) rfl
theorem wi_375 : (.lays "java/lang/IndexOutOfBoundsException" "java/lang/Throwable" "depth" "I" : Cond) ∈ fs_T := fs_in 375 (by decide +kernel) rfl
theorem wi_378 : (.superclass "java/lang/IndexOutOfBoundsException" "java/lang/RuntimeException" : Cond) ∈ fs_T := fs_in 378 (by decide +kernel) rfl
theorem wi_379 : (.classLink "FilterStack" (124 : Nat) "java/lang/IllegalStateException" : Cond) ∈ fs_T := fs_in 379 (by decide +kernel) rfl
theorem wi_380 : (.instantiable "java/lang/IllegalStateException" (6 : Nat) : Cond) ∈ fs_T := fs_in 380 (by decide +kernel) rfl
theorem wi_382 : (.selects "java/lang/IllegalStateException" ({ cls := "java/lang/Throwable", name := "fillInStackTrace", desc := "(I)Ljava/lang/Throwable;" } : MethodName) ({ cls := "java/lang/Throwable", name := "fillInStackTrace", desc := "(I)Ljava/lang/Throwable;" } : MethodName) : Cond) ∈ fs_T := fs_in 382 (by decide +kernel) rfl
theorem wi_383 : (.lays "java/lang/IllegalStateException" "java/lang/Throwable" "cause" "Ljava/lang/Throwable;" : Cond) ∈ fs_T := fs_in 383 (by decide +kernel) rfl
theorem wi_384 : (.lays "java/lang/IllegalStateException" "java/lang/Throwable" "stackTrace" "[Ljava/lang/StackTraceElement;" : Cond) ∈ fs_T := fs_in 384 (by decide +kernel) rfl
theorem wi_385 : (.lays "java/lang/IllegalStateException" "java/lang/Throwable" "suppressedExceptions" "Ljava/util/List;" : Cond) ∈ fs_T := fs_in 385 (by decide +kernel) rfl
theorem wi_386 : (.lays "java/lang/IllegalStateException" "java/lang/Throwable" "detailMessage" "Ljava/lang/String;" : Cond) ∈ fs_T := fs_in 386 (by decide +kernel) rfl
theorem wi_387 : (.lays "java/lang/IllegalStateException" "java/lang/Throwable" "backtrace" "Ljava/lang/Object;" : Cond) ∈ fs_T := fs_in 387 (by decide +kernel) rfl
theorem wi_388 : (.methodLink "FilterStack" (126 : Nat) ({ cls := "java/lang/IllegalStateException", name := "<init>", desc := "()V" } : MethodName) : Cond) ∈ fs_T := fs_in 388 (by decide +kernel) rfl
theorem wi_389 : (.instanceMethod ({ cls := "java/lang/IllegalStateException", name := "<init>", desc := "()V" } : MethodName) : Cond) ∈ fs_T := fs_in 389 (by decide +kernel) rfl
set_option maxRecDepth 20000 in
theorem wi_390 : (.code ({ cls := "java/lang/IllegalStateException", name := "<init>", desc := "()V" } : MethodName) prog_9_method_1_code (1 : Nat) (Option.none : Option Jvm.ClassFile.FieldType) : Cond) ∈ fs_T := fs_in 390 rfl rfl
theorem wi_391 : (.methodLink "java/lang/IllegalStateException" (1 : Nat) ({ cls := "java/lang/RuntimeException", name := "<init>", desc := "()V" } : MethodName) : Cond) ∈ fs_T := fs_in 391 (by decide +kernel) rfl
theorem wi_392 : (.lays "java/lang/IllegalStateException" "java/lang/Throwable" "depth" "I" : Cond) ∈ fs_T := fs_in 392 (by decide +kernel) rfl
theorem wi_393 : (.superclass "java/lang/IllegalStateException" "java/lang/RuntimeException" : Cond) ∈ fs_T := fs_in 393 (by decide +kernel) rfl
theorem wi_394 : (.methodLink "FilterStackLaw" (87 : Nat) ({ cls := "FilterStackLaw", name := "install", desc := "(LFilterStack;I[J)I" } : MethodName) : Cond) ∈ fs_T := fs_in 394 (by decide +kernel) rfl
theorem wi_395 : (.static ({ cls := "FilterStackLaw", name := "install", desc := "(LFilterStack;I[J)I" } : MethodName) : Cond) ∈ fs_T := fs_in 395 (by decide +kernel) rfl
set_option maxRecDepth 20000 in
theorem wi_396 : (.codeWith ({ cls := "FilterStackLaw", name := "install", desc := "(LFilterStack;I[J)I" } : MethodName) method_4_code (4 : Nat) (Option.some .int) [((0 : Nat), (9 : Nat), (12 : Nat), (13 : Nat)), ((0 : Nat), (9 : Nat), (15 : Nat), (15 : Nat)), ((0 : Nat), (9 : Nat), (18 : Nat), (20 : Nat))] : Cond) ∈ fs_T := fs_in 396 rfl rfl
theorem wi_397 : (.classLink "FilterStackLaw" (20 : Nat) "java/lang/UnsupportedOperationException" : Cond) ∈ fs_T := fs_in 397 (by decide +kernel) rfl
theorem wi_398 : (.methodLink "FilterStackLaw" (17 : Nat) ({ cls := "FilterStack", name := "install", desc := "(I)I" } : MethodName) : Cond) ∈ fs_T := fs_in 398 (by decide +kernel) rfl
theorem wi_399 : (.instanceMethod ({ cls := "FilterStack", name := "install", desc := "(I)I" } : MethodName) : Cond) ∈ fs_T := fs_in 399 (by decide +kernel) rfl
theorem wi_400 : (.selects "FilterStack" ({ cls := "FilterStack", name := "install", desc := "(I)I" } : MethodName) ({ cls := "FilterStack", name := "install", desc := "(I)I" } : MethodName) : Cond) ∈ fs_T := fs_in 400 (by decide +kernel) rfl
set_option maxRecDepth 20000 in
theorem wi_401 : (.code ({ cls := "FilterStack", name := "install", desc := "(I)I" } : MethodName) prog_1_method_15_code (3 : Nat) (Option.some .int) : Cond) ∈ fs_T := fs_in 401 rfl rfl
theorem wi_402 : (.classLink "FilterStack" (109 : Nat) "java/lang/UnsupportedOperationException" : Cond) ∈ fs_T := fs_in 402 (by decide +kernel) rfl
theorem wi_403 : (.instantiable "java/lang/UnsupportedOperationException" (6 : Nat) : Cond) ∈ fs_T := fs_in 403 (by decide +kernel) rfl
theorem wi_405 : (.selects "java/lang/UnsupportedOperationException" ({ cls := "java/lang/Throwable", name := "fillInStackTrace", desc := "(I)Ljava/lang/Throwable;" } : MethodName) ({ cls := "java/lang/Throwable", name := "fillInStackTrace", desc := "(I)Ljava/lang/Throwable;" } : MethodName) : Cond) ∈ fs_T := fs_in 405 (by decide +kernel) rfl
theorem wi_406 : (.lays "java/lang/UnsupportedOperationException" "java/lang/Throwable" "cause" "Ljava/lang/Throwable;" : Cond) ∈ fs_T := fs_in 406 (by decide +kernel) rfl
theorem wi_407 : (.lays "java/lang/UnsupportedOperationException" "java/lang/Throwable" "stackTrace" "[Ljava/lang/StackTraceElement;" : Cond) ∈ fs_T := fs_in 407 (by decide +kernel) rfl
theorem wi_408 : (.lays "java/lang/UnsupportedOperationException" "java/lang/Throwable" "suppressedExceptions" "Ljava/util/List;" : Cond) ∈ fs_T := fs_in 408 (by decide +kernel) rfl
theorem wi_409 : (.lays "java/lang/UnsupportedOperationException" "java/lang/Throwable" "detailMessage" "Ljava/lang/String;" : Cond) ∈ fs_T := fs_in 409 (by decide +kernel) rfl
theorem wi_410 : (.lays "java/lang/UnsupportedOperationException" "java/lang/Throwable" "backtrace" "Ljava/lang/Object;" : Cond) ∈ fs_T := fs_in 410 (by decide +kernel) rfl
theorem wi_411 : (.methodLink "FilterStack" (111 : Nat) ({ cls := "java/lang/UnsupportedOperationException", name := "<init>", desc := "()V" } : MethodName) : Cond) ∈ fs_T := fs_in 411 (by decide +kernel) rfl
theorem wi_412 : (.instanceMethod ({ cls := "java/lang/UnsupportedOperationException", name := "<init>", desc := "()V" } : MethodName) : Cond) ∈ fs_T := fs_in 412 (by decide +kernel) rfl
set_option maxRecDepth 20000 in
theorem wi_413 : (.code ({ cls := "java/lang/UnsupportedOperationException", name := "<init>", desc := "()V" } : MethodName) prog_14_method_1_code (1 : Nat) (Option.none : Option Jvm.ClassFile.FieldType) : Cond) ∈ fs_T := fs_in 413 rfl rfl
theorem wi_414 : (.methodLink "java/lang/UnsupportedOperationException" (1 : Nat) ({ cls := "java/lang/RuntimeException", name := "<init>", desc := "()V" } : MethodName) : Cond) ∈ fs_T := fs_in 414 (by decide +kernel) rfl
theorem wi_415 : (.lays "java/lang/UnsupportedOperationException" "java/lang/Throwable" "depth" "I" : Cond) ∈ fs_T := fs_in 415 (by decide +kernel) rfl
theorem wi_416 : (.superclass "java/lang/UnsupportedOperationException" "java/lang/RuntimeException" : Cond) ∈ fs_T := fs_in 416 (by decide +kernel) rfl
theorem wi_417 : (.methodLink "FilterStack" (112 : Nat) ({ cls := "FilterStack$Filter", name := "become", desc := "(LFilterStack$Filter;)V" } : MethodName) : Cond) ∈ fs_T := fs_in 417 (by decide +kernel) rfl
theorem wi_418 : (.instanceMethod ({ cls := "FilterStack$Filter", name := "become", desc := "(LFilterStack$Filter;)V" } : MethodName) : Cond) ∈ fs_T := fs_in 418 (by decide +kernel) rfl
theorem wi_419 : (.selects "FilterStack$Filter" ({ cls := "FilterStack$Filter", name := "become", desc := "(LFilterStack$Filter;)V" } : MethodName) ({ cls := "FilterStack$Filter", name := "become", desc := "(LFilterStack$Filter;)V" } : MethodName) : Cond) ∈ fs_T := fs_in 419 (by decide +kernel) rfl
set_option maxRecDepth 20000 in
theorem wi_420 : (.code ({ cls := "FilterStack$Filter", name := "become", desc := "(LFilterStack$Filter;)V" } : MethodName) prog_3_method_5_code (2 : Nat) (Option.none : Option Jvm.ClassFile.FieldType) : Cond) ∈ fs_T := fs_in 420 rfl rfl
theorem wi_421 : (.methodLink "FilterStack$Filter" (28 : Nat) ({ cls := "java/lang/System", name := "arraycopy", desc := "(Ljava/lang/Object;ILjava/lang/Object;II)V" } : MethodName) : Cond) ∈ fs_T := fs_in 421 (by decide +kernel) rfl
theorem wi_422 : (.static ({ cls := "java/lang/System", name := "arraycopy", desc := "(Ljava/lang/Object;ILjava/lang/Object;II)V" } : MethodName) : Cond) ∈ fs_T := fs_in 422 (by decide +kernel) rfl
theorem wi_423 : (.native ({ cls := "java/lang/System", name := "arraycopy", desc := "(Ljava/lang/Object;ILjava/lang/Object;II)V" } : MethodName) : Cond) ∈ fs_T := fs_in 423 (by decide +kernel) rfl
theorem wi_424 : (.classLink "FilterStackLaw" (23 : Nat) "FilterStackModel" : Cond) ∈ fs_T := fs_in 424 (by decide +kernel) rfl
theorem wi_425 : (.instantiable "FilterStackModel" (16 : Nat) : Cond) ∈ fs_T := fs_in 425 (by decide +kernel) rfl
theorem wi_426 : (.methodLink "FilterStackLaw" (25 : Nat) ({ cls := "FilterStackModel", name := "<init>", desc := "()V" } : MethodName) : Cond) ∈ fs_T := fs_in 426 (by decide +kernel) rfl
theorem wi_427 : (.instanceMethod ({ cls := "FilterStackModel", name := "<init>", desc := "()V" } : MethodName) : Cond) ∈ fs_T := fs_in 427 (by decide +kernel) rfl
set_option maxRecDepth 20000 in
theorem wi_428 : (.code ({ cls := "FilterStackModel", name := "<init>", desc := "()V" } : MethodName) prog_7_method_1_code (1 : Nat) (Option.none : Option Jvm.ClassFile.FieldType) : Cond) ∈ fs_T := fs_in 428 rfl rfl
theorem wi_429 : (.methodLink "FilterStackModel" (1 : Nat) ({ cls := "java/lang/Object", name := "<init>", desc := "()V" } : MethodName) : Cond) ∈ fs_T := fs_in 429 (by decide +kernel) rfl
theorem wi_430 : (.fieldLink "FilterStackModel" (7 : Nat) "FilterStackModel" "op" "[I" : Cond) ∈ fs_T := fs_in 430 (by decide +kernel) rfl
theorem wi_431 : (.fieldLink "FilterStackModel" (13 : Nat) "FilterStackModel" "yes" "[I" : Cond) ∈ fs_T := fs_in 431 (by decide +kernel) rfl
theorem wi_432 : (.fieldLink "FilterStackModel" (16 : Nat) "FilterStackModel" "no" "[I" : Cond) ∈ fs_T := fs_in 432 (by decide +kernel) rfl
theorem wi_433 : (.fieldLink "FilterStackModel" (19 : Nat) "FilterStackModel" "num" "[I" : Cond) ∈ fs_T := fs_in 433 (by decide +kernel) rfl
theorem wi_434 : (.fieldLink "FilterStackModel" (22 : Nat) "FilterStackModel" "size" "[I" : Cond) ∈ fs_T := fs_in 434 (by decide +kernel) rfl
theorem wi_435 : (.fieldLink "FilterStackModel" (97 : Nat) "FilterStackModel" "stacked" "I" : Cond) ∈ fs_T := fs_in 435 (by decide +kernel) rfl
theorem wi_436 : (.fieldLink "FilterStackModel" (25 : Nat) "FilterStackModel" "record" "[I" : Cond) ∈ fs_T := fs_in 436 (by decide +kernel) rfl
theorem wi_437 : (.fieldLink "FilterStackModel" (28 : Nat) "FilterStackModel" "cell" "[I" : Cond) ∈ fs_T := fs_in 437 (by decide +kernel) rfl
theorem wi_438 : (.fieldLink "FilterStackModel" (31 : Nat) "FilterStackModel" "comes" "[Z" : Cond) ∈ fs_T := fs_in 438 (by decide +kernel) rfl
theorem wi_439 : (.fieldLink "FilterStackModel" (35 : Nat) "FilterStackModel" "ruleCall" "[I" : Cond) ∈ fs_T := fs_in 439 (by decide +kernel) rfl
theorem wi_440 : (.fieldLink "FilterStackModel" (38 : Nat) "FilterStackModel" "ruleArgument" "[I" : Cond) ∈ fs_T := fs_in 440 (by decide +kernel) rfl
theorem wi_441 : (.fieldLink "FilterStackModel" (41 : Nat) "FilterStackModel" "ruleMask" "[I" : Cond) ∈ fs_T := fs_in 441 (by decide +kernel) rfl
theorem wi_442 : (.fieldLink "FilterStackModel" (44 : Nat) "FilterStackModel" "ruleValue" "[I" : Cond) ∈ fs_T := fs_in 442 (by decide +kernel) rfl
theorem wi_443 : (.fieldLink "FilterStackModel" (93 : Nat) "FilterStackModel" "rules" "I" : Cond) ∈ fs_T := fs_in 443 (by decide +kernel) rfl
theorem wi_444 : (.fieldLink "FilterStackModel" (79 : Nat) "FilterStackModel" "steps" "I" : Cond) ∈ fs_T := fs_in 444 (by decide +kernel) rfl
theorem wi_445 : (.fieldLink "FilterStackModel" (47 : Nat) "FilterStackModel" "thrown" "I" : Cond) ∈ fs_T := fs_in 445 (by decide +kernel) rfl
theorem wi_446 : (.laysFinal "FilterStackModel" "FilterStackModel" "op" "[I" : Cond) ∈ fs_T := fs_in 446 (by decide +kernel) rfl
theorem wi_448 : (.laysFinal "FilterStackModel" "FilterStackModel" "yes" "[I" : Cond) ∈ fs_T := fs_in 448 (by decide +kernel) rfl
theorem wi_450 : (.laysFinal "FilterStackModel" "FilterStackModel" "no" "[I" : Cond) ∈ fs_T := fs_in 450 (by decide +kernel) rfl
theorem wi_452 : (.laysFinal "FilterStackModel" "FilterStackModel" "num" "[I" : Cond) ∈ fs_T := fs_in 452 (by decide +kernel) rfl
theorem wi_454 : (.laysFinal "FilterStackModel" "FilterStackModel" "size" "[I" : Cond) ∈ fs_T := fs_in 454 (by decide +kernel) rfl
theorem wi_456 : (.lays "FilterStackModel" "FilterStackModel" "stacked" "I" : Cond) ∈ fs_T := fs_in 456 (by decide +kernel) rfl
theorem wi_458 : (.laysFinal "FilterStackModel" "FilterStackModel" "record" "[I" : Cond) ∈ fs_T := fs_in 458 (by decide +kernel) rfl
theorem wi_460 : (.laysFinal "FilterStackModel" "FilterStackModel" "cell" "[I" : Cond) ∈ fs_T := fs_in 460 (by decide +kernel) rfl
theorem wi_462 : (.laysFinal "FilterStackModel" "FilterStackModel" "comes" "[Z" : Cond) ∈ fs_T := fs_in 462 (by decide +kernel) rfl
theorem wi_464 : (.laysFinal "FilterStackModel" "FilterStackModel" "ruleCall" "[I" : Cond) ∈ fs_T := fs_in 464 (by decide +kernel) rfl
theorem wi_466 : (.laysFinal "FilterStackModel" "FilterStackModel" "ruleArgument" "[I" : Cond) ∈ fs_T := fs_in 466 (by decide +kernel) rfl
theorem wi_468 : (.laysFinal "FilterStackModel" "FilterStackModel" "ruleMask" "[I" : Cond) ∈ fs_T := fs_in 468 (by decide +kernel) rfl
theorem wi_470 : (.laysFinal "FilterStackModel" "FilterStackModel" "ruleValue" "[I" : Cond) ∈ fs_T := fs_in 470 (by decide +kernel) rfl
theorem wi_472 : (.lays "FilterStackModel" "FilterStackModel" "rules" "I" : Cond) ∈ fs_T := fs_in 472 (by decide +kernel) rfl
theorem wi_474 : (.lays "FilterStackModel" "FilterStackModel" "steps" "I" : Cond) ∈ fs_T := fs_in 474 (by decide +kernel) rfl
theorem wi_476 : (.lays "FilterStackModel" "FilterStackModel" "thrown" "I" : Cond) ∈ fs_T := fs_in 476 (by decide +kernel) rfl
theorem wi_478 : (.superclass "FilterStackModel" "java/lang/Object" : Cond) ∈ fs_T := fs_in 478 (by decide +kernel) rfl
theorem wi_479 : (.arrayClass .boolean : Cond) ∈ fs_T := fs_in 479 (by decide +kernel) rfl
theorem wi_480 : (.methodLink "FilterStackLaw" (66 : Nat) ({ cls := "FilterStackModel", name := "thrown", desc := "()I" } : MethodName) : Cond) ∈ fs_T := fs_in 480 (by decide +kernel) rfl
theorem wi_481 : (.instanceMethod ({ cls := "FilterStackModel", name := "thrown", desc := "()I" } : MethodName) : Cond) ∈ fs_T := fs_in 481 (by decide +kernel) rfl
theorem wi_482 : (.selects "FilterStackModel" ({ cls := "FilterStackModel", name := "thrown", desc := "()I" } : MethodName) ({ cls := "FilterStackModel", name := "thrown", desc := "()I" } : MethodName) : Cond) ∈ fs_T := fs_in 482 (by decide +kernel) rfl
set_option maxRecDepth 20000 in
theorem wi_483 : (.code ({ cls := "FilterStackModel", name := "thrown", desc := "()I" } : MethodName) prog_7_method_2_code (1 : Nat) (Option.some .int) : Cond) ∈ fs_T := fs_in 483 rfl rfl
theorem wi_484 : (.methodLink "FilterStackLaw" (30 : Nat) ({ cls := "FilterStackModel", name := "add", desc := "(IIIII)I" } : MethodName) : Cond) ∈ fs_T := fs_in 484 (by decide +kernel) rfl
theorem wi_485 : (.instanceMethod ({ cls := "FilterStackModel", name := "add", desc := "(IIIII)I" } : MethodName) : Cond) ∈ fs_T := fs_in 485 (by decide +kernel) rfl
theorem wi_486 : (.selects "FilterStackModel" ({ cls := "FilterStackModel", name := "add", desc := "(IIIII)I" } : MethodName) ({ cls := "FilterStackModel", name := "add", desc := "(IIIII)I" } : MethodName) : Cond) ∈ fs_T := fs_in 486 (by decide +kernel) rfl
set_option maxRecDepth 20000 in
theorem wi_487 : (.code ({ cls := "FilterStackModel", name := "add", desc := "(IIIII)I" } : MethodName) prog_7_method_5_code (6 : Nat) (Option.some .int) : Cond) ∈ fs_T := fs_in 487 rfl rfl
theorem wi_488 : (.methodLink "FilterStackModel" (51 : Nat) ({ cls := "FilterStackModel", name := "within", desc := "(III)Z" } : MethodName) : Cond) ∈ fs_T := fs_in 488 (by decide +kernel) rfl
theorem wi_489 : (.static ({ cls := "FilterStackModel", name := "within", desc := "(III)Z" } : MethodName) : Cond) ∈ fs_T := fs_in 489 (by decide +kernel) rfl
set_option maxRecDepth 20000 in
theorem wi_490 : (.code ({ cls := "FilterStackModel", name := "within", desc := "(III)Z" } : MethodName) prog_7_method_3_code (3 : Nat) (Option.some .boolean) : Cond) ∈ fs_T := fs_in 490 rfl rfl
theorem wi_491 : (.methodLink "FilterStackModel" (55 : Nat) ({ cls := "FilterStackModel", name := "put", desc := "(IIIII)V" } : MethodName) : Cond) ∈ fs_T := fs_in 491 (by decide +kernel) rfl
theorem wi_493 : (.instanceMethod ({ cls := "FilterStackModel", name := "put", desc := "(IIIII)V" } : MethodName) : Cond) ∈ fs_T := fs_in 493 (by decide +kernel) rfl
set_option maxRecDepth 20000 in
theorem wi_494 : (.code ({ cls := "FilterStackModel", name := "put", desc := "(IIIII)V" } : MethodName) prog_7_method_4_code (7 : Nat) (Option.none : Option Jvm.ClassFile.FieldType) : Cond) ∈ fs_T := fs_in 494 rfl rfl
theorem wi_495 : (.methodLink "FilterStackLaw" (34 : Nat) ({ cls := "FilterStackModel", name := "clear", desc := "(I)I" } : MethodName) : Cond) ∈ fs_T := fs_in 495 (by decide +kernel) rfl
theorem wi_496 : (.instanceMethod ({ cls := "FilterStackModel", name := "clear", desc := "(I)I" } : MethodName) : Cond) ∈ fs_T := fs_in 496 (by decide +kernel) rfl
theorem wi_497 : (.selects "FilterStackModel" ({ cls := "FilterStackModel", name := "clear", desc := "(I)I" } : MethodName) ({ cls := "FilterStackModel", name := "clear", desc := "(I)I" } : MethodName) : Cond) ∈ fs_T := fs_in 497 (by decide +kernel) rfl
set_option maxRecDepth 20000 in
theorem wi_498 : (.code ({ cls := "FilterStackModel", name := "clear", desc := "(I)I" } : MethodName) prog_7_method_6_code (3 : Nat) (Option.some .int) : Cond) ∈ fs_T := fs_in 498 rfl rfl
theorem wi_499 : (.methodLink "FilterStackLaw" (38 : Nat) ({ cls := "FilterStackModel", name := "size", desc := "(I)I" } : MethodName) : Cond) ∈ fs_T := fs_in 499 (by decide +kernel) rfl
theorem wi_500 : (.instanceMethod ({ cls := "FilterStackModel", name := "size", desc := "(I)I" } : MethodName) : Cond) ∈ fs_T := fs_in 500 (by decide +kernel) rfl
theorem wi_501 : (.selects "FilterStackModel" ({ cls := "FilterStackModel", name := "size", desc := "(I)I" } : MethodName) ({ cls := "FilterStackModel", name := "size", desc := "(I)I" } : MethodName) : Cond) ∈ fs_T := fs_in 501 (by decide +kernel) rfl
set_option maxRecDepth 20000 in
theorem wi_502 : (.code ({ cls := "FilterStackModel", name := "size", desc := "(I)I" } : MethodName) prog_7_method_7_code (2 : Nat) (Option.some .int) : Cond) ∈ fs_T := fs_in 502 rfl rfl
theorem wi_503 : (.methodLink "FilterStackLaw" (43 : Nat) ({ cls := "FilterStackModel", name := "shape", desc := "(II)I" } : MethodName) : Cond) ∈ fs_T := fs_in 503 (by decide +kernel) rfl
theorem wi_504 : (.instanceMethod ({ cls := "FilterStackModel", name := "shape", desc := "(II)I" } : MethodName) : Cond) ∈ fs_T := fs_in 504 (by decide +kernel) rfl
theorem wi_505 : (.selects "FilterStackModel" ({ cls := "FilterStackModel", name := "shape", desc := "(II)I" } : MethodName) ({ cls := "FilterStackModel", name := "shape", desc := "(II)I" } : MethodName) : Cond) ∈ fs_T := fs_in 505 (by decide +kernel) rfl
set_option maxRecDepth 20000 in
theorem wi_506 : (.code ({ cls := "FilterStackModel", name := "shape", desc := "(II)I" } : MethodName) prog_7_method_9_code (3 : Nat) (Option.some .int) : Cond) ∈ fs_T := fs_in 506 rfl rfl
theorem wi_507 : (.methodLink "FilterStackModel" (59 : Nat) ({ cls := "FilterStackModel", name := "is", desc := "(II)Z" } : MethodName) : Cond) ∈ fs_T := fs_in 507 (by decide +kernel) rfl
theorem wi_509 : (.instanceMethod ({ cls := "FilterStackModel", name := "is", desc := "(II)Z" } : MethodName) : Cond) ∈ fs_T := fs_in 509 (by decide +kernel) rfl
set_option maxRecDepth 20000 in
theorem wi_510 : (.code ({ cls := "FilterStackModel", name := "is", desc := "(II)Z" } : MethodName) prog_7_method_8_code (3 : Nat) (Option.some .boolean) : Cond) ∈ fs_T := fs_in 510 rfl rfl
theorem wi_511 : (.methodLink "FilterStackLaw" (47 : Nat) ({ cls := "FilterStackModel", name := "number", desc := "(II)I" } : MethodName) : Cond) ∈ fs_T := fs_in 511 (by decide +kernel) rfl
theorem wi_512 : (.instanceMethod ({ cls := "FilterStackModel", name := "number", desc := "(II)I" } : MethodName) : Cond) ∈ fs_T := fs_in 512 (by decide +kernel) rfl
theorem wi_513 : (.selects "FilterStackModel" ({ cls := "FilterStackModel", name := "number", desc := "(II)I" } : MethodName) ({ cls := "FilterStackModel", name := "number", desc := "(II)I" } : MethodName) : Cond) ∈ fs_T := fs_in 513 (by decide +kernel) rfl
set_option maxRecDepth 20000 in
theorem wi_514 : (.code ({ cls := "FilterStackModel", name := "number", desc := "(II)I" } : MethodName) prog_7_method_10_code (3 : Nat) (Option.some .int) : Cond) ∈ fs_T := fs_in 514 rfl rfl
theorem wi_515 : (.methodLink "FilterStackLaw" (51 : Nat) ({ cls := "FilterStackModel", name := "fault", desc := "(I)I" } : MethodName) : Cond) ∈ fs_T := fs_in 515 (by decide +kernel) rfl
theorem wi_516 : (.instanceMethod ({ cls := "FilterStackModel", name := "fault", desc := "(I)I" } : MethodName) : Cond) ∈ fs_T := fs_in 516 (by decide +kernel) rfl
theorem wi_517 : (.selects "FilterStackModel" ({ cls := "FilterStackModel", name := "fault", desc := "(I)I" } : MethodName) ({ cls := "FilterStackModel", name := "fault", desc := "(I)I" } : MethodName) : Cond) ∈ fs_T := fs_in 517 (by decide +kernel) rfl
set_option maxRecDepth 20000 in
theorem wi_518 : (.code ({ cls := "FilterStackModel", name := "fault", desc := "(I)I" } : MethodName) prog_7_method_14_code (2 : Nat) (Option.some .int) : Cond) ∈ fs_T := fs_in 518 rfl rfl
theorem wi_519 : (.methodLink "FilterStackModel" (69 : Nat) ({ cls := "FilterStackModel", name := "check", desc := "(I)I" } : MethodName) : Cond) ∈ fs_T := fs_in 519 (by decide +kernel) rfl
theorem wi_521 : (.instanceMethod ({ cls := "FilterStackModel", name := "check", desc := "(I)I" } : MethodName) : Cond) ∈ fs_T := fs_in 521 (by decide +kernel) rfl
set_option maxRecDepth 20000 in
theorem wi_522 : (.code ({ cls := "FilterStackModel", name := "check", desc := "(I)I" } : MethodName) prog_7_method_13_code (5 : Nat) (Option.some .int) : Cond) ∈ fs_T := fs_in 522 rfl rfl
theorem wi_523 : (.methodLink "FilterStackModel" (63 : Nat) ({ cls := "FilterStackModel", name := "holds", desc := "(III)Z" } : MethodName) : Cond) ∈ fs_T := fs_in 523 (by decide +kernel) rfl
theorem wi_525 : (.instanceMethod ({ cls := "FilterStackModel", name := "holds", desc := "(III)Z" } : MethodName) : Cond) ∈ fs_T := fs_in 525 (by decide +kernel) rfl
set_option maxRecDepth 20000 in
theorem wi_526 : (.code ({ cls := "FilterStackModel", name := "holds", desc := "(III)Z" } : MethodName) prog_7_method_11_code (7 : Nat) (Option.some .boolean) : Cond) ∈ fs_T := fs_in 526 rfl rfl
theorem wi_527 : (.methodLink "FilterStackModel" (66 : Nat) ({ cls := "FilterStackModel", name := "bare", desc := "(III)Z" } : MethodName) : Cond) ∈ fs_T := fs_in 527 (by decide +kernel) rfl
theorem wi_529 : (.instanceMethod ({ cls := "FilterStackModel", name := "bare", desc := "(III)Z" } : MethodName) : Cond) ∈ fs_T := fs_in 529 (by decide +kernel) rfl
set_option maxRecDepth 20000 in
theorem wi_530 : (.code ({ cls := "FilterStackModel", name := "bare", desc := "(III)Z" } : MethodName) prog_7_method_12_code (7 : Nat) (Option.some .boolean) : Cond) ∈ fs_T := fs_in 530 rfl rfl
theorem wi_531 : (.methodLink "FilterStackLaw" (55 : Nat) ({ cls := "FilterStackModel", name := "place", desc := "(I)I" } : MethodName) : Cond) ∈ fs_T := fs_in 531 (by decide +kernel) rfl
theorem wi_532 : (.instanceMethod ({ cls := "FilterStackModel", name := "place", desc := "(I)I" } : MethodName) : Cond) ∈ fs_T := fs_in 532 (by decide +kernel) rfl
theorem wi_533 : (.selects "FilterStackModel" ({ cls := "FilterStackModel", name := "place", desc := "(I)I" } : MethodName) ({ cls := "FilterStackModel", name := "place", desc := "(I)I" } : MethodName) : Cond) ∈ fs_T := fs_in 533 (by decide +kernel) rfl
set_option maxRecDepth 20000 in
theorem wi_534 : (.code ({ cls := "FilterStackModel", name := "place", desc := "(I)I" } : MethodName) prog_7_method_15_code (3 : Nat) (Option.some .int) : Cond) ∈ fs_T := fs_in 534 rfl rfl
theorem wi_535 : (.methodLink "FilterStackLaw" (59 : Nat) ({ cls := "FilterStackModel", name := "set", desc := "(II)I" } : MethodName) : Cond) ∈ fs_T := fs_in 535 (by decide +kernel) rfl
theorem wi_536 : (.instanceMethod ({ cls := "FilterStackModel", name := "set", desc := "(II)I" } : MethodName) : Cond) ∈ fs_T := fs_in 536 (by decide +kernel) rfl
theorem wi_537 : (.selects "FilterStackModel" ({ cls := "FilterStackModel", name := "set", desc := "(II)I" } : MethodName) ({ cls := "FilterStackModel", name := "set", desc := "(II)I" } : MethodName) : Cond) ∈ fs_T := fs_in 537 (by decide +kernel) rfl
set_option maxRecDepth 20000 in
theorem wi_538 : (.code ({ cls := "FilterStackModel", name := "set", desc := "(II)I" } : MethodName) prog_7_method_16_code (4 : Nat) (Option.some .int) : Cond) ∈ fs_T := fs_in 538 rfl rfl
theorem wi_539 : (.methodLink "FilterStackLaw" (65 : Nat) ({ cls := "FilterStackModel", name := "test", desc := "(I)I" } : MethodName) : Cond) ∈ fs_T := fs_in 539 (by decide +kernel) rfl
theorem wi_540 : (.instanceMethod ({ cls := "FilterStackModel", name := "test", desc := "(I)I" } : MethodName) : Cond) ∈ fs_T := fs_in 540 (by decide +kernel) rfl
theorem wi_541 : (.selects "FilterStackModel" ({ cls := "FilterStackModel", name := "test", desc := "(I)I" } : MethodName) ({ cls := "FilterStackModel", name := "test", desc := "(I)I" } : MethodName) : Cond) ∈ fs_T := fs_in 541 (by decide +kernel) rfl
set_option maxRecDepth 20000 in
theorem wi_542 : (.code ({ cls := "FilterStackModel", name := "test", desc := "(I)I" } : MethodName) prog_7_method_21_code (2 : Nat) (Option.some .int) : Cond) ∈ fs_T := fs_in 542 rfl rfl
theorem wi_543 : (.methodLink "FilterStackModel" (90 : Nat) ({ cls := "FilterStackModel", name := "run", desc := "(I)I" } : MethodName) : Cond) ∈ fs_T := fs_in 543 (by decide +kernel) rfl
theorem wi_545 : (.instanceMethod ({ cls := "FilterStackModel", name := "run", desc := "(I)I" } : MethodName) : Cond) ∈ fs_T := fs_in 545 (by decide +kernel) rfl
set_option maxRecDepth 20000 in
theorem wi_546 : (.code ({ cls := "FilterStackModel", name := "run", desc := "(I)I" } : MethodName) prog_7_method_20_code (8 : Nat) (Option.some .int) : Cond) ∈ fs_T := fs_in 546 rfl rfl
theorem wi_547 : (.methodLink "FilterStackModel" (82 : Nat) ({ cls := "FilterStackModel", name := "asked", desc := "(IIII)Z" } : MethodName) : Cond) ∈ fs_T := fs_in 547 (by decide +kernel) rfl
theorem wi_548 : (.static ({ cls := "FilterStackModel", name := "asked", desc := "(IIII)Z" } : MethodName) : Cond) ∈ fs_T := fs_in 548 (by decide +kernel) rfl
set_option maxRecDepth 20000 in
theorem wi_549 : (.code ({ cls := "FilterStackModel", name := "asked", desc := "(IIII)Z" } : MethodName) prog_7_method_19_code (4 : Nat) (Option.some .boolean) : Cond) ∈ fs_T := fs_in 549 rfl rfl
theorem wi_550 : (.methodLink "FilterStackModel" (75 : Nat) ({ cls := "FilterStackModel", name := "plain", desc := "(I)J" } : MethodName) : Cond) ∈ fs_T := fs_in 550 (by decide +kernel) rfl
theorem wi_551 : (.static ({ cls := "FilterStackModel", name := "plain", desc := "(I)J" } : MethodName) : Cond) ∈ fs_T := fs_in 551 (by decide +kernel) rfl
set_option maxRecDepth 20000 in
theorem wi_552 : (.code ({ cls := "FilterStackModel", name := "plain", desc := "(I)J" } : MethodName) prog_7_method_17_code (1 : Nat) (Option.some .long) : Cond) ∈ fs_T := fs_in 552 rfl rfl
theorem wi_553 : (.constantLong "FilterStackModel" (73 : Nat) (4294967295 : Int64) : Cond) ∈ fs_T := fs_in 553 (by decide +kernel) rfl
theorem wi_554 : (.methodLink "FilterStackModel" (86 : Nat) ({ cls := "FilterStackModel", name := "value", desc := "(IIII)I" } : MethodName) : Cond) ∈ fs_T := fs_in 554 (by decide +kernel) rfl
theorem wi_555 : (.static ({ cls := "FilterStackModel", name := "value", desc := "(IIII)I" } : MethodName) : Cond) ∈ fs_T := fs_in 555 (by decide +kernel) rfl
set_option maxRecDepth 20000 in
theorem wi_556 : (.code ({ cls := "FilterStackModel", name := "value", desc := "(IIII)I" } : MethodName) prog_7_method_18_code (4 : Nat) (Option.some .int) : Cond) ∈ fs_T := fs_in 556 rfl rfl
theorem wi_557 : (.methodLink "FilterStackLaw" (73 : Nat) ({ cls := "FilterStackModel", name := "steps", desc := "()I" } : MethodName) : Cond) ∈ fs_T := fs_in 557 (by decide +kernel) rfl
theorem wi_558 : (.instanceMethod ({ cls := "FilterStackModel", name := "steps", desc := "()I" } : MethodName) : Cond) ∈ fs_T := fs_in 558 (by decide +kernel) rfl
theorem wi_559 : (.selects "FilterStackModel" ({ cls := "FilterStackModel", name := "steps", desc := "()I" } : MethodName) ({ cls := "FilterStackModel", name := "steps", desc := "()I" } : MethodName) : Cond) ∈ fs_T := fs_in 559 (by decide +kernel) rfl
set_option maxRecDepth 20000 in
theorem wi_560 : (.code ({ cls := "FilterStackModel", name := "steps", desc := "()I" } : MethodName) prog_7_method_22_code (1 : Nat) (Option.some .int) : Cond) ∈ fs_T := fs_in 560 rfl rfl
theorem wi_561 : (.methodLink "FilterStackLaw" (78 : Nat) ({ cls := "FilterStackModel", name := "rule", desc := "(IIII)I" } : MethodName) : Cond) ∈ fs_T := fs_in 561 (by decide +kernel) rfl
theorem wi_562 : (.instanceMethod ({ cls := "FilterStackModel", name := "rule", desc := "(IIII)I" } : MethodName) : Cond) ∈ fs_T := fs_in 562 (by decide +kernel) rfl
theorem wi_563 : (.selects "FilterStackModel" ({ cls := "FilterStackModel", name := "rule", desc := "(IIII)I" } : MethodName) ({ cls := "FilterStackModel", name := "rule", desc := "(IIII)I" } : MethodName) : Cond) ∈ fs_T := fs_in 563 (by decide +kernel) rfl
set_option maxRecDepth 20000 in
theorem wi_564 : (.code ({ cls := "FilterStackModel", name := "rule", desc := "(IIII)I" } : MethodName) prog_7_method_23_code (5 : Nat) (Option.some .int) : Cond) ∈ fs_T := fs_in 564 rfl rfl
theorem wi_565 : (.methodLink "FilterStackLaw" (82 : Nat) ({ cls := "FilterStackModel", name := "forget", desc := "()I" } : MethodName) : Cond) ∈ fs_T := fs_in 565 (by decide +kernel) rfl
theorem wi_566 : (.instanceMethod ({ cls := "FilterStackModel", name := "forget", desc := "()I" } : MethodName) : Cond) ∈ fs_T := fs_in 566 (by decide +kernel) rfl
theorem wi_567 : (.selects "FilterStackModel" ({ cls := "FilterStackModel", name := "forget", desc := "()I" } : MethodName) ({ cls := "FilterStackModel", name := "forget", desc := "()I" } : MethodName) : Cond) ∈ fs_T := fs_in 567 (by decide +kernel) rfl
set_option maxRecDepth 20000 in
theorem wi_568 : (.code ({ cls := "FilterStackModel", name := "forget", desc := "()I" } : MethodName) prog_7_method_24_code (2 : Nat) (Option.some .int) : Cond) ∈ fs_T := fs_in 568 rfl rfl
theorem wi_569 : (.methodLink "FilterStackLaw" (86 : Nat) ({ cls := "FilterStackModel", name := "compile", desc := "(II)I" } : MethodName) : Cond) ∈ fs_T := fs_in 569 (by decide +kernel) rfl
theorem wi_570 : (.instanceMethod ({ cls := "FilterStackModel", name := "compile", desc := "(II)I" } : MethodName) : Cond) ∈ fs_T := fs_in 570 (by decide +kernel) rfl
theorem wi_571 : (.selects "FilterStackModel" ({ cls := "FilterStackModel", name := "compile", desc := "(II)I" } : MethodName) ({ cls := "FilterStackModel", name := "compile", desc := "(II)I" } : MethodName) : Cond) ∈ fs_T := fs_in 571 (by decide +kernel) rfl
set_option maxRecDepth 20000 in
theorem wi_572 : (.code ({ cls := "FilterStackModel", name := "compile", desc := "(II)I" } : MethodName) prog_7_method_25_code (6 : Nat) (Option.some .int) : Cond) ∈ fs_T := fs_in 572 rfl rfl
theorem wi_573 : (.constant "FilterStackModel" (96 : Nat) (1006632960 : Int32) : Cond) ∈ fs_T := fs_in 573 (by decide +kernel) rfl
theorem wi_574 : (.methodLink "FilterStackLaw" (89 : Nat) ({ cls := "FilterStackModel", name := "install", desc := "(I)I" } : MethodName) : Cond) ∈ fs_T := fs_in 574 (by decide +kernel) rfl
theorem wi_575 : (.instanceMethod ({ cls := "FilterStackModel", name := "install", desc := "(I)I" } : MethodName) : Cond) ∈ fs_T := fs_in 575 (by decide +kernel) rfl
theorem wi_576 : (.selects "FilterStackModel" ({ cls := "FilterStackModel", name := "install", desc := "(I)I" } : MethodName) ({ cls := "FilterStackModel", name := "install", desc := "(I)I" } : MethodName) : Cond) ∈ fs_T := fs_in 576 (by decide +kernel) rfl
set_option maxRecDepth 20000 in
theorem wi_577 : (.code ({ cls := "FilterStackModel", name := "install", desc := "(I)I" } : MethodName) prog_7_method_26_code (4 : Nat) (Option.some .int) : Cond) ∈ fs_T := fs_in 577 rfl rfl
theorem wi_578 : (.methodLink "FilterStackLaw" (93 : Nat) ({ cls := "FilterStackModel", name := "judge", desc := "()I" } : MethodName) : Cond) ∈ fs_T := fs_in 578 (by decide +kernel) rfl
theorem wi_579 : (.instanceMethod ({ cls := "FilterStackModel", name := "judge", desc := "()I" } : MethodName) : Cond) ∈ fs_T := fs_in 579 (by decide +kernel) rfl
theorem wi_580 : (.selects "FilterStackModel" ({ cls := "FilterStackModel", name := "judge", desc := "()I" } : MethodName) ({ cls := "FilterStackModel", name := "judge", desc := "()I" } : MethodName) : Cond) ∈ fs_T := fs_in 580 (by decide +kernel) rfl
set_option maxRecDepth 20000 in
theorem wi_581 : (.code ({ cls := "FilterStackModel", name := "judge", desc := "()I" } : MethodName) prog_7_method_27_code (4 : Nat) (Option.some .int) : Cond) ∈ fs_T := fs_in 581 rfl rfl
theorem wi_582 : (.arrayClass .long : Cond) ∈ fs_T := fs_in 582 (by decide +kernel) rfl
theorem kin_Fs_init : k_Fs_init ∈ fs_T := wi_19
theorem kin_Fi_init : k_Fi_init ∈ fs_T := wi_28
theorem kin_Ru_init : k_Ru_init ∈ fs_T := wi_66
theorem kin_Ck_init : k_Ck_init ∈ fs_T := wi_88
theorem kin_Mc_init : k_Mc_init ∈ fs_T := wi_98
theorem kin_Fs_add : k_Fs_add ∈ fs_T := wi_139
theorem kin_Fs_isFilter : k_Fs_isFilter ∈ fs_T := wi_142
theorem kin_Fs_isDistance : k_Fs_isDistance ∈ fs_T := wi_145
theorem kin_Fi_append : k_Fi_append ∈ fs_T := wi_149
theorem kin_Fs_clear : k_Fs_clear ∈ fs_T := wi_153
theorem kin_Fi_empty : k_Fi_empty ∈ fs_T := wi_157
theorem kin_Fs_size : k_Fs_size ∈ fs_T := wi_161
theorem kin_Fs_shape : k_Fs_shape ∈ fs_T := wi_165
theorem kin_Fi_has : k_Fi_has ∈ fs_T := wi_169
theorem kin_Fs_number : k_Fs_number ∈ fs_T := wi_173
theorem kin_Fs_fault : k_Fs_fault ∈ fs_T := wi_177
theorem kin_Ck_faultOf : k_Ck_faultOf ∈ fs_T := wi_181
theorem kin_Ck_firstBreach : k_Ck_firstBreach ∈ fs_T := wi_185
theorem kin_Ck_firstEarlyRead : k_Ck_firstEarlyRead ∈ fs_T := wi_189
theorem kin_Ar_fill : k_Ar_fill ∈ fs_T := wi_193
theorem kin_Ck_readsCell : k_Ck_readsCell ∈ fs_T := wi_196
theorem kin_Ck_storesCell : k_Ck_storesCell ∈ fs_T := wi_199
theorem kin_Ck_passOn : k_Ck_passOn ∈ fs_T := wi_203
theorem kin_Ck_meet : k_Ck_meet ∈ fs_T := wi_207
theorem kin_Ck_isBreach : k_Ck_isBreach ∈ fs_T := wi_210
theorem kin_Ck_takesIndex : k_Ck_takesIndex ∈ fs_T := wi_213
theorem kin_Ck_leavesFilter : k_Ck_leavesFilter ∈ fs_T := wi_216
theorem kin_Fs_place : k_Fs_place ∈ fs_T := wi_220
theorem kin_Fs_set : k_Fs_set ∈ fs_T := wi_225
theorem kin_Fs_steps : k_Fs_steps ∈ fs_T := wi_229
theorem kin_Fs_rule : k_Fs_rule ∈ fs_T := wi_233
theorem kin_Ru_append : k_Ru_append ∈ fs_T := wi_237
theorem kin_Fs_forget : k_Fs_forget ∈ fs_T := wi_241
theorem kin_Ru_empty : k_Ru_empty ∈ fs_T := wi_245
theorem kin_Fs_compile : k_Fs_compile ∈ fs_T := wi_249
theorem kin_Ru_translatedLength : k_Ru_translatedLength ∈ fs_T := wi_253
theorem kin_Ru_lengthOf : k_Ru_lengthOf ∈ fs_T := wi_257
theorem kin_Ru_translate : k_Ru_translate ∈ fs_T := wi_261
theorem kin_Ru_translateOne : k_Ru_translateOne ∈ fs_T := wi_266
theorem kin_Fs_judge : k_Fs_judge ∈ fs_T := wi_272
theorem kin_Mc_run : k_Mc_run ∈ fs_T := wi_277
theorem kin_Mc_move : k_Mc_move ∈ fs_T := wi_283
theorem kin_Mc_result : k_Mc_result ∈ fs_T := wi_287
theorem kin_Mc_quotient : k_Mc_quotient ∈ fs_T := wi_290
theorem kin_Mc_distance : k_Mc_distance ∈ fs_T := wi_295
theorem kin_Mc_holds : k_Mc_holds ∈ fs_T := wi_299
theorem kin_Fs_strictness : k_Fs_strictness ∈ fs_T := wi_302
theorem kin_Fs_test : k_Fs_test ∈ fs_T := wi_311
theorem kin_Fs_goodFilter : k_Fs_goodFilter ∈ fs_T := wi_315
theorem kin_Fs_install : k_Fs_install ∈ fs_T := wi_401
theorem kin_Fi_become : k_Fi_become ∈ fs_T := wi_420
theorem kin_Mo_init : k_Mo_init ∈ fs_T := wi_428
theorem kin_Mo_thrown : k_Mo_thrown ∈ fs_T := wi_483
theorem kin_Mo_add : k_Mo_add ∈ fs_T := wi_487
theorem kin_Mo_within : k_Mo_within ∈ fs_T := wi_490
theorem kin_Mo_put : k_Mo_put ∈ fs_T := wi_494
theorem kin_Mo_clear : k_Mo_clear ∈ fs_T := wi_498
theorem kin_Mo_size : k_Mo_size ∈ fs_T := wi_502
theorem kin_Mo_shape : k_Mo_shape ∈ fs_T := wi_506
theorem kin_Mo_is : k_Mo_is ∈ fs_T := wi_510
theorem kin_Mo_number : k_Mo_number ∈ fs_T := wi_514
theorem kin_Mo_fault : k_Mo_fault ∈ fs_T := wi_518
theorem kin_Mo_check : k_Mo_check ∈ fs_T := wi_522
theorem kin_Mo_holds : k_Mo_holds ∈ fs_T := wi_526
theorem kin_Mo_bare : k_Mo_bare ∈ fs_T := wi_530
theorem kin_Mo_place : k_Mo_place ∈ fs_T := wi_534
theorem kin_Mo_set : k_Mo_set ∈ fs_T := wi_538
theorem kin_Mo_test : k_Mo_test ∈ fs_T := wi_542
theorem kin_Mo_run : k_Mo_run ∈ fs_T := wi_546
theorem kin_Mo_asked : k_Mo_asked ∈ fs_T := wi_549
theorem kin_Mo_plain : k_Mo_plain ∈ fs_T := wi_552
theorem kin_Mo_value : k_Mo_value ∈ fs_T := wi_556
theorem kin_Mo_steps : k_Mo_steps ∈ fs_T := wi_560
theorem kin_Mo_rule : k_Mo_rule ∈ fs_T := wi_564
theorem kin_Mo_forget : k_Mo_forget ∈ fs_T := wi_568
theorem kin_Mo_compile : k_Mo_compile ∈ fs_T := wi_572
theorem kin_Mo_install : k_Mo_install ∈ fs_T := wi_577
theorem kin_Mo_judge : k_Mo_judge ∈ fs_T := wi_581
theorem sel_Ck_firstEarlyRead : Cond.selects R_Ck y_Ck_firstEarlyRead y_Ck_firstEarlyRead ∈ fs_T := fs_inP 0 (by decide +kernel) rfl
theorem sel_Ck_passOn : Cond.selects R_Ck y_Ck_passOn y_Ck_passOn ∈ fs_T := fs_inP 1 (by decide +kernel) rfl
theorem sel_Ck_meet : Cond.selects R_Ck y_Ck_meet y_Ck_meet ∈ fs_T := fs_inP 2 (by decide +kernel) rfl
theorem sel_Ru_lengthOf : Cond.selects R_Ru y_Ru_lengthOf y_Ru_lengthOf ∈ fs_T := fs_inP 3 (by decide +kernel) rfl
theorem sel_Ru_translateOne : Cond.selects R_Ru y_Ru_translateOne y_Ru_translateOne ∈ fs_T := fs_inP 4 (by decide +kernel) rfl
theorem sel_Mc_move : Cond.selects R_Mc y_Mc_move y_Mc_move ∈ fs_T := fs_inP 5 (by decide +kernel) rfl
theorem sel_Mc_result : Cond.selects R_Mc y_Mc_result y_Mc_result ∈ fs_T := fs_inP 6 (by decide +kernel) rfl
theorem sel_Mc_distance : Cond.selects R_Mc y_Mc_distance y_Mc_distance ∈ fs_T := fs_inP 7 (by decide +kernel) rfl
theorem sel_Mc_holds : Cond.selects R_Mc y_Mc_holds y_Mc_holds ∈ fs_T := fs_inP 8 (by decide +kernel) rfl
theorem sel_Fs_goodFilter : Cond.selects R_Fs y_Fs_goodFilter y_Fs_goodFilter ∈ fs_T := fs_inP 9 (by decide +kernel) rfl
theorem sel_Mo_put : Cond.selects R_Mo y_Mo_put y_Mo_put ∈ fs_T := fs_inP 11 (by decide +kernel) rfl
theorem sel_Mo_is : Cond.selects R_Mo y_Mo_is y_Mo_is ∈ fs_T := fs_inP 12 (by decide +kernel) rfl
theorem sel_Mo_check : Cond.selects R_Mo y_Mo_check y_Mo_check ∈ fs_T := fs_inP 13 (by decide +kernel) rfl
theorem sel_Mo_holds : Cond.selects R_Mo y_Mo_holds y_Mo_holds ∈ fs_T := fs_inP 14 (by decide +kernel) rfl
theorem sel_Mo_bare : Cond.selects R_Mo y_Mo_bare y_Mo_bare ∈ fs_T := fs_inP 15 (by decide +kernel) rfl
theorem sel_Mo_run : Cond.selects R_Mo y_Mo_run y_Mo_run ∈ fs_T := fs_inP 16 (by decide +kernel) rfl
theorem uin_Ck : ∀ w ∈ u_ws R_Ck T_Ck 1, w ∈ fs_T := by
  intro w hw
  have h : w ∈ [u_lay R_Ck T_Ck 0] := hw
  simp only [List.mem_cons, List.not_mem_nil, or_false] at h
  rcases h with rfl
  · exact wi_91
theorem uin_Fi : ∀ w ∈ u_ws R_Fi T_Fi 5, w ∈ fs_T := by
  intro w hw
  have h : w ∈ [u_lay R_Fi T_Fi 0, u_lay R_Fi T_Fi 1, u_lay R_Fi T_Fi 2, u_lay R_Fi T_Fi 3, u_lay R_Fi T_Fi 4] := hw
  simp only [List.mem_cons, List.not_mem_nil, or_false] at h
  rcases h with rfl | rfl | rfl | rfl | rfl
  · exact wi_50
  · exact wi_52
  · exact wi_54
  · exact wi_56
  · exact wi_58
theorem uin_Mc : ∀ w ∈ u_ws R_Mc T_Mc 4, w ∈ fs_T := by
  intro w hw
  have h : w ∈ [u_lay R_Mc T_Mc 0, u_lay R_Mc T_Mc 1, u_lay R_Mc T_Mc 2, u_lay R_Mc T_Mc 3] := hw
  simp only [List.mem_cons, List.not_mem_nil, or_false] at h
  rcases h with rfl | rfl | rfl | rfl
  · exact wi_105
  · exact wi_107
  · exact wi_109
  · exact wi_111
theorem uin_Ru : ∀ w ∈ u_ws R_Ru T_Ru 5, w ∈ fs_T := by
  intro w hw
  have h : w ∈ [u_lay R_Ru T_Ru 0, u_lay R_Ru T_Ru 1, u_lay R_Ru T_Ru 2, u_lay R_Ru T_Ru 3, u_lay R_Ru T_Ru 4] := hw
  simp only [List.mem_cons, List.not_mem_nil, or_false] at h
  rcases h with rfl | rfl | rfl | rfl | rfl
  · exact wi_73
  · exact wi_75
  · exact wi_77
  · exact wi_79
  · exact wi_81
theorem uin_Fs : ∀ w ∈ u_ws R_Fs T_Fs 7, w ∈ fs_T := by
  intro w hw
  have h : w ∈ [u_lay R_Fs T_Fs 0, u_lay R_Fs T_Fs 1, u_lay R_Fs T_Fs 2, u_lay R_Fs T_Fs 3, u_lay R_Fs T_Fs 4, u_lay R_Fs T_Fs 5, u_lay R_Fs T_Fs 6] := hw
  simp only [List.mem_cons, List.not_mem_nil, or_false] at h
  rcases h with rfl | rfl | rfl | rfl | rfl | rfl | rfl
  · exact wi_121
  · exact wi_123
  · exact wi_125
  · exact wi_127
  · exact wi_129
  · exact wi_131
  · exact wi_133
theorem uin_Mo : ∀ w ∈ u_ws R_Mo T_Mo 16, w ∈ fs_T := by
  intro w hw
  have h : w ∈ [u_lay R_Mo T_Mo 0, u_lay R_Mo T_Mo 1, u_lay R_Mo T_Mo 2, u_lay R_Mo T_Mo 3, u_lay R_Mo T_Mo 4, u_lay R_Mo T_Mo 5, u_lay R_Mo T_Mo 6, u_lay R_Mo T_Mo 7, u_lay R_Mo T_Mo 8, u_lay R_Mo T_Mo 9, u_lay R_Mo T_Mo 10, u_lay R_Mo T_Mo 11, u_lay R_Mo T_Mo 12, u_lay R_Mo T_Mo 13, u_lay R_Mo T_Mo 14, u_lay R_Mo T_Mo 15] := hw
  simp only [List.mem_cons, List.not_mem_nil, or_false] at h
  rcases h with rfl | rfl | rfl | rfl | rfl | rfl | rfl | rfl | rfl | rfl | rfl | rfl | rfl | rfl | rfl | rfl
  · exact wi_446
  · exact wi_448
  · exact wi_450
  · exact wi_452
  · exact wi_454
  · exact wi_456
  · exact wi_458
  · exact wi_460
  · exact wi_462
  · exact wi_464
  · exact wi_466
  · exact wi_468
  · exact wi_470
  · exact wi_472
  · exact wi_474
  · exact wi_476
end
section
/-! my own rows: contracts in one shape, one row a call, one row a return, loops -/
section FSR
variable {p : Program} {l : Launch} {e : Env} {R : Room} {s : State} {m : MethodId} {args : Array Value} {below : List Frame} {meth : Method} {c : Code} {H : Heap} {locs : List Loc} {cells slots : Nat} {Q : State → Prop}
variable {cc : ByteArray} {pc : Nat} {ls : Array Slot} {rest : List Value} {D : va_G} {cl : List vw_C} {A : Nat → Prop} {a : Nat} {tys : List (ClassId × FieldType)} {ws : va_W} {H0 : Heap}
theorem fs_eqi {x v : Int32} (h : x = v) (k : W p l e R s m args below meth c H locs cells slots Q (F0 m pc ls (.int v :: rest))) : W p l e R s m args below meth c H locs cells slots Q (F0 m pc ls (.int x :: rest)) := by
  subst h
  exact k
theorem fs_eql {x v : Int64} (h : x = v) (k : W p l e R s m args below meth c H locs cells slots Q (F0 m pc ls (.long v :: rest))) : W p l e R s m args below meth c H locs cells slots Q (F0 m pc ls (.long x :: rest)) := by
  subst h
  exact k
theorem fs_eqv {x v : Value} (h : x = v) (k : W p l e R s m args below meth c H locs cells slots Q (F0 m pc ls (v :: rest))) : W p l e R s m args below meth c H locs cells slots Q (F0 m pc ls (x :: rest)) := by
  subst h
  exact k
/-- an int array is read at a natural index -/
theorem fs_iald (hexec : p.tables.exec = Jvm.exec) (hb : c.code = cc) (hK : va_K D cl tys s) (hP : va_P D cl ws H) (q0 t0 : Nat) {cA : ClassId} {n : Nat} {f : Nat → Int32} (ha : ws[q0]? = some (a, .inl (cA, n, .inl f))) (ht : tys[t0]? = some (cA, .int)) {i : Int32} (j : Nat) (hi : i = nI j) (hn : n < 2 ^ 31) (hj : j < n) {v : Int32} (hv : f j = v) (hdg : decode cc pc = .ok (.iaload, 1))
    (kk : W p l e R s m args below meth c H locs cells slots Q (F0 m (pc + 1) ls (.int v :: rest))) : W p l e R s m args below meth c H locs cells slots Q (F0 m pc ls (.int i :: .ref a :: rest)) := by
  subst hi
  subst hv
  refine va_iald hexec hb hK hP q0 t0 ha ht (vp_in_nI hj hn) hdg ?_
  rw [nI_clamp (Nat.lt_trans hj hn)]
  exact kk
theorem fs_zald (hexec : p.tables.exec = Jvm.exec) (hb : c.code = cc) (hK : va_K D cl tys s) (hP : va_P D cl ws H) (q0 t0 : Nat) {cA : ClassId} {n : Nat} {f : Nat → Int32} (ha : ws[q0]? = some (a, .inl (cA, n, .inl f))) (ht : tys[t0]? = some (cA, .boolean)) {i : Int32} (j : Nat) (hi : i = nI j) (hn : n < 2 ^ 31) (hj : j < n) {v : Int32} (hv : f j = v) (hdg : decode cc pc = .ok (.baload, 1))
    (kk : W p l e R s m args below meth c H locs cells slots Q (F0 m (pc + 1) ls (.int v :: rest))) : W p l e R s m args below meth c H locs cells slots Q (F0 m pc ls (.int i :: .ref a :: rest)) := by
  subst hi
  subst hv
  refine va_zald hexec hb hK hP q0 t0 ha ht (vp_in_nI hj hn) hdg ?_
  rw [nI_clamp (Nat.lt_trans hj hn)]
  exact kk
theorem fs_iast (hexec : p.tables.exec = Jvm.exec) (hb : c.code = cc) (hK : va_K D cl tys s) (hP : va_P D cl ws H) (hD : va_D A ws) (hS : va_S A H0 H locs) (q0 t0 : Nat) {cA : ClassId} {n : Nat} {f : Nat → Int32} (ha : ws[q0]? = some (a, .inl (cA, n, .inl f))) (ht : tys[t0]? = some (cA, .int)) {i : Int32} {x : Int32} (j : Nat) (hi : i = nI j) (hn : n < 2 ^ 31) (hj : j < n) (hdg : decode cc pc = .ok (.iastore, 1))
    (kk : ∀ (H1 : Heap) (locs1 : List Loc), va_P D cl (ws.set q0 (a, .inl (cA, n, .inl (upd f j x)))) H1 → va_D A (ws.set q0 (a, .inl (cA, n, .inl (upd f j x)))) → va_S A H0 H1 locs1 → W p l e R s m args below meth c H1 locs1 cells slots Q (F0 m (pc + 1) ls rest)) : W p l e R s m args below meth c H locs cells slots Q (F0 m pc ls (.int x :: .int i :: .ref a :: rest)) := by
  subst hi
  refine va_iast hexec hb hK hP hD hS q0 t0 ha ht (vp_in_nI hj hn) hdg ?_
  rw [nI_clamp (Nat.lt_trans hj hn)]
  exact kk
theorem fs_zast (hexec : p.tables.exec = Jvm.exec) (hb : c.code = cc) (hK : va_K D cl tys s) (hP : va_P D cl ws H) (hD : va_D A ws) (hS : va_S A H0 H locs) (q0 t0 : Nat) {cA : ClassId} {n : Nat} {f : Nat → Int32} (ha : ws[q0]? = some (a, .inl (cA, n, .inl f))) (ht : tys[t0]? = some (cA, .boolean)) {i : Int32} {x : Int32} (j : Nat) (hi : i = nI j) (hn : n < 2 ^ 31) (hj : j < n) (hx : vp_nar .boolean x = x) (hdg : decode cc pc = .ok (.bastore, 1))
    (kk : ∀ (H1 : Heap) (locs1 : List Loc), va_P D cl (ws.set q0 (a, .inl (cA, n, .inl (upd f j x)))) H1 → va_D A (ws.set q0 (a, .inl (cA, n, .inl (upd f j x)))) → va_S A H0 H1 locs1 → W p l e R s m args below meth c H1 locs1 cells slots Q (F0 m (pc + 1) ls rest)) : W p l e R s m args below meth c H locs cells slots Q (F0 m pc ls (.int x :: .int i :: .ref a :: rest)) := by
  subst hi
  refine va_zast hexec hb hK hP hD hS q0 t0 ha ht (vp_in_nI hj hn) hdg ?_
  rw [nI_clamp (Nat.lt_trans hj hn), hx]
  exact kk
/-- a loop: an invariant over a state of my own, the heap, the locals; a measure that falls -/
theorem fs_loop {σ : Type} (μ : σ → Nat) (I : σ → Heap → List Loc → Array Slot → Prop)
    (step : ∀ (x : σ) (H : Heap) (locs : List Loc) (ls : Array Slot), I x H locs ls → (∀ (y : σ) (H' : Heap) (locs' : List Loc) (ls' : Array Slot), μ y < μ x → I y H' locs' ls' → W p l e R s m args below meth c H' locs' cells slots Q (F0 m pc ls' rest)) → W p l e R s m args below meth c H locs cells slots Q (F0 m pc ls rest))
    (x : σ) (h : I x H locs ls) : W p l e R s m args below meth c H locs cells slots Q (F0 m pc ls rest) := by
  have key : ∀ (n : Nat) (x : σ) (H : Heap) (locs : List Loc) (ls : Array Slot), μ x < n → I x H locs ls → W p l e R s m args below meth c H locs cells slots Q (F0 m pc ls rest) := by
    intro n
    induction n with
    | zero => intro x H locs ls h; omega
    | succ n ih => intro x H locs ls hn hI; exact step x H locs ls hI (fun y H' locs' ls' hlt hI' => ih y H' locs' ls' (by omega) hI')
  exact key (μ x + 1) x H locs ls (by omega) h
/-- ways that meet again: the rest once, for every state with J -/
theorem fs_meet {σ : Type} {pc2 : Nat} {g : JFrame} (J : σ → Heap → List Loc → Array Slot → List Value → Prop)
    (main : (∀ (x : σ) (H : Heap) (locs : List Loc) (ls : Array Slot) (st : List Value), J x H locs ls st → W p l e R s m args below meth c H locs cells slots Q (F0 m pc2 ls st)) → W p l e R s m args below meth c H locs cells slots Q g)
    (k : ∀ (x : σ) (H : Heap) (locs : List Loc) (ls : Array Slot) (st : List Value), J x H locs ls st → W p l e R s m args below meth c H locs cells slots Q (F0 m pc2 ls st)) : W p l e R s m args below meth c H locs cells slots Q g := main k
end FSR
/-- the world of a method's start -/
def fs_B (D : va_G) (cl : List vw_C) (tys : List (ClassId × FieldType)) (w : va_W) (sz : Nat) (U : State) : Prop := U.heap.size = sz ∧ va_P D cl w U.heap ∧ va_K D cl tys U ∧ va_D (fun _ => True) w
/-- the world behind it -/
def fs_E (D : va_G) (cl : List vw_C) (tys : List (ClassId × FieldType)) (A : Nat → Prop) (w : va_W) (t : State) : Prop := va_P D cl w t.heap ∧ va_K D cl tys t ∧ va_D A w
/-- a contract whose answer is an int (a boolean: 0 or 1) -/
def fs_I (l : Launch) (y : MethodName) (ws : List Cond) (rm : Room) (D : va_G) (cl : List vw_C) (tys : List (ClassId × FieldType)) (av : List Value) (w : va_W) (sz : Nat) {S : Type} (post : Int32 → S → Prop) (w1 : S → va_W) (mc ms : Nat) : Prop :=
  Met l y ws rm (va_Pc av (fs_B D cl tys w sz)) (va_Qi post (fun u t => fs_E D cl tys (va_A w sz) (w1 u) t) (va_A w sz)) mc ms (va_A w sz)
/-- .. that answers nothing -/
def fs_V (l : Launch) (y : MethodName) (ws : List Cond) (rm : Room) (D : va_G) (cl : List vw_C) (tys : List (ClassId × FieldType)) (av : List Value) (w : va_W) (sz : Nat) {S : Type} (post : S → Prop) (w1 : S → va_W) (mc ms : Nat) : Prop :=
  Met l y ws rm (va_Pc av (fs_B D cl tys w sz)) (va_Qv post (fun u t => fs_E D cl tys (va_A w sz) (w1 u) t) (va_A w sz)) mc ms (va_A w sz)
/-- .. that answers a long -/
def fs_L (l : Launch) (y : MethodName) (ws : List Cond) (rm : Room) (D : va_G) (cl : List vw_C) (tys : List (ClassId × FieldType)) (av : List Value) (w : va_W) (sz : Nat) {S : Type} (post : Int64 → S → Prop) (w1 : S → va_W) (mc ms : Nat) : Prop :=
  Met l y ws rm (va_Pc av (fs_B D cl tys w sz)) (va_Ql post (fun u t => fs_E D cl tys (va_A w sz) (w1 u) t) (va_A w sz)) mc ms (va_A w sz)
/-- the head of every method -/
theorem fs_head {l : Launch} {y : MethodName} {rm : Room} {D : va_G} {cl : List vw_C} {tys : List (ClassId × FieldType)} {av : List Value} {w : va_W} {sz : Nat} {Qc : Array Value → State → Outcome → State → Prop} {mc ms : Nat} {cc : ByteArray} {maxL : Nat} {ret : Option FieldType}
    (hy : plainName y.cls = true) (hav : (lg_sl av).length ≤ maxL)
    (body : ∀ (p : Program) (e : Env) (s : State) (m : MethodId) (below : List Frame) (meth : Method) (c : Code) (A : Nat → Prop) (ls : Array Slot), p.tables.exec = Jvm.exec → c.code = cc → meth.sig.returnType = ret → (∀ w ∈ fs_T, w.before av.toArray s = true) → s.vm.findClass y.cls = some m.cls → meth.locks = false → meth.name = y.name → c.maxLocals = maxL → va_K D cl tys s → va_P D cl w s.heap → va_D A w → va_S A s.heap s.heap [] → (∀ q, s.heap.size ≤ q → A q) → va_A w sz = A → s.heap.size = sz → lv_has ls maxL (lv_args 0 av) →
      W p l e rm s m av.toArray below meth c s.heap [] 0 0 (MQ below Qc av.toArray s mc ms (va_A w sz)) (F0 m 0 ls [])) :
    Met l y (Cond.code y cc maxL ret :: fs_T) rm (va_Pc av (fs_B D cl tys w sz)) Qc mc ms (va_A w sz) := by
  refine Met.ofW (cc := cc) (maxL := maxL) (ret := ret) hy rfl ?_
  intro p e s m args below meth c s₁ B hml hv
  obtain ⟨rfl, hsz, hP, hK, hD0⟩ := hv
  have hx := B.exec
  have hb := B.bytes
  have hr := B.returns
  have hts := atoms_spec (ws := Cond.code y cc maxL ret :: fs_T) B.pre
  have hown : s.vm.findClass y.cls = some m.cls := findClass_of_methodNamed B.named
  have hlocks := B.notSynchronized
  have hin : meth.name = y.name := (name_of_methodNamed B.named B.method).1
  have hD := hD0.self (sz := sz)
  have hl := lv_entry av (n := maxL) hav
  rw [lg_entry_eq]
  exact body p e s m below meth c (va_A w sz) _ hx hb hr (fun w h => hts w (List.mem_cons_of_mem _ h)) hown hlocks hin hml hK hP hD va_S.rf (fun q h => Or.inr (hsz ▸ h)) rfl hsz hl
section FSC
variable {p : Program} {l : Launch} {e : Env} {R : Room} {s : State} {m : MethodId} {args : Array Value} {below : List Frame} {meth : Method} {c : Code} {H : Heap} {locs : List Loc} {cells slots : Nat} {Q : State → Prop}
variable {cc : ByteArray} {pc : Nat} {ls : Array Slot} {rest st0 : List Value} {D : va_G} {cl : List vw_C} {A : Nat → Prop} {a : Nat} {tys : List (ClassId × FieldType)} {ws : va_W} {H0 : Heap} {mc ms sz : Nat} {w wc wr : va_W} {aa : Array Value} {av : List Value}
theorem fs_blind : FrameBlind (va_Pc av (fs_B D cl tys w sz)) := fun a U g mk q => by
  obtain ⟨q0, q1, qP, qK, qD⟩ := q
  exact ⟨q0, q1, qP, va_K.moved (u := U) (U := U.calling g mk a) (Vm.Alike.refl U.vm) qK, qD⟩
theorem fs_preS (hP : va_P D cl w H) (hK : va_K D cl tys s) (hD : va_D A w) : PreS s H (va_Pc av (fs_B D cl tys w H.size)) av :=
  ⟨fs_blind, fun U hU hW => ⟨rfl, by rw [hU], by rw [hU]; exact hP, va_K.moved hW.alike hK, hD.weaken (fun _ _ _ _ => trivial)⟩⟩
theorem fs_preV {C : String} {T : u_T} {N ci b q0 : Nat} {fs : List Value} {As : List Value} (he : w[q0]? = some (b, .inr (ci, fs))) (hc : cl[ci]? = some (C, T, N)) (hP : va_P D cl w H) (hK : va_K D cl tys s) (hD : va_D A w) : PreV s H C b (va_Pc (.ref b :: As) (fs_B D cl tys w H.size)) As :=
  ⟨fs_blind, va_recv hK hP hc he, fun U hU hW => ⟨rfl, by rw [hU], by rw [hU]; exact hP, va_K.moved hW.alike hK, hD.weaken (fun _ _ _ _ => trivial)⟩⟩
theorem fs_calli {S : Type} {post : Int32 → S → Prop} {w1 : S → va_W} (isC isR : List Nat) (hP : va_P D cl ws H) (hD : va_D A ws) (hK : va_K D cl tys s) (hS : va_S A H0 H locs) (hA : ∀ q, H0.size ≤ q → A q) (hC : isC.map (fun i => ws[i]?) = wc.map some) (hR : isR.map (fun i => ws[i]?) = wr.map some) (hn : va_nd isR = true) (hdis : ∀ i ∈ isR, i ∉ isC)
    (run : va_P D cl wc H → va_D A wc → va_Run p l e R s m args below meth c H locs cells slots mc ms (F0 m pc ls st0) rest (va_Qi post (fun u t => fs_E D cl tys (va_A wc H.size) (w1 u) t) (va_A wc H.size) aa) (va_A wc H.size))
    (hnc : va_nd isC = true)
    (kk : ∀ (r : Int32) (u : S) (H1 : Heap) (locs1 : List Loc), post r u → va_P D cl (wr ++ w1 u) H1 → va_D A (wr ++ w1 u) → va_S A H0 H1 locs1 → W p l e R s m args below meth c H1 locs1 (cells + mc) (slots + ms) Q (F0 m (pc + 3) ls (.int r :: rest))) : W p l e R s m args below meth c H locs cells slots Q (F0 m pc ls st0) := by
  have hF := va_free (wc := wc) hD hS hA isC hC
  have hPc : va_P D cl wc H := hP.sub isC (by
    have h := congrArg (List.filterMap id) hC
    rw [List.filterMap_map, List.filterMap_map] at h
    simpa using h)
  refine va_calli (run hPc (hD.sub isC hnc hC)) hS (fun q _ h => hF q h) hF (fun r u t H1 locs1 ht hvm hp hB hz hk hS1 => ?_)
  obtain ⟨hP1, hK1, hD1⟩ := hB
  rw [ht] at hP1
  obtain ⟨hP2, hD2⟩ := va_join (wr := wr) (w1 := w1 u) hP hD isC isR hC hR hn hdis hk hF hP1 hD1
  exact kk r u H1 locs1 hp hP2 hD2 hS1
theorem fs_callv {S : Type} {post : S → Prop} {w1 : S → va_W} (isC isR : List Nat) (hP : va_P D cl ws H) (hD : va_D A ws) (hK : va_K D cl tys s) (hS : va_S A H0 H locs) (hA : ∀ q, H0.size ≤ q → A q) (hC : isC.map (fun i => ws[i]?) = wc.map some) (hR : isR.map (fun i => ws[i]?) = wr.map some) (hn : va_nd isR = true) (hdis : ∀ i ∈ isR, i ∉ isC)
    (run : va_P D cl wc H → va_D A wc → va_Run p l e R s m args below meth c H locs cells slots mc ms (F0 m pc ls st0) rest (va_Qv post (fun u t => fs_E D cl tys (va_A wc H.size) (w1 u) t) (va_A wc H.size) aa) (va_A wc H.size))
    (hnc : va_nd isC = true)
    (kk : ∀ (u : S) (H1 : Heap) (locs1 : List Loc), post u → va_P D cl (wr ++ w1 u) H1 → va_D A (wr ++ w1 u) → va_S A H0 H1 locs1 → W p l e R s m args below meth c H1 locs1 (cells + mc) (slots + ms) Q (F0 m (pc + 3) ls rest)) : W p l e R s m args below meth c H locs cells slots Q (F0 m pc ls st0) := by
  have hF := va_free (wc := wc) hD hS hA isC hC
  have hPc : va_P D cl wc H := hP.sub isC (by
    have h := congrArg (List.filterMap id) hC
    rw [List.filterMap_map, List.filterMap_map] at h
    simpa using h)
  refine va_callv (run hPc (hD.sub isC hnc hC)) hS (fun q _ h => hF q h) hF (fun u t H1 locs1 ht hvm hp hB hz hk hS1 => ?_)
  obtain ⟨hP1, hK1, hD1⟩ := hB
  rw [ht] at hP1
  obtain ⟨hP2, hD2⟩ := va_join (wr := wr) (w1 := w1 u) hP hD isC isR hC hR hn hdis hk hF hP1 hD1
  exact kk u H1 locs1 hp hP2 hD2 hS1
theorem fs_calll {S : Type} {post : Int64 → S → Prop} {w1 : S → va_W} (isC isR : List Nat) (hP : va_P D cl ws H) (hD : va_D A ws) (hK : va_K D cl tys s) (hS : va_S A H0 H locs) (hA : ∀ q, H0.size ≤ q → A q) (hC : isC.map (fun i => ws[i]?) = wc.map some) (hR : isR.map (fun i => ws[i]?) = wr.map some) (hn : va_nd isR = true) (hdis : ∀ i ∈ isR, i ∉ isC)
    (run : va_P D cl wc H → va_D A wc → va_Run p l e R s m args below meth c H locs cells slots mc ms (F0 m pc ls st0) rest (va_Ql post (fun u t => fs_E D cl tys (va_A wc H.size) (w1 u) t) (va_A wc H.size) aa) (va_A wc H.size))
    (hnc : va_nd isC = true)
    (kk : ∀ (r : Int64) (u : S) (H1 : Heap) (locs1 : List Loc), post r u → va_P D cl (wr ++ w1 u) H1 → va_D A (wr ++ w1 u) → va_S A H0 H1 locs1 → W p l e R s m args below meth c H1 locs1 (cells + mc) (slots + ms) Q (F0 m (pc + 3) ls (.long r :: rest))) : W p l e R s m args below meth c H locs cells slots Q (F0 m pc ls st0) := by
  have hF := va_free (wc := wc) hD hS hA isC hC
  have hPc : va_P D cl wc H := hP.sub isC (by
    have h := congrArg (List.filterMap id) hC
    rw [List.filterMap_map, List.filterMap_map] at h
    simpa using h)
  refine va_calll (run hPc (hD.sub isC hnc hC)) hS (fun q _ h => hF q h) hF (fun r u t H1 locs1 ht hvm hp hB hz hk hS1 => ?_)
  obtain ⟨hP1, hK1, hD1⟩ := hB
  rw [ht] at hP1
  obtain ⟨hP2, hD2⟩ := va_join (wr := wr) (w1 := w1 u) hP hD isC isR hC hR hn hdis hk hF hP1 hD1
  exact kk r u H1 locs1 hp hP2 hD2 hS1
/-- the returns -/
theorem fs_iret {S : Type} {post : Int32 → S → Prop} {w1 : S → va_W} {v : Int32} (hexec : p.tables.exec = Jvm.exec) (hb : c.code = cc) (hr : meth.sig.returnType = some .int) (hlocks : meth.locks = false) (hA : va_A w sz = A) (hK : va_K D cl tys s) (hS : va_S A s.heap H locs) (hdg : decode cc pc = .ok (.ireturn, 1)) (u : S) (hp : post v u) (hP : va_P D cl (w1 u) H) (hD : va_D A (w1 u)) :
    W p l e R s m args below meth c H locs cells slots (MQ below (va_Qi post (fun u t => fs_E D cl tys (va_A w sz) (w1 u) t) (va_A w sz)) args s cells slots (va_A w sz)) (F0 m pc ls [.int v]) := by
  subst hA
  exact W.iret hexec hb hr (fun t ht hW => ⟨⟨v, u, rfl, hp, by rw [ht]; exact hP, va_K.moved hW.alike hK, hD⟩, hS.F ht⟩) hS.2.2 hdg hlocks
theorem fs_zret {S : Type} {post : Int32 → S → Prop} {w1 : S → va_W} {v : Int32} (hexec : p.tables.exec = Jvm.exec) (hb : c.code = cc) (hr : meth.sig.returnType = some .boolean) (hlocks : meth.locks = false) (hA : va_A w sz = A) (hK : va_K D cl tys s) (hS : va_S A s.heap H locs) (hdg : decode cc pc = .ok (.ireturn, 1)) (hn : narrow .boolean (.int v) = .int v) (u : S) (hp : post v u) (hP : va_P D cl (w1 u) H) (hD : va_D A (w1 u)) :
    W p l e R s m args below meth c H locs cells slots (MQ below (va_Qi post (fun u t => fs_E D cl tys (va_A w sz) (w1 u) t) (va_A w sz)) args s cells slots (va_A w sz)) (F0 m pc ls [.int v]) := by
  subst hA
  exact W.zret hexec hb hr hn (fun t ht hW => ⟨⟨v, u, rfl, hp, by rw [ht]; exact hP, va_K.moved hW.alike hK, hD⟩, hS.F ht⟩) hS.2.2 hdg hlocks
theorem fs_vret {S : Type} {post : S → Prop} {w1 : S → va_W} (hexec : p.tables.exec = Jvm.exec) (hb : c.code = cc) (hr : meth.sig.returnType = none) (hlocks : meth.locks = false) (hA : va_A w sz = A) (hK : va_K D cl tys s) (hS : va_S A s.heap H locs) (hdg : decode cc pc = .ok (.return_, 1)) (u : S) (hp : post u) (hP : va_P D cl (w1 u) H) (hD : va_D A (w1 u)) :
    W p l e R s m args below meth c H locs cells slots (MQ below (va_Qv post (fun u t => fs_E D cl tys (va_A w sz) (w1 u) t) (va_A w sz)) args s cells slots (va_A w sz)) (F0 m pc ls []) := by
  subst hA
  exact W.vret hexec hb hr (fun t ht hW => ⟨⟨u, rfl, hp, by rw [ht]; exact hP, va_K.moved hW.alike hK, hD⟩, hS.F ht⟩) hS.2.2 hdg hlocks
theorem fs_lret {S : Type} {post : Int64 → S → Prop} {w1 : S → va_W} {v : Int64} (hexec : p.tables.exec = Jvm.exec) (hb : c.code = cc) (hr : meth.sig.returnType = some .long) (hlocks : meth.locks = false) (hA : va_A w sz = A) (hK : va_K D cl tys s) (hS : va_S A s.heap H locs) (hdg : decode cc pc = .ok (.lreturn, 1)) (u : S) (hp : post v u) (hP : va_P D cl (w1 u) H) (hD : va_D A (w1 u)) :
    W p l e R s m args below meth c H locs cells slots (MQ below (va_Ql post (fun u t => fs_E D cl tys (va_A w sz) (w1 u) t) (va_A w sz)) args s cells slots (va_A w sz)) (F0 m pc ls [.long v]) := by
  subst hA
  exact W.lret hexec hb hr (fun t ht hW => ⟨⟨v, u, rfl, hp, by rw [ht]; exact hP, va_K.moved hW.alike hK, hD⟩, hS.F ht⟩) hS.2.2 hdg hlocks
end FSC
/-- the kinds of arrays -/
abbrev fs_tys (cI cZ cJ cF : ClassId) : List (ClassId × FieldType) := [(cI, .int), (cZ, .boolean), (cJ, .long), (cF, .object "FilterStack$Filter")]
theorem fs_g {y : MethodName} {cy : ByteArray} {ny : Nat} {ry : Option FieldType} (hy : Cond.code y cy ny ry ∈ fs_T) : GoodIn fs_T (Cond.code y cy ny ry :: fs_T) := by
  intro w hw
  rcases List.mem_cons.mp hw with rfl | h
  · exact ⟨hy, good_of_word (List.mem_filter.mp hy).2⟩
  · exact ⟨h, good_of_word (List.mem_filter.mp h).2⟩
theorem fs_incN (e n : Nat) : nI e + Int32.ofInt (n : Int) = nI (e + n) := by
  rw [show Int32.ofInt (n : Int) = nI n from by unfold nI; rfl]
  exact nI_add e n
theorem fs_decN {e n : Nat} (h : n ≤ e) : nI e + Int32.ofInt (-(n : Int)) = nI (e - n) := by
  rw [show Int32.ofInt (-(n : Int)) = - nI n from by unfold nI; rw [Int32.ofInt_neg]; rfl, ← Int32.sub_eq_add_neg]
  exact pk_sub h
/-! comparisons of ints as whole numbers -/
theorem fs_lt0 {x : Int32} : x < 0 ↔ x.toInt < 0 := by rw [Int32.lt_iff_toInt_lt]; rfl
theorem fs_ge0 {x : Int32} : 0 ≤ x ↔ 0 ≤ x.toInt := by rw [Int32.le_iff_toInt_le]; rfl
theorem fs_gt0 {x : Int32} : 0 < x ↔ 0 < x.toInt := by rw [Int32.lt_iff_toInt_lt]; rfl
theorem fs_le0 {x : Int32} : x ≤ 0 ↔ x.toInt ≤ 0 := by rw [Int32.le_iff_toInt_le]; rfl
theorem fs_eq0 {x : Int32} : x = 0 ↔ x.toInt = 0 := by rw [← Int32.toInt_inj]; rfl
theorem fs_ltN {x : Int32} {n : Nat} (h : n < 2 ^ 31) : x < nI n ↔ x.toInt < (n : Int) := by rw [Int32.lt_iff_toInt_lt, nI_toInt h]
theorem fs_Nlt {x : Int32} {n : Nat} (h : n < 2 ^ 31) : nI n < x ↔ (n : Int) < x.toInt := by rw [Int32.lt_iff_toInt_lt, nI_toInt h]
theorem fs_leN {x : Int32} {n : Nat} (h : n < 2 ^ 31) : x ≤ nI n ↔ x.toInt ≤ (n : Int) := by rw [Int32.le_iff_toInt_le, nI_toInt h]
theorem fs_Nle {x : Int32} {n : Nat} (h : n < 2 ^ 31) : nI n ≤ x ↔ (n : Int) ≤ x.toInt := by rw [Int32.le_iff_toInt_le, nI_toInt h]
theorem fs_eqN {x : Int32} {n : Nat} (h : n < 2 ^ 31) : x = nI n ↔ x.toInt = (n : Int) := by rw [← Int32.toInt_inj, nI_toInt h]
theorem fs_Neq {x : Int32} {n : Nat} (h : n < 2 ^ 31) : nI n = x ↔ (n : Int) = x.toInt := by rw [← Int32.toInt_inj, nI_toInt h]
theorem fs_of {x : Int32} {n : Nat} (hn : n < 2 ^ 31) (h0 : 0 ≤ x.toInt) (h : x.toInt < (n : Int)) : ∃ j : Nat, j < n ∧ x = nI j := ⟨x.toInt.toNat, by omega, (fs_eqN (by omega)).mpr (by omega)⟩
theorem fs_clampI {x : Int32} (h : 0 ≤ x.toInt) : (x.toNatClampNeg : Int) = x.toInt := by
  show ((x.toInt.toNat : Nat) : Int) = x.toInt
  omega
theorem fs_clampN {x : Int32} (h : 0 ≤ x.toInt) : x = nI x.toNatClampNeg := by
  have h1 := fs_clampI h
  have h2 := x.toInt_lt
  exact (fs_eqN (by omega)).mpr h1.symm
/-- an array's contents count below its length alone -/
theorem fs_cellc {cA : ClassId} {n : Nat} {f g : Nat → Int32} (h : ∀ j, j < n → f j = g j) : vp_cell cA (n, .inl f) = vp_cell cA (n, .inl g) := by
  show arrV cA n (fun j => .int (f j)) = arrV cA n (fun j => .int (g j))
  unfold arrV
  congr 1
  apply Array.ext
  · simp
  · intro i h1 h2
    simp at h1
    simp [h i h1]
theorem fs_atc {D : va_G} {cl : List vw_C} {a : Nat} {cA : ClassId} {n : Nat} {f g : Nat → Int32} {ws ws' : va_W} {H : Heap} {A : Nat → Prop} (k : Nat) (h : ∀ j, j < n → f j = g j) (hk : ws[k]? = some (a, .inl (cA, n, .inl f))) (hw : ws.set k (a, .inl (cA, n, .inl g)) = ws') (hP : va_P D cl ws H) (hD : va_D A ws) : va_P D cl ws' H ∧ va_D A ws' := by
  subst hw
  refine ⟨fun j q hj => ?_, hD.set hk⟩
  by_cases e : k = j
  · subst e
    have hlt : k < ws.length := (List.getElem?_eq_some_iff.mp hk).1
    rw [List.getElem?_set_self hlt] at hj
    cases hj
    have h1 : H[a]? = some (vp_cell cA (n, .inl f)) := hP k _ hk
    show H[a]? = some (vp_cell cA (n, .inl g))
    rw [h1, fs_cellc h]
  · rw [List.getElem?_set_ne e] at hj
    exact hP j q hj
section FSL
variable {p : Program} {l : Launch} {e : Env} {R : Room} {s : State} {m : MethodId} {args : Array Value} {below : List Frame} {meth : Method} {c : Code} {H : Heap} {locs : List Loc} {cells slots : Nat} {Q : State → Prop} {pc : Nat} {ls : Array Slot} {rest : List Value}
theorem fs_loop1 {α1 : Type} (μ : α1 → Nat) (I : α1 → Heap → List Loc → Array Slot → Prop)
    (step : ∀ (x1 : α1) (H : Heap) (locs : List Loc) (ls : Array Slot), I x1 H locs ls → (∀ (y1 : α1) (H' : Heap) (locs' : List Loc) (ls' : Array Slot), μ y1 < μ x1 → I y1 H' locs' ls' → W p l e R s m args below meth c H' locs' cells slots Q (F0 m pc ls' rest)) → W p l e R s m args below meth c H locs cells slots Q (F0 m pc ls rest))
    (x1 : α1) (h : I x1 H locs ls) : W p l e R s m args below meth c H locs cells slots Q (F0 m pc ls rest) :=
  fs_loop (σ := α1) (fun z => μ z) (fun z => I z) (fun z H locs ls hI ih => step z H locs ls hI (fun y1 H' locs' ls' hm hI' => ih y1 H' locs' ls' hm hI')) x1 h
theorem fs_loop2 {α1 α2 : Type} (μ : α1 → α2 → Nat) (I : α1 → α2 → Heap → List Loc → Array Slot → Prop)
    (step : ∀ (x1 : α1) (x2 : α2) (H : Heap) (locs : List Loc) (ls : Array Slot), I x1 x2 H locs ls → (∀ (y1 : α1) (y2 : α2) (H' : Heap) (locs' : List Loc) (ls' : Array Slot), μ y1 y2 < μ x1 x2 → I y1 y2 H' locs' ls' → W p l e R s m args below meth c H' locs' cells slots Q (F0 m pc ls' rest)) → W p l e R s m args below meth c H locs cells slots Q (F0 m pc ls rest))
    (x1 : α1) (x2 : α2) (h : I x1 x2 H locs ls) : W p l e R s m args below meth c H locs cells slots Q (F0 m pc ls rest) :=
  fs_loop (σ := α1 × α2) (fun z => μ z.1 z.2) (fun z => I z.1 z.2) (fun z H locs ls hI ih => step z.1 z.2 H locs ls hI (fun y1 y2 H' locs' ls' hm hI' => ih (y1, y2) H' locs' ls' hm hI')) (x1, x2) h
theorem fs_loop3 {α1 α2 α3 : Type} (μ : α1 → α2 → α3 → Nat) (I : α1 → α2 → α3 → Heap → List Loc → Array Slot → Prop)
    (step : ∀ (x1 : α1) (x2 : α2) (x3 : α3) (H : Heap) (locs : List Loc) (ls : Array Slot), I x1 x2 x3 H locs ls → (∀ (y1 : α1) (y2 : α2) (y3 : α3) (H' : Heap) (locs' : List Loc) (ls' : Array Slot), μ y1 y2 y3 < μ x1 x2 x3 → I y1 y2 y3 H' locs' ls' → W p l e R s m args below meth c H' locs' cells slots Q (F0 m pc ls' rest)) → W p l e R s m args below meth c H locs cells slots Q (F0 m pc ls rest))
    (x1 : α1) (x2 : α2) (x3 : α3) (h : I x1 x2 x3 H locs ls) : W p l e R s m args below meth c H locs cells slots Q (F0 m pc ls rest) :=
  fs_loop (σ := α1 × α2 × α3) (fun z => μ z.1 z.2.1 z.2.2) (fun z => I z.1 z.2.1 z.2.2) (fun z H locs ls hI ih => step z.1 z.2.1 z.2.2 H locs ls hI (fun y1 y2 y3 H' locs' ls' hm hI' => ih (y1, y2, y3) H' locs' ls' hm hI')) (x1, x2, x3) h
theorem fs_loop4 {α1 α2 α3 α4 : Type} (μ : α1 → α2 → α3 → α4 → Nat) (I : α1 → α2 → α3 → α4 → Heap → List Loc → Array Slot → Prop)
    (step : ∀ (x1 : α1) (x2 : α2) (x3 : α3) (x4 : α4) (H : Heap) (locs : List Loc) (ls : Array Slot), I x1 x2 x3 x4 H locs ls → (∀ (y1 : α1) (y2 : α2) (y3 : α3) (y4 : α4) (H' : Heap) (locs' : List Loc) (ls' : Array Slot), μ y1 y2 y3 y4 < μ x1 x2 x3 x4 → I y1 y2 y3 y4 H' locs' ls' → W p l e R s m args below meth c H' locs' cells slots Q (F0 m pc ls' rest)) → W p l e R s m args below meth c H locs cells slots Q (F0 m pc ls rest))
    (x1 : α1) (x2 : α2) (x3 : α3) (x4 : α4) (h : I x1 x2 x3 x4 H locs ls) : W p l e R s m args below meth c H locs cells slots Q (F0 m pc ls rest) :=
  fs_loop (σ := α1 × α2 × α3 × α4) (fun z => μ z.1 z.2.1 z.2.2.1 z.2.2.2) (fun z => I z.1 z.2.1 z.2.2.1 z.2.2.2) (fun z H locs ls hI ih => step z.1 z.2.1 z.2.2.1 z.2.2.2 H locs ls hI (fun y1 y2 y3 y4 H' locs' ls' hm hI' => ih (y1, y2, y3, y4) H' locs' ls' hm hI')) (x1, x2, x3, x4) h
theorem fs_loop5 {α1 α2 α3 α4 α5 : Type} (μ : α1 → α2 → α3 → α4 → α5 → Nat) (I : α1 → α2 → α3 → α4 → α5 → Heap → List Loc → Array Slot → Prop)
    (step : ∀ (x1 : α1) (x2 : α2) (x3 : α3) (x4 : α4) (x5 : α5) (H : Heap) (locs : List Loc) (ls : Array Slot), I x1 x2 x3 x4 x5 H locs ls → (∀ (y1 : α1) (y2 : α2) (y3 : α3) (y4 : α4) (y5 : α5) (H' : Heap) (locs' : List Loc) (ls' : Array Slot), μ y1 y2 y3 y4 y5 < μ x1 x2 x3 x4 x5 → I y1 y2 y3 y4 y5 H' locs' ls' → W p l e R s m args below meth c H' locs' cells slots Q (F0 m pc ls' rest)) → W p l e R s m args below meth c H locs cells slots Q (F0 m pc ls rest))
    (x1 : α1) (x2 : α2) (x3 : α3) (x4 : α4) (x5 : α5) (h : I x1 x2 x3 x4 x5 H locs ls) : W p l e R s m args below meth c H locs cells slots Q (F0 m pc ls rest) :=
  fs_loop (σ := α1 × α2 × α3 × α4 × α5) (fun z => μ z.1 z.2.1 z.2.2.1 z.2.2.2.1 z.2.2.2.2) (fun z => I z.1 z.2.1 z.2.2.1 z.2.2.2.1 z.2.2.2.2) (fun z H locs ls hI ih => step z.1 z.2.1 z.2.2.1 z.2.2.2.1 z.2.2.2.2 H locs ls hI (fun y1 y2 y3 y4 y5 H' locs' ls' hm hI' => ih (y1, y2, y3, y4, y5) H' locs' ls' hm hI')) (x1, x2, x3, x4, x5) h
theorem fs_loop6 {α1 α2 α3 α4 α5 α6 : Type} (μ : α1 → α2 → α3 → α4 → α5 → α6 → Nat) (I : α1 → α2 → α3 → α4 → α5 → α6 → Heap → List Loc → Array Slot → Prop)
    (step : ∀ (x1 : α1) (x2 : α2) (x3 : α3) (x4 : α4) (x5 : α5) (x6 : α6) (H : Heap) (locs : List Loc) (ls : Array Slot), I x1 x2 x3 x4 x5 x6 H locs ls → (∀ (y1 : α1) (y2 : α2) (y3 : α3) (y4 : α4) (y5 : α5) (y6 : α6) (H' : Heap) (locs' : List Loc) (ls' : Array Slot), μ y1 y2 y3 y4 y5 y6 < μ x1 x2 x3 x4 x5 x6 → I y1 y2 y3 y4 y5 y6 H' locs' ls' → W p l e R s m args below meth c H' locs' cells slots Q (F0 m pc ls' rest)) → W p l e R s m args below meth c H locs cells slots Q (F0 m pc ls rest))
    (x1 : α1) (x2 : α2) (x3 : α3) (x4 : α4) (x5 : α5) (x6 : α6) (h : I x1 x2 x3 x4 x5 x6 H locs ls) : W p l e R s m args below meth c H locs cells slots Q (F0 m pc ls rest) :=
  fs_loop (σ := α1 × α2 × α3 × α4 × α5 × α6) (fun z => μ z.1 z.2.1 z.2.2.1 z.2.2.2.1 z.2.2.2.2.1 z.2.2.2.2.2) (fun z => I z.1 z.2.1 z.2.2.1 z.2.2.2.1 z.2.2.2.2.1 z.2.2.2.2.2) (fun z H locs ls hI ih => step z.1 z.2.1 z.2.2.1 z.2.2.2.1 z.2.2.2.2.1 z.2.2.2.2.2 H locs ls hI (fun y1 y2 y3 y4 y5 y6 H' locs' ls' hm hI' => ih (y1, y2, y3, y4, y5, y6) H' locs' ls' hm hI')) (x1, x2, x3, x4, x5, x6) h
end FSL
end
section
/-! the mathematics of filters: an instruction is (operation, distance if yes, distance if no, number) -/
abbrev fx_Ins : Type := Nat × Nat × Nat × Int32
abbrev fx_Prg : Type := List fx_Ins
def fx_O (L : fx_Prg) (i : Nat) : Nat := (L.getD i (0, 0, 0, 0)).1
def fx_Y (L : fx_Prg) (i : Nat) : Nat := (L.getD i (0, 0, 0, 0)).2.1
def fx_N (L : fx_Prg) (i : Nat) : Nat := (L.getD i (0, 0, 0, 0)).2.2.1
def fx_K (L : fx_Prg) (i : Nat) : Int32 := (L.getD i (0, 0, 0, 0)).2.2.2
/-- a filter as it can be -/
def fx_ok (L : fx_Prg) : Prop := L.length ≤ 40 ∧ ∀ i, i < L.length → fx_O L i < 32 ∧ fx_Y L i < 256 ∧ fx_N L i < 256
/-- four rows that hold a filter -/
def fx_rep (L : fx_Prg) (o y n k : Nat → Int32) : Prop := ∀ i, i < L.length → o i = nI (fx_O L i) ∧ y i = nI (fx_Y L i) ∧ n i = nI (fx_N L i) ∧ k i = fx_K L i
/-- what breaks rule r at i -/
def fx_brP (L : fx_Prg) (r i : Nat) : Prop := match r with
  | 2 => (fx_O L i = 0 ∨ fx_O L i = 2 ∨ fx_O L i = 5 ∨ fx_O L i = 8 ∨ fx_O L i = 9) ∧ ((fx_K L i).toInt < 0 ∨ 16 ≤ (fx_K L i).toInt)
  | 3 => fx_O L i = 13 ∧ (fx_K L i).toInt = 0
  | 4 => (fx_O L i = 17 ∨ fx_O L i = 18) ∧ ((fx_K L i).toInt < 0 ∨ 31 < (fx_K L i).toInt)
  | 5 => (fx_O L i = 25 ∧ ((fx_K L i).toInt < 0 ∨ ((L.length - 1 - i : Nat) : Int) ≤ (fx_K L i).toInt)) ∨ (25 < fx_O L i ∧ fx_O L i < 31 ∧ (L.length - 1 - i ≤ fx_Y L i ∨ L.length - 1 - i ≤ fx_N L i))
  | 6 => i = L.length - 1 ∧ fx_O L i ≠ 31
  | _ => False
noncomputable def fx_br (L : fx_Prg) (r i : Nat) : Bool := @decide (fx_brP L r i) (Classical.propDecidable _)
theorem fx_br_t {L : fx_Prg} {r i : Nat} : fx_br L r i = true ↔ fx_brP L r i := by unfold fx_br; exact @decide_eq_true_iff _ (Classical.propDecidable _)
theorem fx_br_f {L : fx_Prg} {r i : Nat} : fx_br L r i = false ↔ ¬ fx_brP L r i := by unfold fx_br; exact @decide_eq_false_iff_not _ (Classical.propDecidable _)
/-- where i leads -/
def fx_to (L : fx_Prg) (i j : Nat) : Bool :=
  if fx_O L i = 25 then j == i + 1 + (fx_K L i).toNatClampNeg else if 25 < fx_O L i then (j == i + 1 + fx_Y L i || j == i + 1 + fx_N L i) else j == i + 1
/-- a way that hasn't stored to cell k comes to j, by steps from below i -/
def fx_cm (L : fx_Prg) (k : Int32) : Nat → Nat → Bool
  | 0, j => j == 0
  | i + 1, j => fx_cm L k i j || (fx_cm L k i i && !(fx_O L i == 31) && !((fx_O L i == 8 || fx_O L i == 9) && decide (fx_K L i = k)) && fx_to L i j)
def fx_early (L : fx_Prg) (i : Nat) : Bool := (fx_O L i == 2 || fx_O L i == 5) && fx_cm L (fx_K L i) i i
/-- the least place below n with p -/
def fx_fst (p : Nat → Bool) (n : Nat) : Option Nat := (List.range n).find? p
theorem fx_fst_some {p : Nat → Bool} {n i : Nat} (hi : i < n) (hp : p i = true) (h : ∀ j, j < i → p j = false) : fx_fst p n = some i := by
  unfold fx_fst
  rw [List.find?_range_eq_some]
  exact ⟨hp, List.mem_range.mpr hi, fun j hj => by rw [h j hj]; rfl⟩
theorem fx_fst_none {p : Nat → Bool} {n : Nat} (h : ∀ j, j < n → p j = false) : fx_fst p n = none := by
  unfold fx_fst
  rw [List.find?_range_eq_none]
  exact fun j hj => by rw [h j hj]; rfl
theorem fx_fst_of_some {p : Nat → Bool} {n i : Nat} (h : fx_fst p n = some i) : i < n ∧ p i = true ∧ ∀ j, j < i → p j = false := by
  unfold fx_fst at h
  rw [List.find?_range_eq_some] at h
  exact ⟨List.mem_range.mp h.2.1, h.1, fun j hj => by have := h.2.2 j hj; simpa using this⟩
theorem fx_fst_of_none {p : Nat → Bool} {n : Nat} (h : fx_fst p n = none) : ∀ j, j < n → p j = false := by
  unfold fx_fst at h
  rw [List.find?_range_eq_none] at h
  exact fun j hj => by have := h j hj; simpa using this
/-- the place of the first breach of rule r -/
noncomputable def fx_at (L : fx_Prg) (r : Nat) : Option Nat := if r = 1 then (if L.length = 0 then some 0 else none) else if r = 7 then fx_fst (fx_early L) L.length else fx_fst (fx_br L r) L.length
/-- the check: 0, or the rule and eight times the place -/
noncomputable def fx_chkF (L : fx_Prg) : Nat → Nat → Nat
  | 0, _ => 0
  | n + 1, r => match fx_at L r with
    | some i => r + 8 * i
    | none => fx_chkF L n (r + 1)
noncomputable def fx_chk (L : fx_Prg) : Nat := fx_chkF L 7 1
/-! a run -/
def fx_pl (x : Int32) : Int64 := x.toInt64 &&& 4294967295
def fx_dv (a k : Int32) : Int32 := (fx_pl a / fx_pl k).toInt32
def fx_val (o : Nat) (a k x : Int32) : Int32 :=
  if o = 10 then a + k else if o = 11 then a - k else if o = 12 then a * k else if o = 13 then fx_dv a k else if o = 14 then a &&& k else if o = 15 then a ||| k else if o = 16 then a ^^^ k
  else if o = 17 then a <<< (k &&& 31) else if o = 18 then (a.toUInt32 >>> (k.toUInt32 &&& Int32.toUInt32 31)).toInt32
  else if o = 19 then a + x else if o = 20 then a - x else if o = 21 then a * x else if o = 22 then fx_dv a x else if o = 23 then a &&& x else -a
def fx_ask (o : Nat) (a k x : Int32) : Bool :=
  if o = 26 then decide (a = k) else if o = 27 then decide (fx_pl k < fx_pl a) else if o = 28 then decide (fx_pl k ≤ fx_pl a) else if o = 29 then !decide (a &&& k = 0) else decide (a = x)
def fx_a (o : Nat) (a x k : Int32) (cs w : Nat → Int32) (n : Nat) : Int32 :=
  if o = 0 then w k.toNatClampNeg else if o = 1 then k else if o = 2 then cs k.toNatClampNeg else if o = 3 then nI n else if o = 7 then x else if 10 ≤ o ∧ o < 25 then fx_val o a k x else a
def fx_x (o : Nat) (a x k : Int32) (cs : Nat → Int32) : Int32 :=
  if o = 4 then k else if o = 5 then cs k.toNatClampNeg else if o = 6 then a else x
def fx_c (o : Nat) (a x k : Int32) (cs : Nat → Int32) : Nat → Int32 :=
  if o = 8 then upd cs k.toNatClampNeg a else if o = 9 then upd cs k.toNatClampNeg x else cs
def fx_d (L : fx_Prg) (i : Nat) (a x : Int32) : Nat :=
  if fx_O L i < 25 then 0 else if fx_O L i = 25 then (fx_K L i).toNatClampNeg else if fx_ask (fx_O L i) a (fx_K L i) x then fx_Y L i else fx_N L i
/-- the run: turns left, A, X, cells, place, turns done: the verdict and how many were done -/
def fx_run (L : fx_Prg) (w : Nat → Int32) : Nat → Int32 → Int32 → (Nat → Int32) → Nat → Nat → Int32 × Nat
  | 0, _, _, _, _, c => (0, c)
  | n + 1, a, x, cs, i, c => if i < L.length then
      (if fx_O L i = 31 then (if fx_Y L i = 0 then fx_K L i else a, c + 1)
      else if fx_O L i = 22 ∧ x = 0 then (0, c + 1)
      else fx_run L w n (fx_a (fx_O L i) a x (fx_K L i) cs w L.length) (fx_x (fx_O L i) a x (fx_K L i) cs) (fx_c (fx_O L i) a x (fx_K L i) cs) (i + 1 + fx_d L i a x) (c + 1))
    else (0, c)
def fx_do (L : fx_Prg) (w : Nat → Int32) : Int32 × Nat := fx_run L w 40 0 0 (fun _ => 0) 0 0
/-- rules: call, argument, mask, value -/
abbrev fx_Rule : Type := Int32 × Int32 × Int32 × Int32
def fx_one (q : fx_Rule) : fx_Prg := if q.2.1 = -1 then [(0, 0, 0, 0), (26, 0, 1, q.1), (31, 0, 0, 1006632960)]
  else [(0, 0, 0, 0), (26, 0, 4, q.1), (0, 0, 0, 4 + q.2.1), (14, 0, 0, q.2.2.1), (26, 0, 1, q.2.2.2), (31, 0, 0, 1006632960)]
def fx_cmp (rs : List fx_Rule) (v : Int32) : fx_Prg := rs.flatMap fx_one ++ [(31, 0, 0, v)]
end
section
section FI
variable {l : Launch} {dC : Nat → ClassId} {dI : Nat → Nat → Nat} {cI cZ cJ cF : ClassId}
theorem d_Fi_has_0 : decode b_Fi_has 0 = .ok (.iload_n 1, 1) := by decide +kernel
theorem d_Fi_has_1 : decode b_Fi_has 1 = .ok (.ifCond .lt 15, 3) := by decide +kernel
theorem d_Fi_has_4 : decode b_Fi_has 4 = .ok (.iload_n 1, 1) := by decide +kernel
theorem d_Fi_has_5 : decode b_Fi_has 5 = .ok (.aload_n 0, 1) := by decide +kernel
theorem d_Fi_has_6 : decode b_Fi_has 6 = .ok (.getfield 24, 3) := by decide +kernel
theorem d_Fi_has_9 : decode b_Fi_has 9 = .ok (.if_icmp .ge 7, 3) := by decide +kernel
theorem d_Fi_has_12 : decode b_Fi_has 12 = .ok (.iconst 1, 1) := by decide +kernel
theorem d_Fi_has_13 : decode b_Fi_has 13 = .ok (.goto 4, 3) := by decide +kernel
theorem d_Fi_has_16 : decode b_Fi_has 16 = .ok (.iconst 0, 1) := by decide +kernel
theorem d_Fi_has_17 : decode b_Fi_has 17 = .ok (.ireturn, 1) := by decide +kernel
set_option maxHeartbeats 4000000 in
set_option maxRecDepth 100000 in
/-- is there an instruction i -/
theorem c_Fi_has (q o y n k len : Nat) (i : Int32) (sz : Nat) (hlen : len ≤ 40) : fs_I l y_Fi_has (k_Fi_has :: fs_T) { frames := 0, cells := 0, slots := 0, locals := 0 } (dC, dI) vwCl (fs_tys cI cZ cJ cF) [.ref q, .int i] [(q, .inr (1, [.ref o, .ref y, .ref n, .ref k, .int (nI len)]))] sz (S := Unit) (fun r _ => ((∃ j, j < len ∧ i = nI j) ∧ r = nI 1) ∨ ((∀ j, j < len → i ≠ nI j) ∧ r = nI 0)) (fun _ => [(q, .inr (1, [.ref o, .ref y, .ref n, .ref k, .int (nI len)]))]) 0 0 := by
  refine fs_head (by decide) (Nat.le_of_ble_eq_true rfl) ?_
  intro p e s m below meth c A ls hx hb hr hts hown hlocks hin hml hK hP hD hS hA hAe hsz hl
  have hl : lv_has ls 2 [(0, .ref q), (1, .int i)] := hl
  have hown : s.vm.findClass R_Fi = some m.cls := hown
  refine lv_iload_n hx hb d_Fi_has_0 rfl (lv_at hl 1 rfl) ?_
  refine lv_if_lt (tgt := 16) hx hb d_Fi_has_1 (by decide) (fun hc1 => ?_) (fun hc1 => ?_)
  · refine lv_iconst (v := nI 0) hx hb d_Fi_has_16 (by decide) ?_
    exact fs_zret hx hb hr hlocks hAe hK hS d_Fi_has_17 (by decide) () (Or.inr ⟨fun j hj e => by rw [e] at hc1; exact nI_pos (by omega) hc1, rfl⟩) hP hD
  refine lv_iload_n hx hb d_Fi_has_4 rfl (lv_at hl 1 rfl) ?_
  refine lv_aload_n hx hb d_Fi_has_5 rfl (lv_at hl 0 rfl) ?_
  refine va_get (D := (dC, dI)) (ci := 1) (v := .int (nI len)) (C := R_Fi) (T := T_Fi) (N := 5) hx hb hts uin_Fi hown hK hP 0 rfl rfl 4 (by decide) (hts _ wi_46) (fun _ h9 => h9) rfl d_Fi_has_6 ?_
  refine lv_icmp_ge (tgt := 16) hx hb d_Fi_has_9 (by decide) (fun hc9 => ?_) (fun hc9 => ?_)
  · refine lv_iconst (v := nI 0) hx hb d_Fi_has_16 (by decide) ?_
    exact fs_zret hx hb hr hlocks hAe hK hS d_Fi_has_17 (by decide) () (Or.inr ⟨fun j hj e => by rw [e] at hc9; exact nI_ge hj (by omega) hc9, rfl⟩) hP hD
  refine lv_iconst (v := nI 1) hx hb d_Fi_has_12 (by decide) ?_
  refine lv_goto (tgt := 17) hx hb d_Fi_has_13 (by decide) ?_
  exact fs_zret hx hb hr hlocks hAe hK hS d_Fi_has_17 (by decide) () (by obtain ⟨j, h1, h2, _⟩ := pk_mu hc1 hc9 (by omega); exact Or.inl ⟨⟨j, h1, h2⟩, rfl⟩) hP hD

theorem d_Fi_append_0 : decode b_Fi_append 0 = .ok (.aload_n 0, 1) := by decide +kernel
theorem d_Fi_append_1 : decode b_Fi_append 1 = .ok (.getfield 24, 3) := by decide +kernel
theorem d_Fi_append_4 : decode b_Fi_append 4 = .ok (.bipush 40, 2) := by decide +kernel
theorem d_Fi_append_6 : decode b_Fi_append 6 = .ok (.if_icmp .lt 6, 3) := by decide +kernel
theorem d_Fi_append_9 : decode b_Fi_append 9 = .ok (.bipush (-2), 2) := by decide +kernel
theorem d_Fi_append_11 : decode b_Fi_append 11 = .ok (.ireturn, 1) := by decide +kernel
theorem d_Fi_append_12 : decode b_Fi_append 12 = .ok (.aload_n 0, 1) := by decide +kernel
theorem d_Fi_append_13 : decode b_Fi_append 13 = .ok (.getfield 9, 3) := by decide +kernel
theorem d_Fi_append_16 : decode b_Fi_append 16 = .ok (.aload_n 0, 1) := by decide +kernel
theorem d_Fi_append_17 : decode b_Fi_append 17 = .ok (.getfield 24, 3) := by decide +kernel
theorem d_Fi_append_20 : decode b_Fi_append 20 = .ok (.iload_n 1, 1) := by decide +kernel
theorem d_Fi_append_21 : decode b_Fi_append 21 = .ok (.iastore, 1) := by decide +kernel
theorem d_Fi_append_22 : decode b_Fi_append 22 = .ok (.aload_n 0, 1) := by decide +kernel
theorem d_Fi_append_23 : decode b_Fi_append 23 = .ok (.getfield 15, 3) := by decide +kernel
theorem d_Fi_append_26 : decode b_Fi_append 26 = .ok (.aload_n 0, 1) := by decide +kernel
theorem d_Fi_append_27 : decode b_Fi_append 27 = .ok (.getfield 24, 3) := by decide +kernel
theorem d_Fi_append_30 : decode b_Fi_append 30 = .ok (.iload_n 2, 1) := by decide +kernel
theorem d_Fi_append_31 : decode b_Fi_append 31 = .ok (.iastore, 1) := by decide +kernel
theorem d_Fi_append_32 : decode b_Fi_append 32 = .ok (.aload_n 0, 1) := by decide +kernel
theorem d_Fi_append_33 : decode b_Fi_append 33 = .ok (.getfield 18, 3) := by decide +kernel
theorem d_Fi_append_36 : decode b_Fi_append 36 = .ok (.aload_n 0, 1) := by decide +kernel
theorem d_Fi_append_37 : decode b_Fi_append 37 = .ok (.getfield 24, 3) := by decide +kernel
theorem d_Fi_append_40 : decode b_Fi_append 40 = .ok (.iload_n 3, 1) := by decide +kernel
theorem d_Fi_append_41 : decode b_Fi_append 41 = .ok (.iastore, 1) := by decide +kernel
theorem d_Fi_append_42 : decode b_Fi_append 42 = .ok (.aload_n 0, 1) := by decide +kernel
theorem d_Fi_append_43 : decode b_Fi_append 43 = .ok (.getfield 21, 3) := by decide +kernel
theorem d_Fi_append_46 : decode b_Fi_append 46 = .ok (.aload_n 0, 1) := by decide +kernel
theorem d_Fi_append_47 : decode b_Fi_append 47 = .ok (.getfield 24, 3) := by decide +kernel
theorem d_Fi_append_50 : decode b_Fi_append 50 = .ok (.iload 4, 2) := by decide +kernel
theorem d_Fi_append_52 : decode b_Fi_append 52 = .ok (.iastore, 1) := by decide +kernel
theorem d_Fi_append_53 : decode b_Fi_append 53 = .ok (.aload_n 0, 1) := by decide +kernel
theorem d_Fi_append_54 : decode b_Fi_append 54 = .ok (.dup, 1) := by decide +kernel
theorem d_Fi_append_55 : decode b_Fi_append 55 = .ok (.getfield 24, 3) := by decide +kernel
theorem d_Fi_append_58 : decode b_Fi_append 58 = .ok (.iconst 1, 1) := by decide +kernel
theorem d_Fi_append_59 : decode b_Fi_append 59 = .ok (.iadd, 1) := by decide +kernel
theorem d_Fi_append_60 : decode b_Fi_append 60 = .ok (.putfield 24, 3) := by decide +kernel
theorem d_Fi_append_63 : decode b_Fi_append 63 = .ok (.aload_n 0, 1) := by decide +kernel
theorem d_Fi_append_64 : decode b_Fi_append 64 = .ok (.getfield 24, 3) := by decide +kernel
theorem d_Fi_append_67 : decode b_Fi_append 67 = .ok (.iconst 1, 1) := by decide +kernel
theorem d_Fi_append_68 : decode b_Fi_append 68 = .ok (.isub, 1) := by decide +kernel
theorem d_Fi_append_69 : decode b_Fi_append 69 = .ok (.ireturn, 1) := by decide +kernel
set_option maxHeartbeats 4000000 in
set_option maxRecDepth 100000 in
/-- an instruction is put behind the others -/
theorem c_Fi_append (q o y n k len : Nat) (fo fy fn fk : Nat → Int32) (v1 v2 v3 v4 : Int32) (sz : Nat) (hlen : len < 40) : fs_I l y_Fi_append (k_Fi_append :: fs_T) { frames := 0, cells := 0, slots := 0, locals := 0 } (dC, dI) vwCl (fs_tys cI cZ cJ cF) [.ref q, .int v1, .int v2, .int v3, .int v4] [(q, .inr (1, [.ref o, .ref y, .ref n, .ref k, .int (nI len)])), (o, .inl (cI, 40, .inl fo)), (y, .inl (cI, 40, .inl fy)), (n, .inl (cI, 40, .inl fn)), (k, .inl (cI, 40, .inl fk))] sz (S := Unit) (fun r _ => r = nI len) (fun _ => [(q, .inr (1, [.ref o, .ref y, .ref n, .ref k, .int (nI (len + 1))])), (o, .inl (cI, 40, .inl (upd fo len v1))), (y, .inl (cI, 40, .inl (upd fy len v2))), (n, .inl (cI, 40, .inl (upd fn len v3))), (k, .inl (cI, 40, .inl (upd fk len v4)))]) 0 0 := by
  refine fs_head (by decide) (Nat.le_of_ble_eq_true rfl) ?_
  intro p e s m below meth c A ls hx hb hr hts hown hlocks hin hml hK hP hD hS hA hAe hsz hl
  have hl : lv_has ls 5 [(0, .ref q), (1, .int v1), (2, .int v2), (3, .int v3), (4, .int v4)] := hl
  have hown : s.vm.findClass R_Fi = some m.cls := hown
  refine lv_aload_n hx hb d_Fi_append_0 rfl (lv_at hl 0 rfl) ?_
  refine va_get (D := (dC, dI)) (ci := 1) (v := .int (nI len)) (C := R_Fi) (T := T_Fi) (N := 5) hx hb hts uin_Fi hown hK hP 0 rfl rfl 4 (by decide) (hts _ wi_46) (fun _ h9 => h9) rfl d_Fi_append_1 ?_
  refine lv_bipush (v := nI 40) hx hb d_Fi_append_4 (by decide) ?_
  refine lv_icmp_lt (tgt := 12) hx hb d_Fi_append_6 (by decide) (fun hc6 => ?_) (fun hc6 => absurd (nI_lt hlen (by decide)) hc6)
  rw [nI_ltI (by omega) (by omega)] at hc6
  refine lv_aload_n hx hb d_Fi_append_12 rfl (lv_at hl 0 rfl) ?_
  refine va_get (D := (dC, dI)) (ci := 1) (v := .ref o) (C := R_Fi) (T := T_Fi) (N := 5) hx hb hts uin_Fi hown hK hP 0 rfl rfl 0 (by decide) (hts _ wi_30) (fun _ h9 => h9) rfl d_Fi_append_13 ?_
  refine lv_aload_n hx hb d_Fi_append_16 rfl (lv_at hl 0 rfl) ?_
  refine va_get (D := (dC, dI)) (ci := 1) (v := .int (nI len)) (C := R_Fi) (T := T_Fi) (N := 5) hx hb hts uin_Fi hown hK hP 0 rfl rfl 4 (by decide) (hts _ wi_46) (fun _ h9 => h9) rfl d_Fi_append_17 ?_
  refine lv_iload_n hx hb d_Fi_append_20 rfl (lv_at hl 1 rfl) ?_
  refine fs_iast hx hb hK hP hD hS 1 0 rfl rfl len rfl (by decide) (by omega) d_Fi_append_21 (fun H locs hP hD hS => ?_)
  have hP : va_P (dC, dI) vwCl [(q, .inr (1, [.ref o, .ref y, .ref n, .ref k, .int (nI len)])), (o, .inl (cI, 40, .inl (upd fo len v1))), (y, .inl (cI, 40, .inl fy)), (n, .inl (cI, 40, .inl fn)), (k, .inl (cI, 40, .inl fk))] H := hP
  have hD : va_D A [(q, .inr (1, [.ref o, .ref y, .ref n, .ref k, .int (nI len)])), (o, .inl (cI, 40, .inl (upd fo len v1))), (y, .inl (cI, 40, .inl fy)), (n, .inl (cI, 40, .inl fn)), (k, .inl (cI, 40, .inl fk))] := hD
  refine lv_aload_n hx hb d_Fi_append_22 rfl (lv_at hl 0 rfl) ?_
  refine va_get (D := (dC, dI)) (ci := 1) (v := .ref y) (C := R_Fi) (T := T_Fi) (N := 5) hx hb hts uin_Fi hown hK hP 0 rfl rfl 1 (by decide) (hts _ wi_34) (fun _ h9 => h9) rfl d_Fi_append_23 ?_
  refine lv_aload_n hx hb d_Fi_append_26 rfl (lv_at hl 0 rfl) ?_
  refine va_get (D := (dC, dI)) (ci := 1) (v := .int (nI len)) (C := R_Fi) (T := T_Fi) (N := 5) hx hb hts uin_Fi hown hK hP 0 rfl rfl 4 (by decide) (hts _ wi_46) (fun _ h9 => h9) rfl d_Fi_append_27 ?_
  refine lv_iload_n hx hb d_Fi_append_30 rfl (lv_at hl 2 rfl) ?_
  refine fs_iast hx hb hK hP hD hS 2 0 rfl rfl len rfl (by decide) (by omega) d_Fi_append_31 (fun H locs hP hD hS => ?_)
  have hP : va_P (dC, dI) vwCl [(q, .inr (1, [.ref o, .ref y, .ref n, .ref k, .int (nI len)])), (o, .inl (cI, 40, .inl (upd fo len v1))), (y, .inl (cI, 40, .inl (upd fy len v2))), (n, .inl (cI, 40, .inl fn)), (k, .inl (cI, 40, .inl fk))] H := hP
  have hD : va_D A [(q, .inr (1, [.ref o, .ref y, .ref n, .ref k, .int (nI len)])), (o, .inl (cI, 40, .inl (upd fo len v1))), (y, .inl (cI, 40, .inl (upd fy len v2))), (n, .inl (cI, 40, .inl fn)), (k, .inl (cI, 40, .inl fk))] := hD
  refine lv_aload_n hx hb d_Fi_append_32 rfl (lv_at hl 0 rfl) ?_
  refine va_get (D := (dC, dI)) (ci := 1) (v := .ref n) (C := R_Fi) (T := T_Fi) (N := 5) hx hb hts uin_Fi hown hK hP 0 rfl rfl 2 (by decide) (hts _ wi_38) (fun _ h9 => h9) rfl d_Fi_append_33 ?_
  refine lv_aload_n hx hb d_Fi_append_36 rfl (lv_at hl 0 rfl) ?_
  refine va_get (D := (dC, dI)) (ci := 1) (v := .int (nI len)) (C := R_Fi) (T := T_Fi) (N := 5) hx hb hts uin_Fi hown hK hP 0 rfl rfl 4 (by decide) (hts _ wi_46) (fun _ h9 => h9) rfl d_Fi_append_37 ?_
  refine lv_iload_n hx hb d_Fi_append_40 rfl (lv_at hl 3 rfl) ?_
  refine fs_iast hx hb hK hP hD hS 3 0 rfl rfl len rfl (by decide) (by omega) d_Fi_append_41 (fun H locs hP hD hS => ?_)
  have hP : va_P (dC, dI) vwCl [(q, .inr (1, [.ref o, .ref y, .ref n, .ref k, .int (nI len)])), (o, .inl (cI, 40, .inl (upd fo len v1))), (y, .inl (cI, 40, .inl (upd fy len v2))), (n, .inl (cI, 40, .inl (upd fn len v3))), (k, .inl (cI, 40, .inl fk))] H := hP
  have hD : va_D A [(q, .inr (1, [.ref o, .ref y, .ref n, .ref k, .int (nI len)])), (o, .inl (cI, 40, .inl (upd fo len v1))), (y, .inl (cI, 40, .inl (upd fy len v2))), (n, .inl (cI, 40, .inl (upd fn len v3))), (k, .inl (cI, 40, .inl fk))] := hD
  refine lv_aload_n hx hb d_Fi_append_42 rfl (lv_at hl 0 rfl) ?_
  refine va_get (D := (dC, dI)) (ci := 1) (v := .ref k) (C := R_Fi) (T := T_Fi) (N := 5) hx hb hts uin_Fi hown hK hP 0 rfl rfl 3 (by decide) (hts _ wi_42) (fun _ h9 => h9) rfl d_Fi_append_43 ?_
  refine lv_aload_n hx hb d_Fi_append_46 rfl (lv_at hl 0 rfl) ?_
  refine va_get (D := (dC, dI)) (ci := 1) (v := .int (nI len)) (C := R_Fi) (T := T_Fi) (N := 5) hx hb hts uin_Fi hown hK hP 0 rfl rfl 4 (by decide) (hts _ wi_46) (fun _ h9 => h9) rfl d_Fi_append_47 ?_
  refine lv_iload hx hb d_Fi_append_50 (lv_at hl 4 rfl) ?_
  refine fs_iast hx hb hK hP hD hS 4 0 rfl rfl len rfl (by decide) (by omega) d_Fi_append_52 (fun H locs hP hD hS => ?_)
  have hP : va_P (dC, dI) vwCl [(q, .inr (1, [.ref o, .ref y, .ref n, .ref k, .int (nI len)])), (o, .inl (cI, 40, .inl (upd fo len v1))), (y, .inl (cI, 40, .inl (upd fy len v2))), (n, .inl (cI, 40, .inl (upd fn len v3))), (k, .inl (cI, 40, .inl (upd fk len v4)))] H := hP
  have hD : va_D A [(q, .inr (1, [.ref o, .ref y, .ref n, .ref k, .int (nI len)])), (o, .inl (cI, 40, .inl (upd fo len v1))), (y, .inl (cI, 40, .inl (upd fy len v2))), (n, .inl (cI, 40, .inl (upd fn len v3))), (k, .inl (cI, 40, .inl (upd fk len v4)))] := hD
  refine lv_aload_n hx hb d_Fi_append_53 rfl (lv_at hl 0 rfl) ?_
  refine lv_dup hx hb d_Fi_append_54 rfl ?_
  refine va_get (D := (dC, dI)) (ci := 1) (v := .int (nI len)) (C := R_Fi) (T := T_Fi) (N := 5) hx hb hts uin_Fi hown hK hP 0 rfl rfl 4 (by decide) (hts _ wi_46) (fun _ h9 => h9) rfl d_Fi_append_55 ?_
  refine lv_iconst (v := nI 1) hx hb d_Fi_append_58 (by decide) ?_
  refine lv_iadd hx hb d_Fi_append_59 ?_
  refine fs_eqi (nI_add _ _) ?_
  refine va_put (D := (dC, dI)) (ci := 1) (v := .int (nI (len + 1))) (ty := (.int)) (C := R_Fi) (T := T_Fi) (N := 5) hx hb hts uin_Fi t_Fi ok_Fi n_Fi hown hK hP hD hS 0 rfl rfl 4 (by decide) (hts _ wi_46) (fun _ h9 => h9) rfl (by decide +kernel) rfl rfl (Nat.le_of_ble_eq_true rfl) d_Fi_append_60 (fun H locs hP hD hS => ?_)
  have hP : va_P (dC, dI) vwCl [(q, .inr (1, [.ref o, .ref y, .ref n, .ref k, .int (nI (len + 1))])), (o, .inl (cI, 40, .inl (upd fo len v1))), (y, .inl (cI, 40, .inl (upd fy len v2))), (n, .inl (cI, 40, .inl (upd fn len v3))), (k, .inl (cI, 40, .inl (upd fk len v4)))] H := hP
  have hD : va_D A [(q, .inr (1, [.ref o, .ref y, .ref n, .ref k, .int (nI (len + 1))])), (o, .inl (cI, 40, .inl (upd fo len v1))), (y, .inl (cI, 40, .inl (upd fy len v2))), (n, .inl (cI, 40, .inl (upd fn len v3))), (k, .inl (cI, 40, .inl (upd fk len v4)))] := hD
  refine lv_aload_n hx hb d_Fi_append_63 rfl (lv_at hl 0 rfl) ?_
  refine va_get (D := (dC, dI)) (ci := 1) (v := .int (nI (len + 1))) (C := R_Fi) (T := T_Fi) (N := 5) hx hb hts uin_Fi hown hK hP 0 rfl rfl 4 (by decide) (hts _ wi_46) (fun _ h9 => h9) rfl d_Fi_append_64 ?_
  refine lv_iconst (v := nI 1) hx hb d_Fi_append_67 (by decide) ?_
  refine lv_isub hx hb d_Fi_append_68 ?_
  refine fs_eqi (pk_sub (by omega)) ?_
  exact fs_iret hx hb hr hlocks hAe hK hS d_Fi_append_69 () (rfl) hP hD

set_option maxHeartbeats 4000000 in
set_option maxRecDepth 100000 in
/-- .. but not into a full filter -/
theorem c_Fi_appendF (q o y n k : Nat) (fo fy fn fk : Nat → Int32) (v1 v2 v3 v4 : Int32) (sz : Nat)  : fs_I l y_Fi_append (k_Fi_append :: fs_T) { frames := 0, cells := 0, slots := 0, locals := 0 } (dC, dI) vwCl (fs_tys cI cZ cJ cF) [.ref q, .int v1, .int v2, .int v3, .int v4] [(q, .inr (1, [.ref o, .ref y, .ref n, .ref k, .int (nI 40)])), (o, .inl (cI, 40, .inl fo)), (y, .inl (cI, 40, .inl fy)), (n, .inl (cI, 40, .inl fn)), (k, .inl (cI, 40, .inl fk))] sz (S := Unit) (fun r _ => r = (-2)) (fun _ => [(q, .inr (1, [.ref o, .ref y, .ref n, .ref k, .int (nI 40)])), (o, .inl (cI, 40, .inl fo)), (y, .inl (cI, 40, .inl fy)), (n, .inl (cI, 40, .inl fn)), (k, .inl (cI, 40, .inl fk))]) 0 0 := by
  refine fs_head (by decide) (Nat.le_of_ble_eq_true rfl) ?_
  intro p e s m below meth c A ls hx hb hr hts hown hlocks hin hml hK hP hD hS hA hAe hsz hl
  have hl : lv_has ls 5 [(0, .ref q), (1, .int v1), (2, .int v2), (3, .int v3), (4, .int v4)] := hl
  have hown : s.vm.findClass R_Fi = some m.cls := hown
  refine lv_aload_n hx hb d_Fi_append_0 rfl (lv_at hl 0 rfl) ?_
  refine va_get (D := (dC, dI)) (ci := 1) (v := .int (nI 40)) (C := R_Fi) (T := T_Fi) (N := 5) hx hb hts uin_Fi hown hK hP 0 rfl rfl 4 (by decide) (hts _ wi_46) (fun _ h9 => h9) rfl d_Fi_append_1 ?_
  refine lv_bipush (v := nI 40) hx hb d_Fi_append_4 (by decide) ?_
  refine lv_icmp_lt (tgt := 12) hx hb d_Fi_append_6 (by decide) (fun hc => absurd hc (by decide)) (fun _ => ?_)
  refine lv_bipush (v := (-2)) hx hb d_Fi_append_9 (by decide) ?_
  exact fs_iret hx hb hr hlocks hAe hK hS d_Fi_append_11 () (rfl) hP hD

theorem d_Fi_empty_0 : decode b_Fi_empty 0 = .ok (.aload_n 0, 1) := by decide +kernel
theorem d_Fi_empty_1 : decode b_Fi_empty 1 = .ok (.getfield 24, 3) := by decide +kernel
theorem d_Fi_empty_4 : decode b_Fi_empty 4 = .ok (.istore_n 1, 1) := by decide +kernel
theorem d_Fi_empty_5 : decode b_Fi_empty 5 = .ok (.aload_n 0, 1) := by decide +kernel
theorem d_Fi_empty_6 : decode b_Fi_empty 6 = .ok (.iconst 0, 1) := by decide +kernel
theorem d_Fi_empty_7 : decode b_Fi_empty 7 = .ok (.putfield 24, 3) := by decide +kernel
theorem d_Fi_empty_10 : decode b_Fi_empty 10 = .ok (.iload_n 1, 1) := by decide +kernel
theorem d_Fi_empty_11 : decode b_Fi_empty 11 = .ok (.ireturn, 1) := by decide +kernel
set_option maxHeartbeats 4000000 in
set_option maxRecDepth 100000 in
/-- the filter is emptied -/
theorem c_Fi_empty (q o y n k len : Nat) (sz : Nat)  : fs_I l y_Fi_empty (k_Fi_empty :: fs_T) { frames := 0, cells := 0, slots := 0, locals := 0 } (dC, dI) vwCl (fs_tys cI cZ cJ cF) [.ref q] [(q, .inr (1, [.ref o, .ref y, .ref n, .ref k, .int (nI len)]))] sz (S := Unit) (fun r _ => r = nI len) (fun _ => [(q, .inr (1, [.ref o, .ref y, .ref n, .ref k, .int (nI 0)]))]) 0 0 := by
  refine fs_head (by decide) (Nat.le_of_ble_eq_true rfl) ?_
  intro p e s m below meth c A ls hx hb hr hts hown hlocks hin hml hK hP hD hS hA hAe hsz hl
  have hl : lv_has ls 2 [(0, .ref q)] := hl
  have hown : s.vm.findClass R_Fi = some m.cls := hown
  refine lv_aload_n hx hb d_Fi_empty_0 rfl (lv_at hl 0 rfl) ?_
  refine va_get (D := (dC, dI)) (ci := 1) (v := .int (nI len)) (C := R_Fi) (T := T_Fi) (N := 5) hx hb hts uin_Fi hown hK hP 0 rfl rfl 4 (by decide) (hts _ wi_46) (fun _ h9 => h9) rfl d_Fi_empty_1 ?_
  refine lv_istore_n hx hb d_Fi_empty_4 rfl hl (by decide) (lv' := [(1, .int (nI len)), (0, .ref q)]) rfl (fun ls hl => ?_)
  refine lv_aload_n hx hb d_Fi_empty_5 rfl (lv_at hl 1 rfl) ?_
  refine lv_iconst (v := nI 0) hx hb d_Fi_empty_6 (by decide) ?_
  refine va_put (D := (dC, dI)) (ci := 1) (v := .int (nI 0)) (ty := (.int)) (C := R_Fi) (T := T_Fi) (N := 5) hx hb hts uin_Fi t_Fi ok_Fi n_Fi hown hK hP hD hS 0 rfl rfl 4 (by decide) (hts _ wi_46) (fun _ h9 => h9) rfl (by decide +kernel) rfl rfl (Nat.le_of_ble_eq_true rfl) d_Fi_empty_7 (fun H locs hP hD hS => ?_)
  have hP : va_P (dC, dI) vwCl [(q, .inr (1, [.ref o, .ref y, .ref n, .ref k, .int (nI 0)]))] H := hP
  have hD : va_D A [(q, .inr (1, [.ref o, .ref y, .ref n, .ref k, .int (nI 0)]))] := hD
  refine lv_iload_n hx hb d_Fi_empty_10 rfl (lv_at hl 0 rfl) ?_
  exact fs_iret hx hb hr hlocks hAe hK hS d_Fi_empty_11 () (rfl) hP hD

end FI
end
section
section CK
variable {l : Launch} {dC : Nat → ClassId} {dI : Nat → Nat → Nat} {cI cZ cJ cF : ClassId}
theorem d_Ar_fill_0 : decode b_Ar_fill 0 = .ok (.iconst 0, 1) := by decide +kernel
theorem d_Ar_fill_1 : decode b_Ar_fill 1 = .ok (.istore_n 2, 1) := by decide +kernel
theorem d_Ar_fill_2 : decode b_Ar_fill 2 = .ok (.aload_n 0, 1) := by decide +kernel
theorem d_Ar_fill_3 : decode b_Ar_fill 3 = .ok (.arraylength, 1) := by decide +kernel
theorem d_Ar_fill_4 : decode b_Ar_fill 4 = .ok (.istore_n 3, 1) := by decide +kernel
theorem d_Ar_fill_5 : decode b_Ar_fill 5 = .ok (.iload_n 2, 1) := by decide +kernel
theorem d_Ar_fill_6 : decode b_Ar_fill 6 = .ok (.iload_n 3, 1) := by decide +kernel
theorem d_Ar_fill_7 : decode b_Ar_fill 7 = .ok (.if_icmp .ge 13, 3) := by decide +kernel
theorem d_Ar_fill_10 : decode b_Ar_fill 10 = .ok (.aload_n 0, 1) := by decide +kernel
theorem d_Ar_fill_11 : decode b_Ar_fill 11 = .ok (.iload_n 2, 1) := by decide +kernel
theorem d_Ar_fill_12 : decode b_Ar_fill 12 = .ok (.iload_n 1, 1) := by decide +kernel
theorem d_Ar_fill_13 : decode b_Ar_fill 13 = .ok (.iastore, 1) := by decide +kernel
theorem d_Ar_fill_14 : decode b_Ar_fill 14 = .ok (.iinc 2 1, 3) := by decide +kernel
theorem d_Ar_fill_17 : decode b_Ar_fill 17 = .ok (.goto (-12), 3) := by decide +kernel
theorem d_Ar_fill_20 : decode b_Ar_fill 20 = .ok (.return_, 1) := by decide +kernel
set_option maxHeartbeats 4000000 in
set_option maxRecDepth 100000 in
/-- the row is filled with v -/
theorem c_Ar_fill (a n : Nat) (f : Nat → Int32) (v : Int32) (sz : Nat) (hn : n < 2 ^ 31) : fs_V l y_Ar_fill (k_Ar_fill :: fs_T) { frames := 0, cells := 0, slots := 0, locals := 0 } (dC, dI) vwCl (fs_tys cI cZ cJ cF) [.ref a, .int v] [(a, .inl (cI, n, .inl f))] sz (S := Unit) (fun _ => True) (fun _ => [(a, .inl (cI, n, .inl (fun _ => v)))]) 0 0 := by
  refine fs_head (by decide) (Nat.le_of_ble_eq_true rfl) ?_
  intro p e s m below meth c A ls hx hb hr hts hown hlocks hin hml hK hP hD hS hA hAe hsz hl
  have hl : lv_has ls 4 [(0, .ref a), (1, .int v)] := hl
  have hown : s.vm.findClass R_Ar = some m.cls := hown
  refine lv_iconst (v := nI 0) hx hb d_Ar_fill_0 (by decide) ?_
  refine lv_istore_n hx hb d_Ar_fill_1 rfl hl (by decide) (lv' := [(2, .int (nI 0)), (0, .ref a), (1, .int v)]) rfl (fun ls hl => ?_)
  refine lv_aload_n hx hb d_Ar_fill_2 rfl (lv_at hl 1 rfl) ?_
  refine va_alen (v := nI n) hx hb hK hP 0 0 rfl rfl rfl d_Ar_fill_3 ?_
  refine lv_istore_n hx hb d_Ar_fill_4 rfl hl (by decide) (lv' := [(3, .int (nI n)), (2, .int (nI 0)), (0, .ref a), (1, .int v)]) rfl (fun ls hl => ?_)
  refine fs_loop2 (α1 := Nat) (α2 := Nat → Int32) (fun i g => n - i) (fun i g H locs ls => (i ≤ n) ∧ (∀ j, j < i → g j = v) ∧ va_P (dC, dI) vwCl [(a, .inl (cI, n, .inl g))] H ∧ va_D A [(a, .inl (cI, n, .inl g))] ∧ va_S A s.heap H locs ∧ lv_has ls 4 [(0, .ref a), (1, .int v), (2, .int (nI i)), (3, .int (nI n))]) ?_ 0 f ⟨by omega, fun j hj => absurd hj (by omega), hP, hD, hS, lv_sub hl [2, 3, 1, 0] rfl⟩
  intro i g H locs ls hI ih5
  obtain ⟨hi, hg, hP, hD, hS, hl⟩ := hI
  refine lv_iload_n hx hb d_Ar_fill_5 rfl (lv_at hl 2 rfl) ?_
  refine lv_iload_n hx hb d_Ar_fill_6 rfl (lv_at hl 3 rfl) ?_
  refine lv_icmp_ge (tgt := 20) hx hb d_Ar_fill_7 (by decide) (fun hc7 => ?_) (fun hc7 => ?_)
  · rw [nI_leI (by omega) (by omega)] at hc7
    obtain ⟨hP, hD⟩ := fs_atc 0 (g := fun _ => v) (fun j hj => hg j (by omega)) rfl rfl hP hD
    exact fs_vret hx hb hr hlocks hAe hK hS d_Ar_fill_20 () (trivial) hP hD
  rw [nI_leI (by omega) (by omega)] at hc7
  refine lv_aload_n hx hb d_Ar_fill_10 rfl (lv_at hl 0 rfl) ?_
  refine lv_iload_n hx hb d_Ar_fill_11 rfl (lv_at hl 2 rfl) ?_
  refine lv_iload_n hx hb d_Ar_fill_12 rfl (lv_at hl 1 rfl) ?_
  refine fs_iast hx hb hK hP hD hS 0 0 rfl rfl i rfl hn (by omega) d_Ar_fill_13 (fun H locs hP hD hS => ?_)
  have hP : va_P (dC, dI) vwCl [(a, .inl (cI, n, .inl (upd g i v)))] H := hP
  have hD : va_D A [(a, .inl (cI, n, .inl (upd g i v)))] := hD
  refine lv_iinc (v := nI (i + 1)) (k := 2) hx hb d_Ar_fill_14 hl rfl (fs_incN i 1) (by decide) (lv' := [(2, .int (nI (i + 1))), (0, .ref a), (1, .int v), (3, .int (nI n))]) rfl (fun ls hl => ?_)
  refine lv_goto (tgt := 5) hx hb d_Ar_fill_17 (by decide) ?_
  exact ih5 (i + 1) (upd g i v) _ _ _ (by omega) ⟨by omega, fun j hj => by unfold upd; split; rfl; exact hg j (by omega), hP, hD, hS, lv_sub hl [1, 2, 0, 3] rfl⟩

theorem d_Ck_readsCell_0 : decode b_Ck_readsCell 0 = .ok (.iload_n 0, 1) := by decide +kernel
theorem d_Ck_readsCell_1 : decode b_Ck_readsCell 1 = .ok (.iconst 2, 1) := by decide +kernel
theorem d_Ck_readsCell_2 : decode b_Ck_readsCell 2 = .ok (.if_icmp .eq 8, 3) := by decide +kernel
theorem d_Ck_readsCell_5 : decode b_Ck_readsCell 5 = .ok (.iload_n 0, 1) := by decide +kernel
theorem d_Ck_readsCell_6 : decode b_Ck_readsCell 6 = .ok (.iconst 5, 1) := by decide +kernel
theorem d_Ck_readsCell_7 : decode b_Ck_readsCell 7 = .ok (.if_icmp .ne 7, 3) := by decide +kernel
theorem d_Ck_readsCell_10 : decode b_Ck_readsCell 10 = .ok (.iconst 1, 1) := by decide +kernel
theorem d_Ck_readsCell_11 : decode b_Ck_readsCell 11 = .ok (.goto 4, 3) := by decide +kernel
theorem d_Ck_readsCell_14 : decode b_Ck_readsCell 14 = .ok (.iconst 0, 1) := by decide +kernel
theorem d_Ck_readsCell_15 : decode b_Ck_readsCell 15 = .ok (.ireturn, 1) := by decide +kernel
set_option maxHeartbeats 4000000 in
set_option maxRecDepth 100000 in
theorem c_Ck_readsCell (o : Nat) (sz : Nat) (ho : o < 32) : fs_I l y_Ck_readsCell (k_Ck_readsCell :: fs_T) { frames := 0, cells := 0, slots := 0, locals := 0 } (dC, dI) vwCl (fs_tys cI cZ cJ cF) [.int (nI o)] [] sz (S := Unit) (fun r _ => ((o = 2 ∨ o = 5) ∧ r = nI 1) ∨ (¬ (o = 2 ∨ o = 5) ∧ r = nI 0)) (fun _ => []) 0 0 := by
  refine fs_head (by decide) (Nat.le_of_ble_eq_true rfl) ?_
  intro p e s m below meth c A ls hx hb hr hts hown hlocks hin hml hK hP hD hS hA hAe hsz hl
  have hl : lv_has ls 1 [(0, .int (nI o))] := hl
  have hown : s.vm.findClass R_Ck = some m.cls := hown
  refine lv_iload_n hx hb d_Ck_readsCell_0 rfl (lv_at hl 0 rfl) ?_
  refine lv_iconst (v := nI 2) hx hb d_Ck_readsCell_1 (by decide) ?_
  refine lv_icmp_eq (tgt := 10) hx hb d_Ck_readsCell_2 (by decide) (fun hc2 => ?_) (fun hc2 => ?_)
  · rw [nI_eq (by omega) (by omega)] at hc2
    refine lv_iconst (v := nI 1) hx hb d_Ck_readsCell_10 (by decide) ?_
    refine lv_goto (tgt := 15) hx hb d_Ck_readsCell_11 (by decide) ?_
    exact fs_zret hx hb hr hlocks hAe hK hS d_Ck_readsCell_15 (by decide) () (by first | exact Or.inl ⟨by omega, rfl⟩ | exact Or.inr ⟨by omega, rfl⟩) hP hD
  rw [nI_eq (by omega) (by omega)] at hc2
  refine lv_iload_n hx hb d_Ck_readsCell_5 rfl (lv_at hl 0 rfl) ?_
  refine lv_iconst (v := nI 5) hx hb d_Ck_readsCell_6 (by decide) ?_
  refine lv_icmp_ne (tgt := 14) hx hb d_Ck_readsCell_7 (by decide) (fun hc7 => ?_) (fun hc7 => ?_)
  · rw [nI_eq (by omega) (by omega)] at hc7
    refine lv_iconst (v := nI 0) hx hb d_Ck_readsCell_14 (by decide) ?_
    exact fs_zret hx hb hr hlocks hAe hK hS d_Ck_readsCell_15 (by decide) () (by first | exact Or.inl ⟨by omega, rfl⟩ | exact Or.inr ⟨by omega, rfl⟩) hP hD
  rw [nI_eq (by omega) (by omega)] at hc7
  refine lv_iconst (v := nI 1) hx hb d_Ck_readsCell_10 (by decide) ?_
  refine lv_goto (tgt := 15) hx hb d_Ck_readsCell_11 (by decide) ?_
  exact fs_zret hx hb hr hlocks hAe hK hS d_Ck_readsCell_15 (by decide) () (by first | exact Or.inl ⟨by omega, rfl⟩ | exact Or.inr ⟨by omega, rfl⟩) hP hD

theorem d_Ck_storesCell_0 : decode b_Ck_storesCell 0 = .ok (.iload_n 0, 1) := by decide +kernel
theorem d_Ck_storesCell_1 : decode b_Ck_storesCell 1 = .ok (.bipush 8, 2) := by decide +kernel
theorem d_Ck_storesCell_3 : decode b_Ck_storesCell 3 = .ok (.if_icmp .eq 9, 3) := by decide +kernel
theorem d_Ck_storesCell_6 : decode b_Ck_storesCell 6 = .ok (.iload_n 0, 1) := by decide +kernel
theorem d_Ck_storesCell_7 : decode b_Ck_storesCell 7 = .ok (.bipush 9, 2) := by decide +kernel
theorem d_Ck_storesCell_9 : decode b_Ck_storesCell 9 = .ok (.if_icmp .ne 7, 3) := by decide +kernel
theorem d_Ck_storesCell_12 : decode b_Ck_storesCell 12 = .ok (.iconst 1, 1) := by decide +kernel
theorem d_Ck_storesCell_13 : decode b_Ck_storesCell 13 = .ok (.goto 4, 3) := by decide +kernel
theorem d_Ck_storesCell_16 : decode b_Ck_storesCell 16 = .ok (.iconst 0, 1) := by decide +kernel
theorem d_Ck_storesCell_17 : decode b_Ck_storesCell 17 = .ok (.ireturn, 1) := by decide +kernel
set_option maxHeartbeats 4000000 in
set_option maxRecDepth 100000 in
theorem c_Ck_storesCell (o : Nat) (sz : Nat) (ho : o < 32) : fs_I l y_Ck_storesCell (k_Ck_storesCell :: fs_T) { frames := 0, cells := 0, slots := 0, locals := 0 } (dC, dI) vwCl (fs_tys cI cZ cJ cF) [.int (nI o)] [] sz (S := Unit) (fun r _ => ((o = 8 ∨ o = 9) ∧ r = nI 1) ∨ (¬ (o = 8 ∨ o = 9) ∧ r = nI 0)) (fun _ => []) 0 0 := by
  refine fs_head (by decide) (Nat.le_of_ble_eq_true rfl) ?_
  intro p e s m below meth c A ls hx hb hr hts hown hlocks hin hml hK hP hD hS hA hAe hsz hl
  have hl : lv_has ls 1 [(0, .int (nI o))] := hl
  have hown : s.vm.findClass R_Ck = some m.cls := hown
  refine lv_iload_n hx hb d_Ck_storesCell_0 rfl (lv_at hl 0 rfl) ?_
  refine lv_bipush (v := nI 8) hx hb d_Ck_storesCell_1 (by decide) ?_
  refine lv_icmp_eq (tgt := 12) hx hb d_Ck_storesCell_3 (by decide) (fun hc3 => ?_) (fun hc3 => ?_)
  · rw [nI_eq (by omega) (by omega)] at hc3
    refine lv_iconst (v := nI 1) hx hb d_Ck_storesCell_12 (by decide) ?_
    refine lv_goto (tgt := 17) hx hb d_Ck_storesCell_13 (by decide) ?_
    exact fs_zret hx hb hr hlocks hAe hK hS d_Ck_storesCell_17 (by decide) () (by first | exact Or.inl ⟨by omega, rfl⟩ | exact Or.inr ⟨by omega, rfl⟩) hP hD
  rw [nI_eq (by omega) (by omega)] at hc3
  refine lv_iload_n hx hb d_Ck_storesCell_6 rfl (lv_at hl 0 rfl) ?_
  refine lv_bipush (v := nI 9) hx hb d_Ck_storesCell_7 (by decide) ?_
  refine lv_icmp_ne (tgt := 16) hx hb d_Ck_storesCell_9 (by decide) (fun hc9 => ?_) (fun hc9 => ?_)
  · rw [nI_eq (by omega) (by omega)] at hc9
    refine lv_iconst (v := nI 0) hx hb d_Ck_storesCell_16 (by decide) ?_
    exact fs_zret hx hb hr hlocks hAe hK hS d_Ck_storesCell_17 (by decide) () (by first | exact Or.inl ⟨by omega, rfl⟩ | exact Or.inr ⟨by omega, rfl⟩) hP hD
  rw [nI_eq (by omega) (by omega)] at hc9
  refine lv_iconst (v := nI 1) hx hb d_Ck_storesCell_12 (by decide) ?_
  refine lv_goto (tgt := 17) hx hb d_Ck_storesCell_13 (by decide) ?_
  exact fs_zret hx hb hr hlocks hAe hK hS d_Ck_storesCell_17 (by decide) () (by first | exact Or.inl ⟨by omega, rfl⟩ | exact Or.inr ⟨by omega, rfl⟩) hP hD

theorem d_Ck_takesIndex_0 : decode b_Ck_takesIndex 0 = .ok (.iload_n 0, 1) := by decide +kernel
theorem d_Ck_takesIndex_1 : decode b_Ck_takesIndex 1 = .ok (.ifCond .eq 17, 3) := by decide +kernel
theorem d_Ck_takesIndex_4 : decode b_Ck_takesIndex 4 = .ok (.iload_n 0, 1) := by decide +kernel
theorem d_Ck_takesIndex_5 : decode b_Ck_takesIndex 5 = .ok (.invokestatic 47, 3) := by decide +kernel
theorem d_Ck_takesIndex_8 : decode b_Ck_takesIndex 8 = .ok (.ifCond .ne 10, 3) := by decide +kernel
theorem d_Ck_takesIndex_11 : decode b_Ck_takesIndex 11 = .ok (.iload_n 0, 1) := by decide +kernel
theorem d_Ck_takesIndex_12 : decode b_Ck_takesIndex 12 = .ok (.invokestatic 50, 3) := by decide +kernel
theorem d_Ck_takesIndex_15 : decode b_Ck_takesIndex 15 = .ok (.ifCond .eq 7, 3) := by decide +kernel
theorem d_Ck_takesIndex_18 : decode b_Ck_takesIndex 18 = .ok (.iconst 1, 1) := by decide +kernel
theorem d_Ck_takesIndex_19 : decode b_Ck_takesIndex 19 = .ok (.goto 4, 3) := by decide +kernel
theorem d_Ck_takesIndex_22 : decode b_Ck_takesIndex 22 = .ok (.iconst 0, 1) := by decide +kernel
theorem d_Ck_takesIndex_23 : decode b_Ck_takesIndex 23 = .ok (.ireturn, 1) := by decide +kernel
set_option maxHeartbeats 4000000 in
set_option maxRecDepth 100000 in
theorem c_Ck_takesIndex (o : Nat) (sz : Nat) (ho : o < 32) : fs_I l y_Ck_takesIndex (k_Ck_takesIndex :: fs_T) { frames := 1, cells := 0, slots := 0, locals := 20 } (dC, dI) vwCl (fs_tys cI cZ cJ cF) [.int (nI o)] [] sz (S := Unit) (fun r _ => ((o = 0 ∨ o = 2 ∨ o = 5 ∨ o = 8 ∨ o = 9) ∧ r = nI 1) ∨ (¬ (o = 0 ∨ o = 2 ∨ o = 5 ∨ o = 8 ∨ o = 9) ∧ r = nI 0)) (fun _ => []) 0 0 := by
  refine fs_head (by decide) (Nat.le_of_ble_eq_true rfl) ?_
  intro p e s m below meth c A ls hx hb hr hts hown hlocks hin hml hK hP hD hS hA hAe hsz hl
  have hl : lv_has ls 1 [(0, .int (nI o))] := hl
  have hown : s.vm.findClass R_Ck = some m.cls := hown
  refine lv_iload_n hx hb d_Ck_takesIndex_0 rfl (lv_at hl 0 rfl) ?_
  refine lv_if_eq (tgt := 18) hx hb d_Ck_takesIndex_1 (by decide) (fun hc1 => ?_) (fun hc1 => ?_)
  · try rw [← nI_0] at hc1
    rw [nI_eq (by omega) (by omega)] at hc1
    refine lv_iconst (v := nI 1) hx hb d_Ck_takesIndex_18 (by decide) ?_
    refine lv_goto (tgt := 23) hx hb d_Ck_takesIndex_19 (by decide) ?_
    exact fs_zret hx hb hr hlocks hAe hK hS d_Ck_takesIndex_23 (by decide) () (by first | exact Or.inl ⟨by omega, rfl⟩ | exact Or.inr ⟨by omega, rfl⟩) hP hD
  try rw [← nI_0] at hc1
  rw [nI_eq (by omega) (by omega)] at hc1
  refine lv_iload_n hx hb d_Ck_takesIndex_4 rfl (lv_at hl 0 rfl) ?_
  refine fs_calli (wc := []) (wr := []) [] [] hP hD hK hS hA rfl rfl rfl (by decide) (fun hPc hDc => va_runS (As := [.int (nI o)]) (rest := []) ⟨hx, hb, hml, hown, hts⟩ (c_Ck_readsCell o _ (by omega)) (⟨callB_of 1 hts (fs_g kin_Ck_readsCell) rfl rfl rfl (hts _ wi_4) (hts _ wi_194) (by decide +kernel) ⟨Nat.le_of_ble_eq_true rfl, Nat.le_of_ble_eq_true rfl⟩, hts _ wi_195⟩) (fs_preS hPc hK hDc) rfl rfl hl.1 rfl (lv_room (Nat.le_of_ble_eq_true rfl)) d_Ck_takesIndex_5 ⟨Nat.le_of_ble_eq_true rfl, Nat.le_of_ble_eq_true rfl⟩) rfl (fun r5 _ H locs hp5 hP hD hS => ?_)
  have hP : va_P (dC, dI) vwCl [] H := hP
  have hD : va_D A [] := hD
  rcases hp5 with ⟨hc5, rfl⟩ | ⟨hc5, rfl⟩
  · refine lv_if_ne (tgt := 18) hx hb d_Ck_takesIndex_8 (by decide) (fun _ => ?_) (fun hc => absurd hc (by decide))
    refine lv_iconst (v := nI 1) hx hb d_Ck_takesIndex_18 (by decide) ?_
    refine lv_goto (tgt := 23) hx hb d_Ck_takesIndex_19 (by decide) ?_
    exact fs_zret hx hb hr hlocks hAe hK hS d_Ck_takesIndex_23 (by decide) () (by first | exact Or.inl ⟨by omega, rfl⟩ | exact Or.inr ⟨by omega, rfl⟩) hP hD
  refine lv_if_ne (tgt := 18) hx hb d_Ck_takesIndex_8 (by decide) (fun hc => absurd (by decide) hc) (fun _ => ?_)
  refine lv_iload_n hx hb d_Ck_takesIndex_11 rfl (lv_at hl 0 rfl) ?_
  refine fs_calli (wc := []) (wr := []) [] [] hP hD hK hS hA rfl rfl rfl (by decide) (fun hPc hDc => va_runS (As := [.int (nI o)]) (rest := []) ⟨hx, hb, hml, hown, hts⟩ (c_Ck_storesCell o _ (by omega)) (⟨callB_of 1 hts (fs_g kin_Ck_storesCell) rfl rfl rfl (hts _ wi_4) (hts _ wi_197) (by decide +kernel) ⟨Nat.le_of_ble_eq_true rfl, Nat.le_of_ble_eq_true rfl⟩, hts _ wi_198⟩) (fs_preS hPc hK hDc) rfl rfl hl.1 rfl (lv_room (Nat.le_of_ble_eq_true rfl)) d_Ck_takesIndex_12 ⟨Nat.le_of_ble_eq_true rfl, Nat.le_of_ble_eq_true rfl⟩) rfl (fun r12 _ H locs hp12 hP hD hS => ?_)
  have hP : va_P (dC, dI) vwCl [] H := hP
  have hD : va_D A [] := hD
  rcases hp12 with ⟨hc12, rfl⟩ | ⟨hc12, rfl⟩
  · refine lv_if_eq (tgt := 22) hx hb d_Ck_takesIndex_15 (by decide) (fun hc => absurd hc (by decide)) (fun _ => ?_)
    refine lv_iconst (v := nI 1) hx hb d_Ck_takesIndex_18 (by decide) ?_
    refine lv_goto (tgt := 23) hx hb d_Ck_takesIndex_19 (by decide) ?_
    exact fs_zret hx hb hr hlocks hAe hK hS d_Ck_takesIndex_23 (by decide) () (by first | exact Or.inl ⟨by omega, rfl⟩ | exact Or.inr ⟨by omega, rfl⟩) hP hD
  refine lv_if_eq (tgt := 22) hx hb d_Ck_takesIndex_15 (by decide) (fun _ => ?_) (fun hc => absurd (by decide) hc)
  refine lv_iconst (v := nI 0) hx hb d_Ck_takesIndex_22 (by decide) ?_
  exact fs_zret hx hb hr hlocks hAe hK hS d_Ck_takesIndex_23 (by decide) () (by first | exact Or.inl ⟨by omega, rfl⟩ | exact Or.inr ⟨by omega, rfl⟩) hP hD

theorem d_Ck_leavesFilter_0 : decode b_Ck_leavesFilter 0 = .ok (.aload_n 0, 1) := by decide +kernel
theorem d_Ck_leavesFilter_1 : decode b_Ck_leavesFilter 1 = .ok (.getfield 33, 3) := by decide +kernel
theorem d_Ck_leavesFilter_4 : decode b_Ck_leavesFilter 4 = .ok (.iload_n 1, 1) := by decide +kernel
theorem d_Ck_leavesFilter_5 : decode b_Ck_leavesFilter 5 = .ok (.iaload, 1) := by decide +kernel
theorem d_Ck_leavesFilter_6 : decode b_Ck_leavesFilter 6 = .ok (.istore_n 2, 1) := by decide +kernel
theorem d_Ck_leavesFilter_7 : decode b_Ck_leavesFilter 7 = .ok (.aload_n 0, 1) := by decide +kernel
theorem d_Ck_leavesFilter_8 : decode b_Ck_leavesFilter 8 = .ok (.getfield 19, 3) := by decide +kernel
theorem d_Ck_leavesFilter_11 : decode b_Ck_leavesFilter 11 = .ok (.iconst 1, 1) := by decide +kernel
theorem d_Ck_leavesFilter_12 : decode b_Ck_leavesFilter 12 = .ok (.isub, 1) := by decide +kernel
theorem d_Ck_leavesFilter_13 : decode b_Ck_leavesFilter 13 = .ok (.iload_n 1, 1) := by decide +kernel
theorem d_Ck_leavesFilter_14 : decode b_Ck_leavesFilter 14 = .ok (.isub, 1) := by decide +kernel
theorem d_Ck_leavesFilter_15 : decode b_Ck_leavesFilter 15 = .ok (.istore_n 3, 1) := by decide +kernel
theorem d_Ck_leavesFilter_16 : decode b_Ck_leavesFilter 16 = .ok (.iload_n 2, 1) := by decide +kernel
theorem d_Ck_leavesFilter_17 : decode b_Ck_leavesFilter 17 = .ok (.bipush 25, 2) := by decide +kernel
theorem d_Ck_leavesFilter_19 : decode b_Ck_leavesFilter 19 = .ok (.if_icmp .ne 28, 3) := by decide +kernel
theorem d_Ck_leavesFilter_22 : decode b_Ck_leavesFilter 22 = .ok (.aload_n 0, 1) := by decide +kernel
theorem d_Ck_leavesFilter_23 : decode b_Ck_leavesFilter 23 = .ok (.getfield 36, 3) := by decide +kernel
theorem d_Ck_leavesFilter_26 : decode b_Ck_leavesFilter 26 = .ok (.iload_n 1, 1) := by decide +kernel
theorem d_Ck_leavesFilter_27 : decode b_Ck_leavesFilter 27 = .ok (.iaload, 1) := by decide +kernel
theorem d_Ck_leavesFilter_28 : decode b_Ck_leavesFilter 28 = .ok (.ifCond .lt 13, 3) := by decide +kernel
theorem d_Ck_leavesFilter_31 : decode b_Ck_leavesFilter 31 = .ok (.aload_n 0, 1) := by decide +kernel
theorem d_Ck_leavesFilter_32 : decode b_Ck_leavesFilter 32 = .ok (.getfield 36, 3) := by decide +kernel
theorem d_Ck_leavesFilter_35 : decode b_Ck_leavesFilter 35 = .ok (.iload_n 1, 1) := by decide +kernel
theorem d_Ck_leavesFilter_36 : decode b_Ck_leavesFilter 36 = .ok (.iaload, 1) := by decide +kernel
theorem d_Ck_leavesFilter_37 : decode b_Ck_leavesFilter 37 = .ok (.iload_n 3, 1) := by decide +kernel
theorem d_Ck_leavesFilter_38 : decode b_Ck_leavesFilter 38 = .ok (.if_icmp .lt 7, 3) := by decide +kernel
theorem d_Ck_leavesFilter_41 : decode b_Ck_leavesFilter 41 = .ok (.iconst 1, 1) := by decide +kernel
theorem d_Ck_leavesFilter_42 : decode b_Ck_leavesFilter 42 = .ok (.goto 4, 3) := by decide +kernel
theorem d_Ck_leavesFilter_45 : decode b_Ck_leavesFilter 45 = .ok (.iconst 0, 1) := by decide +kernel
theorem d_Ck_leavesFilter_46 : decode b_Ck_leavesFilter 46 = .ok (.ireturn, 1) := by decide +kernel
theorem d_Ck_leavesFilter_47 : decode b_Ck_leavesFilter 47 = .ok (.iload_n 2, 1) := by decide +kernel
theorem d_Ck_leavesFilter_48 : decode b_Ck_leavesFilter 48 = .ok (.bipush 25, 2) := by decide +kernel
theorem d_Ck_leavesFilter_50 : decode b_Ck_leavesFilter 50 = .ok (.if_icmp .le 33, 3) := by decide +kernel
theorem d_Ck_leavesFilter_53 : decode b_Ck_leavesFilter 53 = .ok (.iload_n 2, 1) := by decide +kernel
theorem d_Ck_leavesFilter_54 : decode b_Ck_leavesFilter 54 = .ok (.bipush 31, 2) := by decide +kernel
theorem d_Ck_leavesFilter_56 : decode b_Ck_leavesFilter 56 = .ok (.if_icmp .ge 27, 3) := by decide +kernel
theorem d_Ck_leavesFilter_59 : decode b_Ck_leavesFilter 59 = .ok (.aload_n 0, 1) := by decide +kernel
theorem d_Ck_leavesFilter_60 : decode b_Ck_leavesFilter 60 = .ok (.getfield 53, 3) := by decide +kernel
theorem d_Ck_leavesFilter_63 : decode b_Ck_leavesFilter 63 = .ok (.iload_n 1, 1) := by decide +kernel
theorem d_Ck_leavesFilter_64 : decode b_Ck_leavesFilter 64 = .ok (.iaload, 1) := by decide +kernel
theorem d_Ck_leavesFilter_65 : decode b_Ck_leavesFilter 65 = .ok (.iload_n 3, 1) := by decide +kernel
theorem d_Ck_leavesFilter_66 : decode b_Ck_leavesFilter 66 = .ok (.if_icmp .ge 13, 3) := by decide +kernel
theorem d_Ck_leavesFilter_69 : decode b_Ck_leavesFilter 69 = .ok (.aload_n 0, 1) := by decide +kernel
theorem d_Ck_leavesFilter_70 : decode b_Ck_leavesFilter 70 = .ok (.getfield 56, 3) := by decide +kernel
theorem d_Ck_leavesFilter_73 : decode b_Ck_leavesFilter 73 = .ok (.iload_n 1, 1) := by decide +kernel
theorem d_Ck_leavesFilter_74 : decode b_Ck_leavesFilter 74 = .ok (.iaload, 1) := by decide +kernel
theorem d_Ck_leavesFilter_75 : decode b_Ck_leavesFilter 75 = .ok (.iload_n 3, 1) := by decide +kernel
theorem d_Ck_leavesFilter_76 : decode b_Ck_leavesFilter 76 = .ok (.if_icmp .lt 7, 3) := by decide +kernel
theorem d_Ck_leavesFilter_79 : decode b_Ck_leavesFilter 79 = .ok (.iconst 1, 1) := by decide +kernel
theorem d_Ck_leavesFilter_80 : decode b_Ck_leavesFilter 80 = .ok (.goto 4, 3) := by decide +kernel
theorem d_Ck_leavesFilter_83 : decode b_Ck_leavesFilter 83 = .ok (.iconst 0, 1) := by decide +kernel
theorem d_Ck_leavesFilter_84 : decode b_Ck_leavesFilter 84 = .ok (.ireturn, 1) := by decide +kernel
set_option maxHeartbeats 4000000 in
set_option maxRecDepth 100000 in
theorem c_Ck_leavesFilter (q o y n k : Nat) (fo fy fn fk : Nat → Int32) (L : fx_Prg) (i : Nat) (sz : Nat) (hrep : fx_rep L fo fy fn fk) (hok : fx_ok L) (hi : i < L.length) : fs_I l y_Ck_leavesFilter (k_Ck_leavesFilter :: fs_T) { frames := 0, cells := 0, slots := 0, locals := 0 } (dC, dI) vwCl (fs_tys cI cZ cJ cF) [.ref q, .int (nI i)] [(q, .inr (1, [.ref o, .ref y, .ref n, .ref k, .int (nI L.length)])), (o, .inl (cI, 40, .inl fo)), (y, .inl (cI, 40, .inl fy)), (n, .inl (cI, 40, .inl fn)), (k, .inl (cI, 40, .inl fk))] sz (S := Unit) (fun r _ => (fx_brP L 5 i ∧ r = nI 1) ∨ (¬ fx_brP L 5 i ∧ r = nI 0)) (fun _ => [(q, .inr (1, [.ref o, .ref y, .ref n, .ref k, .int (nI L.length)])), (o, .inl (cI, 40, .inl fo)), (y, .inl (cI, 40, .inl fy)), (n, .inl (cI, 40, .inl fn)), (k, .inl (cI, 40, .inl fk))]) 0 0 := by
  refine fs_head (by decide) (Nat.le_of_ble_eq_true rfl) ?_
  intro p e s m below meth c A ls hx hb hr hts hown hlocks hin hml hK hP hD hS hA hAe hsz hl
  have hl : lv_has ls 4 [(0, .ref q), (1, .int (nI i))] := hl
  have hown : s.vm.findClass R_Ck = some m.cls := hown
  have hlen := hok.1
  have hO := (hok.2 i hi).1
  have hY := (hok.2 i hi).2.1
  have hN := (hok.2 i hi).2.2
  refine lv_aload_n hx hb d_Ck_leavesFilter_0 rfl (lv_at hl 0 rfl) ?_
  refine va_get (D := (dC, dI)) (ci := 1) (v := .ref o) (C := R_Fi) (T := T_Fi) (N := 5) hx hb hts uin_Fi hown hK hP 0 rfl rfl 0 (by decide) (hts _ wi_32) (fun _ h9 => h9) rfl d_Ck_leavesFilter_1 ?_
  refine lv_iload_n hx hb d_Ck_leavesFilter_4 rfl (lv_at hl 1 rfl) ?_
  refine fs_iald (v := nI (fx_O L i)) hx hb hK hP 1 0 rfl rfl i rfl (by decide) (by omega) ((hrep i (by omega)).1) d_Ck_leavesFilter_5 ?_
  refine lv_istore_n hx hb d_Ck_leavesFilter_6 rfl hl (by decide) (lv' := [(2, .int (nI (fx_O L i))), (0, .ref q), (1, .int (nI i))]) rfl (fun ls hl => ?_)
  refine lv_aload_n hx hb d_Ck_leavesFilter_7 rfl (lv_at hl 1 rfl) ?_
  refine va_get (D := (dC, dI)) (ci := 1) (v := .int (nI L.length)) (C := R_Fi) (T := T_Fi) (N := 5) hx hb hts uin_Fi hown hK hP 0 rfl rfl 4 (by decide) (hts _ wi_48) (fun _ h9 => h9) rfl d_Ck_leavesFilter_8 ?_
  refine lv_iconst (v := nI 1) hx hb d_Ck_leavesFilter_11 (by decide) ?_
  refine lv_isub hx hb d_Ck_leavesFilter_12 ?_
  refine fs_eqi (pk_sub (by omega)) ?_
  refine lv_iload_n hx hb d_Ck_leavesFilter_13 rfl (lv_at hl 2 rfl) ?_
  refine lv_isub hx hb d_Ck_leavesFilter_14 ?_
  refine fs_eqi (pk_sub (by omega)) ?_
  refine lv_istore_n hx hb d_Ck_leavesFilter_15 rfl hl (by decide) (lv' := [(3, .int (nI ((L.length - 1) - i))), (2, .int (nI (fx_O L i))), (0, .ref q), (1, .int (nI i))]) rfl (fun ls hl => ?_)
  refine lv_iload_n hx hb d_Ck_leavesFilter_16 rfl (lv_at hl 1 rfl) ?_
  refine lv_bipush (v := nI 25) hx hb d_Ck_leavesFilter_17 (by decide) ?_
  refine lv_icmp_ne (tgt := 47) hx hb d_Ck_leavesFilter_19 (by decide) (fun hc19 => ?_) (fun hc19 => ?_)
  · rw [nI_eq (by omega) (by omega)] at hc19
    refine lv_iload_n hx hb d_Ck_leavesFilter_47 rfl (lv_at hl 1 rfl) ?_
    refine lv_bipush (v := nI 25) hx hb d_Ck_leavesFilter_48 (by decide) ?_
    refine lv_icmp_le (tgt := 83) hx hb d_Ck_leavesFilter_50 (by decide) (fun hc50 => ?_) (fun hc50 => ?_)
    · rw [nI_leI (by omega) (by omega)] at hc50
      refine lv_iconst (v := nI 0) hx hb d_Ck_leavesFilter_83 (by decide) ?_
      exact fs_zret hx hb hr hlocks hAe hK hS d_Ck_leavesFilter_84 (by decide) () (by first | exact Or.inl ⟨by simp only [fx_brP]; omega, rfl⟩ | exact Or.inr ⟨by simp only [fx_brP]; omega, rfl⟩ | exact Or.inr ⟨by simp [fx_brP], rfl⟩) hP hD
    rw [nI_leI (by omega) (by omega)] at hc50
    refine lv_iload_n hx hb d_Ck_leavesFilter_53 rfl (lv_at hl 1 rfl) ?_
    refine lv_bipush (v := nI 31) hx hb d_Ck_leavesFilter_54 (by decide) ?_
    refine lv_icmp_ge (tgt := 83) hx hb d_Ck_leavesFilter_56 (by decide) (fun hc56 => ?_) (fun hc56 => ?_)
    · rw [nI_leI (by omega) (by omega)] at hc56
      refine lv_iconst (v := nI 0) hx hb d_Ck_leavesFilter_83 (by decide) ?_
      exact fs_zret hx hb hr hlocks hAe hK hS d_Ck_leavesFilter_84 (by decide) () (by first | exact Or.inl ⟨by simp only [fx_brP]; omega, rfl⟩ | exact Or.inr ⟨by simp only [fx_brP]; omega, rfl⟩ | exact Or.inr ⟨by simp [fx_brP], rfl⟩) hP hD
    rw [nI_leI (by omega) (by omega)] at hc56
    refine lv_aload_n hx hb d_Ck_leavesFilter_59 rfl (lv_at hl 2 rfl) ?_
    refine va_get (D := (dC, dI)) (ci := 1) (v := .ref y) (C := R_Fi) (T := T_Fi) (N := 5) hx hb hts uin_Fi hown hK hP 0 rfl rfl 1 (by decide) (hts _ wi_37) (fun _ h9 => h9) rfl d_Ck_leavesFilter_60 ?_
    refine lv_iload_n hx hb d_Ck_leavesFilter_63 rfl (lv_at hl 3 rfl) ?_
    refine fs_iald (v := nI (fx_Y L i)) hx hb hK hP 2 0 rfl rfl i rfl (by decide) (by omega) ((hrep i (by omega)).2.1) d_Ck_leavesFilter_64 ?_
    refine lv_iload_n hx hb d_Ck_leavesFilter_65 rfl (lv_at hl 0 rfl) ?_
    refine lv_icmp_ge (tgt := 79) hx hb d_Ck_leavesFilter_66 (by decide) (fun hc66 => ?_) (fun hc66 => ?_)
    · rw [nI_leI (by omega) (by omega)] at hc66
      refine lv_iconst (v := nI 1) hx hb d_Ck_leavesFilter_79 (by decide) ?_
      refine lv_goto (tgt := 84) hx hb d_Ck_leavesFilter_80 (by decide) ?_
      exact fs_zret hx hb hr hlocks hAe hK hS d_Ck_leavesFilter_84 (by decide) () (by first | exact Or.inl ⟨by simp only [fx_brP]; omega, rfl⟩ | exact Or.inr ⟨by simp only [fx_brP]; omega, rfl⟩ | exact Or.inr ⟨by simp [fx_brP], rfl⟩) hP hD
    rw [nI_leI (by omega) (by omega)] at hc66
    refine lv_aload_n hx hb d_Ck_leavesFilter_69 rfl (lv_at hl 2 rfl) ?_
    refine va_get (D := (dC, dI)) (ci := 1) (v := .ref n) (C := R_Fi) (T := T_Fi) (N := 5) hx hb hts uin_Fi hown hK hP 0 rfl rfl 2 (by decide) (hts _ wi_41) (fun _ h9 => h9) rfl d_Ck_leavesFilter_70 ?_
    refine lv_iload_n hx hb d_Ck_leavesFilter_73 rfl (lv_at hl 3 rfl) ?_
    refine fs_iald (v := nI (fx_N L i)) hx hb hK hP 3 0 rfl rfl i rfl (by decide) (by omega) ((hrep i (by omega)).2.2.1) d_Ck_leavesFilter_74 ?_
    refine lv_iload_n hx hb d_Ck_leavesFilter_75 rfl (lv_at hl 0 rfl) ?_
    refine lv_icmp_lt (tgt := 83) hx hb d_Ck_leavesFilter_76 (by decide) (fun hc76 => ?_) (fun hc76 => ?_)
    · rw [nI_ltI (by omega) (by omega)] at hc76
      refine lv_iconst (v := nI 0) hx hb d_Ck_leavesFilter_83 (by decide) ?_
      exact fs_zret hx hb hr hlocks hAe hK hS d_Ck_leavesFilter_84 (by decide) () (by first | exact Or.inl ⟨by simp only [fx_brP]; omega, rfl⟩ | exact Or.inr ⟨by simp only [fx_brP]; omega, rfl⟩ | exact Or.inr ⟨by simp [fx_brP], rfl⟩) hP hD
    rw [nI_ltI (by omega) (by omega)] at hc76
    refine lv_iconst (v := nI 1) hx hb d_Ck_leavesFilter_79 (by decide) ?_
    refine lv_goto (tgt := 84) hx hb d_Ck_leavesFilter_80 (by decide) ?_
    exact fs_zret hx hb hr hlocks hAe hK hS d_Ck_leavesFilter_84 (by decide) () (by first | exact Or.inl ⟨by simp only [fx_brP]; omega, rfl⟩ | exact Or.inr ⟨by simp only [fx_brP]; omega, rfl⟩ | exact Or.inr ⟨by simp [fx_brP], rfl⟩) hP hD
  rw [nI_eq (by omega) (by omega)] at hc19
  refine lv_aload_n hx hb d_Ck_leavesFilter_22 rfl (lv_at hl 2 rfl) ?_
  refine va_get (D := (dC, dI)) (ci := 1) (v := .ref k) (C := R_Fi) (T := T_Fi) (N := 5) hx hb hts uin_Fi hown hK hP 0 rfl rfl 3 (by decide) (hts _ wi_44) (fun _ h9 => h9) rfl d_Ck_leavesFilter_23 ?_
  refine lv_iload_n hx hb d_Ck_leavesFilter_26 rfl (lv_at hl 3 rfl) ?_
  refine fs_iald (v := fx_K L i) hx hb hK hP 4 0 rfl rfl i rfl (by decide) (by omega) ((hrep i (by omega)).2.2.2) d_Ck_leavesFilter_27 ?_
  refine lv_if_lt (tgt := 41) hx hb d_Ck_leavesFilter_28 (by decide) (fun hc28 => ?_) (fun hc28 => ?_)
  · rw [fs_lt0] at hc28
    refine lv_iconst (v := nI 1) hx hb d_Ck_leavesFilter_41 (by decide) ?_
    refine lv_goto (tgt := 46) hx hb d_Ck_leavesFilter_42 (by decide) ?_
    exact fs_zret hx hb hr hlocks hAe hK hS d_Ck_leavesFilter_46 (by decide) () (by first | exact Or.inl ⟨by simp only [fx_brP]; omega, rfl⟩ | exact Or.inr ⟨by simp only [fx_brP]; omega, rfl⟩ | exact Or.inr ⟨by simp [fx_brP], rfl⟩) hP hD
  rw [fs_lt0] at hc28
  refine lv_aload_n hx hb d_Ck_leavesFilter_31 rfl (lv_at hl 2 rfl) ?_
  refine va_get (D := (dC, dI)) (ci := 1) (v := .ref k) (C := R_Fi) (T := T_Fi) (N := 5) hx hb hts uin_Fi hown hK hP 0 rfl rfl 3 (by decide) (hts _ wi_44) (fun _ h9 => h9) rfl d_Ck_leavesFilter_32 ?_
  refine lv_iload_n hx hb d_Ck_leavesFilter_35 rfl (lv_at hl 3 rfl) ?_
  refine fs_iald (v := fx_K L i) hx hb hK hP 4 0 rfl rfl i rfl (by decide) (by omega) ((hrep i (by omega)).2.2.2) d_Ck_leavesFilter_36 ?_
  refine lv_iload_n hx hb d_Ck_leavesFilter_37 rfl (lv_at hl 0 rfl) ?_
  refine lv_icmp_lt (tgt := 45) hx hb d_Ck_leavesFilter_38 (by decide) (fun hc38 => ?_) (fun hc38 => ?_)
  · rw [fs_ltN (by omega)] at hc38
    refine lv_iconst (v := nI 0) hx hb d_Ck_leavesFilter_45 (by decide) ?_
    exact fs_zret hx hb hr hlocks hAe hK hS d_Ck_leavesFilter_46 (by decide) () (by first | exact Or.inl ⟨by simp only [fx_brP]; omega, rfl⟩ | exact Or.inr ⟨by simp only [fx_brP]; omega, rfl⟩ | exact Or.inr ⟨by simp [fx_brP], rfl⟩) hP hD
  rw [fs_ltN (by omega)] at hc38
  refine lv_iconst (v := nI 1) hx hb d_Ck_leavesFilter_41 (by decide) ?_
  refine lv_goto (tgt := 46) hx hb d_Ck_leavesFilter_42 (by decide) ?_
  exact fs_zret hx hb hr hlocks hAe hK hS d_Ck_leavesFilter_46 (by decide) () (by first | exact Or.inl ⟨by simp only [fx_brP]; omega, rfl⟩ | exact Or.inr ⟨by simp only [fx_brP]; omega, rfl⟩ | exact Or.inr ⟨by simp [fx_brP], rfl⟩) hP hD

theorem d_Ck_isBreach_0 : decode b_Ck_isBreach 0 = .ok (.aload_n 0, 1) := by decide +kernel
theorem d_Ck_isBreach_1 : decode b_Ck_isBreach 1 = .ok (.getfield 33, 3) := by decide +kernel
theorem d_Ck_isBreach_4 : decode b_Ck_isBreach 4 = .ok (.iload_n 1, 1) := by decide +kernel
theorem d_Ck_isBreach_5 : decode b_Ck_isBreach 5 = .ok (.iaload, 1) := by decide +kernel
theorem d_Ck_isBreach_6 : decode b_Ck_isBreach 6 = .ok (.istore_n 3, 1) := by decide +kernel
theorem d_Ck_isBreach_7 : decode b_Ck_isBreach 7 = .ok (.aload_n 0, 1) := by decide +kernel
theorem d_Ck_isBreach_8 : decode b_Ck_isBreach 8 = .ok (.getfield 36, 3) := by decide +kernel
theorem d_Ck_isBreach_11 : decode b_Ck_isBreach 11 = .ok (.iload_n 1, 1) := by decide +kernel
theorem d_Ck_isBreach_12 : decode b_Ck_isBreach 12 = .ok (.iaload, 1) := by decide +kernel
theorem d_Ck_isBreach_13 : decode b_Ck_isBreach 13 = .ok (.istore 4, 2) := by decide +kernel
theorem d_Ck_isBreach_15 : decode b_Ck_isBreach 15 = .ok (.iload_n 2, 1) := by decide +kernel
theorem d_Ck_isBreach_16 : decode b_Ck_isBreach 16 = .ok (.tableswitch 136 2 6 #[36, 61, 78, 108, 114], 36) := by decide +kernel
theorem d_Ck_isBreach_52 : decode b_Ck_isBreach 52 = .ok (.iload_n 3, 1) := by decide +kernel
theorem d_Ck_isBreach_53 : decode b_Ck_isBreach 53 = .ok (.invokestatic 39, 3) := by decide +kernel
theorem d_Ck_isBreach_56 : decode b_Ck_isBreach 56 = .ok (.ifCond .eq 19, 3) := by decide +kernel
theorem d_Ck_isBreach_59 : decode b_Ck_isBreach 59 = .ok (.iload 4, 2) := by decide +kernel
theorem d_Ck_isBreach_61 : decode b_Ck_isBreach 61 = .ok (.ifCond .lt 10, 3) := by decide +kernel
theorem d_Ck_isBreach_64 : decode b_Ck_isBreach 64 = .ok (.iload 4, 2) := by decide +kernel
theorem d_Ck_isBreach_66 : decode b_Ck_isBreach 66 = .ok (.bipush 16, 2) := by decide +kernel
theorem d_Ck_isBreach_68 : decode b_Ck_isBreach 68 = .ok (.if_icmp .lt 7, 3) := by decide +kernel
theorem d_Ck_isBreach_71 : decode b_Ck_isBreach 71 = .ok (.iconst 1, 1) := by decide +kernel
theorem d_Ck_isBreach_72 : decode b_Ck_isBreach 72 = .ok (.goto 4, 3) := by decide +kernel
theorem d_Ck_isBreach_75 : decode b_Ck_isBreach 75 = .ok (.iconst 0, 1) := by decide +kernel
theorem d_Ck_isBreach_76 : decode b_Ck_isBreach 76 = .ok (.ireturn, 1) := by decide +kernel
theorem d_Ck_isBreach_77 : decode b_Ck_isBreach 77 = .ok (.iload_n 3, 1) := by decide +kernel
theorem d_Ck_isBreach_78 : decode b_Ck_isBreach 78 = .ok (.bipush 13, 2) := by decide +kernel
theorem d_Ck_isBreach_80 : decode b_Ck_isBreach 80 = .ok (.if_icmp .ne 12, 3) := by decide +kernel
theorem d_Ck_isBreach_83 : decode b_Ck_isBreach 83 = .ok (.iload 4, 2) := by decide +kernel
theorem d_Ck_isBreach_85 : decode b_Ck_isBreach 85 = .ok (.ifCond .ne 7, 3) := by decide +kernel
theorem d_Ck_isBreach_88 : decode b_Ck_isBreach 88 = .ok (.iconst 1, 1) := by decide +kernel
theorem d_Ck_isBreach_89 : decode b_Ck_isBreach 89 = .ok (.goto 4, 3) := by decide +kernel
theorem d_Ck_isBreach_92 : decode b_Ck_isBreach 92 = .ok (.iconst 0, 1) := by decide +kernel
theorem d_Ck_isBreach_93 : decode b_Ck_isBreach 93 = .ok (.ireturn, 1) := by decide +kernel
theorem d_Ck_isBreach_94 : decode b_Ck_isBreach 94 = .ok (.iload_n 3, 1) := by decide +kernel
theorem d_Ck_isBreach_95 : decode b_Ck_isBreach 95 = .ok (.bipush 17, 2) := by decide +kernel
theorem d_Ck_isBreach_97 : decode b_Ck_isBreach 97 = .ok (.if_icmp .eq 9, 3) := by decide +kernel
theorem d_Ck_isBreach_100 : decode b_Ck_isBreach 100 = .ok (.iload_n 3, 1) := by decide +kernel
theorem d_Ck_isBreach_101 : decode b_Ck_isBreach 101 = .ok (.bipush 18, 2) := by decide +kernel
theorem d_Ck_isBreach_103 : decode b_Ck_isBreach 103 = .ok (.if_icmp .ne 19, 3) := by decide +kernel
theorem d_Ck_isBreach_106 : decode b_Ck_isBreach 106 = .ok (.iload 4, 2) := by decide +kernel
theorem d_Ck_isBreach_108 : decode b_Ck_isBreach 108 = .ok (.ifCond .lt 10, 3) := by decide +kernel
theorem d_Ck_isBreach_111 : decode b_Ck_isBreach 111 = .ok (.iload 4, 2) := by decide +kernel
theorem d_Ck_isBreach_113 : decode b_Ck_isBreach 113 = .ok (.bipush 31, 2) := by decide +kernel
theorem d_Ck_isBreach_115 : decode b_Ck_isBreach 115 = .ok (.if_icmp .le 7, 3) := by decide +kernel
theorem d_Ck_isBreach_118 : decode b_Ck_isBreach 118 = .ok (.iconst 1, 1) := by decide +kernel
theorem d_Ck_isBreach_119 : decode b_Ck_isBreach 119 = .ok (.goto 4, 3) := by decide +kernel
theorem d_Ck_isBreach_122 : decode b_Ck_isBreach 122 = .ok (.iconst 0, 1) := by decide +kernel
theorem d_Ck_isBreach_123 : decode b_Ck_isBreach 123 = .ok (.ireturn, 1) := by decide +kernel
theorem d_Ck_isBreach_124 : decode b_Ck_isBreach 124 = .ok (.aload_n 0, 1) := by decide +kernel
theorem d_Ck_isBreach_125 : decode b_Ck_isBreach 125 = .ok (.iload_n 1, 1) := by decide +kernel
theorem d_Ck_isBreach_126 : decode b_Ck_isBreach 126 = .ok (.invokestatic 43, 3) := by decide +kernel
theorem d_Ck_isBreach_129 : decode b_Ck_isBreach 129 = .ok (.ireturn, 1) := by decide +kernel
theorem d_Ck_isBreach_130 : decode b_Ck_isBreach 130 = .ok (.iload_n 1, 1) := by decide +kernel
theorem d_Ck_isBreach_131 : decode b_Ck_isBreach 131 = .ok (.aload_n 0, 1) := by decide +kernel
theorem d_Ck_isBreach_132 : decode b_Ck_isBreach 132 = .ok (.getfield 19, 3) := by decide +kernel
theorem d_Ck_isBreach_135 : decode b_Ck_isBreach 135 = .ok (.iconst 1, 1) := by decide +kernel
theorem d_Ck_isBreach_136 : decode b_Ck_isBreach 136 = .ok (.isub, 1) := by decide +kernel
theorem d_Ck_isBreach_137 : decode b_Ck_isBreach 137 = .ok (.if_icmp .ne 13, 3) := by decide +kernel
theorem d_Ck_isBreach_140 : decode b_Ck_isBreach 140 = .ok (.iload_n 3, 1) := by decide +kernel
theorem d_Ck_isBreach_141 : decode b_Ck_isBreach 141 = .ok (.bipush 31, 2) := by decide +kernel
theorem d_Ck_isBreach_143 : decode b_Ck_isBreach 143 = .ok (.if_icmp .eq 7, 3) := by decide +kernel
theorem d_Ck_isBreach_146 : decode b_Ck_isBreach 146 = .ok (.iconst 1, 1) := by decide +kernel
theorem d_Ck_isBreach_147 : decode b_Ck_isBreach 147 = .ok (.goto 4, 3) := by decide +kernel
theorem d_Ck_isBreach_150 : decode b_Ck_isBreach 150 = .ok (.iconst 0, 1) := by decide +kernel
theorem d_Ck_isBreach_151 : decode b_Ck_isBreach 151 = .ok (.ireturn, 1) := by decide +kernel
theorem d_Ck_isBreach_152 : decode b_Ck_isBreach 152 = .ok (.iconst 0, 1) := by decide +kernel
theorem d_Ck_isBreach_153 : decode b_Ck_isBreach 153 = .ok (.ireturn, 1) := by decide +kernel
set_option maxHeartbeats 4000000 in
set_option maxRecDepth 100000 in
theorem c_Ck_isBreach (q o y n k : Nat) (fo fy fn fk : Nat → Int32) (L : fx_Prg) (i r : Nat) (sz : Nat) (hrep : fx_rep L fo fy fn fk) (hok : fx_ok L) (hi : i < L.length) (hr6 : r ≤ 6) (hr1 : r ≠ 1) : fs_I l y_Ck_isBreach (k_Ck_isBreach :: fs_T) { frames := 2, cells := 0, slots := 0, locals := 40 } (dC, dI) vwCl (fs_tys cI cZ cJ cF) [.ref q, .int (nI i), .int (nI r)] [(q, .inr (1, [.ref o, .ref y, .ref n, .ref k, .int (nI L.length)])), (o, .inl (cI, 40, .inl fo)), (y, .inl (cI, 40, .inl fy)), (n, .inl (cI, 40, .inl fn)), (k, .inl (cI, 40, .inl fk))] sz (S := Unit) (fun z _ => (fx_brP L r i ∧ z = nI 1) ∨ (¬ fx_brP L r i ∧ z = nI 0)) (fun _ => [(q, .inr (1, [.ref o, .ref y, .ref n, .ref k, .int (nI L.length)])), (o, .inl (cI, 40, .inl fo)), (y, .inl (cI, 40, .inl fy)), (n, .inl (cI, 40, .inl fn)), (k, .inl (cI, 40, .inl fk))]) 0 0 := by
  refine fs_head (by decide) (Nat.le_of_ble_eq_true rfl) ?_
  intro p e s m below meth c A ls hx hb hr hts hown hlocks hin hml hK hP hD hS hA hAe hsz hl
  have hl : lv_has ls 5 [(0, .ref q), (1, .int (nI i)), (2, .int (nI r))] := hl
  have hown : s.vm.findClass R_Ck = some m.cls := hown
  have hlen := hok.1
  have hO := (hok.2 i hi).1
  have hY := (hok.2 i hi).2.1
  have hN := (hok.2 i hi).2.2
  refine lv_aload_n hx hb d_Ck_isBreach_0 rfl (lv_at hl 0 rfl) ?_
  refine va_get (D := (dC, dI)) (ci := 1) (v := .ref o) (C := R_Fi) (T := T_Fi) (N := 5) hx hb hts uin_Fi hown hK hP 0 rfl rfl 0 (by decide) (hts _ wi_32) (fun _ h9 => h9) rfl d_Ck_isBreach_1 ?_
  refine lv_iload_n hx hb d_Ck_isBreach_4 rfl (lv_at hl 1 rfl) ?_
  refine fs_iald (v := nI (fx_O L i)) hx hb hK hP 1 0 rfl rfl i rfl (by decide) (by omega) ((hrep i (by omega)).1) d_Ck_isBreach_5 ?_
  refine lv_istore_n hx hb d_Ck_isBreach_6 rfl hl (by decide) (lv' := [(3, .int (nI (fx_O L i))), (0, .ref q), (1, .int (nI i)), (2, .int (nI r))]) rfl (fun ls hl => ?_)
  refine lv_aload_n hx hb d_Ck_isBreach_7 rfl (lv_at hl 1 rfl) ?_
  refine va_get (D := (dC, dI)) (ci := 1) (v := .ref k) (C := R_Fi) (T := T_Fi) (N := 5) hx hb hts uin_Fi hown hK hP 0 rfl rfl 3 (by decide) (hts _ wi_44) (fun _ h9 => h9) rfl d_Ck_isBreach_8 ?_
  refine lv_iload_n hx hb d_Ck_isBreach_11 rfl (lv_at hl 2 rfl) ?_
  refine fs_iald (v := fx_K L i) hx hb hK hP 4 0 rfl rfl i rfl (by decide) (by omega) ((hrep i (by omega)).2.2.2) d_Ck_isBreach_12 ?_
  refine lv_istore hx hb d_Ck_isBreach_13 hl (by decide) (lv' := [(4, .int (fx_K L i)), (3, .int (nI (fx_O L i))), (0, .ref q), (1, .int (nI i)), (2, .int (nI r))]) rfl (fun ls hl => ?_)
  refine lv_iload_n hx hb d_Ck_isBreach_15 rfl (lv_at hl 4 rfl) ?_
  rcases (show r = 0 ∨ r = 2 ∨ r = 3 ∨ r = 4 ∨ r = 5 ∨ r = 6 from by omega) with hsw | hsw | hsw | hsw | hsw | hsw
  · refine fs_eqi (v := nI 0) (by rw [hsw]) ?_
    refine lv_tableOut (tgt := 152) hx hb d_Ck_isBreach_16 (by decide) (by decide) ?_
    refine lv_iconst (v := nI 0) hx hb d_Ck_isBreach_152 (by decide) ?_
    exact fs_zret hx hb hr hlocks hAe hK hS d_Ck_isBreach_153 (by decide) () (by subst hsw; first | exact Or.inl ⟨by simp only [fx_brP]; omega, rfl⟩ | exact Or.inr ⟨by simp only [fx_brP]; omega, rfl⟩ | exact Or.inr ⟨by simp [fx_brP], rfl⟩) hP hD
  · refine fs_eqi (v := nI 2) (by rw [hsw]) ?_
    refine lv_tableIn (off := 36) (tgt := 52) hx hb d_Ck_isBreach_16 (by decide) (by decide) rfl (by decide) ?_
    refine lv_iload_n hx hb d_Ck_isBreach_52 rfl (lv_at hl 1 rfl) ?_
    refine fs_calli (wc := []) (wr := [(q, .inr (1, [.ref o, .ref y, .ref n, .ref k, .int (nI L.length)])), (o, .inl (cI, 40, .inl fo)), (y, .inl (cI, 40, .inl fy)), (n, .inl (cI, 40, .inl fn)), (k, .inl (cI, 40, .inl fk))]) [] [0, 1, 2, 3, 4] hP hD hK hS hA rfl rfl rfl (by decide) (fun hPc hDc => va_runS (As := [.int (nI (fx_O L i))]) (rest := []) ⟨hx, hb, hml, hown, hts⟩ (c_Ck_takesIndex (fx_O L i) _ (by omega)) (⟨callB_of 1 hts (fs_g kin_Ck_takesIndex) rfl rfl rfl (hts _ wi_4) (hts _ wi_211) (by decide +kernel) ⟨Nat.le_of_ble_eq_true rfl, Nat.le_of_ble_eq_true rfl⟩, hts _ wi_212⟩) (fs_preS hPc hK hDc) rfl rfl hl.1 rfl (lv_room (Nat.le_of_ble_eq_true rfl)) d_Ck_isBreach_53 ⟨Nat.le_of_ble_eq_true rfl, Nat.le_of_ble_eq_true rfl⟩) rfl (fun r53 _ H locs hp53 hP hD hS => ?_)
    have hP : va_P (dC, dI) vwCl [(q, .inr (1, [.ref o, .ref y, .ref n, .ref k, .int (nI L.length)])), (o, .inl (cI, 40, .inl fo)), (y, .inl (cI, 40, .inl fy)), (n, .inl (cI, 40, .inl fn)), (k, .inl (cI, 40, .inl fk))] H := hP
    have hD : va_D A [(q, .inr (1, [.ref o, .ref y, .ref n, .ref k, .int (nI L.length)])), (o, .inl (cI, 40, .inl fo)), (y, .inl (cI, 40, .inl fy)), (n, .inl (cI, 40, .inl fn)), (k, .inl (cI, 40, .inl fk))] := hD
    rcases hp53 with ⟨hc53, rfl⟩ | ⟨hc53, rfl⟩
    · refine lv_if_eq (tgt := 75) hx hb d_Ck_isBreach_56 (by decide) (fun hc => absurd hc (by decide)) (fun _ => ?_)
      refine lv_iload hx hb d_Ck_isBreach_59 (lv_at hl 0 rfl) ?_
      refine lv_if_lt (tgt := 71) hx hb d_Ck_isBreach_61 (by decide) (fun hc61 => ?_) (fun hc61 => ?_)
      · rw [fs_lt0] at hc61
        refine lv_iconst (v := nI 1) hx hb d_Ck_isBreach_71 (by decide) ?_
        refine lv_goto (tgt := 76) hx hb d_Ck_isBreach_72 (by decide) ?_
        exact fs_zret hx hb hr hlocks hAe hK hS d_Ck_isBreach_76 (by decide) () (by subst hsw; first | exact Or.inl ⟨by simp only [fx_brP]; omega, rfl⟩ | exact Or.inr ⟨by simp only [fx_brP]; omega, rfl⟩ | exact Or.inr ⟨by simp [fx_brP], rfl⟩) hP hD
      rw [fs_lt0] at hc61
      refine lv_iload hx hb d_Ck_isBreach_64 (lv_at hl 0 rfl) ?_
      refine lv_bipush (v := nI 16) hx hb d_Ck_isBreach_66 (by decide) ?_
      refine lv_icmp_lt (tgt := 75) hx hb d_Ck_isBreach_68 (by decide) (fun hc68 => ?_) (fun hc68 => ?_)
      · rw [fs_ltN (by omega)] at hc68
        refine lv_iconst (v := nI 0) hx hb d_Ck_isBreach_75 (by decide) ?_
        exact fs_zret hx hb hr hlocks hAe hK hS d_Ck_isBreach_76 (by decide) () (by subst hsw; first | exact Or.inl ⟨by simp only [fx_brP]; omega, rfl⟩ | exact Or.inr ⟨by simp only [fx_brP]; omega, rfl⟩ | exact Or.inr ⟨by simp [fx_brP], rfl⟩) hP hD
      rw [fs_ltN (by omega)] at hc68
      refine lv_iconst (v := nI 1) hx hb d_Ck_isBreach_71 (by decide) ?_
      refine lv_goto (tgt := 76) hx hb d_Ck_isBreach_72 (by decide) ?_
      exact fs_zret hx hb hr hlocks hAe hK hS d_Ck_isBreach_76 (by decide) () (by subst hsw; first | exact Or.inl ⟨by simp only [fx_brP]; omega, rfl⟩ | exact Or.inr ⟨by simp only [fx_brP]; omega, rfl⟩ | exact Or.inr ⟨by simp [fx_brP], rfl⟩) hP hD
    refine lv_if_eq (tgt := 75) hx hb d_Ck_isBreach_56 (by decide) (fun _ => ?_) (fun hc => absurd (by decide) hc)
    refine lv_iconst (v := nI 0) hx hb d_Ck_isBreach_75 (by decide) ?_
    exact fs_zret hx hb hr hlocks hAe hK hS d_Ck_isBreach_76 (by decide) () (by subst hsw; first | exact Or.inl ⟨by simp only [fx_brP]; omega, rfl⟩ | exact Or.inr ⟨by simp only [fx_brP]; omega, rfl⟩ | exact Or.inr ⟨by simp [fx_brP], rfl⟩) hP hD
  · refine fs_eqi (v := nI 3) (by rw [hsw]) ?_
    refine lv_tableIn (off := 61) (tgt := 77) hx hb d_Ck_isBreach_16 (by decide) (by decide) rfl (by decide) ?_
    refine lv_iload_n hx hb d_Ck_isBreach_77 rfl (lv_at hl 1 rfl) ?_
    refine lv_bipush (v := nI 13) hx hb d_Ck_isBreach_78 (by decide) ?_
    refine lv_icmp_ne (tgt := 92) hx hb d_Ck_isBreach_80 (by decide) (fun hc80 => ?_) (fun hc80 => ?_)
    · rw [nI_eq (by omega) (by omega)] at hc80
      refine lv_iconst (v := nI 0) hx hb d_Ck_isBreach_92 (by decide) ?_
      exact fs_zret hx hb hr hlocks hAe hK hS d_Ck_isBreach_93 (by decide) () (by subst hsw; first | exact Or.inl ⟨by simp only [fx_brP]; omega, rfl⟩ | exact Or.inr ⟨by simp only [fx_brP]; omega, rfl⟩ | exact Or.inr ⟨by simp [fx_brP], rfl⟩) hP hD
    rw [nI_eq (by omega) (by omega)] at hc80
    refine lv_iload hx hb d_Ck_isBreach_83 (lv_at hl 0 rfl) ?_
    refine lv_if_ne (tgt := 92) hx hb d_Ck_isBreach_85 (by decide) (fun hc85 => ?_) (fun hc85 => ?_)
    · rw [fs_eq0] at hc85
      refine lv_iconst (v := nI 0) hx hb d_Ck_isBreach_92 (by decide) ?_
      exact fs_zret hx hb hr hlocks hAe hK hS d_Ck_isBreach_93 (by decide) () (by subst hsw; first | exact Or.inl ⟨by simp only [fx_brP]; omega, rfl⟩ | exact Or.inr ⟨by simp only [fx_brP]; omega, rfl⟩ | exact Or.inr ⟨by simp [fx_brP], rfl⟩) hP hD
    rw [fs_eq0] at hc85
    refine lv_iconst (v := nI 1) hx hb d_Ck_isBreach_88 (by decide) ?_
    refine lv_goto (tgt := 93) hx hb d_Ck_isBreach_89 (by decide) ?_
    exact fs_zret hx hb hr hlocks hAe hK hS d_Ck_isBreach_93 (by decide) () (by subst hsw; first | exact Or.inl ⟨by simp only [fx_brP]; omega, rfl⟩ | exact Or.inr ⟨by simp only [fx_brP]; omega, rfl⟩ | exact Or.inr ⟨by simp [fx_brP], rfl⟩) hP hD
  · refine fs_eqi (v := nI 4) (by rw [hsw]) ?_
    refine lv_tableIn (off := 78) (tgt := 94) hx hb d_Ck_isBreach_16 (by decide) (by decide) rfl (by decide) ?_
    refine lv_iload_n hx hb d_Ck_isBreach_94 rfl (lv_at hl 1 rfl) ?_
    refine lv_bipush (v := nI 17) hx hb d_Ck_isBreach_95 (by decide) ?_
    refine lv_icmp_eq (tgt := 106) hx hb d_Ck_isBreach_97 (by decide) (fun hc97 => ?_) (fun hc97 => ?_)
    · rw [nI_eq (by omega) (by omega)] at hc97
      refine lv_iload hx hb d_Ck_isBreach_106 (lv_at hl 0 rfl) ?_
      refine lv_if_lt (tgt := 118) hx hb d_Ck_isBreach_108 (by decide) (fun hc108 => ?_) (fun hc108 => ?_)
      · rw [fs_lt0] at hc108
        refine lv_iconst (v := nI 1) hx hb d_Ck_isBreach_118 (by decide) ?_
        refine lv_goto (tgt := 123) hx hb d_Ck_isBreach_119 (by decide) ?_
        exact fs_zret hx hb hr hlocks hAe hK hS d_Ck_isBreach_123 (by decide) () (by subst hsw; first | exact Or.inl ⟨by simp only [fx_brP]; omega, rfl⟩ | exact Or.inr ⟨by simp only [fx_brP]; omega, rfl⟩ | exact Or.inr ⟨by simp [fx_brP], rfl⟩) hP hD
      rw [fs_lt0] at hc108
      refine lv_iload hx hb d_Ck_isBreach_111 (lv_at hl 0 rfl) ?_
      refine lv_bipush (v := nI 31) hx hb d_Ck_isBreach_113 (by decide) ?_
      refine lv_icmp_le (tgt := 122) hx hb d_Ck_isBreach_115 (by decide) (fun hc115 => ?_) (fun hc115 => ?_)
      · rw [fs_leN (by omega)] at hc115
        refine lv_iconst (v := nI 0) hx hb d_Ck_isBreach_122 (by decide) ?_
        exact fs_zret hx hb hr hlocks hAe hK hS d_Ck_isBreach_123 (by decide) () (by subst hsw; first | exact Or.inl ⟨by simp only [fx_brP]; omega, rfl⟩ | exact Or.inr ⟨by simp only [fx_brP]; omega, rfl⟩ | exact Or.inr ⟨by simp [fx_brP], rfl⟩) hP hD
      rw [fs_leN (by omega)] at hc115
      refine lv_iconst (v := nI 1) hx hb d_Ck_isBreach_118 (by decide) ?_
      refine lv_goto (tgt := 123) hx hb d_Ck_isBreach_119 (by decide) ?_
      exact fs_zret hx hb hr hlocks hAe hK hS d_Ck_isBreach_123 (by decide) () (by subst hsw; first | exact Or.inl ⟨by simp only [fx_brP]; omega, rfl⟩ | exact Or.inr ⟨by simp only [fx_brP]; omega, rfl⟩ | exact Or.inr ⟨by simp [fx_brP], rfl⟩) hP hD
    rw [nI_eq (by omega) (by omega)] at hc97
    refine lv_iload_n hx hb d_Ck_isBreach_100 rfl (lv_at hl 1 rfl) ?_
    refine lv_bipush (v := nI 18) hx hb d_Ck_isBreach_101 (by decide) ?_
    refine lv_icmp_ne (tgt := 122) hx hb d_Ck_isBreach_103 (by decide) (fun hc103 => ?_) (fun hc103 => ?_)
    · rw [nI_eq (by omega) (by omega)] at hc103
      refine lv_iconst (v := nI 0) hx hb d_Ck_isBreach_122 (by decide) ?_
      exact fs_zret hx hb hr hlocks hAe hK hS d_Ck_isBreach_123 (by decide) () (by subst hsw; first | exact Or.inl ⟨by simp only [fx_brP]; omega, rfl⟩ | exact Or.inr ⟨by simp only [fx_brP]; omega, rfl⟩ | exact Or.inr ⟨by simp [fx_brP], rfl⟩) hP hD
    rw [nI_eq (by omega) (by omega)] at hc103
    refine lv_iload hx hb d_Ck_isBreach_106 (lv_at hl 0 rfl) ?_
    refine lv_if_lt (tgt := 118) hx hb d_Ck_isBreach_108 (by decide) (fun hc108 => ?_) (fun hc108 => ?_)
    · rw [fs_lt0] at hc108
      refine lv_iconst (v := nI 1) hx hb d_Ck_isBreach_118 (by decide) ?_
      refine lv_goto (tgt := 123) hx hb d_Ck_isBreach_119 (by decide) ?_
      exact fs_zret hx hb hr hlocks hAe hK hS d_Ck_isBreach_123 (by decide) () (by subst hsw; first | exact Or.inl ⟨by simp only [fx_brP]; omega, rfl⟩ | exact Or.inr ⟨by simp only [fx_brP]; omega, rfl⟩ | exact Or.inr ⟨by simp [fx_brP], rfl⟩) hP hD
    rw [fs_lt0] at hc108
    refine lv_iload hx hb d_Ck_isBreach_111 (lv_at hl 0 rfl) ?_
    refine lv_bipush (v := nI 31) hx hb d_Ck_isBreach_113 (by decide) ?_
    refine lv_icmp_le (tgt := 122) hx hb d_Ck_isBreach_115 (by decide) (fun hc115 => ?_) (fun hc115 => ?_)
    · rw [fs_leN (by omega)] at hc115
      refine lv_iconst (v := nI 0) hx hb d_Ck_isBreach_122 (by decide) ?_
      exact fs_zret hx hb hr hlocks hAe hK hS d_Ck_isBreach_123 (by decide) () (by subst hsw; first | exact Or.inl ⟨by simp only [fx_brP]; omega, rfl⟩ | exact Or.inr ⟨by simp only [fx_brP]; omega, rfl⟩ | exact Or.inr ⟨by simp [fx_brP], rfl⟩) hP hD
    rw [fs_leN (by omega)] at hc115
    refine lv_iconst (v := nI 1) hx hb d_Ck_isBreach_118 (by decide) ?_
    refine lv_goto (tgt := 123) hx hb d_Ck_isBreach_119 (by decide) ?_
    exact fs_zret hx hb hr hlocks hAe hK hS d_Ck_isBreach_123 (by decide) () (by subst hsw; first | exact Or.inl ⟨by simp only [fx_brP]; omega, rfl⟩ | exact Or.inr ⟨by simp only [fx_brP]; omega, rfl⟩ | exact Or.inr ⟨by simp [fx_brP], rfl⟩) hP hD
  · refine fs_eqi (v := nI 5) (by rw [hsw]) ?_
    refine lv_tableIn (off := 108) (tgt := 124) hx hb d_Ck_isBreach_16 (by decide) (by decide) rfl (by decide) ?_
    refine lv_aload_n hx hb d_Ck_isBreach_124 rfl (lv_at hl 2 rfl) ?_
    refine lv_iload_n hx hb d_Ck_isBreach_125 rfl (lv_at hl 3 rfl) ?_
    refine fs_calli (wc := [(q, .inr (1, [.ref o, .ref y, .ref n, .ref k, .int (nI L.length)])), (o, .inl (cI, 40, .inl fo)), (y, .inl (cI, 40, .inl fy)), (n, .inl (cI, 40, .inl fn)), (k, .inl (cI, 40, .inl fk))]) (wr := []) [0, 1, 2, 3, 4] [] hP hD hK hS hA rfl rfl rfl (by decide) (fun hPc hDc => va_runS (As := [.ref q, .int (nI i)]) (rest := []) ⟨hx, hb, hml, hown, hts⟩ (c_Ck_leavesFilter q o y n k fo fy fn fk L i _ hrep hok hi) (⟨callB_of 2 hts (fs_g kin_Ck_leavesFilter) rfl rfl rfl (hts _ wi_4) (hts _ wi_214) (by decide +kernel) ⟨Nat.le_of_ble_eq_true rfl, Nat.le_of_ble_eq_true rfl⟩, hts _ wi_215⟩) (fs_preS hPc hK hDc) rfl rfl hl.1 rfl (lv_room (Nat.le_of_ble_eq_true rfl)) d_Ck_isBreach_126 ⟨Nat.le_of_ble_eq_true rfl, Nat.le_of_ble_eq_true rfl⟩) rfl (fun r126 _ H locs hp126 hP hD hS => ?_)
    have hP : va_P (dC, dI) vwCl [(q, .inr (1, [.ref o, .ref y, .ref n, .ref k, .int (nI L.length)])), (o, .inl (cI, 40, .inl fo)), (y, .inl (cI, 40, .inl fy)), (n, .inl (cI, 40, .inl fn)), (k, .inl (cI, 40, .inl fk))] H := hP
    have hD : va_D A [(q, .inr (1, [.ref o, .ref y, .ref n, .ref k, .int (nI L.length)])), (o, .inl (cI, 40, .inl fo)), (y, .inl (cI, 40, .inl fy)), (n, .inl (cI, 40, .inl fn)), (k, .inl (cI, 40, .inl fk))] := hD
    rcases hp126 with ⟨hc126, rfl⟩ | ⟨hc126, rfl⟩
    · exact fs_zret hx hb hr hlocks hAe hK hS d_Ck_isBreach_129 (by decide) () (by subst hsw; first | exact Or.inl ⟨by assumption, rfl⟩ | exact Or.inr ⟨by assumption, rfl⟩) hP hD
    exact fs_zret hx hb hr hlocks hAe hK hS d_Ck_isBreach_129 (by decide) () (by subst hsw; first | exact Or.inl ⟨by assumption, rfl⟩ | exact Or.inr ⟨by assumption, rfl⟩) hP hD
  · refine fs_eqi (v := nI 6) (by rw [hsw]) ?_
    refine lv_tableIn (off := 114) (tgt := 130) hx hb d_Ck_isBreach_16 (by decide) (by decide) rfl (by decide) ?_
    refine lv_iload_n hx hb d_Ck_isBreach_130 rfl (lv_at hl 3 rfl) ?_
    refine lv_aload_n hx hb d_Ck_isBreach_131 rfl (lv_at hl 2 rfl) ?_
    refine va_get (D := (dC, dI)) (ci := 1) (v := .int (nI L.length)) (C := R_Fi) (T := T_Fi) (N := 5) hx hb hts uin_Fi hown hK hP 0 rfl rfl 4 (by decide) (hts _ wi_48) (fun _ h9 => h9) rfl d_Ck_isBreach_132 ?_
    refine lv_iconst (v := nI 1) hx hb d_Ck_isBreach_135 (by decide) ?_
    refine lv_isub hx hb d_Ck_isBreach_136 ?_
    refine fs_eqi (pk_sub (by omega)) ?_
    refine lv_icmp_ne (tgt := 150) hx hb d_Ck_isBreach_137 (by decide) (fun hc137 => ?_) (fun hc137 => ?_)
    · rw [nI_eq (by omega) (by omega)] at hc137
      refine lv_iconst (v := nI 0) hx hb d_Ck_isBreach_150 (by decide) ?_
      exact fs_zret hx hb hr hlocks hAe hK hS d_Ck_isBreach_151 (by decide) () (by subst hsw; first | exact Or.inl ⟨by simp only [fx_brP]; omega, rfl⟩ | exact Or.inr ⟨by simp only [fx_brP]; omega, rfl⟩ | exact Or.inr ⟨by simp [fx_brP], rfl⟩) hP hD
    rw [nI_eq (by omega) (by omega)] at hc137
    refine lv_iload_n hx hb d_Ck_isBreach_140 rfl (lv_at hl 1 rfl) ?_
    refine lv_bipush (v := nI 31) hx hb d_Ck_isBreach_141 (by decide) ?_
    refine lv_icmp_eq (tgt := 150) hx hb d_Ck_isBreach_143 (by decide) (fun hc143 => ?_) (fun hc143 => ?_)
    · rw [nI_eq (by omega) (by omega)] at hc143
      refine lv_iconst (v := nI 0) hx hb d_Ck_isBreach_150 (by decide) ?_
      exact fs_zret hx hb hr hlocks hAe hK hS d_Ck_isBreach_151 (by decide) () (by subst hsw; first | exact Or.inl ⟨by simp only [fx_brP]; omega, rfl⟩ | exact Or.inr ⟨by simp only [fx_brP]; omega, rfl⟩ | exact Or.inr ⟨by simp [fx_brP], rfl⟩) hP hD
    rw [nI_eq (by omega) (by omega)] at hc143
    refine lv_iconst (v := nI 1) hx hb d_Ck_isBreach_146 (by decide) ?_
    refine lv_goto (tgt := 151) hx hb d_Ck_isBreach_147 (by decide) ?_
    exact fs_zret hx hb hr hlocks hAe hK hS d_Ck_isBreach_151 (by decide) () (by subst hsw; first | exact Or.inl ⟨by simp only [fx_brP]; omega, rfl⟩ | exact Or.inr ⟨by simp only [fx_brP]; omega, rfl⟩ | exact Or.inr ⟨by simp [fx_brP], rfl⟩) hP hD

end CK
end
section
/-! the check of early reads: masks against ways -/
def fx_mt (g : Nat → Int32) (t : Nat) (cs : Int32) : Nat → Int32 := fun j => if j = t then g j &&& cs else g j
def fx_ps (L : fx_Prg) (i : Nat) (g : Nat → Int32) (cs : Int32) : Nat → Int32 := fun j => if fx_O L i ≠ 31 ∧ fx_to L i j = true then g j &&& cs else g j
theorem fx_to_lt {L : fx_Prg} {i j : Nat} (h : fx_O L i < 25) : fx_to L i j = true ↔ j = i + 1 := by
  unfold fx_to
  rw [if_neg (by omega), if_neg (by omega)]
  simp
theorem fx_to_25 {L : fx_Prg} {i j : Nat} (h : fx_O L i = 25) : fx_to L i j = true ↔ j = i + 1 + (fx_K L i).toNatClampNeg := by
  unfold fx_to
  rw [if_pos h]
  simp
theorem fx_to_gt {L : fx_Prg} {i j : Nat} (h : 25 < fx_O L i) : fx_to L i j = true ↔ (j = i + 1 + fx_Y L i ∨ j = i + 1 + fx_N L i) := by
  unfold fx_to
  rw [if_neg (by omega), if_pos h]
  simp
def fx_bits (L : fx_Prg) (i : Nat) (g : Nat → Int32) : Prop := ∀ j, j < 40 → ∀ b, b < 16 → (g j).toBitVec.getLsbD b = !(fx_cm L (nI b) i j)
theorem fx_ones : ∀ b, b < 16 → (nI 65535).toBitVec.getLsbD b = true := by decide +kernel
theorem fx_bits0 (L : fx_Prg) : fx_bits L 0 (upd (fun _ => nI 65535) 0 (nI 0)) := by
  intro j hj b hb
  unfold upd fx_cm
  by_cases e : j = 0
  · subst e
    simp [nI]
  · rw [if_neg e, fx_ones b hb]
    simp [e]
def fx_cell (k : Int32) : Int32 := nI 1 <<< ((k &&& nI 15) &&& 31)
theorem fx_cell_bv : ∀ k, k < 16 → (fx_cell (nI k)).toBitVec = BitVec.twoPow 32 k := by decide +kernel
theorem fx_cell_bit {k b : Nat} (hk : k < 16) (hb : b < 16) : (fx_cell (nI k)).toBitVec.getLsbD b = decide (b = k) := by
  rw [fx_cell_bv k hk, BitVec.getLsbD_twoPow]
  by_cases e : b = k
  · subst e
    simp
    omega
  · have e' : ¬ k = b := fun h => e h.symm
    simp [e, e']
theorem fx_cell_and {x : Int32} {k : Nat} (hk : k < 16) : x &&& fx_cell (nI k) = 0 ↔ x.toBitVec.getLsbD k = false := by
  rw [← Int32.toBitVec_inj, Int32.toBitVec_and, fx_cell_bv k hk, BitVec.and_twoPow]
  cases h : x.toBitVec.getLsbD k
  · simp
  · simp only [if_true, Bool.true_eq_false, iff_false]
    intro h2
    have h3 := congrArg (fun z => BitVec.getLsbD z k) h2
    simp [BitVec.getLsbD_twoPow] at h3
    omega
theorem fx_bits_step {L : fx_Prg} {i : Nat} {g : Nat → Int32} {cs : Int32} (h : fx_bits L i g) (hcs : ∀ b, b < 16 → cs.toBitVec.getLsbD b = (!(fx_cm L (nI b) i i) || ((fx_O L i == 8 || fx_O L i == 9) && decide (fx_K L i = nI b)))) : fx_bits L (i + 1) (fx_ps L i g cs) := by
  intro j hj b hb
  have h1 := h j hj b hb
  have h2 := hcs b hb
  unfold fx_ps
  rw [fx_cm]
  by_cases e : fx_O L i ≠ 31 ∧ fx_to L i j = true
  · rw [if_pos e, Int32.toBitVec_and, BitVec.getLsbD_and, h1, h2, e.2]
    have e1 : (fx_O L i == 31) = false := by simpa using e.1
    rw [e1]
    cases fx_cm L (nI b) i j <;> cases fx_cm L (nI b) i i <;> cases ((fx_O L i == 8 || fx_O L i == 9) && decide (fx_K L i = nI b)) <;> rfl
  · rw [if_neg e, h1]
    have e2 : ((!(fx_O L i == 31)) && fx_to L i j) = false := by
      cases hq : fx_to L i j
      · simp
      · by_cases e3 : fx_O L i = 31
        · simp [e3]
        · exact absurd ⟨e3, hq⟩ e
    have e4 : (fx_cm L (nI b) i i && !(fx_O L i == 31) && !((fx_O L i == 8 || fx_O L i == 9) && decide (fx_K L i = nI b)) && fx_to L i j) = false := by
      revert e2
      cases fx_cm L (nI b) i i <;> cases (fx_O L i == 31) <;> cases ((fx_O L i == 8 || fx_O L i == 9) && decide (fx_K L i = nI b)) <;> cases fx_to L i j <;> simp
    rw [e4]
    simp
theorem fx_bits_no {L : fx_Prg} {i : Nat} {g : Nat → Int32} (h : fx_bits L i g) (hi : i < 40) (ho : ¬ (fx_O L i = 8 ∨ fx_O L i = 9)) : fx_bits L (i + 1) (fx_ps L i g (g i)) := by
  refine fx_bits_step h (fun b hb => ?_)
  rw [h i hi b hb]
  have e : (fx_O L i == 8 || fx_O L i == 9) = false := by
    simp
    omega
  rw [e]
  simp
theorem fx_bits_st {L : fx_Prg} {i k : Nat} {g : Nat → Int32} (h : fx_bits L i g) (hi : i < 40) (ho : fx_O L i = 8 ∨ fx_O L i = 9) (hk : k < 16) (hK : fx_K L i = nI k) : fx_bits L (i + 1) (fx_ps L i g (g i ||| fx_cell (fx_K L i))) := by
  refine fx_bits_step h (fun b hb => ?_)
  rw [Int32.toBitVec_or, BitVec.getLsbD_or, h i hi b hb, hK, fx_cell_bit hk hb]
  have e : (fx_O L i == 8 || fx_O L i == 9) = true := by
    simp
    omega
  rw [e]
  have e2 : (nI k = nI b) ↔ (b = k) := by
    rw [nI_eq (by omega) (by omega)]
    omega
  simp [e2]
/-- no rule from 2 to 6 is broken -/
def fx_good (L : fx_Prg) : Prop := ∀ t, 2 ≤ t → t ≤ 6 → ∀ i, i < L.length → ¬ fx_brP L t i
theorem fx_at_no {L : fx_Prg} {t : Nat} (h2 : 2 ≤ t) (h6 : t ≤ 6) (h : fx_at L t = none) : ∀ i, i < L.length → ¬ fx_brP L t i := by
  unfold fx_at at h
  rw [if_neg (by omega), if_neg (by omega)] at h
  exact fun i hi => fx_br_f.mp (fx_fst_of_none h i hi)
theorem fx_chk_none {L : fx_Prg} (h : ∀ t, 1 ≤ t → t ≤ 7 → fx_at L t = none) : fx_chk L = 0 := by
  simp [fx_chk, fx_chkF, h]
theorem fx_chk_some {L : fx_Prg} {r i : Nat} (h1 : 1 ≤ r) (h7 : r ≤ 7) (hs : fx_at L r = some i) (hn : ∀ t, 1 ≤ t → t < r → fx_at L t = none) : fx_chk L = r + 8 * i := by
  rcases (show r = 1 ∨ r = 2 ∨ r = 3 ∨ r = 4 ∨ r = 5 ∨ r = 6 ∨ r = 7 by omega) with rfl | rfl | rfl | rfl | rfl | rfl | rfl <;> simp [fx_chk, fx_chkF, hs, hn]
/-- reading the check's number -/
theorem fx_chk_cases (L : fx_Prg) : (fx_chk L = 0 ∧ ∀ t, 1 ≤ t → t ≤ 7 → fx_at L t = none) ∨ ∃ r i, 1 ≤ r ∧ r ≤ 7 ∧ fx_at L r = some i ∧ (∀ t, 1 ≤ t → t < r → fx_at L t = none) ∧ fx_chk L = r + 8 * i := by
  have key : ∀ r, r ≤ 7 → (∀ t, 1 ≤ t → t ≤ r → fx_at L t = none) ∨ ∃ q i, 1 ≤ q ∧ q ≤ 7 ∧ fx_at L q = some i ∧ (∀ t, 1 ≤ t → t < q → fx_at L t = none) := by
    intro r
    induction r with
    | zero => exact fun _ => Or.inl (fun t h1 h2 => by omega)
    | succ r ih =>
      intro hr
      rcases ih (by omega) with h | h
      · cases hq : fx_at L (r + 1) with
        | none =>
          refine Or.inl (fun t h1 h2 => ?_)
          by_cases e : t = r + 1
          · rw [e]; exact hq
          · exact h t h1 (by omega)
        | some i => exact Or.inr ⟨r + 1, i, by omega, hr, hq, fun t h1 h2 => h t h1 (by omega)⟩
      · exact Or.inr h
  rcases key 7 (by omega) with h | ⟨q, i, h1, h2, h3, h4⟩
  · exact Or.inl ⟨fx_chk_none h, h⟩
  · exact Or.inr ⟨q, i, h1, h2, h3, h4, fx_chk_some h1 h2 h3 h4⟩
end
section
section CK2
variable {l : Launch} {dC : Nat → ClassId} {dI : Nat → Nat → Nat} {cI cZ cJ cF : ClassId}
theorem fx_ps_lt {L : fx_Prg} {i j : Nat} {g : Nat → Int32} {cs : Int32} (h : fx_O L i < 25) : fx_mt g (i + 1) cs j = fx_ps L i g cs j := by
  unfold fx_mt fx_ps
  by_cases e : j = i + 1
  · rw [if_pos e, if_pos ⟨by omega, (fx_to_lt h).mpr e⟩]
  · rw [if_neg e, if_neg (fun q => e ((fx_to_lt h).mp q.2))]
theorem fx_ps_25 {L : fx_Prg} {i j : Nat} {g : Nat → Int32} {cs : Int32} (h : fx_O L i = 25) : fx_mt g (i + 1 + (fx_K L i).toNatClampNeg) cs j = fx_ps L i g cs j := by
  unfold fx_mt fx_ps
  by_cases e : j = i + 1 + (fx_K L i).toNatClampNeg
  · rw [if_pos e, if_pos ⟨by omega, (fx_to_25 h).mpr e⟩]
  · rw [if_neg e, if_neg (fun q => e ((fx_to_25 h).mp q.2))]
theorem fx_ps_gt {L : fx_Prg} {i j : Nat} {g : Nat → Int32} {cs : Int32} (h : 25 < fx_O L i) (h31 : fx_O L i ≠ 31) : fx_mt (fx_mt g (i + 1 + fx_Y L i) cs) (i + 1 + fx_N L i) cs j = fx_ps L i g cs j := by
  unfold fx_mt fx_ps
  by_cases e : j = i + 1 + fx_Y L i ∨ j = i + 1 + fx_N L i
  · rw [if_pos (c := fx_O L i ≠ 31 ∧ fx_to L i j = true) ⟨h31, (fx_to_gt h).mpr e⟩]
    by_cases e2 : j = i + 1 + fx_N L i
    · rw [if_pos e2]
      by_cases e1 : j = i + 1 + fx_Y L i
      · rw [if_pos e1, Int32.and_assoc, Int32.and_self]
      · rw [if_neg e1]
    · rw [if_neg e2, if_pos (by omega)]
  · rw [if_neg (c := fx_O L i ≠ 31 ∧ fx_to L i j = true) (fun q => e ((fx_to_gt h).mp q.2)), if_neg (by omega), if_neg (by omega)]
theorem d_Ck_meet_0 : decode b_Ck_meet 0 = .ok (.iload_n 1, 1) := by decide +kernel
theorem d_Ck_meet_1 : decode b_Ck_meet 1 = .ok (.ifCond .lt 19, 3) := by decide +kernel
theorem d_Ck_meet_4 : decode b_Ck_meet 4 = .ok (.iload_n 1, 1) := by decide +kernel
theorem d_Ck_meet_5 : decode b_Ck_meet 5 = .ok (.bipush 40, 2) := by decide +kernel
theorem d_Ck_meet_7 : decode b_Ck_meet 7 = .ok (.if_icmp .ge 13, 3) := by decide +kernel
theorem d_Ck_meet_10 : decode b_Ck_meet 10 = .ok (.aload_n 0, 1) := by decide +kernel
theorem d_Ck_meet_11 : decode b_Ck_meet 11 = .ok (.getfield 9, 3) := by decide +kernel
theorem d_Ck_meet_14 : decode b_Ck_meet 14 = .ok (.iload_n 1, 1) := by decide +kernel
theorem d_Ck_meet_15 : decode b_Ck_meet 15 = .ok (.dup2, 1) := by decide +kernel
theorem d_Ck_meet_16 : decode b_Ck_meet 16 = .ok (.iaload, 1) := by decide +kernel
theorem d_Ck_meet_17 : decode b_Ck_meet 17 = .ok (.iload_n 2, 1) := by decide +kernel
theorem d_Ck_meet_18 : decode b_Ck_meet 18 = .ok (.iand, 1) := by decide +kernel
theorem d_Ck_meet_19 : decode b_Ck_meet 19 = .ok (.iastore, 1) := by decide +kernel
theorem d_Ck_meet_20 : decode b_Ck_meet 20 = .ok (.return_, 1) := by decide +kernel
set_option maxHeartbeats 4000000 in
set_option maxRecDepth 100000 in
theorem c_Ck_meet (ck st t : Nat) (g : Nat → Int32) (cs : Int32) (sz : Nat) (ht : t < 2 ^ 31) : fs_V l y_Ck_meet (k_Ck_meet :: fs_T) { frames := 0, cells := 0, slots := 0, locals := 0 } (dC, dI) vwCl (fs_tys cI cZ cJ cF) [.ref ck, .int (nI t), .int cs] [(ck, .inr (0, [.ref st])), (st, .inl (cI, 40, .inl g))] sz (S := Unit) (fun _ => True) (fun _ => [(ck, .inr (0, [.ref st])), (st, .inl (cI, 40, .inl (fx_mt g t cs)))]) 0 0 := by
  refine fs_head (by decide) (Nat.le_of_ble_eq_true rfl) ?_
  intro p e s m below meth c A ls hx hb hr hts hown hlocks hin hml hK hP hD hS hA hAe hsz hl
  have hl : lv_has ls 3 [(0, .ref ck), (1, .int (nI t)), (2, .int cs)] := hl
  have hown : s.vm.findClass R_Ck = some m.cls := hown
  refine lv_iload_n hx hb d_Ck_meet_0 rfl (lv_at hl 1 rfl) ?_
  refine lv_if_lt (tgt := 20) hx hb d_Ck_meet_1 (by decide) (fun hc => absurd hc (nI_pos (by omega))) (fun _ => ?_)
  refine lv_iload_n hx hb d_Ck_meet_4 rfl (lv_at hl 1 rfl) ?_
  refine lv_bipush (v := nI 40) hx hb d_Ck_meet_5 (by decide) ?_
  refine lv_icmp_ge (tgt := 20) hx hb d_Ck_meet_7 (by decide) (fun hc7 => ?_) (fun hc7 => ?_)
  · rw [nI_leI (by omega) (by omega)] at hc7
    obtain ⟨hP, hD⟩ := fs_atc 1 (g := fx_mt g t cs) (fun j hj => by unfold fx_mt; rw [if_neg (by omega)]) rfl rfl hP hD
    exact fs_vret hx hb hr hlocks hAe hK hS d_Ck_meet_20 () (trivial) hP hD
  rw [nI_leI (by omega) (by omega)] at hc7
  refine lv_aload_n hx hb d_Ck_meet_10 rfl (lv_at hl 0 rfl) ?_
  refine va_get (D := (dC, dI)) (ci := 0) (v := .ref st) (C := R_Ck) (T := T_Ck) (N := 1) hx hb hts uin_Ck hown hK hP 0 rfl rfl 0 (by decide) (hts _ wi_90) (fun _ h9 => h9) rfl d_Ck_meet_11 ?_
  refine lv_iload_n hx hb d_Ck_meet_14 rfl (lv_at hl 1 rfl) ?_
  refine lv_dup2_11 hx hb d_Ck_meet_15 rfl rfl ?_
  refine fs_iald (v := g t) hx hb hK hP 1 0 rfl rfl t rfl (by decide) (by omega) rfl d_Ck_meet_16 ?_
  refine lv_iload_n hx hb d_Ck_meet_17 rfl (lv_at hl 2 rfl) ?_
  refine lv_iand hx hb d_Ck_meet_18 ?_
  refine fs_iast hx hb hK hP hD hS 1 0 rfl rfl t rfl (by decide) (by omega) d_Ck_meet_19 (fun H locs hP hD hS => ?_)
  have hP : va_P (dC, dI) vwCl [(ck, .inr (0, [.ref st])), (st, .inl (cI, 40, .inl (upd g t ((g t) &&& cs))))] H := hP
  have hD : va_D A [(ck, .inr (0, [.ref st])), (st, .inl (cI, 40, .inl (upd g t ((g t) &&& cs))))] := hD
  obtain ⟨hP, hD⟩ := fs_atc 1 (g := fx_mt g t cs) (fun j hj => by unfold fx_mt upd; by_cases e : j = t <;> simp [e]) rfl rfl hP hD
  exact fs_vret hx hb hr hlocks hAe hK hS d_Ck_meet_20 () (trivial) hP hD

theorem d_Ck_passOn_0 : decode b_Ck_passOn 0 = .ok (.aload_n 1, 1) := by decide +kernel
theorem d_Ck_passOn_1 : decode b_Ck_passOn 1 = .ok (.getfield 33, 3) := by decide +kernel
theorem d_Ck_passOn_4 : decode b_Ck_passOn 4 = .ok (.iload_n 2, 1) := by decide +kernel
theorem d_Ck_passOn_5 : decode b_Ck_passOn 5 = .ok (.iaload, 1) := by decide +kernel
theorem d_Ck_passOn_6 : decode b_Ck_passOn 6 = .ok (.istore 4, 2) := by decide +kernel
theorem d_Ck_passOn_8 : decode b_Ck_passOn 8 = .ok (.iload 4, 2) := by decide +kernel
theorem d_Ck_passOn_10 : decode b_Ck_passOn 10 = .ok (.bipush 25, 2) := by decide +kernel
theorem d_Ck_passOn_12 : decode b_Ck_passOn 12 = .ok (.if_icmp .ge 14, 3) := by decide +kernel
theorem d_Ck_passOn_15 : decode b_Ck_passOn 15 = .ok (.aload_n 0, 1) := by decide +kernel
theorem d_Ck_passOn_16 : decode b_Ck_passOn 16 = .ok (.iload_n 2, 1) := by decide +kernel
theorem d_Ck_passOn_17 : decode b_Ck_passOn 17 = .ok (.iconst 1, 1) := by decide +kernel
theorem d_Ck_passOn_18 : decode b_Ck_passOn 18 = .ok (.iadd, 1) := by decide +kernel
theorem d_Ck_passOn_19 : decode b_Ck_passOn 19 = .ok (.iload_n 3, 1) := by decide +kernel
theorem d_Ck_passOn_20 : decode b_Ck_passOn 20 = .ok (.invokevirtual 70, 3) := by decide +kernel
theorem d_Ck_passOn_23 : decode b_Ck_passOn 23 = .ok (.goto 65, 3) := by decide +kernel
theorem d_Ck_passOn_26 : decode b_Ck_passOn 26 = .ok (.iload 4, 2) := by decide +kernel
theorem d_Ck_passOn_28 : decode b_Ck_passOn 28 = .ok (.bipush 25, 2) := by decide +kernel
theorem d_Ck_passOn_30 : decode b_Ck_passOn 30 = .ok (.if_icmp .ne 21, 3) := by decide +kernel
theorem d_Ck_passOn_33 : decode b_Ck_passOn 33 = .ok (.aload_n 0, 1) := by decide +kernel
theorem d_Ck_passOn_34 : decode b_Ck_passOn 34 = .ok (.iload_n 2, 1) := by decide +kernel
theorem d_Ck_passOn_35 : decode b_Ck_passOn 35 = .ok (.iconst 1, 1) := by decide +kernel
theorem d_Ck_passOn_36 : decode b_Ck_passOn 36 = .ok (.iadd, 1) := by decide +kernel
theorem d_Ck_passOn_37 : decode b_Ck_passOn 37 = .ok (.aload_n 1, 1) := by decide +kernel
theorem d_Ck_passOn_38 : decode b_Ck_passOn 38 = .ok (.getfield 36, 3) := by decide +kernel
theorem d_Ck_passOn_41 : decode b_Ck_passOn 41 = .ok (.iload_n 2, 1) := by decide +kernel
theorem d_Ck_passOn_42 : decode b_Ck_passOn 42 = .ok (.iaload, 1) := by decide +kernel
theorem d_Ck_passOn_43 : decode b_Ck_passOn 43 = .ok (.iadd, 1) := by decide +kernel
theorem d_Ck_passOn_44 : decode b_Ck_passOn 44 = .ok (.iload_n 3, 1) := by decide +kernel
theorem d_Ck_passOn_45 : decode b_Ck_passOn 45 = .ok (.invokevirtual 70, 3) := by decide +kernel
theorem d_Ck_passOn_48 : decode b_Ck_passOn 48 = .ok (.goto 40, 3) := by decide +kernel
theorem d_Ck_passOn_51 : decode b_Ck_passOn 51 = .ok (.iload 4, 2) := by decide +kernel
theorem d_Ck_passOn_53 : decode b_Ck_passOn 53 = .ok (.bipush 31, 2) := by decide +kernel
theorem d_Ck_passOn_55 : decode b_Ck_passOn 55 = .ok (.if_icmp .ge 33, 3) := by decide +kernel
theorem d_Ck_passOn_58 : decode b_Ck_passOn 58 = .ok (.aload_n 0, 1) := by decide +kernel
theorem d_Ck_passOn_59 : decode b_Ck_passOn 59 = .ok (.iload_n 2, 1) := by decide +kernel
theorem d_Ck_passOn_60 : decode b_Ck_passOn 60 = .ok (.iconst 1, 1) := by decide +kernel
theorem d_Ck_passOn_61 : decode b_Ck_passOn 61 = .ok (.iadd, 1) := by decide +kernel
theorem d_Ck_passOn_62 : decode b_Ck_passOn 62 = .ok (.aload_n 1, 1) := by decide +kernel
theorem d_Ck_passOn_63 : decode b_Ck_passOn 63 = .ok (.getfield 53, 3) := by decide +kernel
theorem d_Ck_passOn_66 : decode b_Ck_passOn 66 = .ok (.iload_n 2, 1) := by decide +kernel
theorem d_Ck_passOn_67 : decode b_Ck_passOn 67 = .ok (.iaload, 1) := by decide +kernel
theorem d_Ck_passOn_68 : decode b_Ck_passOn 68 = .ok (.iadd, 1) := by decide +kernel
theorem d_Ck_passOn_69 : decode b_Ck_passOn 69 = .ok (.iload_n 3, 1) := by decide +kernel
theorem d_Ck_passOn_70 : decode b_Ck_passOn 70 = .ok (.invokevirtual 70, 3) := by decide +kernel
theorem d_Ck_passOn_73 : decode b_Ck_passOn 73 = .ok (.aload_n 0, 1) := by decide +kernel
theorem d_Ck_passOn_74 : decode b_Ck_passOn 74 = .ok (.iload_n 2, 1) := by decide +kernel
theorem d_Ck_passOn_75 : decode b_Ck_passOn 75 = .ok (.iconst 1, 1) := by decide +kernel
theorem d_Ck_passOn_76 : decode b_Ck_passOn 76 = .ok (.iadd, 1) := by decide +kernel
theorem d_Ck_passOn_77 : decode b_Ck_passOn 77 = .ok (.aload_n 1, 1) := by decide +kernel
theorem d_Ck_passOn_78 : decode b_Ck_passOn 78 = .ok (.getfield 56, 3) := by decide +kernel
theorem d_Ck_passOn_81 : decode b_Ck_passOn 81 = .ok (.iload_n 2, 1) := by decide +kernel
theorem d_Ck_passOn_82 : decode b_Ck_passOn 82 = .ok (.iaload, 1) := by decide +kernel
theorem d_Ck_passOn_83 : decode b_Ck_passOn 83 = .ok (.iadd, 1) := by decide +kernel
theorem d_Ck_passOn_84 : decode b_Ck_passOn 84 = .ok (.iload_n 3, 1) := by decide +kernel
theorem d_Ck_passOn_85 : decode b_Ck_passOn 85 = .ok (.invokevirtual 70, 3) := by decide +kernel
theorem d_Ck_passOn_88 : decode b_Ck_passOn 88 = .ok (.return_, 1) := by decide +kernel
set_option maxHeartbeats 4000000 in
set_option maxRecDepth 100000 in
theorem c_Ck_passOn (ck st : Nat) (g : Nat → Int32) (q o y n k : Nat) (fo fy fn fk : Nat → Int32) (L : fx_Prg) (i : Nat) (cs : Int32) (sz : Nat) (hrep : fx_rep L fo fy fn fk) (hok : fx_ok L) (hi : i < L.length) (hg5 : ¬ fx_brP L 5 i) : fs_V l y_Ck_passOn (k_Ck_passOn :: fs_T) { frames := 1, cells := 0, slots := 0, locals := 22 } (dC, dI) vwCl (fs_tys cI cZ cJ cF) [.ref ck, .ref q, .int (nI i), .int cs] [(ck, .inr (0, [.ref st])), (st, .inl (cI, 40, .inl g)), (q, .inr (1, [.ref o, .ref y, .ref n, .ref k, .int (nI L.length)])), (o, .inl (cI, 40, .inl fo)), (y, .inl (cI, 40, .inl fy)), (n, .inl (cI, 40, .inl fn)), (k, .inl (cI, 40, .inl fk))] sz (S := Unit) (fun _ => True) (fun _ => [(ck, .inr (0, [.ref st])), (st, .inl (cI, 40, .inl (fx_ps L i g cs))), (q, .inr (1, [.ref o, .ref y, .ref n, .ref k, .int (nI L.length)])), (o, .inl (cI, 40, .inl fo)), (y, .inl (cI, 40, .inl fy)), (n, .inl (cI, 40, .inl fn)), (k, .inl (cI, 40, .inl fk))]) 0 0 := by
  refine fs_head (by decide) (Nat.le_of_ble_eq_true rfl) ?_
  intro p e s m below meth c A ls hx hb hr hts hown hlocks hin hml hK hP hD hS hA hAe hsz hl
  have hl : lv_has ls 5 [(0, .ref ck), (1, .ref q), (2, .int (nI i)), (3, .int cs)] := hl
  have hown : s.vm.findClass R_Ck = some m.cls := hown
  have hlen := hok.1
  have hO := (hok.2 i hi).1
  have hY := (hok.2 i hi).2.1
  have hN := (hok.2 i hi).2.2
  refine lv_aload_n hx hb d_Ck_passOn_0 rfl (lv_at hl 1 rfl) ?_
  refine va_get (D := (dC, dI)) (ci := 1) (v := .ref o) (C := R_Fi) (T := T_Fi) (N := 5) hx hb hts uin_Fi hown hK hP 2 rfl rfl 0 (by decide) (hts _ wi_32) (fun _ h9 => h9) rfl d_Ck_passOn_1 ?_
  refine lv_iload_n hx hb d_Ck_passOn_4 rfl (lv_at hl 2 rfl) ?_
  refine fs_iald (v := nI (fx_O L i)) hx hb hK hP 3 0 rfl rfl i rfl (by decide) (by omega) ((hrep i (by omega)).1) d_Ck_passOn_5 ?_
  refine lv_istore hx hb d_Ck_passOn_6 hl (by decide) (lv' := [(4, .int (nI (fx_O L i))), (0, .ref ck), (1, .ref q), (2, .int (nI i)), (3, .int cs)]) rfl (fun ls hl => ?_)
  refine lv_iload hx hb d_Ck_passOn_8 (lv_at hl 0 rfl) ?_
  refine lv_bipush (v := nI 25) hx hb d_Ck_passOn_10 (by decide) ?_
  refine lv_icmp_ge (tgt := 26) hx hb d_Ck_passOn_12 (by decide) (fun hc12 => ?_) (fun hc12 => ?_)
  · rw [nI_leI (by omega) (by omega)] at hc12
    refine lv_iload hx hb d_Ck_passOn_26 (lv_at hl 0 rfl) ?_
    refine lv_bipush (v := nI 25) hx hb d_Ck_passOn_28 (by decide) ?_
    refine lv_icmp_ne (tgt := 51) hx hb d_Ck_passOn_30 (by decide) (fun hc30 => ?_) (fun hc30 => ?_)
    · rw [nI_eq (by omega) (by omega)] at hc30
      refine lv_iload hx hb d_Ck_passOn_51 (lv_at hl 0 rfl) ?_
      refine lv_bipush (v := nI 31) hx hb d_Ck_passOn_53 (by decide) ?_
      refine lv_icmp_ge (tgt := 88) hx hb d_Ck_passOn_55 (by decide) (fun hc55 => ?_) (fun hc55 => ?_)
      · rw [nI_leI (by omega) (by omega)] at hc55
        obtain ⟨hP, hD⟩ := fs_atc 1 (g := fx_ps L i g cs) (fun j hj => by unfold fx_ps; rw [if_neg (fun h => h.1 (by omega))]) rfl rfl hP hD
        exact fs_vret hx hb hr hlocks hAe hK hS d_Ck_passOn_88 () (trivial) hP hD
      rw [nI_leI (by omega) (by omega)] at hc55
      refine lv_aload_n hx hb d_Ck_passOn_58 rfl (lv_at hl 1 rfl) ?_
      refine lv_iload_n hx hb d_Ck_passOn_59 rfl (lv_at hl 3 rfl) ?_
      refine lv_iconst (v := nI 1) hx hb d_Ck_passOn_60 (by decide) ?_
      refine lv_iadd hx hb d_Ck_passOn_61 ?_
      refine fs_eqi (nI_add _ _) ?_
      refine lv_aload_n hx hb d_Ck_passOn_62 rfl (lv_at hl 2 rfl) ?_
      refine va_get (D := (dC, dI)) (ci := 1) (v := .ref y) (C := R_Fi) (T := T_Fi) (N := 5) hx hb hts uin_Fi hown hK hP 2 rfl rfl 1 (by decide) (hts _ wi_37) (fun _ h9 => h9) rfl d_Ck_passOn_63 ?_
      refine lv_iload_n hx hb d_Ck_passOn_66 rfl (lv_at hl 3 rfl) ?_
      refine fs_iald (v := nI (fx_Y L i)) hx hb hK hP 4 0 rfl rfl i rfl (by decide) (by omega) ((hrep i (by omega)).2.1) d_Ck_passOn_67 ?_
      refine lv_iadd hx hb d_Ck_passOn_68 ?_
      refine fs_eqi (nI_add _ _) ?_
      refine lv_iload_n hx hb d_Ck_passOn_69 rfl (lv_at hl 4 rfl) ?_
      refine fs_callv (wc := [(ck, .inr (0, [.ref st])), (st, .inl (cI, 40, .inl g))]) (wr := [(q, .inr (1, [.ref o, .ref y, .ref n, .ref k, .int (nI L.length)])), (o, .inl (cI, 40, .inl fo)), (y, .inl (cI, 40, .inl fy)), (n, .inl (cI, 40, .inl fn)), (k, .inl (cI, 40, .inl fk))]) [0, 1] [2, 3, 4, 5, 6] hP hD hK hS hA rfl rfl rfl (by decide) (fun hPc hDc => va_runV (C := R_Ck) (As := [.int (nI (i + 1 + fx_Y L i)), .int cs]) (rest := []) ⟨hx, hb, hml, hown, hts⟩ (c_Ck_meet ck st (i + 1 + fx_Y L i) g cs _ (by omega)) (⟨callB_of 2 hts (fs_g kin_Ck_meet) rfl rfl rfl (hts _ wi_4) (hts _ wi_204) (by decide +kernel) ⟨Nat.le_of_ble_eq_true rfl, Nat.le_of_ble_eq_true rfl⟩, hts _ wi_206, hts _ sel_Ck_meet⟩) (fs_preV (q0 := 0) rfl rfl hPc hK hDc) rfl rfl hl.1 rfl (lv_room (Nat.le_of_ble_eq_true rfl)) d_Ck_passOn_70 ⟨Nat.le_of_ble_eq_true rfl, Nat.le_of_ble_eq_true rfl⟩) rfl (fun _ H locs hp70 hP hD hS => ?_)
      have hP : va_P (dC, dI) vwCl [(ck, .inr (0, [.ref st])), (st, .inl (cI, 40, .inl (fx_mt g (i + 1 + fx_Y L i) cs))), (q, .inr (1, [.ref o, .ref y, .ref n, .ref k, .int (nI L.length)])), (o, .inl (cI, 40, .inl fo)), (y, .inl (cI, 40, .inl fy)), (n, .inl (cI, 40, .inl fn)), (k, .inl (cI, 40, .inl fk))] H := hP.sub [5, 6, 0, 1, 2, 3, 4] rfl
      have hD : va_D A [(ck, .inr (0, [.ref st])), (st, .inl (cI, 40, .inl (fx_mt g (i + 1 + fx_Y L i) cs))), (q, .inr (1, [.ref o, .ref y, .ref n, .ref k, .int (nI L.length)])), (o, .inl (cI, 40, .inl fo)), (y, .inl (cI, 40, .inl fy)), (n, .inl (cI, 40, .inl fn)), (k, .inl (cI, 40, .inl fk))] := hD.sub [5, 6, 0, 1, 2, 3, 4] (by decide) rfl
      refine lv_aload_n hx hb d_Ck_passOn_73 rfl (lv_at hl 1 rfl) ?_
      refine lv_iload_n hx hb d_Ck_passOn_74 rfl (lv_at hl 3 rfl) ?_
      refine lv_iconst (v := nI 1) hx hb d_Ck_passOn_75 (by decide) ?_
      refine lv_iadd hx hb d_Ck_passOn_76 ?_
      refine fs_eqi (nI_add _ _) ?_
      refine lv_aload_n hx hb d_Ck_passOn_77 rfl (lv_at hl 2 rfl) ?_
      refine va_get (D := (dC, dI)) (ci := 1) (v := .ref n) (C := R_Fi) (T := T_Fi) (N := 5) hx hb hts uin_Fi hown hK hP 2 rfl rfl 2 (by decide) (hts _ wi_41) (fun _ h9 => h9) rfl d_Ck_passOn_78 ?_
      refine lv_iload_n hx hb d_Ck_passOn_81 rfl (lv_at hl 3 rfl) ?_
      refine fs_iald (v := nI (fx_N L i)) hx hb hK hP 5 0 rfl rfl i rfl (by decide) (by omega) ((hrep i (by omega)).2.2.1) d_Ck_passOn_82 ?_
      refine lv_iadd hx hb d_Ck_passOn_83 ?_
      refine fs_eqi (nI_add _ _) ?_
      refine lv_iload_n hx hb d_Ck_passOn_84 rfl (lv_at hl 4 rfl) ?_
      refine fs_callv (wc := [(ck, .inr (0, [.ref st])), (st, .inl (cI, 40, .inl (fx_mt g (i + 1 + fx_Y L i) cs)))]) (wr := [(q, .inr (1, [.ref o, .ref y, .ref n, .ref k, .int (nI L.length)])), (o, .inl (cI, 40, .inl fo)), (y, .inl (cI, 40, .inl fy)), (n, .inl (cI, 40, .inl fn)), (k, .inl (cI, 40, .inl fk))]) [0, 1] [2, 3, 4, 5, 6] hP hD hK hS hA rfl rfl rfl (by decide) (fun hPc hDc => va_runV (C := R_Ck) (As := [.int (nI (i + 1 + fx_N L i)), .int cs]) (rest := []) ⟨hx, hb, hml, hown, hts⟩ (c_Ck_meet ck st (i + 1 + fx_N L i) (fx_mt g (i + 1 + fx_Y L i) cs) cs _ (by omega)) (⟨callB_of 2 hts (fs_g kin_Ck_meet) rfl rfl rfl (hts _ wi_4) (hts _ wi_204) (by decide +kernel) ⟨Nat.le_of_ble_eq_true rfl, Nat.le_of_ble_eq_true rfl⟩, hts _ wi_206, hts _ sel_Ck_meet⟩) (fs_preV (q0 := 0) rfl rfl hPc hK hDc) rfl rfl hl.1 rfl (lv_room (Nat.le_of_ble_eq_true rfl)) d_Ck_passOn_85 ⟨Nat.le_of_ble_eq_true rfl, Nat.le_of_ble_eq_true rfl⟩) rfl (fun _ H locs hp85 hP hD hS => ?_)
      have hP : va_P (dC, dI) vwCl [(ck, .inr (0, [.ref st])), (st, .inl (cI, 40, .inl (fx_mt (fx_mt g (i + 1 + fx_Y L i) cs) (i + 1 + fx_N L i) cs))), (q, .inr (1, [.ref o, .ref y, .ref n, .ref k, .int (nI L.length)])), (o, .inl (cI, 40, .inl fo)), (y, .inl (cI, 40, .inl fy)), (n, .inl (cI, 40, .inl fn)), (k, .inl (cI, 40, .inl fk))] H := hP.sub [5, 6, 0, 1, 2, 3, 4] rfl
      have hD : va_D A [(ck, .inr (0, [.ref st])), (st, .inl (cI, 40, .inl (fx_mt (fx_mt g (i + 1 + fx_Y L i) cs) (i + 1 + fx_N L i) cs))), (q, .inr (1, [.ref o, .ref y, .ref n, .ref k, .int (nI L.length)])), (o, .inl (cI, 40, .inl fo)), (y, .inl (cI, 40, .inl fy)), (n, .inl (cI, 40, .inl fn)), (k, .inl (cI, 40, .inl fk))] := hD.sub [5, 6, 0, 1, 2, 3, 4] (by decide) rfl
      obtain ⟨hP, hD⟩ := fs_atc 1 (g := fx_ps L i g cs) (fun j hj => fx_ps_gt (by omega) (by omega)) rfl rfl hP hD
      exact fs_vret hx hb hr hlocks hAe hK hS d_Ck_passOn_88 () (trivial) hP hD
    rw [nI_eq (by omega) (by omega)] at hc30
    refine lv_aload_n hx hb d_Ck_passOn_33 rfl (lv_at hl 1 rfl) ?_
    refine lv_iload_n hx hb d_Ck_passOn_34 rfl (lv_at hl 3 rfl) ?_
    refine lv_iconst (v := nI 1) hx hb d_Ck_passOn_35 (by decide) ?_
    refine lv_iadd hx hb d_Ck_passOn_36 ?_
    refine fs_eqi (nI_add _ _) ?_
    refine lv_aload_n hx hb d_Ck_passOn_37 rfl (lv_at hl 2 rfl) ?_
    refine va_get (D := (dC, dI)) (ci := 1) (v := .ref k) (C := R_Fi) (T := T_Fi) (N := 5) hx hb hts uin_Fi hown hK hP 2 rfl rfl 3 (by decide) (hts _ wi_44) (fun _ h9 => h9) rfl d_Ck_passOn_38 ?_
    refine lv_iload_n hx hb d_Ck_passOn_41 rfl (lv_at hl 3 rfl) ?_
    refine fs_iald (v := fx_K L i) hx hb hK hP 6 0 rfl rfl i rfl (by decide) (by omega) ((hrep i (by omega)).2.2.2) d_Ck_passOn_42 ?_
    refine lv_iadd hx hb d_Ck_passOn_43 ?_
    have hk0 : 0 ≤ (fx_K L i).toInt := by simp only [fx_brP] at hg5; omega
    have hk1 : (fx_K L i).toInt < 40 := by simp only [fx_brP] at hg5; omega
    have hk2 := fs_clampI hk0
    have hk3 := fs_clampN hk0
    refine fs_eqi (v := nI (i + 1 + (fx_K L i).toNatClampNeg)) (by have h := nI_add (i + 1) (fx_K L i).toNatClampNeg; rw [← hk3] at h; exact h) ?_
    refine lv_iload_n hx hb d_Ck_passOn_44 rfl (lv_at hl 4 rfl) ?_
    refine fs_callv (wc := [(ck, .inr (0, [.ref st])), (st, .inl (cI, 40, .inl g))]) (wr := [(q, .inr (1, [.ref o, .ref y, .ref n, .ref k, .int (nI L.length)])), (o, .inl (cI, 40, .inl fo)), (y, .inl (cI, 40, .inl fy)), (n, .inl (cI, 40, .inl fn)), (k, .inl (cI, 40, .inl fk))]) [0, 1] [2, 3, 4, 5, 6] hP hD hK hS hA rfl rfl rfl (by decide) (fun hPc hDc => va_runV (C := R_Ck) (As := [.int (nI (i + 1 + (fx_K L i).toNatClampNeg)), .int cs]) (rest := []) ⟨hx, hb, hml, hown, hts⟩ (c_Ck_meet ck st (i + 1 + (fx_K L i).toNatClampNeg) g cs _ (by omega)) (⟨callB_of 2 hts (fs_g kin_Ck_meet) rfl rfl rfl (hts _ wi_4) (hts _ wi_204) (by decide +kernel) ⟨Nat.le_of_ble_eq_true rfl, Nat.le_of_ble_eq_true rfl⟩, hts _ wi_206, hts _ sel_Ck_meet⟩) (fs_preV (q0 := 0) rfl rfl hPc hK hDc) rfl rfl hl.1 rfl (lv_room (Nat.le_of_ble_eq_true rfl)) d_Ck_passOn_45 ⟨Nat.le_of_ble_eq_true rfl, Nat.le_of_ble_eq_true rfl⟩) rfl (fun _ H locs hp45 hP hD hS => ?_)
    have hP : va_P (dC, dI) vwCl [(ck, .inr (0, [.ref st])), (st, .inl (cI, 40, .inl (fx_mt g (i + 1 + (fx_K L i).toNatClampNeg) cs))), (q, .inr (1, [.ref o, .ref y, .ref n, .ref k, .int (nI L.length)])), (o, .inl (cI, 40, .inl fo)), (y, .inl (cI, 40, .inl fy)), (n, .inl (cI, 40, .inl fn)), (k, .inl (cI, 40, .inl fk))] H := hP.sub [5, 6, 0, 1, 2, 3, 4] rfl
    have hD : va_D A [(ck, .inr (0, [.ref st])), (st, .inl (cI, 40, .inl (fx_mt g (i + 1 + (fx_K L i).toNatClampNeg) cs))), (q, .inr (1, [.ref o, .ref y, .ref n, .ref k, .int (nI L.length)])), (o, .inl (cI, 40, .inl fo)), (y, .inl (cI, 40, .inl fy)), (n, .inl (cI, 40, .inl fn)), (k, .inl (cI, 40, .inl fk))] := hD.sub [5, 6, 0, 1, 2, 3, 4] (by decide) rfl
    refine lv_goto (tgt := 88) hx hb d_Ck_passOn_48 (by decide) ?_
    obtain ⟨hP, hD⟩ := fs_atc 1 (g := fx_ps L i g cs) (fun j hj => fx_ps_25 (by omega)) rfl rfl hP hD
    exact fs_vret hx hb hr hlocks hAe hK hS d_Ck_passOn_88 () (trivial) hP hD
  rw [nI_leI (by omega) (by omega)] at hc12
  refine lv_aload_n hx hb d_Ck_passOn_15 rfl (lv_at hl 1 rfl) ?_
  refine lv_iload_n hx hb d_Ck_passOn_16 rfl (lv_at hl 3 rfl) ?_
  refine lv_iconst (v := nI 1) hx hb d_Ck_passOn_17 (by decide) ?_
  refine lv_iadd hx hb d_Ck_passOn_18 ?_
  refine fs_eqi (nI_add _ _) ?_
  refine lv_iload_n hx hb d_Ck_passOn_19 rfl (lv_at hl 4 rfl) ?_
  refine fs_callv (wc := [(ck, .inr (0, [.ref st])), (st, .inl (cI, 40, .inl g))]) (wr := [(q, .inr (1, [.ref o, .ref y, .ref n, .ref k, .int (nI L.length)])), (o, .inl (cI, 40, .inl fo)), (y, .inl (cI, 40, .inl fy)), (n, .inl (cI, 40, .inl fn)), (k, .inl (cI, 40, .inl fk))]) [0, 1] [2, 3, 4, 5, 6] hP hD hK hS hA rfl rfl rfl (by decide) (fun hPc hDc => va_runV (C := R_Ck) (As := [.int (nI (i + 1)), .int cs]) (rest := []) ⟨hx, hb, hml, hown, hts⟩ (c_Ck_meet ck st (i + 1) g cs _ (by omega)) (⟨callB_of 2 hts (fs_g kin_Ck_meet) rfl rfl rfl (hts _ wi_4) (hts _ wi_204) (by decide +kernel) ⟨Nat.le_of_ble_eq_true rfl, Nat.le_of_ble_eq_true rfl⟩, hts _ wi_206, hts _ sel_Ck_meet⟩) (fs_preV (q0 := 0) rfl rfl hPc hK hDc) rfl rfl hl.1 rfl (lv_room (Nat.le_of_ble_eq_true rfl)) d_Ck_passOn_20 ⟨Nat.le_of_ble_eq_true rfl, Nat.le_of_ble_eq_true rfl⟩) rfl (fun _ H locs hp20 hP hD hS => ?_)
  have hP : va_P (dC, dI) vwCl [(ck, .inr (0, [.ref st])), (st, .inl (cI, 40, .inl (fx_mt g (i + 1) cs))), (q, .inr (1, [.ref o, .ref y, .ref n, .ref k, .int (nI L.length)])), (o, .inl (cI, 40, .inl fo)), (y, .inl (cI, 40, .inl fy)), (n, .inl (cI, 40, .inl fn)), (k, .inl (cI, 40, .inl fk))] H := hP.sub [5, 6, 0, 1, 2, 3, 4] rfl
  have hD : va_D A [(ck, .inr (0, [.ref st])), (st, .inl (cI, 40, .inl (fx_mt g (i + 1) cs))), (q, .inr (1, [.ref o, .ref y, .ref n, .ref k, .int (nI L.length)])), (o, .inl (cI, 40, .inl fo)), (y, .inl (cI, 40, .inl fy)), (n, .inl (cI, 40, .inl fn)), (k, .inl (cI, 40, .inl fk))] := hD.sub [5, 6, 0, 1, 2, 3, 4] (by decide) rfl
  refine lv_goto (tgt := 88) hx hb d_Ck_passOn_23 (by decide) ?_
  obtain ⟨hP, hD⟩ := fs_atc 1 (g := fx_ps L i g cs) (fun j hj => fx_ps_lt (by omega)) rfl rfl hP hD
  exact fs_vret hx hb hr hlocks hAe hK hS d_Ck_passOn_88 () (trivial) hP hD

theorem d_Ck_firstEarlyRead_0 : decode b_Ck_firstEarlyRead 0 = .ok (.aload_n 0, 1) := by decide +kernel
theorem d_Ck_firstEarlyRead_1 : decode b_Ck_firstEarlyRead 1 = .ok (.getfield 9, 3) := by decide +kernel
theorem d_Ck_firstEarlyRead_4 : decode b_Ck_firstEarlyRead 4 = .ok (.ldc 59, 2) := by decide +kernel
theorem d_Ck_firstEarlyRead_6 : decode b_Ck_firstEarlyRead 6 = .ok (.invokestatic 60, 3) := by decide +kernel
theorem d_Ck_firstEarlyRead_9 : decode b_Ck_firstEarlyRead 9 = .ok (.aload_n 0, 1) := by decide +kernel
theorem d_Ck_firstEarlyRead_10 : decode b_Ck_firstEarlyRead 10 = .ok (.getfield 9, 3) := by decide +kernel
theorem d_Ck_firstEarlyRead_13 : decode b_Ck_firstEarlyRead 13 = .ok (.iconst 0, 1) := by decide +kernel
theorem d_Ck_firstEarlyRead_14 : decode b_Ck_firstEarlyRead 14 = .ok (.iconst 0, 1) := by decide +kernel
theorem d_Ck_firstEarlyRead_15 : decode b_Ck_firstEarlyRead 15 = .ok (.iastore, 1) := by decide +kernel
theorem d_Ck_firstEarlyRead_16 : decode b_Ck_firstEarlyRead 16 = .ok (.iconst 0, 1) := by decide +kernel
theorem d_Ck_firstEarlyRead_17 : decode b_Ck_firstEarlyRead 17 = .ok (.istore_n 2, 1) := by decide +kernel
theorem d_Ck_firstEarlyRead_18 : decode b_Ck_firstEarlyRead 18 = .ok (.iload_n 2, 1) := by decide +kernel
theorem d_Ck_firstEarlyRead_19 : decode b_Ck_firstEarlyRead 19 = .ok (.aload_n 1, 1) := by decide +kernel
theorem d_Ck_firstEarlyRead_20 : decode b_Ck_firstEarlyRead 20 = .ok (.getfield 19, 3) := by decide +kernel
theorem d_Ck_firstEarlyRead_23 : decode b_Ck_firstEarlyRead 23 = .ok (.if_icmp .ge 81, 3) := by decide +kernel
theorem d_Ck_firstEarlyRead_26 : decode b_Ck_firstEarlyRead 26 = .ok (.aload_n 1, 1) := by decide +kernel
theorem d_Ck_firstEarlyRead_27 : decode b_Ck_firstEarlyRead 27 = .ok (.getfield 33, 3) := by decide +kernel
theorem d_Ck_firstEarlyRead_30 : decode b_Ck_firstEarlyRead 30 = .ok (.iload_n 2, 1) := by decide +kernel
theorem d_Ck_firstEarlyRead_31 : decode b_Ck_firstEarlyRead 31 = .ok (.iaload, 1) := by decide +kernel
theorem d_Ck_firstEarlyRead_32 : decode b_Ck_firstEarlyRead 32 = .ok (.istore_n 3, 1) := by decide +kernel
theorem d_Ck_firstEarlyRead_33 : decode b_Ck_firstEarlyRead 33 = .ok (.iconst 1, 1) := by decide +kernel
theorem d_Ck_firstEarlyRead_34 : decode b_Ck_firstEarlyRead 34 = .ok (.aload_n 1, 1) := by decide +kernel
theorem d_Ck_firstEarlyRead_35 : decode b_Ck_firstEarlyRead 35 = .ok (.getfield 36, 3) := by decide +kernel
theorem d_Ck_firstEarlyRead_38 : decode b_Ck_firstEarlyRead 38 = .ok (.iload_n 2, 1) := by decide +kernel
theorem d_Ck_firstEarlyRead_39 : decode b_Ck_firstEarlyRead 39 = .ok (.iaload, 1) := by decide +kernel
theorem d_Ck_firstEarlyRead_40 : decode b_Ck_firstEarlyRead 40 = .ok (.bipush 15, 2) := by decide +kernel
theorem d_Ck_firstEarlyRead_42 : decode b_Ck_firstEarlyRead 42 = .ok (.iand, 1) := by decide +kernel
theorem d_Ck_firstEarlyRead_43 : decode b_Ck_firstEarlyRead 43 = .ok (.ishl, 1) := by decide +kernel
theorem d_Ck_firstEarlyRead_44 : decode b_Ck_firstEarlyRead 44 = .ok (.istore 4, 2) := by decide +kernel
theorem d_Ck_firstEarlyRead_46 : decode b_Ck_firstEarlyRead 46 = .ok (.iload_n 3, 1) := by decide +kernel
theorem d_Ck_firstEarlyRead_47 : decode b_Ck_firstEarlyRead 47 = .ok (.invokestatic 47, 3) := by decide +kernel
theorem d_Ck_firstEarlyRead_50 : decode b_Ck_firstEarlyRead 50 = .ok (.ifCond .eq 17, 3) := by decide +kernel
theorem d_Ck_firstEarlyRead_53 : decode b_Ck_firstEarlyRead 53 = .ok (.aload_n 0, 1) := by decide +kernel
theorem d_Ck_firstEarlyRead_54 : decode b_Ck_firstEarlyRead 54 = .ok (.getfield 9, 3) := by decide +kernel
theorem d_Ck_firstEarlyRead_57 : decode b_Ck_firstEarlyRead 57 = .ok (.iload_n 2, 1) := by decide +kernel
theorem d_Ck_firstEarlyRead_58 : decode b_Ck_firstEarlyRead 58 = .ok (.iaload, 1) := by decide +kernel
theorem d_Ck_firstEarlyRead_59 : decode b_Ck_firstEarlyRead 59 = .ok (.iload 4, 2) := by decide +kernel
theorem d_Ck_firstEarlyRead_61 : decode b_Ck_firstEarlyRead 61 = .ok (.iand, 1) := by decide +kernel
theorem d_Ck_firstEarlyRead_62 : decode b_Ck_firstEarlyRead 62 = .ok (.ifCond .ne 5, 3) := by decide +kernel
theorem d_Ck_firstEarlyRead_65 : decode b_Ck_firstEarlyRead 65 = .ok (.iload_n 2, 1) := by decide +kernel
theorem d_Ck_firstEarlyRead_66 : decode b_Ck_firstEarlyRead 66 = .ok (.ireturn, 1) := by decide +kernel
theorem d_Ck_firstEarlyRead_67 : decode b_Ck_firstEarlyRead 67 = .ok (.aload_n 0, 1) := by decide +kernel
theorem d_Ck_firstEarlyRead_68 : decode b_Ck_firstEarlyRead 68 = .ok (.aload_n 1, 1) := by decide +kernel
theorem d_Ck_firstEarlyRead_69 : decode b_Ck_firstEarlyRead 69 = .ok (.iload_n 2, 1) := by decide +kernel
theorem d_Ck_firstEarlyRead_70 : decode b_Ck_firstEarlyRead 70 = .ok (.iload_n 3, 1) := by decide +kernel
theorem d_Ck_firstEarlyRead_71 : decode b_Ck_firstEarlyRead 71 = .ok (.invokestatic 50, 3) := by decide +kernel
theorem d_Ck_firstEarlyRead_74 : decode b_Ck_firstEarlyRead 74 = .ok (.ifCond .eq 15, 3) := by decide +kernel
theorem d_Ck_firstEarlyRead_77 : decode b_Ck_firstEarlyRead 77 = .ok (.aload_n 0, 1) := by decide +kernel
theorem d_Ck_firstEarlyRead_78 : decode b_Ck_firstEarlyRead 78 = .ok (.getfield 9, 3) := by decide +kernel
theorem d_Ck_firstEarlyRead_81 : decode b_Ck_firstEarlyRead 81 = .ok (.iload_n 2, 1) := by decide +kernel
theorem d_Ck_firstEarlyRead_82 : decode b_Ck_firstEarlyRead 82 = .ok (.iaload, 1) := by decide +kernel
theorem d_Ck_firstEarlyRead_83 : decode b_Ck_firstEarlyRead 83 = .ok (.iload 4, 2) := by decide +kernel
theorem d_Ck_firstEarlyRead_85 : decode b_Ck_firstEarlyRead 85 = .ok (.ior, 1) := by decide +kernel
theorem d_Ck_firstEarlyRead_86 : decode b_Ck_firstEarlyRead 86 = .ok (.goto 9, 3) := by decide +kernel
theorem d_Ck_firstEarlyRead_89 : decode b_Ck_firstEarlyRead 89 = .ok (.aload_n 0, 1) := by decide +kernel
theorem d_Ck_firstEarlyRead_90 : decode b_Ck_firstEarlyRead 90 = .ok (.getfield 9, 3) := by decide +kernel
theorem d_Ck_firstEarlyRead_93 : decode b_Ck_firstEarlyRead 93 = .ok (.iload_n 2, 1) := by decide +kernel
theorem d_Ck_firstEarlyRead_94 : decode b_Ck_firstEarlyRead 94 = .ok (.iaload, 1) := by decide +kernel
theorem d_Ck_firstEarlyRead_95 : decode b_Ck_firstEarlyRead 95 = .ok (.invokevirtual 66, 3) := by decide +kernel
theorem d_Ck_firstEarlyRead_98 : decode b_Ck_firstEarlyRead 98 = .ok (.iinc 2 1, 3) := by decide +kernel
theorem d_Ck_firstEarlyRead_101 : decode b_Ck_firstEarlyRead 101 = .ok (.goto (-83), 3) := by decide +kernel
theorem d_Ck_firstEarlyRead_104 : decode b_Ck_firstEarlyRead 104 = .ok (.iconst (-1), 1) := by decide +kernel
theorem d_Ck_firstEarlyRead_105 : decode b_Ck_firstEarlyRead 105 = .ok (.ireturn, 1) := by decide +kernel
set_option maxHeartbeats 4000000 in
set_option maxRecDepth 100000 in
theorem c_Ck_firstEarlyRead (ck st : Nat) (g : Nat → Int32) (q o y n k : Nat) (fo fy fn fk : Nat → Int32) (L : fx_Prg) (sz : Nat) (hrep : fx_rep L fo fy fn fk) (hok : fx_ok L) (hgd : fx_good L) : fs_I l y_Ck_firstEarlyRead (k_Ck_firstEarlyRead :: fs_T) { frames := 2, cells := 0, slots := 0, locals := 46 } (dC, dI) vwCl (fs_tys cI cZ cJ cF) [.ref ck, .ref q] [(ck, .inr (0, [.ref st])), (st, .inl (cI, 40, .inl g)), (q, .inr (1, [.ref o, .ref y, .ref n, .ref k, .int (nI L.length)])), (o, .inl (cI, 40, .inl fo)), (y, .inl (cI, 40, .inl fy)), (n, .inl (cI, 40, .inl fn)), (k, .inl (cI, 40, .inl fk))] sz (S := Nat → Int32) (fun r _ => (fx_fst (fx_early L) L.length = none ∧ r = (-1)) ∨ ∃ i, fx_fst (fx_early L) L.length = some i ∧ r = nI i) (fun u => [(ck, .inr (0, [.ref st])), (st, .inl (cI, 40, .inl u)), (q, .inr (1, [.ref o, .ref y, .ref n, .ref k, .int (nI L.length)])), (o, .inl (cI, 40, .inl fo)), (y, .inl (cI, 40, .inl fy)), (n, .inl (cI, 40, .inl fn)), (k, .inl (cI, 40, .inl fk))]) 0 0 := by
  refine fs_head (by decide) (Nat.le_of_ble_eq_true rfl) ?_
  intro p e s m below meth c A ls hx hb hr hts hown hlocks hin hml hK hP hD hS hA hAe hsz hl
  have hl : lv_has ls 5 [(0, .ref ck), (1, .ref q)] := hl
  have hown : s.vm.findClass R_Ck = some m.cls := hown
  have hlen := hok.1
  refine lv_aload_n hx hb d_Ck_firstEarlyRead_0 rfl (lv_at hl 0 rfl) ?_
  refine va_get (D := (dC, dI)) (ci := 0) (v := .ref st) (C := R_Ck) (T := T_Ck) (N := 1) hx hb hts uin_Ck hown hK hP 0 rfl rfl 0 (by decide) (hts _ wi_90) (fun _ h9 => h9) rfl d_Ck_firstEarlyRead_1 ?_
  refine lv_ldc (v := nI 65535) hx hb hown (hts _ wi_190) d_Ck_firstEarlyRead_4 ?_
  refine fs_callv (wc := [(st, .inl (cI, 40, .inl g))]) (wr := [(ck, .inr (0, [.ref st])), (q, .inr (1, [.ref o, .ref y, .ref n, .ref k, .int (nI L.length)])), (o, .inl (cI, 40, .inl fo)), (y, .inl (cI, 40, .inl fy)), (n, .inl (cI, 40, .inl fn)), (k, .inl (cI, 40, .inl fk))]) [1] [0, 2, 3, 4, 5, 6] hP hD hK hS hA rfl rfl rfl (by decide) (fun hPc hDc => va_runS (As := [.ref st, .int (nI 65535)]) (rest := []) ⟨hx, hb, hml, hown, hts⟩ (c_Ar_fill st 40 g (nI 65535) _ (by decide)) (⟨callB_of 2 hts (fs_g kin_Ar_fill) rfl rfl rfl (hts _ wi_7) (hts _ wi_191) (by decide +kernel) ⟨Nat.le_of_ble_eq_true rfl, Nat.le_of_ble_eq_true rfl⟩, hts _ wi_192⟩) (fs_preS hPc hK hDc) rfl rfl hl.1 rfl (lv_room (Nat.le_of_ble_eq_true rfl)) d_Ck_firstEarlyRead_6 ⟨Nat.le_of_ble_eq_true rfl, Nat.le_of_ble_eq_true rfl⟩) rfl (fun _ H locs hp6 hP hD hS => ?_)
  have hP : va_P (dC, dI) vwCl [(ck, .inr (0, [.ref st])), (st, .inl (cI, 40, .inl (fun _ => nI 65535))), (q, .inr (1, [.ref o, .ref y, .ref n, .ref k, .int (nI L.length)])), (o, .inl (cI, 40, .inl fo)), (y, .inl (cI, 40, .inl fy)), (n, .inl (cI, 40, .inl fn)), (k, .inl (cI, 40, .inl fk))] H := hP.sub [0, 6, 1, 2, 3, 4, 5] rfl
  have hD : va_D A [(ck, .inr (0, [.ref st])), (st, .inl (cI, 40, .inl (fun _ => nI 65535))), (q, .inr (1, [.ref o, .ref y, .ref n, .ref k, .int (nI L.length)])), (o, .inl (cI, 40, .inl fo)), (y, .inl (cI, 40, .inl fy)), (n, .inl (cI, 40, .inl fn)), (k, .inl (cI, 40, .inl fk))] := hD.sub [0, 6, 1, 2, 3, 4, 5] (by decide) rfl
  refine lv_aload_n hx hb d_Ck_firstEarlyRead_9 rfl (lv_at hl 0 rfl) ?_
  refine va_get (D := (dC, dI)) (ci := 0) (v := .ref st) (C := R_Ck) (T := T_Ck) (N := 1) hx hb hts uin_Ck hown hK hP 0 rfl rfl 0 (by decide) (hts _ wi_90) (fun _ h9 => h9) rfl d_Ck_firstEarlyRead_10 ?_
  refine lv_iconst (v := nI 0) hx hb d_Ck_firstEarlyRead_13 (by decide) ?_
  refine lv_iconst (v := nI 0) hx hb d_Ck_firstEarlyRead_14 (by decide) ?_
  refine fs_iast hx hb hK hP hD hS 1 0 rfl rfl 0 rfl (by decide) (by omega) d_Ck_firstEarlyRead_15 (fun H locs hP hD hS => ?_)
  have hP : va_P (dC, dI) vwCl [(ck, .inr (0, [.ref st])), (st, .inl (cI, 40, .inl (upd (fun _ => nI 65535) 0 (nI 0)))), (q, .inr (1, [.ref o, .ref y, .ref n, .ref k, .int (nI L.length)])), (o, .inl (cI, 40, .inl fo)), (y, .inl (cI, 40, .inl fy)), (n, .inl (cI, 40, .inl fn)), (k, .inl (cI, 40, .inl fk))] H := hP
  have hD : va_D A [(ck, .inr (0, [.ref st])), (st, .inl (cI, 40, .inl (upd (fun _ => nI 65535) 0 (nI 0)))), (q, .inr (1, [.ref o, .ref y, .ref n, .ref k, .int (nI L.length)])), (o, .inl (cI, 40, .inl fo)), (y, .inl (cI, 40, .inl fy)), (n, .inl (cI, 40, .inl fn)), (k, .inl (cI, 40, .inl fk))] := hD
  refine lv_iconst (v := nI 0) hx hb d_Ck_firstEarlyRead_16 (by decide) ?_
  refine lv_istore_n hx hb d_Ck_firstEarlyRead_17 rfl hl (by decide) (lv' := [(2, .int (nI 0)), (0, .ref ck), (1, .ref q)]) rfl (fun ls hl => ?_)
  refine fs_loop2 (α1 := Nat) (α2 := Nat → Int32) (fun i g => L.length - i) (fun i g H locs ls => (i ≤ L.length) ∧ (fx_bits L i g) ∧ (∀ j, j < i → fx_early L j = false) ∧ va_P (dC, dI) vwCl [(ck, .inr (0, [.ref st])), (st, .inl (cI, 40, .inl g)), (q, .inr (1, [.ref o, .ref y, .ref n, .ref k, .int (nI L.length)])), (o, .inl (cI, 40, .inl fo)), (y, .inl (cI, 40, .inl fy)), (n, .inl (cI, 40, .inl fn)), (k, .inl (cI, 40, .inl fk))] H ∧ va_D A [(ck, .inr (0, [.ref st])), (st, .inl (cI, 40, .inl g)), (q, .inr (1, [.ref o, .ref y, .ref n, .ref k, .int (nI L.length)])), (o, .inl (cI, 40, .inl fo)), (y, .inl (cI, 40, .inl fy)), (n, .inl (cI, 40, .inl fn)), (k, .inl (cI, 40, .inl fk))] ∧ va_S A s.heap H locs ∧ lv_has ls 5 [(0, .ref ck), (1, .ref q), (2, .int (nI i))]) ?_ 0 (upd (fun _ => nI 65535) 0 (nI 0)) ⟨by omega, fx_bits0 L, fun j hj => absurd hj (by omega), hP, hD, hS, lv_sub hl [1, 2, 0] rfl⟩
  intro i g H locs ls hI ih18
  obtain ⟨hi, hbits, hno, hP, hD, hS, hl⟩ := hI
  refine lv_iload_n hx hb d_Ck_firstEarlyRead_18 rfl (lv_at hl 2 rfl) ?_
  refine lv_aload_n hx hb d_Ck_firstEarlyRead_19 rfl (lv_at hl 1 rfl) ?_
  refine va_get (D := (dC, dI)) (ci := 1) (v := .int (nI L.length)) (C := R_Fi) (T := T_Fi) (N := 5) hx hb hts uin_Fi hown hK hP 2 rfl rfl 4 (by decide) (hts _ wi_48) (fun _ h9 => h9) rfl d_Ck_firstEarlyRead_20 ?_
  refine lv_icmp_ge (tgt := 104) hx hb d_Ck_firstEarlyRead_23 (by decide) (fun hc23 => ?_) (fun hc23 => ?_)
  · rw [nI_leI (by omega) (by omega)] at hc23
    refine lv_iconst (v := (-1)) hx hb d_Ck_firstEarlyRead_104 (by decide) ?_
    exact fs_iret hx hb hr hlocks hAe hK hS d_Ck_firstEarlyRead_105 g (Or.inl ⟨fx_fst_none (fun j hj => hno j (by omega)), rfl⟩) hP hD
  rw [nI_leI (by omega) (by omega)] at hc23
  have hi2 : i < L.length := by omega
  have hO := (hok.2 i hi2).1
  refine lv_aload_n hx hb d_Ck_firstEarlyRead_26 rfl (lv_at hl 1 rfl) ?_
  refine va_get (D := (dC, dI)) (ci := 1) (v := .ref o) (C := R_Fi) (T := T_Fi) (N := 5) hx hb hts uin_Fi hown hK hP 2 rfl rfl 0 (by decide) (hts _ wi_32) (fun _ h9 => h9) rfl d_Ck_firstEarlyRead_27 ?_
  refine lv_iload_n hx hb d_Ck_firstEarlyRead_30 rfl (lv_at hl 2 rfl) ?_
  refine fs_iald (v := nI (fx_O L i)) hx hb hK hP 3 0 rfl rfl i rfl (by decide) (by omega) ((hrep i (by omega)).1) d_Ck_firstEarlyRead_31 ?_
  refine lv_istore_n hx hb d_Ck_firstEarlyRead_32 rfl hl (by decide) (lv' := [(3, .int (nI (fx_O L i))), (0, .ref ck), (1, .ref q), (2, .int (nI i))]) rfl (fun ls hl => ?_)
  refine lv_iconst (v := nI 1) hx hb d_Ck_firstEarlyRead_33 (by decide) ?_
  refine lv_aload_n hx hb d_Ck_firstEarlyRead_34 rfl (lv_at hl 2 rfl) ?_
  refine va_get (D := (dC, dI)) (ci := 1) (v := .ref k) (C := R_Fi) (T := T_Fi) (N := 5) hx hb hts uin_Fi hown hK hP 2 rfl rfl 3 (by decide) (hts _ wi_44) (fun _ h9 => h9) rfl d_Ck_firstEarlyRead_35 ?_
  refine lv_iload_n hx hb d_Ck_firstEarlyRead_38 rfl (lv_at hl 3 rfl) ?_
  refine fs_iald (v := fx_K L i) hx hb hK hP 6 0 rfl rfl i rfl (by decide) (by omega) ((hrep i (by omega)).2.2.2) d_Ck_firstEarlyRead_39 ?_
  refine lv_bipush (v := nI 15) hx hb d_Ck_firstEarlyRead_40 (by decide) ?_
  refine lv_iand hx hb d_Ck_firstEarlyRead_42 ?_
  refine lv_ishl hx hb d_Ck_firstEarlyRead_43 ?_
  refine fs_eqi (v := fx_cell (fx_K L i)) rfl ?_
  refine lv_istore hx hb d_Ck_firstEarlyRead_44 hl (by decide) (lv' := [(4, .int (fx_cell (fx_K L i))), (3, .int (nI (fx_O L i))), (0, .ref ck), (1, .ref q), (2, .int (nI i))]) rfl (fun ls hl => ?_)
  refine lv_iload_n hx hb d_Ck_firstEarlyRead_46 rfl (lv_at hl 1 rfl) ?_
  refine fs_calli (wc := []) (wr := [(ck, .inr (0, [.ref st])), (st, .inl (cI, 40, .inl g)), (q, .inr (1, [.ref o, .ref y, .ref n, .ref k, .int (nI L.length)])), (o, .inl (cI, 40, .inl fo)), (y, .inl (cI, 40, .inl fy)), (n, .inl (cI, 40, .inl fn)), (k, .inl (cI, 40, .inl fk))]) [] [0, 1, 2, 3, 4, 5, 6] hP hD hK hS hA rfl rfl rfl (by decide) (fun hPc hDc => va_runS (As := [.int (nI (fx_O L i))]) (rest := []) ⟨hx, hb, hml, hown, hts⟩ (c_Ck_readsCell (fx_O L i) _ (by omega)) (⟨callB_of 1 hts (fs_g kin_Ck_readsCell) rfl rfl rfl (hts _ wi_4) (hts _ wi_194) (by decide +kernel) ⟨Nat.le_of_ble_eq_true rfl, Nat.le_of_ble_eq_true rfl⟩, hts _ wi_195⟩) (fs_preS hPc hK hDc) rfl rfl hl.1 rfl (lv_room (Nat.le_of_ble_eq_true rfl)) d_Ck_firstEarlyRead_47 ⟨Nat.le_of_ble_eq_true rfl, Nat.le_of_ble_eq_true rfl⟩) rfl (fun r47 _ H locs hp47 hP hD hS => ?_)
  have hP : va_P (dC, dI) vwCl [(ck, .inr (0, [.ref st])), (st, .inl (cI, 40, .inl g)), (q, .inr (1, [.ref o, .ref y, .ref n, .ref k, .int (nI L.length)])), (o, .inl (cI, 40, .inl fo)), (y, .inl (cI, 40, .inl fy)), (n, .inl (cI, 40, .inl fn)), (k, .inl (cI, 40, .inl fk))] H := hP
  have hD : va_D A [(ck, .inr (0, [.ref st])), (st, .inl (cI, 40, .inl g)), (q, .inr (1, [.ref o, .ref y, .ref n, .ref k, .int (nI L.length)])), (o, .inl (cI, 40, .inl fo)), (y, .inl (cI, 40, .inl fy)), (n, .inl (cI, 40, .inl fn)), (k, .inl (cI, 40, .inl fk))] := hD
  rcases hp47 with ⟨hc47, rfl⟩ | ⟨hc47, rfl⟩
  · refine lv_if_eq (tgt := 67) hx hb d_Ck_firstEarlyRead_50 (by decide) (fun hc => absurd hc (by decide)) (fun _ => ?_)
    refine lv_aload_n hx hb d_Ck_firstEarlyRead_53 rfl (lv_at hl 2 rfl) ?_
    refine va_get (D := (dC, dI)) (ci := 0) (v := .ref st) (C := R_Ck) (T := T_Ck) (N := 1) hx hb hts uin_Ck hown hK hP 0 rfl rfl 0 (by decide) (hts _ wi_90) (fun _ h9 => h9) rfl d_Ck_firstEarlyRead_54 ?_
    refine lv_iload_n hx hb d_Ck_firstEarlyRead_57 rfl (lv_at hl 4 rfl) ?_
    refine fs_iald (v := g i) hx hb hK hP 1 0 rfl rfl i rfl (by decide) (by omega) rfl d_Ck_firstEarlyRead_58 ?_
    refine lv_iload hx hb d_Ck_firstEarlyRead_59 (lv_at hl 0 rfl) ?_
    refine lv_iand hx hb d_Ck_firstEarlyRead_61 ?_
    refine lv_if_ne (tgt := 67) hx hb d_Ck_firstEarlyRead_62 (by decide) (fun hc62 => ?_) (fun hc62 => ?_)
    · have hK9 : ∃ b, b < 16 ∧ fx_K L i = nI b := fs_of (by decide) (by have := hgd 2 (by decide) (by decide) i hi2; simp only [fx_brP] at this; omega) (by have := hgd 2 (by decide) (by decide) i hi2; simp only [fx_brP] at this; omega)
      obtain ⟨b, hb16, hKb⟩ := hK9
      have hE : fx_early L i = false := by unfold fx_early; rw [hKb, fx_cell_and hb16, hbits i (by omega) b hb16] at hc62; rw [hKb]; revert hc62; cases fx_cm L (nI b) i i <;> simp
      refine lv_aload_n hx hb d_Ck_firstEarlyRead_67 rfl (lv_at hl 2 rfl) ?_
      refine lv_aload_n hx hb d_Ck_firstEarlyRead_68 rfl (lv_at hl 3 rfl) ?_
      refine lv_iload_n hx hb d_Ck_firstEarlyRead_69 rfl (lv_at hl 4 rfl) ?_
      refine lv_iload_n hx hb d_Ck_firstEarlyRead_70 rfl (lv_at hl 1 rfl) ?_
      refine fs_calli (wc := []) (wr := [(ck, .inr (0, [.ref st])), (st, .inl (cI, 40, .inl g)), (q, .inr (1, [.ref o, .ref y, .ref n, .ref k, .int (nI L.length)])), (o, .inl (cI, 40, .inl fo)), (y, .inl (cI, 40, .inl fy)), (n, .inl (cI, 40, .inl fn)), (k, .inl (cI, 40, .inl fk))]) [] [0, 1, 2, 3, 4, 5, 6] hP hD hK hS hA rfl rfl rfl (by decide) (fun hPc hDc => va_runS (As := [.int (nI (fx_O L i))]) (rest := [.int (nI i), .ref q, .ref ck]) ⟨hx, hb, hml, hown, hts⟩ (c_Ck_storesCell (fx_O L i) _ (by omega)) (⟨callB_of 1 hts (fs_g kin_Ck_storesCell) rfl rfl rfl (hts _ wi_4) (hts _ wi_197) (by decide +kernel) ⟨Nat.le_of_ble_eq_true rfl, Nat.le_of_ble_eq_true rfl⟩, hts _ wi_198⟩) (fs_preS hPc hK hDc) rfl rfl hl.1 rfl (lv_room (Nat.le_of_ble_eq_true rfl)) d_Ck_firstEarlyRead_71 ⟨Nat.le_of_ble_eq_true rfl, Nat.le_of_ble_eq_true rfl⟩) rfl (fun r71 _ H locs hp71 hP hD hS => ?_)
      have hP : va_P (dC, dI) vwCl [(ck, .inr (0, [.ref st])), (st, .inl (cI, 40, .inl g)), (q, .inr (1, [.ref o, .ref y, .ref n, .ref k, .int (nI L.length)])), (o, .inl (cI, 40, .inl fo)), (y, .inl (cI, 40, .inl fy)), (n, .inl (cI, 40, .inl fn)), (k, .inl (cI, 40, .inl fk))] H := hP
      have hD : va_D A [(ck, .inr (0, [.ref st])), (st, .inl (cI, 40, .inl g)), (q, .inr (1, [.ref o, .ref y, .ref n, .ref k, .int (nI L.length)])), (o, .inl (cI, 40, .inl fo)), (y, .inl (cI, 40, .inl fy)), (n, .inl (cI, 40, .inl fn)), (k, .inl (cI, 40, .inl fk))] := hD
      rcases hp71 with ⟨hc71, rfl⟩ | ⟨hc71, rfl⟩
      · refine lv_if_eq (tgt := 89) hx hb d_Ck_firstEarlyRead_74 (by decide) (fun hc => absurd hc (by decide)) (fun _ => ?_)
        refine lv_aload_n hx hb d_Ck_firstEarlyRead_77 rfl (lv_at hl 2 rfl) ?_
        refine va_get (D := (dC, dI)) (ci := 0) (v := .ref st) (C := R_Ck) (T := T_Ck) (N := 1) hx hb hts uin_Ck hown hK hP 0 rfl rfl 0 (by decide) (hts _ wi_90) (fun _ h9 => h9) rfl d_Ck_firstEarlyRead_78 ?_
        refine lv_iload_n hx hb d_Ck_firstEarlyRead_81 rfl (lv_at hl 4 rfl) ?_
        refine fs_iald (v := g i) hx hb hK hP 1 0 rfl rfl i rfl (by decide) (by omega) rfl d_Ck_firstEarlyRead_82 ?_
        refine lv_iload hx hb d_Ck_firstEarlyRead_83 (lv_at hl 0 rfl) ?_
        refine lv_ior hx hb d_Ck_firstEarlyRead_85 ?_
        refine lv_goto (tgt := 95) hx hb d_Ck_firstEarlyRead_86 (by decide) ?_
        refine fs_callv (wc := [(ck, .inr (0, [.ref st])), (st, .inl (cI, 40, .inl g)), (q, .inr (1, [.ref o, .ref y, .ref n, .ref k, .int (nI L.length)])), (o, .inl (cI, 40, .inl fo)), (y, .inl (cI, 40, .inl fy)), (n, .inl (cI, 40, .inl fn)), (k, .inl (cI, 40, .inl fk))]) (wr := []) [0, 1, 2, 3, 4, 5, 6] [] hP hD hK hS hA rfl rfl rfl (by decide) (fun hPc hDc => va_runV (C := R_Ck) (As := [.ref q, .int (nI i), .int ((g i) ||| (fx_cell (fx_K L i)))]) (rest := []) ⟨hx, hb, hml, hown, hts⟩ (c_Ck_passOn ck st g q o y n k fo fy fn fk L i ((g i) ||| (fx_cell (fx_K L i))) _ hrep hok hi2 (hgd 5 (by decide) (by decide) i hi2)) (⟨callB_of 3 hts (fs_g kin_Ck_passOn) rfl rfl rfl (hts _ wi_4) (hts _ wi_200) (by decide +kernel) ⟨Nat.le_of_ble_eq_true rfl, Nat.le_of_ble_eq_true rfl⟩, hts _ wi_202, hts _ sel_Ck_passOn⟩) (fs_preV (q0 := 0) rfl rfl hPc hK hDc) rfl rfl hl.1 rfl (lv_room (Nat.le_of_ble_eq_true rfl)) d_Ck_firstEarlyRead_95 ⟨Nat.le_of_ble_eq_true rfl, Nat.le_of_ble_eq_true rfl⟩) rfl (fun _ H locs hp95 hP hD hS => ?_)
        have hP : va_P (dC, dI) vwCl [(ck, .inr (0, [.ref st])), (st, .inl (cI, 40, .inl (fx_ps L i g ((g i) ||| (fx_cell (fx_K L i)))))), (q, .inr (1, [.ref o, .ref y, .ref n, .ref k, .int (nI L.length)])), (o, .inl (cI, 40, .inl fo)), (y, .inl (cI, 40, .inl fy)), (n, .inl (cI, 40, .inl fn)), (k, .inl (cI, 40, .inl fk))] H := hP
        have hD : va_D A [(ck, .inr (0, [.ref st])), (st, .inl (cI, 40, .inl (fx_ps L i g ((g i) ||| (fx_cell (fx_K L i)))))), (q, .inr (1, [.ref o, .ref y, .ref n, .ref k, .int (nI L.length)])), (o, .inl (cI, 40, .inl fo)), (y, .inl (cI, 40, .inl fy)), (n, .inl (cI, 40, .inl fn)), (k, .inl (cI, 40, .inl fk))] := hD
        refine lv_iinc (v := nI (i + 1)) (k := 4) hx hb d_Ck_firstEarlyRead_98 hl rfl (fs_incN i 1) (by decide) (lv' := [(2, .int (nI (i + 1))), (4, .int (fx_cell (fx_K L i))), (3, .int (nI (fx_O L i))), (0, .ref ck), (1, .ref q)]) rfl (fun ls hl => ?_)
        refine lv_goto (tgt := 18) hx hb d_Ck_firstEarlyRead_101 (by decide) ?_
        exact ih18 (i + 1) (fx_ps L i g ((g i) ||| (fx_cell (fx_K L i)))) _ _ _ (by omega) ⟨by omega, by obtain ⟨b, hb16, hKb⟩ := ((fs_of (by decide) (by have := hgd 2 (by decide) (by decide) i hi2; simp only [fx_brP] at this; omega) (by have := hgd 2 (by decide) (by decide) i hi2; simp only [fx_brP] at this; omega) : ∃ b, b < 16 ∧ fx_K L i = nI b)); exact fx_bits_st hbits (by omega) hc71 hb16 hKb, fun j hj => by rcases Nat.lt_succ_iff_lt_or_eq.mp hj with h | h; exact hno j h; rw [h]; exact hE, hP, hD, hS, lv_sub hl [3, 4, 0] rfl⟩
      refine lv_if_eq (tgt := 89) hx hb d_Ck_firstEarlyRead_74 (by decide) (fun _ => ?_) (fun hc => absurd (by decide) hc)
      refine lv_aload_n hx hb d_Ck_firstEarlyRead_89 rfl (lv_at hl 2 rfl) ?_
      refine va_get (D := (dC, dI)) (ci := 0) (v := .ref st) (C := R_Ck) (T := T_Ck) (N := 1) hx hb hts uin_Ck hown hK hP 0 rfl rfl 0 (by decide) (hts _ wi_90) (fun _ h9 => h9) rfl d_Ck_firstEarlyRead_90 ?_
      refine lv_iload_n hx hb d_Ck_firstEarlyRead_93 rfl (lv_at hl 4 rfl) ?_
      refine fs_iald (v := g i) hx hb hK hP 1 0 rfl rfl i rfl (by decide) (by omega) rfl d_Ck_firstEarlyRead_94 ?_
      refine fs_callv (wc := [(ck, .inr (0, [.ref st])), (st, .inl (cI, 40, .inl g)), (q, .inr (1, [.ref o, .ref y, .ref n, .ref k, .int (nI L.length)])), (o, .inl (cI, 40, .inl fo)), (y, .inl (cI, 40, .inl fy)), (n, .inl (cI, 40, .inl fn)), (k, .inl (cI, 40, .inl fk))]) (wr := []) [0, 1, 2, 3, 4, 5, 6] [] hP hD hK hS hA rfl rfl rfl (by decide) (fun hPc hDc => va_runV (C := R_Ck) (As := [.ref q, .int (nI i), .int (g i)]) (rest := []) ⟨hx, hb, hml, hown, hts⟩ (c_Ck_passOn ck st g q o y n k fo fy fn fk L i (g i) _ hrep hok hi2 (hgd 5 (by decide) (by decide) i hi2)) (⟨callB_of 3 hts (fs_g kin_Ck_passOn) rfl rfl rfl (hts _ wi_4) (hts _ wi_200) (by decide +kernel) ⟨Nat.le_of_ble_eq_true rfl, Nat.le_of_ble_eq_true rfl⟩, hts _ wi_202, hts _ sel_Ck_passOn⟩) (fs_preV (q0 := 0) rfl rfl hPc hK hDc) rfl rfl hl.1 rfl (lv_room (Nat.le_of_ble_eq_true rfl)) d_Ck_firstEarlyRead_95 ⟨Nat.le_of_ble_eq_true rfl, Nat.le_of_ble_eq_true rfl⟩) rfl (fun _ H locs hp95 hP hD hS => ?_)
      have hP : va_P (dC, dI) vwCl [(ck, .inr (0, [.ref st])), (st, .inl (cI, 40, .inl (fx_ps L i g (g i)))), (q, .inr (1, [.ref o, .ref y, .ref n, .ref k, .int (nI L.length)])), (o, .inl (cI, 40, .inl fo)), (y, .inl (cI, 40, .inl fy)), (n, .inl (cI, 40, .inl fn)), (k, .inl (cI, 40, .inl fk))] H := hP
      have hD : va_D A [(ck, .inr (0, [.ref st])), (st, .inl (cI, 40, .inl (fx_ps L i g (g i)))), (q, .inr (1, [.ref o, .ref y, .ref n, .ref k, .int (nI L.length)])), (o, .inl (cI, 40, .inl fo)), (y, .inl (cI, 40, .inl fy)), (n, .inl (cI, 40, .inl fn)), (k, .inl (cI, 40, .inl fk))] := hD
      refine lv_iinc (v := nI (i + 1)) (k := 4) hx hb d_Ck_firstEarlyRead_98 hl rfl (fs_incN i 1) (by decide) (lv' := [(2, .int (nI (i + 1))), (4, .int (fx_cell (fx_K L i))), (3, .int (nI (fx_O L i))), (0, .ref ck), (1, .ref q)]) rfl (fun ls hl => ?_)
      refine lv_goto (tgt := 18) hx hb d_Ck_firstEarlyRead_101 (by decide) ?_
      exact ih18 (i + 1) (fx_ps L i g (g i)) _ _ _ (by omega) ⟨by omega, fx_bits_no hbits (by omega) hc71, fun j hj => by rcases Nat.lt_succ_iff_lt_or_eq.mp hj with h | h; exact hno j h; rw [h]; exact hE, hP, hD, hS, lv_sub hl [3, 4, 0] rfl⟩
    refine lv_iload_n hx hb d_Ck_firstEarlyRead_65 rfl (lv_at hl 4 rfl) ?_
    have hK9 : ∃ b, b < 16 ∧ fx_K L i = nI b := fs_of (by decide) (by have := hgd 2 (by decide) (by decide) i hi2; simp only [fx_brP] at this; omega) (by have := hgd 2 (by decide) (by decide) i hi2; simp only [fx_brP] at this; omega)
    obtain ⟨b, hb16, hKb⟩ := hK9
    have hE : fx_early L i = true := by unfold fx_early; rw [hKb, fx_cell_and hb16, hbits i (by omega) b hb16] at hc62; rw [hKb]; have e : (fx_O L i == 2 || fx_O L i == 5) = true := (by simp; omega); rw [e]; revert hc62; cases fx_cm L (nI b) i i <;> simp
    exact fs_iret hx hb hr hlocks hAe hK hS d_Ck_firstEarlyRead_66 g (Or.inr ⟨i, fx_fst_some hi2 hE hno, rfl⟩) hP hD
  refine lv_if_eq (tgt := 67) hx hb d_Ck_firstEarlyRead_50 (by decide) (fun _ => ?_) (fun hc => absurd (by decide) hc)
  have hE : fx_early L i = false := by unfold fx_early; have e : (fx_O L i == 2 || fx_O L i == 5) = false := (by simp; omega); rw [e]; rfl
  refine lv_aload_n hx hb d_Ck_firstEarlyRead_67 rfl (lv_at hl 2 rfl) ?_
  refine lv_aload_n hx hb d_Ck_firstEarlyRead_68 rfl (lv_at hl 3 rfl) ?_
  refine lv_iload_n hx hb d_Ck_firstEarlyRead_69 rfl (lv_at hl 4 rfl) ?_
  refine lv_iload_n hx hb d_Ck_firstEarlyRead_70 rfl (lv_at hl 1 rfl) ?_
  refine fs_calli (wc := []) (wr := [(ck, .inr (0, [.ref st])), (st, .inl (cI, 40, .inl g)), (q, .inr (1, [.ref o, .ref y, .ref n, .ref k, .int (nI L.length)])), (o, .inl (cI, 40, .inl fo)), (y, .inl (cI, 40, .inl fy)), (n, .inl (cI, 40, .inl fn)), (k, .inl (cI, 40, .inl fk))]) [] [0, 1, 2, 3, 4, 5, 6] hP hD hK hS hA rfl rfl rfl (by decide) (fun hPc hDc => va_runS (As := [.int (nI (fx_O L i))]) (rest := [.int (nI i), .ref q, .ref ck]) ⟨hx, hb, hml, hown, hts⟩ (c_Ck_storesCell (fx_O L i) _ (by omega)) (⟨callB_of 1 hts (fs_g kin_Ck_storesCell) rfl rfl rfl (hts _ wi_4) (hts _ wi_197) (by decide +kernel) ⟨Nat.le_of_ble_eq_true rfl, Nat.le_of_ble_eq_true rfl⟩, hts _ wi_198⟩) (fs_preS hPc hK hDc) rfl rfl hl.1 rfl (lv_room (Nat.le_of_ble_eq_true rfl)) d_Ck_firstEarlyRead_71 ⟨Nat.le_of_ble_eq_true rfl, Nat.le_of_ble_eq_true rfl⟩) rfl (fun r71 _ H locs hp71 hP hD hS => ?_)
  have hP : va_P (dC, dI) vwCl [(ck, .inr (0, [.ref st])), (st, .inl (cI, 40, .inl g)), (q, .inr (1, [.ref o, .ref y, .ref n, .ref k, .int (nI L.length)])), (o, .inl (cI, 40, .inl fo)), (y, .inl (cI, 40, .inl fy)), (n, .inl (cI, 40, .inl fn)), (k, .inl (cI, 40, .inl fk))] H := hP
  have hD : va_D A [(ck, .inr (0, [.ref st])), (st, .inl (cI, 40, .inl g)), (q, .inr (1, [.ref o, .ref y, .ref n, .ref k, .int (nI L.length)])), (o, .inl (cI, 40, .inl fo)), (y, .inl (cI, 40, .inl fy)), (n, .inl (cI, 40, .inl fn)), (k, .inl (cI, 40, .inl fk))] := hD
  rcases hp71 with ⟨hc71, rfl⟩ | ⟨hc71, rfl⟩
  · refine lv_if_eq (tgt := 89) hx hb d_Ck_firstEarlyRead_74 (by decide) (fun hc => absurd hc (by decide)) (fun _ => ?_)
    refine lv_aload_n hx hb d_Ck_firstEarlyRead_77 rfl (lv_at hl 2 rfl) ?_
    refine va_get (D := (dC, dI)) (ci := 0) (v := .ref st) (C := R_Ck) (T := T_Ck) (N := 1) hx hb hts uin_Ck hown hK hP 0 rfl rfl 0 (by decide) (hts _ wi_90) (fun _ h9 => h9) rfl d_Ck_firstEarlyRead_78 ?_
    refine lv_iload_n hx hb d_Ck_firstEarlyRead_81 rfl (lv_at hl 4 rfl) ?_
    refine fs_iald (v := g i) hx hb hK hP 1 0 rfl rfl i rfl (by decide) (by omega) rfl d_Ck_firstEarlyRead_82 ?_
    refine lv_iload hx hb d_Ck_firstEarlyRead_83 (lv_at hl 0 rfl) ?_
    refine lv_ior hx hb d_Ck_firstEarlyRead_85 ?_
    refine lv_goto (tgt := 95) hx hb d_Ck_firstEarlyRead_86 (by decide) ?_
    refine fs_callv (wc := [(ck, .inr (0, [.ref st])), (st, .inl (cI, 40, .inl g)), (q, .inr (1, [.ref o, .ref y, .ref n, .ref k, .int (nI L.length)])), (o, .inl (cI, 40, .inl fo)), (y, .inl (cI, 40, .inl fy)), (n, .inl (cI, 40, .inl fn)), (k, .inl (cI, 40, .inl fk))]) (wr := []) [0, 1, 2, 3, 4, 5, 6] [] hP hD hK hS hA rfl rfl rfl (by decide) (fun hPc hDc => va_runV (C := R_Ck) (As := [.ref q, .int (nI i), .int ((g i) ||| (fx_cell (fx_K L i)))]) (rest := []) ⟨hx, hb, hml, hown, hts⟩ (c_Ck_passOn ck st g q o y n k fo fy fn fk L i ((g i) ||| (fx_cell (fx_K L i))) _ hrep hok hi2 (hgd 5 (by decide) (by decide) i hi2)) (⟨callB_of 3 hts (fs_g kin_Ck_passOn) rfl rfl rfl (hts _ wi_4) (hts _ wi_200) (by decide +kernel) ⟨Nat.le_of_ble_eq_true rfl, Nat.le_of_ble_eq_true rfl⟩, hts _ wi_202, hts _ sel_Ck_passOn⟩) (fs_preV (q0 := 0) rfl rfl hPc hK hDc) rfl rfl hl.1 rfl (lv_room (Nat.le_of_ble_eq_true rfl)) d_Ck_firstEarlyRead_95 ⟨Nat.le_of_ble_eq_true rfl, Nat.le_of_ble_eq_true rfl⟩) rfl (fun _ H locs hp95 hP hD hS => ?_)
    have hP : va_P (dC, dI) vwCl [(ck, .inr (0, [.ref st])), (st, .inl (cI, 40, .inl (fx_ps L i g ((g i) ||| (fx_cell (fx_K L i)))))), (q, .inr (1, [.ref o, .ref y, .ref n, .ref k, .int (nI L.length)])), (o, .inl (cI, 40, .inl fo)), (y, .inl (cI, 40, .inl fy)), (n, .inl (cI, 40, .inl fn)), (k, .inl (cI, 40, .inl fk))] H := hP
    have hD : va_D A [(ck, .inr (0, [.ref st])), (st, .inl (cI, 40, .inl (fx_ps L i g ((g i) ||| (fx_cell (fx_K L i)))))), (q, .inr (1, [.ref o, .ref y, .ref n, .ref k, .int (nI L.length)])), (o, .inl (cI, 40, .inl fo)), (y, .inl (cI, 40, .inl fy)), (n, .inl (cI, 40, .inl fn)), (k, .inl (cI, 40, .inl fk))] := hD
    refine lv_iinc (v := nI (i + 1)) (k := 4) hx hb d_Ck_firstEarlyRead_98 hl rfl (fs_incN i 1) (by decide) (lv' := [(2, .int (nI (i + 1))), (4, .int (fx_cell (fx_K L i))), (3, .int (nI (fx_O L i))), (0, .ref ck), (1, .ref q)]) rfl (fun ls hl => ?_)
    refine lv_goto (tgt := 18) hx hb d_Ck_firstEarlyRead_101 (by decide) ?_
    exact ih18 (i + 1) (fx_ps L i g ((g i) ||| (fx_cell (fx_K L i)))) _ _ _ (by omega) ⟨by omega, by obtain ⟨b, hb16, hKb⟩ := ((fs_of (by decide) (by have := hgd 2 (by decide) (by decide) i hi2; simp only [fx_brP] at this; omega) (by have := hgd 2 (by decide) (by decide) i hi2; simp only [fx_brP] at this; omega) : ∃ b, b < 16 ∧ fx_K L i = nI b)); exact fx_bits_st hbits (by omega) hc71 hb16 hKb, fun j hj => by rcases Nat.lt_succ_iff_lt_or_eq.mp hj with h | h; exact hno j h; rw [h]; exact hE, hP, hD, hS, lv_sub hl [3, 4, 0] rfl⟩
  refine lv_if_eq (tgt := 89) hx hb d_Ck_firstEarlyRead_74 (by decide) (fun _ => ?_) (fun hc => absurd (by decide) hc)
  refine lv_aload_n hx hb d_Ck_firstEarlyRead_89 rfl (lv_at hl 2 rfl) ?_
  refine va_get (D := (dC, dI)) (ci := 0) (v := .ref st) (C := R_Ck) (T := T_Ck) (N := 1) hx hb hts uin_Ck hown hK hP 0 rfl rfl 0 (by decide) (hts _ wi_90) (fun _ h9 => h9) rfl d_Ck_firstEarlyRead_90 ?_
  refine lv_iload_n hx hb d_Ck_firstEarlyRead_93 rfl (lv_at hl 4 rfl) ?_
  refine fs_iald (v := g i) hx hb hK hP 1 0 rfl rfl i rfl (by decide) (by omega) rfl d_Ck_firstEarlyRead_94 ?_
  refine fs_callv (wc := [(ck, .inr (0, [.ref st])), (st, .inl (cI, 40, .inl g)), (q, .inr (1, [.ref o, .ref y, .ref n, .ref k, .int (nI L.length)])), (o, .inl (cI, 40, .inl fo)), (y, .inl (cI, 40, .inl fy)), (n, .inl (cI, 40, .inl fn)), (k, .inl (cI, 40, .inl fk))]) (wr := []) [0, 1, 2, 3, 4, 5, 6] [] hP hD hK hS hA rfl rfl rfl (by decide) (fun hPc hDc => va_runV (C := R_Ck) (As := [.ref q, .int (nI i), .int (g i)]) (rest := []) ⟨hx, hb, hml, hown, hts⟩ (c_Ck_passOn ck st g q o y n k fo fy fn fk L i (g i) _ hrep hok hi2 (hgd 5 (by decide) (by decide) i hi2)) (⟨callB_of 3 hts (fs_g kin_Ck_passOn) rfl rfl rfl (hts _ wi_4) (hts _ wi_200) (by decide +kernel) ⟨Nat.le_of_ble_eq_true rfl, Nat.le_of_ble_eq_true rfl⟩, hts _ wi_202, hts _ sel_Ck_passOn⟩) (fs_preV (q0 := 0) rfl rfl hPc hK hDc) rfl rfl hl.1 rfl (lv_room (Nat.le_of_ble_eq_true rfl)) d_Ck_firstEarlyRead_95 ⟨Nat.le_of_ble_eq_true rfl, Nat.le_of_ble_eq_true rfl⟩) rfl (fun _ H locs hp95 hP hD hS => ?_)
  have hP : va_P (dC, dI) vwCl [(ck, .inr (0, [.ref st])), (st, .inl (cI, 40, .inl (fx_ps L i g (g i)))), (q, .inr (1, [.ref o, .ref y, .ref n, .ref k, .int (nI L.length)])), (o, .inl (cI, 40, .inl fo)), (y, .inl (cI, 40, .inl fy)), (n, .inl (cI, 40, .inl fn)), (k, .inl (cI, 40, .inl fk))] H := hP
  have hD : va_D A [(ck, .inr (0, [.ref st])), (st, .inl (cI, 40, .inl (fx_ps L i g (g i)))), (q, .inr (1, [.ref o, .ref y, .ref n, .ref k, .int (nI L.length)])), (o, .inl (cI, 40, .inl fo)), (y, .inl (cI, 40, .inl fy)), (n, .inl (cI, 40, .inl fn)), (k, .inl (cI, 40, .inl fk))] := hD
  refine lv_iinc (v := nI (i + 1)) (k := 4) hx hb d_Ck_firstEarlyRead_98 hl rfl (fs_incN i 1) (by decide) (lv' := [(2, .int (nI (i + 1))), (4, .int (fx_cell (fx_K L i))), (3, .int (nI (fx_O L i))), (0, .ref ck), (1, .ref q)]) rfl (fun ls hl => ?_)
  refine lv_goto (tgt := 18) hx hb d_Ck_firstEarlyRead_101 (by decide) ?_
  exact ih18 (i + 1) (fx_ps L i g (g i)) _ _ _ (by omega) ⟨by omega, fx_bits_no hbits (by omega) hc71, fun j hj => by rcases Nat.lt_succ_iff_lt_or_eq.mp hj with h | h; exact hno j h; rw [h]; exact hE, hP, hD, hS, lv_sub hl [3, 4, 0] rfl⟩

theorem d_Ck_firstBreach_0 : decode b_Ck_firstBreach 0 = .ok (.iload_n 2, 1) := by decide +kernel
theorem d_Ck_firstBreach_1 : decode b_Ck_firstBreach 1 = .ok (.iconst 1, 1) := by decide +kernel
theorem d_Ck_firstBreach_2 : decode b_Ck_firstBreach 2 = .ok (.if_icmp .ne 16, 3) := by decide +kernel
theorem d_Ck_firstBreach_5 : decode b_Ck_firstBreach 5 = .ok (.aload_n 1, 1) := by decide +kernel
theorem d_Ck_firstBreach_6 : decode b_Ck_firstBreach 6 = .ok (.getfield 19, 3) := by decide +kernel
theorem d_Ck_firstBreach_9 : decode b_Ck_firstBreach 9 = .ok (.ifCond .ne 7, 3) := by decide +kernel
theorem d_Ck_firstBreach_12 : decode b_Ck_firstBreach 12 = .ok (.iconst 0, 1) := by decide +kernel
theorem d_Ck_firstBreach_13 : decode b_Ck_firstBreach 13 = .ok (.goto 4, 3) := by decide +kernel
theorem d_Ck_firstBreach_16 : decode b_Ck_firstBreach 16 = .ok (.iconst (-1), 1) := by decide +kernel
theorem d_Ck_firstBreach_17 : decode b_Ck_firstBreach 17 = .ok (.ireturn, 1) := by decide +kernel
theorem d_Ck_firstBreach_18 : decode b_Ck_firstBreach 18 = .ok (.iload_n 2, 1) := by decide +kernel
theorem d_Ck_firstBreach_19 : decode b_Ck_firstBreach 19 = .ok (.bipush 7, 2) := by decide +kernel
theorem d_Ck_firstBreach_21 : decode b_Ck_firstBreach 21 = .ok (.if_icmp .ne 9, 3) := by decide +kernel
theorem d_Ck_firstBreach_24 : decode b_Ck_firstBreach 24 = .ok (.aload_n 0, 1) := by decide +kernel
theorem d_Ck_firstBreach_25 : decode b_Ck_firstBreach 25 = .ok (.aload_n 1, 1) := by decide +kernel
theorem d_Ck_firstBreach_26 : decode b_Ck_firstBreach 26 = .ok (.invokevirtual 25, 3) := by decide +kernel
theorem d_Ck_firstBreach_29 : decode b_Ck_firstBreach 29 = .ok (.ireturn, 1) := by decide +kernel
theorem d_Ck_firstBreach_30 : decode b_Ck_firstBreach 30 = .ok (.iconst 0, 1) := by decide +kernel
theorem d_Ck_firstBreach_31 : decode b_Ck_firstBreach 31 = .ok (.istore_n 3, 1) := by decide +kernel
theorem d_Ck_firstBreach_32 : decode b_Ck_firstBreach 32 = .ok (.iload_n 3, 1) := by decide +kernel
theorem d_Ck_firstBreach_33 : decode b_Ck_firstBreach 33 = .ok (.aload_n 1, 1) := by decide +kernel
theorem d_Ck_firstBreach_34 : decode b_Ck_firstBreach 34 = .ok (.getfield 19, 3) := by decide +kernel
theorem d_Ck_firstBreach_37 : decode b_Ck_firstBreach 37 = .ok (.if_icmp .ge 20, 3) := by decide +kernel
theorem d_Ck_firstBreach_40 : decode b_Ck_firstBreach 40 = .ok (.aload_n 1, 1) := by decide +kernel
theorem d_Ck_firstBreach_41 : decode b_Ck_firstBreach 41 = .ok (.iload_n 3, 1) := by decide +kernel
theorem d_Ck_firstBreach_42 : decode b_Ck_firstBreach 42 = .ok (.iload_n 2, 1) := by decide +kernel
theorem d_Ck_firstBreach_43 : decode b_Ck_firstBreach 43 = .ok (.invokestatic 29, 3) := by decide +kernel
theorem d_Ck_firstBreach_46 : decode b_Ck_firstBreach 46 = .ok (.ifCond .eq 5, 3) := by decide +kernel
theorem d_Ck_firstBreach_49 : decode b_Ck_firstBreach 49 = .ok (.iload_n 3, 1) := by decide +kernel
theorem d_Ck_firstBreach_50 : decode b_Ck_firstBreach 50 = .ok (.ireturn, 1) := by decide +kernel
theorem d_Ck_firstBreach_51 : decode b_Ck_firstBreach 51 = .ok (.iinc 3 1, 3) := by decide +kernel
theorem d_Ck_firstBreach_54 : decode b_Ck_firstBreach 54 = .ok (.goto (-22), 3) := by decide +kernel
theorem d_Ck_firstBreach_57 : decode b_Ck_firstBreach 57 = .ok (.iconst (-1), 1) := by decide +kernel
theorem d_Ck_firstBreach_58 : decode b_Ck_firstBreach 58 = .ok (.ireturn, 1) := by decide +kernel
set_option maxHeartbeats 4000000 in
set_option maxRecDepth 100000 in
theorem c_Ck_firstBreach (ck st : Nat) (g : Nat → Int32) (q o y n k : Nat) (fo fy fn fk : Nat → Int32) (L : fx_Prg) (r : Nat) (sz : Nat) (hrep : fx_rep L fo fy fn fk) (hok : fx_ok L) (hr7 : r ≤ 7) (hg7 : r = 7 → fx_good L) : fs_I l y_Ck_firstBreach (k_Ck_firstBreach :: fs_T) { frames := 3, cells := 0, slots := 0, locals := 70 } (dC, dI) vwCl (fs_tys cI cZ cJ cF) [.ref ck, .ref q, .int (nI r)] [(ck, .inr (0, [.ref st])), (st, .inl (cI, 40, .inl g)), (q, .inr (1, [.ref o, .ref y, .ref n, .ref k, .int (nI L.length)])), (o, .inl (cI, 40, .inl fo)), (y, .inl (cI, 40, .inl fy)), (n, .inl (cI, 40, .inl fn)), (k, .inl (cI, 40, .inl fk))] sz (S := Nat → Int32) (fun z _ => (fx_at L r = none ∧ z = (-1)) ∨ ∃ i, fx_at L r = some i ∧ z = nI i) (fun u => [(ck, .inr (0, [.ref st])), (st, .inl (cI, 40, .inl u)), (q, .inr (1, [.ref o, .ref y, .ref n, .ref k, .int (nI L.length)])), (o, .inl (cI, 40, .inl fo)), (y, .inl (cI, 40, .inl fy)), (n, .inl (cI, 40, .inl fn)), (k, .inl (cI, 40, .inl fk))]) 0 0 := by
  refine fs_head (by decide) (Nat.le_of_ble_eq_true rfl) ?_
  intro p e s m below meth c A ls hx hb hr hts hown hlocks hin hml hK hP hD hS hA hAe hsz hl
  have hl : lv_has ls 4 [(0, .ref ck), (1, .ref q), (2, .int (nI r))] := hl
  have hown : s.vm.findClass R_Ck = some m.cls := hown
  have hlen := hok.1
  refine lv_iload_n hx hb d_Ck_firstBreach_0 rfl (lv_at hl 2 rfl) ?_
  refine lv_iconst (v := nI 1) hx hb d_Ck_firstBreach_1 (by decide) ?_
  refine lv_icmp_ne (tgt := 18) hx hb d_Ck_firstBreach_2 (by decide) (fun hc2 => ?_) (fun hc2 => ?_)
  · rw [nI_eq (by omega) (by omega)] at hc2
    refine lv_iload_n hx hb d_Ck_firstBreach_18 rfl (lv_at hl 2 rfl) ?_
    refine lv_bipush (v := nI 7) hx hb d_Ck_firstBreach_19 (by decide) ?_
    refine lv_icmp_ne (tgt := 30) hx hb d_Ck_firstBreach_21 (by decide) (fun hc21 => ?_) (fun hc21 => ?_)
    · rw [nI_eq (by omega) (by omega)] at hc21
      refine lv_iconst (v := nI 0) hx hb d_Ck_firstBreach_30 (by decide) ?_
      refine lv_istore_n hx hb d_Ck_firstBreach_31 rfl hl (by decide) (lv' := [(3, .int (nI 0)), (0, .ref ck), (1, .ref q), (2, .int (nI r))]) rfl (fun ls hl => ?_)
      refine fs_loop1 (α1 := Nat) (fun i => L.length - i) (fun i H locs ls => (i ≤ L.length) ∧ (∀ j, j < i → fx_br L r j = false) ∧ va_P (dC, dI) vwCl [(ck, .inr (0, [.ref st])), (st, .inl (cI, 40, .inl g)), (q, .inr (1, [.ref o, .ref y, .ref n, .ref k, .int (nI L.length)])), (o, .inl (cI, 40, .inl fo)), (y, .inl (cI, 40, .inl fy)), (n, .inl (cI, 40, .inl fn)), (k, .inl (cI, 40, .inl fk))] H ∧ va_D A [(ck, .inr (0, [.ref st])), (st, .inl (cI, 40, .inl g)), (q, .inr (1, [.ref o, .ref y, .ref n, .ref k, .int (nI L.length)])), (o, .inl (cI, 40, .inl fo)), (y, .inl (cI, 40, .inl fy)), (n, .inl (cI, 40, .inl fn)), (k, .inl (cI, 40, .inl fk))] ∧ va_S A s.heap H locs ∧ lv_has ls 4 [(0, .ref ck), (1, .ref q), (2, .int (nI r)), (3, .int (nI i))]) ?_ 0 ⟨by omega, fun j hj => absurd hj (by omega), hP, hD, hS, lv_sub hl [1, 2, 3, 0] rfl⟩
      intro i H locs ls hI ih32
      obtain ⟨hi, hno, hP, hD, hS, hl⟩ := hI
      refine lv_iload_n hx hb d_Ck_firstBreach_32 rfl (lv_at hl 3 rfl) ?_
      refine lv_aload_n hx hb d_Ck_firstBreach_33 rfl (lv_at hl 1 rfl) ?_
      refine va_get (D := (dC, dI)) (ci := 1) (v := .int (nI L.length)) (C := R_Fi) (T := T_Fi) (N := 5) hx hb hts uin_Fi hown hK hP 2 rfl rfl 4 (by decide) (hts _ wi_48) (fun _ h9 => h9) rfl d_Ck_firstBreach_34 ?_
      refine lv_icmp_ge (tgt := 57) hx hb d_Ck_firstBreach_37 (by decide) (fun hc37 => ?_) (fun hc37 => ?_)
      · rw [nI_leI (by omega) (by omega)] at hc37
        refine lv_iconst (v := (-1)) hx hb d_Ck_firstBreach_57 (by decide) ?_
        exact fs_iret hx hb hr hlocks hAe hK hS d_Ck_firstBreach_58 g (by have e : fx_at L r = fx_fst (fx_br L r) L.length := (by unfold fx_at; rw [if_neg (by omega), if_neg (by omega)]); rw [e]; exact Or.inl ⟨fx_fst_none (fun j hj => hno j (by omega)), rfl⟩) hP hD
      rw [nI_leI (by omega) (by omega)] at hc37
      refine lv_aload_n hx hb d_Ck_firstBreach_40 rfl (lv_at hl 1 rfl) ?_
      refine lv_iload_n hx hb d_Ck_firstBreach_41 rfl (lv_at hl 3 rfl) ?_
      refine lv_iload_n hx hb d_Ck_firstBreach_42 rfl (lv_at hl 2 rfl) ?_
      refine fs_calli (wc := [(q, .inr (1, [.ref o, .ref y, .ref n, .ref k, .int (nI L.length)])), (o, .inl (cI, 40, .inl fo)), (y, .inl (cI, 40, .inl fy)), (n, .inl (cI, 40, .inl fn)), (k, .inl (cI, 40, .inl fk))]) (wr := [(ck, .inr (0, [.ref st])), (st, .inl (cI, 40, .inl g))]) [2, 3, 4, 5, 6] [0, 1] hP hD hK hS hA rfl rfl rfl (by decide) (fun hPc hDc => va_runS (As := [.ref q, .int (nI i), .int (nI r)]) (rest := []) ⟨hx, hb, hml, hown, hts⟩ (c_Ck_isBreach q o y n k fo fy fn fk L i r _ hrep hok (by omega) (by omega) (by omega)) (⟨callB_of 3 hts (fs_g kin_Ck_isBreach) rfl rfl rfl (hts _ wi_4) (hts _ wi_208) (by decide +kernel) ⟨Nat.le_of_ble_eq_true rfl, Nat.le_of_ble_eq_true rfl⟩, hts _ wi_209⟩) (fs_preS hPc hK hDc) rfl rfl hl.1 rfl (lv_room (Nat.le_of_ble_eq_true rfl)) d_Ck_firstBreach_43 ⟨Nat.le_of_ble_eq_true rfl, Nat.le_of_ble_eq_true rfl⟩) rfl (fun r43 _ H locs hp43 hP hD hS => ?_)
      have hP : va_P (dC, dI) vwCl [(ck, .inr (0, [.ref st])), (st, .inl (cI, 40, .inl g)), (q, .inr (1, [.ref o, .ref y, .ref n, .ref k, .int (nI L.length)])), (o, .inl (cI, 40, .inl fo)), (y, .inl (cI, 40, .inl fy)), (n, .inl (cI, 40, .inl fn)), (k, .inl (cI, 40, .inl fk))] H := hP
      have hD : va_D A [(ck, .inr (0, [.ref st])), (st, .inl (cI, 40, .inl g)), (q, .inr (1, [.ref o, .ref y, .ref n, .ref k, .int (nI L.length)])), (o, .inl (cI, 40, .inl fo)), (y, .inl (cI, 40, .inl fy)), (n, .inl (cI, 40, .inl fn)), (k, .inl (cI, 40, .inl fk))] := hD
      rcases hp43 with ⟨hc43, rfl⟩ | ⟨hc43, rfl⟩
      · refine lv_if_eq (tgt := 51) hx hb d_Ck_firstBreach_46 (by decide) (fun hc => absurd hc (by decide)) (fun _ => ?_)
        refine lv_iload_n hx hb d_Ck_firstBreach_49 rfl (lv_at hl 3 rfl) ?_
        exact fs_iret hx hb hr hlocks hAe hK hS d_Ck_firstBreach_50 g (by have e : fx_at L r = fx_fst (fx_br L r) L.length := (by unfold fx_at; rw [if_neg (by omega), if_neg (by omega)]); rw [e]; exact Or.inr ⟨i, fx_fst_some (by omega) (fx_br_t.mpr hc43) hno, rfl⟩) hP hD
      refine lv_if_eq (tgt := 51) hx hb d_Ck_firstBreach_46 (by decide) (fun _ => ?_) (fun hc => absurd (by decide) hc)
      refine lv_iinc (v := nI (i + 1)) (k := 3) hx hb d_Ck_firstBreach_51 hl rfl (fs_incN i 1) (by decide) (lv' := [(3, .int (nI (i + 1))), (0, .ref ck), (1, .ref q), (2, .int (nI r))]) rfl (fun ls hl => ?_)
      refine lv_goto (tgt := 32) hx hb d_Ck_firstBreach_54 (by decide) ?_
      exact ih32 (i + 1) _ _ _ (by omega) ⟨by omega, fun j hj => by rcases Nat.lt_succ_iff_lt_or_eq.mp hj with h | h; exact hno j h; rw [h]; exact fx_br_f.mpr hc43, hP, hD, hS, lv_sub hl [1, 2, 3, 0] rfl⟩
    rw [nI_eq (by omega) (by omega)] at hc21
    refine lv_aload_n hx hb d_Ck_firstBreach_24 rfl (lv_at hl 0 rfl) ?_
    refine lv_aload_n hx hb d_Ck_firstBreach_25 rfl (lv_at hl 1 rfl) ?_
    refine fs_calli (wc := [(ck, .inr (0, [.ref st])), (st, .inl (cI, 40, .inl g)), (q, .inr (1, [.ref o, .ref y, .ref n, .ref k, .int (nI L.length)])), (o, .inl (cI, 40, .inl fo)), (y, .inl (cI, 40, .inl fy)), (n, .inl (cI, 40, .inl fn)), (k, .inl (cI, 40, .inl fk))]) (wr := []) [0, 1, 2, 3, 4, 5, 6] [] hP hD hK hS hA rfl rfl rfl (by decide) (fun hPc hDc => va_runV (C := R_Ck) (As := [.ref q]) (rest := []) ⟨hx, hb, hml, hown, hts⟩ (c_Ck_firstEarlyRead ck st g q o y n k fo fy fn fk L _ hrep hok (hg7 (by omega))) (⟨callB_of 1 hts (fs_g kin_Ck_firstEarlyRead) rfl rfl rfl (hts _ wi_4) (hts _ wi_186) (by decide +kernel) ⟨Nat.le_of_ble_eq_true rfl, Nat.le_of_ble_eq_true rfl⟩, hts _ wi_188, hts _ sel_Ck_firstEarlyRead⟩) (fs_preV (q0 := 0) rfl rfl hPc hK hDc) rfl rfl hl.1 rfl (lv_room (Nat.le_of_ble_eq_true rfl)) d_Ck_firstBreach_26 ⟨Nat.le_of_ble_eq_true rfl, Nat.le_of_ble_eq_true rfl⟩) rfl (fun r26 u H locs hp26 hP hD hS => ?_)
    have hP : va_P (dC, dI) vwCl [(ck, .inr (0, [.ref st])), (st, .inl (cI, 40, .inl u)), (q, .inr (1, [.ref o, .ref y, .ref n, .ref k, .int (nI L.length)])), (o, .inl (cI, 40, .inl fo)), (y, .inl (cI, 40, .inl fy)), (n, .inl (cI, 40, .inl fn)), (k, .inl (cI, 40, .inl fk))] H := hP
    have hD : va_D A [(ck, .inr (0, [.ref st])), (st, .inl (cI, 40, .inl u)), (q, .inr (1, [.ref o, .ref y, .ref n, .ref k, .int (nI L.length)])), (o, .inl (cI, 40, .inl fo)), (y, .inl (cI, 40, .inl fy)), (n, .inl (cI, 40, .inl fn)), (k, .inl (cI, 40, .inl fk))] := hD
    exact fs_iret hx hb hr hlocks hAe hK hS d_Ck_firstBreach_29 u (by subst hc21; exact hp26) hP hD
  rw [nI_eq (by omega) (by omega)] at hc2
  refine lv_aload_n hx hb d_Ck_firstBreach_5 rfl (lv_at hl 1 rfl) ?_
  refine va_get (D := (dC, dI)) (ci := 1) (v := .int (nI L.length)) (C := R_Fi) (T := T_Fi) (N := 5) hx hb hts uin_Fi hown hK hP 2 rfl rfl 4 (by decide) (hts _ wi_48) (fun _ h9 => h9) rfl d_Ck_firstBreach_6 ?_
  refine lv_if_ne (tgt := 16) hx hb d_Ck_firstBreach_9 (by decide) (fun hc9 => ?_) (fun hc9 => ?_)
  · try rw [← nI_0] at hc9
    rw [nI_eq (by omega) (by omega)] at hc9
    refine lv_iconst (v := (-1)) hx hb d_Ck_firstBreach_16 (by decide) ?_
    exact fs_iret hx hb hr hlocks hAe hK hS d_Ck_firstBreach_17 g (by subst hc2; have e : fx_at L 1 = (if L.length = 0 then some 0 else none) := (by unfold fx_at; rw [if_pos rfl]); rw [e]; first | (rw [if_pos (by omega)]; exact Or.inr ⟨0, rfl, rfl⟩) | (rw [if_neg (by omega)]; exact Or.inl ⟨rfl, rfl⟩)) hP hD
  try rw [← nI_0] at hc9
  rw [nI_eq (by omega) (by omega)] at hc9
  refine lv_iconst (v := nI 0) hx hb d_Ck_firstBreach_12 (by decide) ?_
  refine lv_goto (tgt := 17) hx hb d_Ck_firstBreach_13 (by decide) ?_
  exact fs_iret hx hb hr hlocks hAe hK hS d_Ck_firstBreach_17 g (by subst hc2; have e : fx_at L 1 = (if L.length = 0 then some 0 else none) := (by unfold fx_at; rw [if_pos rfl]); rw [e]; first | (rw [if_pos (by omega)]; exact Or.inr ⟨0, rfl, rfl⟩) | (rw [if_neg (by omega)]; exact Or.inl ⟨rfl, rfl⟩)) hP hD

theorem fx_at_lt {L : fx_Prg} {r i : Nat} (hlen : L.length ≤ 40) (h : fx_at L r = some i) : i < 40 := by
  unfold fx_at at h
  split at h
  · split at h
    · cases h; omega
    · cases h
  · split at h
    · have := (fx_fst_of_some h).1; omega
    · have := (fx_fst_of_some h).1; omega
theorem fx_nm1 {n : Nat} (h : n < 2 ^ 31) : ¬ nI n = (-1) := by
  intro e
  have h1 := nI_toInt h
  rw [e] at h1
  have h2 : (-1 : Int32).toInt = -1 := by decide
  omega
theorem d_Ck_faultOf_0 : decode b_Ck_faultOf 0 = .ok (.iconst 1, 1) := by decide +kernel
theorem d_Ck_faultOf_1 : decode b_Ck_faultOf 1 = .ok (.istore_n 2, 1) := by decide +kernel
theorem d_Ck_faultOf_2 : decode b_Ck_faultOf 2 = .ok (.iload_n 2, 1) := by decide +kernel
theorem d_Ck_faultOf_3 : decode b_Ck_faultOf 3 = .ok (.bipush 7, 2) := by decide +kernel
theorem d_Ck_faultOf_5 : decode b_Ck_faultOf 5 = .ok (.if_icmp .gt 21, 3) := by decide +kernel
theorem d_Ck_faultOf_8 : decode b_Ck_faultOf 8 = .ok (.aload_n 0, 1) := by decide +kernel
theorem d_Ck_faultOf_9 : decode b_Ck_faultOf 9 = .ok (.aload_n 1, 1) := by decide +kernel
theorem d_Ck_faultOf_10 : decode b_Ck_faultOf 10 = .ok (.iload_n 2, 1) := by decide +kernel
theorem d_Ck_faultOf_11 : decode b_Ck_faultOf 11 = .ok (.invokevirtual 15, 3) := by decide +kernel
theorem d_Ck_faultOf_14 : decode b_Ck_faultOf 14 = .ok (.iconst (-1), 1) := by decide +kernel
theorem d_Ck_faultOf_15 : decode b_Ck_faultOf 15 = .ok (.if_icmp .eq 5, 3) := by decide +kernel
theorem d_Ck_faultOf_18 : decode b_Ck_faultOf 18 = .ok (.iload_n 2, 1) := by decide +kernel
theorem d_Ck_faultOf_19 : decode b_Ck_faultOf 19 = .ok (.ireturn, 1) := by decide +kernel
theorem d_Ck_faultOf_20 : decode b_Ck_faultOf 20 = .ok (.iinc 2 1, 3) := by decide +kernel
theorem d_Ck_faultOf_23 : decode b_Ck_faultOf 23 = .ok (.goto (-21), 3) := by decide +kernel
theorem d_Ck_faultOf_26 : decode b_Ck_faultOf 26 = .ok (.iconst 0, 1) := by decide +kernel
theorem d_Ck_faultOf_27 : decode b_Ck_faultOf 27 = .ok (.ireturn, 1) := by decide +kernel
set_option maxHeartbeats 4000000 in
set_option maxRecDepth 100000 in
theorem c_Ck_faultOf (ck st : Nat) (g : Nat → Int32) (q o y n k : Nat) (fo fy fn fk : Nat → Int32) (L : fx_Prg) (sz : Nat) (hrep : fx_rep L fo fy fn fk) (hok : fx_ok L) : fs_I l y_Ck_faultOf (k_Ck_faultOf :: fs_T) { frames := 4, cells := 0, slots := 0, locals := 93 } (dC, dI) vwCl (fs_tys cI cZ cJ cF) [.ref ck, .ref q] [(ck, .inr (0, [.ref st])), (st, .inl (cI, 40, .inl g)), (q, .inr (1, [.ref o, .ref y, .ref n, .ref k, .int (nI L.length)])), (o, .inl (cI, 40, .inl fo)), (y, .inl (cI, 40, .inl fy)), (n, .inl (cI, 40, .inl fn)), (k, .inl (cI, 40, .inl fk))] sz (S := Nat → Int32) (fun z _ => z = nI (fx_chk L % 8)) (fun u => [(ck, .inr (0, [.ref st])), (st, .inl (cI, 40, .inl u)), (q, .inr (1, [.ref o, .ref y, .ref n, .ref k, .int (nI L.length)])), (o, .inl (cI, 40, .inl fo)), (y, .inl (cI, 40, .inl fy)), (n, .inl (cI, 40, .inl fn)), (k, .inl (cI, 40, .inl fk))]) 0 0 := by
  refine fs_head (by decide) (Nat.le_of_ble_eq_true rfl) ?_
  intro p e s m below meth c A ls hx hb hr hts hown hlocks hin hml hK hP hD hS hA hAe hsz hl
  have hl : lv_has ls 3 [(0, .ref ck), (1, .ref q)] := hl
  have hown : s.vm.findClass R_Ck = some m.cls := hown
  have hlen := hok.1
  refine lv_iconst (v := nI 1) hx hb d_Ck_faultOf_0 (by decide) ?_
  refine lv_istore_n hx hb d_Ck_faultOf_1 rfl hl (by decide) (lv' := [(2, .int (nI 1)), (0, .ref ck), (1, .ref q)]) rfl (fun ls hl => ?_)
  refine fs_loop2 (α1 := Nat) (α2 := Nat → Int32) (fun r g => 8 - r) (fun r g H locs ls => (1 ≤ r) ∧ (r ≤ 8) ∧ (∀ t, 1 ≤ t → t < r → fx_at L t = none) ∧ va_P (dC, dI) vwCl [(ck, .inr (0, [.ref st])), (st, .inl (cI, 40, .inl g)), (q, .inr (1, [.ref o, .ref y, .ref n, .ref k, .int (nI L.length)])), (o, .inl (cI, 40, .inl fo)), (y, .inl (cI, 40, .inl fy)), (n, .inl (cI, 40, .inl fn)), (k, .inl (cI, 40, .inl fk))] H ∧ va_D A [(ck, .inr (0, [.ref st])), (st, .inl (cI, 40, .inl g)), (q, .inr (1, [.ref o, .ref y, .ref n, .ref k, .int (nI L.length)])), (o, .inl (cI, 40, .inl fo)), (y, .inl (cI, 40, .inl fy)), (n, .inl (cI, 40, .inl fn)), (k, .inl (cI, 40, .inl fk))] ∧ va_S A s.heap H locs ∧ lv_has ls 3 [(0, .ref ck), (1, .ref q), (2, .int (nI r))]) ?_ 1 g ⟨by omega, by omega, fun t h1 h2 => absurd h2 (by omega), hP, hD, hS, lv_sub hl [1, 2, 0] rfl⟩
  intro r g H locs ls hI ih2
  obtain ⟨hr1, hr8, hno, hP, hD, hS, hl⟩ := hI
  refine lv_iload_n hx hb d_Ck_faultOf_2 rfl (lv_at hl 2 rfl) ?_
  refine lv_bipush (v := nI 7) hx hb d_Ck_faultOf_3 (by decide) ?_
  refine lv_icmp_gt (tgt := 26) hx hb d_Ck_faultOf_5 (by decide) (fun hc5 => ?_) (fun hc5 => ?_)
  · rw [nI_ltI (by omega) (by omega)] at hc5
    refine lv_iconst (v := nI 0) hx hb d_Ck_faultOf_26 (by decide) ?_
    exact fs_iret hx hb hr hlocks hAe hK hS d_Ck_faultOf_27 g (by rw [fx_chk_none (fun t h1 h2 => hno t h1 (by omega))]) hP hD
  rw [nI_ltI (by omega) (by omega)] at hc5
  refine lv_aload_n hx hb d_Ck_faultOf_8 rfl (lv_at hl 0 rfl) ?_
  refine lv_aload_n hx hb d_Ck_faultOf_9 rfl (lv_at hl 1 rfl) ?_
  refine lv_iload_n hx hb d_Ck_faultOf_10 rfl (lv_at hl 2 rfl) ?_
  refine fs_calli (wc := [(ck, .inr (0, [.ref st])), (st, .inl (cI, 40, .inl g)), (q, .inr (1, [.ref o, .ref y, .ref n, .ref k, .int (nI L.length)])), (o, .inl (cI, 40, .inl fo)), (y, .inl (cI, 40, .inl fy)), (n, .inl (cI, 40, .inl fn)), (k, .inl (cI, 40, .inl fk))]) (wr := []) [0, 1, 2, 3, 4, 5, 6] [] hP hD hK hS hA rfl rfl rfl (by decide) (fun hPc hDc => va_runV (C := R_Ck) (As := [.ref q, .int (nI r)]) (rest := []) ⟨hx, hb, hml, hown, hts⟩ (c_Ck_firstBreach ck st g q o y n k fo fy fn fk L r _ hrep hok (by omega) (fun _ t h2 h6 => fx_at_no h2 h6 (hno t (by omega) (by omega)))) (⟨callB_of 2 hts (fs_g kin_Ck_firstBreach) rfl rfl rfl (hts _ wi_4) (hts _ wi_182) (by decide +kernel) ⟨Nat.le_of_ble_eq_true rfl, Nat.le_of_ble_eq_true rfl⟩, hts _ wi_183, hts _ wi_184⟩) (fs_preV (q0 := 0) rfl rfl hPc hK hDc) rfl rfl hl.1 rfl (lv_room (Nat.le_of_ble_eq_true rfl)) d_Ck_faultOf_11 ⟨Nat.le_of_ble_eq_true rfl, Nat.le_of_ble_eq_true rfl⟩) rfl (fun r11 u H locs hp11 hP hD hS => ?_)
  have hP : va_P (dC, dI) vwCl [(ck, .inr (0, [.ref st])), (st, .inl (cI, 40, .inl u)), (q, .inr (1, [.ref o, .ref y, .ref n, .ref k, .int (nI L.length)])), (o, .inl (cI, 40, .inl fo)), (y, .inl (cI, 40, .inl fy)), (n, .inl (cI, 40, .inl fn)), (k, .inl (cI, 40, .inl fk))] H := hP
  have hD : va_D A [(ck, .inr (0, [.ref st])), (st, .inl (cI, 40, .inl u)), (q, .inr (1, [.ref o, .ref y, .ref n, .ref k, .int (nI L.length)])), (o, .inl (cI, 40, .inl fo)), (y, .inl (cI, 40, .inl fy)), (n, .inl (cI, 40, .inl fn)), (k, .inl (cI, 40, .inl fk))] := hD
  rcases hp11 with ⟨hat, rfl⟩ | ⟨i, hat, rfl⟩
  · refine lv_iconst (v := (-1)) hx hb d_Ck_faultOf_14 (by decide) ?_
    refine lv_icmp_eq (tgt := 20) hx hb d_Ck_faultOf_15 (by decide) (fun _ => ?_) (fun hc => absurd rfl hc)
    refine lv_iinc (v := nI (r + 1)) (k := 2) hx hb d_Ck_faultOf_20 hl rfl (fs_incN r 1) (by decide) (lv' := [(2, .int (nI (r + 1))), (0, .ref ck), (1, .ref q)]) rfl (fun ls hl => ?_)
    refine lv_goto (tgt := 2) hx hb d_Ck_faultOf_23 (by decide) ?_
    exact ih2 (r + 1) u _ _ _ (by omega) ⟨by omega, by omega, fun t h1 h2 => by rcases Nat.lt_succ_iff_lt_or_eq.mp h2 with h | h; exact hno t h1 h; rw [h]; exact hat, hP, hD, hS, lv_sub hl [1, 2, 0] rfl⟩
  have hi40 : i < 40 := fx_at_lt hlen hat
  refine lv_iconst (v := (-1)) hx hb d_Ck_faultOf_14 (by decide) ?_
  refine lv_icmp_eq (tgt := 20) hx hb d_Ck_faultOf_15 (by decide) (fun hc => absurd hc (fx_nm1 (by omega))) (fun _ => ?_)
  refine lv_iload_n hx hb d_Ck_faultOf_18 rfl (lv_at hl 2 rfl) ?_
  exact fs_iret hx hb hr hlocks hAe hK hS d_Ck_faultOf_19 u (by rw [fx_chk_some hr1 (by omega) hat hno]; congr 1; omega) hP hD

end CK2
end
section
section MC
variable {l : Launch} {dC : Nat → ClassId} {dI : Nat → Nat → Nat} {cI cZ cJ cF : ClassId}
theorem fx_pl_i (x : Int32) : (fx_pl x).toInt32 = x := by
  unfold fx_pl
  rw [Int64.toInt32_and, Int32.toInt32_toInt64, show (4294967295 : Int64).toInt32 = -1 from by decide, Int32.and_neg_one]
theorem fx_pl_ne {x : Int32} (h : ¬ x = 0) : ¬ (x.toInt64 &&& 4294967295) = 0 := by
  intro e
  have h1 := fx_pl_i x
  unfold fx_pl at h1
  rw [e] at h1
  exact h h1.symm
theorem fx_cmp_le (x y : Int64) : lg_cmp x y ≤ 0 ↔ ¬ y < x := by
  unfold lg_cmp
  by_cases h : y < x
  · rw [if_pos h]
    simp [h]
    try decide
  · rw [if_neg h]
    by_cases h2 : x = y
    · rw [if_pos h2]
      simp [h]
    · rw [if_neg h2]
      simp [h]
      try decide
theorem fx_cmp_lt (x y : Int64) : lg_cmp x y < 0 ↔ ¬ y ≤ x := by
  unfold lg_cmp
  by_cases h : y < x
  · rw [if_pos h]
    have h3 : y ≤ x := Int64.le_of_lt h
    simp [h3]
    try decide
  · rw [if_neg h]
    by_cases h2 : x = y
    · rw [if_pos h2]
      subst h2
      simp
    · rw [if_neg h2]
      have h3 : ¬ y ≤ x := fun q => by
        rcases Int64.lt_or_eq_of_le q with q | q
        · exact h q
        · exact h2 q.symm
      simp [h3]
      try decide
theorem fx_and15 {k : Int32} (h0 : 0 ≤ k.toInt) (h : k.toInt < 16) : k &&& nI 15 = nI k.toNatClampNeg := by
  have h1 := fs_clampI h0
  have h2 := fs_clampN h0
  rw [h2, pk_andN (by omega) 4 (by decide), nI_clamp (by omega)]
  congr 1
  exact Nat.mod_eq_of_lt (by omega)
theorem fx_val_k {o : Nat} {a k x : Int32} (h : o < 19) : fx_val o a k k = fx_val o a k x := by
  unfold fx_val
  simp only [show ¬ o = 19 by omega, show ¬ o = 20 by omega, show ¬ o = 21 by omega, show ¬ o = 22 by omega, show ¬ o = 23 by omega, if_false]
theorem fx_val_x {o : Nat} {a k x : Int32} (h : 19 ≤ o) : fx_val o a x x = fx_val o a k x := by
  unfold fx_val
  simp only [show ¬ o = 10 by omega, show ¬ o = 11 by omega, show ¬ o = 12 by omega, show ¬ o = 13 by omega, show ¬ o = 14 by omega, show ¬ o = 15 by omega, show ¬ o = 16 by omega, show ¬ o = 17 by omega, show ¬ o = 18 by omega, if_false]
theorem fx_a_mid {o n : Nat} {a x k : Int32} {cs w : Nat → Int32} (h : 10 ≤ o) (h2 : o < 25) : fx_a o a x k cs w n = fx_val o a k x := by
  unfold fx_a
  rw [if_neg (by omega), if_neg (by omega), if_neg (by omega), if_neg (by omega), if_neg (by omega), if_pos ⟨h, h2⟩]
theorem fx_a_hi {o n : Nat} {a x k : Int32} {cs w : Nat → Int32} (h : 25 ≤ o) : fx_a o a x k cs w n = a := by
  unfold fx_a
  rw [if_neg (by omega), if_neg (by omega), if_neg (by omega), if_neg (by omega), if_neg (by omega), if_neg (by omega)]
theorem fx_x_hi {o : Nat} {a x k : Int32} {cs : Nat → Int32} (h : 10 ≤ o) : fx_x o a x k cs = x := by
  unfold fx_x
  rw [if_neg (by omega), if_neg (by omega), if_neg (by omega)]
theorem fx_c_hi {o : Nat} {a x k : Int32} {cs : Nat → Int32} (h : 10 ≤ o) : fx_c o a x k cs = cs := by
  unfold fx_c
  rw [if_neg (by omega), if_neg (by omega)]
theorem fx_d_lt {L : fx_Prg} {i : Nat} {a x : Int32} (h : fx_O L i < 25) : fx_d L i a x = 0 := by
  unfold fx_d
  rw [if_pos h]
theorem fx_d_25 {L : fx_Prg} {i : Nat} {a x : Int32} (h : fx_O L i = 25) : fx_d L i a x = (fx_K L i).toNatClampNeg := by
  unfold fx_d
  rw [if_neg (by omega), if_pos h]
theorem fx_d_y {L : fx_Prg} {i : Nat} {a x : Int32} (h : 25 < fx_O L i) (ha : fx_ask (fx_O L i) a (fx_K L i) x = true) : fx_d L i a x = fx_Y L i := by
  unfold fx_d
  rw [if_neg (by omega), if_neg (by omega), if_pos ha]
theorem fx_d_n {L : fx_Prg} {i : Nat} {a x : Int32} (h : 25 < fx_O L i) (ha : fx_ask (fx_O L i) a (fx_K L i) x = false) : fx_d L i a x = fx_N L i := by
  unfold fx_d
  rw [if_neg (by omega), if_neg (by omega), if_neg (by rw [ha]; decide)]
theorem fx_d_le {L : fx_Prg} {i : Nat} {a x : Int32} (hok : fx_ok L) (hi : i < L.length) (hg5 : ¬ fx_brP L 5 i) : fx_d L i a x < 256 := by
  have h1 := hok.1
  have h2 := hok.2 i hi
  unfold fx_d
  split
  · omega
  · split
    · have h0 : 0 ≤ (fx_K L i).toInt := (by simp only [fx_brP] at hg5; omega)
      have h3 := fs_clampI h0
      simp only [fx_brP] at hg5
      omega
    · split <;> omega
theorem d_Mc_quotient_0 : decode b_Mc_quotient 0 = .ok (.iload_n 1, 1) := by decide +kernel
theorem d_Mc_quotient_1 : decode b_Mc_quotient 1 = .ok (.ifCond .ne 5, 3) := by decide +kernel
theorem d_Mc_quotient_4 : decode b_Mc_quotient 4 = .ok (.iconst 0, 1) := by decide +kernel
theorem d_Mc_quotient_5 : decode b_Mc_quotient 5 = .ok (.ireturn, 1) := by decide +kernel
theorem d_Mc_quotient_6 : decode b_Mc_quotient 6 = .ok (.iload_n 0, 1) := by decide +kernel
theorem d_Mc_quotient_7 : decode b_Mc_quotient 7 = .ok (.i2l, 1) := by decide +kernel
theorem d_Mc_quotient_8 : decode b_Mc_quotient 8 = .ok (.ldc2_w 64, 3) := by decide +kernel
theorem d_Mc_quotient_11 : decode b_Mc_quotient 11 = .ok (.land, 1) := by decide +kernel
theorem d_Mc_quotient_12 : decode b_Mc_quotient 12 = .ok (.iload_n 1, 1) := by decide +kernel
theorem d_Mc_quotient_13 : decode b_Mc_quotient 13 = .ok (.i2l, 1) := by decide +kernel
theorem d_Mc_quotient_14 : decode b_Mc_quotient 14 = .ok (.ldc2_w 64, 3) := by decide +kernel
theorem d_Mc_quotient_17 : decode b_Mc_quotient 17 = .ok (.land, 1) := by decide +kernel
theorem d_Mc_quotient_18 : decode b_Mc_quotient 18 = .ok (.ldiv, 1) := by decide +kernel
theorem d_Mc_quotient_19 : decode b_Mc_quotient 19 = .ok (.l2i, 1) := by decide +kernel
theorem d_Mc_quotient_20 : decode b_Mc_quotient 20 = .ok (.ireturn, 1) := by decide +kernel
set_option maxHeartbeats 4000000 in
set_option maxRecDepth 100000 in
theorem c_Mc_quotient (a d : Int32) (sz : Nat) (hd : ¬ d = 0) : fs_I l y_Mc_quotient (k_Mc_quotient :: fs_T) { frames := 0, cells := 0, slots := 0, locals := 0 } (dC, dI) vwCl (fs_tys cI cZ cJ cF) [.int a, .int d] [] sz (S := Unit) (fun r _ => r = fx_dv a d) (fun _ => []) 0 0 := by
  refine fs_head (by decide) (Nat.le_of_ble_eq_true rfl) ?_
  intro p e s m below meth c A ls hx hb hr hts hown hlocks hin hml hK hP hD hS hA hAe hsz hl
  have hl : lv_has ls 2 [(0, .int a), (1, .int d)] := hl
  have hown : s.vm.findClass R_Mc = some m.cls := hown
  refine lv_iload_n hx hb d_Mc_quotient_0 rfl (lv_at hl 1 rfl) ?_
  refine lv_if_ne (tgt := 6) hx hb d_Mc_quotient_1 (by decide) (fun hc1 => ?_) (fun hc1 => absurd hc1 hd)
  refine lv_iload_n hx hb d_Mc_quotient_6 rfl (lv_at hl 0 rfl) ?_
  refine lv_i2l hx hb d_Mc_quotient_7 rfl ?_
  refine lv_ldc2 (v := 4294967295) hx hb hown (hts _ wi_291) d_Mc_quotient_8 ?_
  refine lv_land hx hb d_Mc_quotient_11 ?_
  refine lv_iload_n hx hb d_Mc_quotient_12 rfl (lv_at hl 1 rfl) ?_
  refine lv_i2l hx hb d_Mc_quotient_13 rfl ?_
  refine lv_ldc2 (v := 4294967295) hx hb hown (hts _ wi_291) d_Mc_quotient_14 ?_
  refine lv_land hx hb d_Mc_quotient_17 ?_
  refine lv_ldiv hx hb d_Mc_quotient_18 (fx_pl_ne hd) ?_
  refine lv_l2i hx hb d_Mc_quotient_19 rfl ?_
  exact fs_iret hx hb hr hlocks hAe hK hS d_Mc_quotient_20 () (rfl) hP hD

theorem d_Mc_holds_0 : decode b_Mc_holds 0 = .ok (.iload_n 1, 1) := by decide +kernel
theorem d_Mc_holds_1 : decode b_Mc_holds 1 = .ok (.tableswitch 131 26 30 #[35, 49, 74, 99, 114], 35) := by decide +kernel
theorem d_Mc_holds_36 : decode b_Mc_holds 36 = .ok (.aload_n 0, 1) := by decide +kernel
theorem d_Mc_holds_37 : decode b_Mc_holds 37 = .ok (.getfield 15, 3) := by decide +kernel
theorem d_Mc_holds_40 : decode b_Mc_holds 40 = .ok (.iload_n 2, 1) := by decide +kernel
theorem d_Mc_holds_41 : decode b_Mc_holds 41 = .ok (.if_icmp .ne 7, 3) := by decide +kernel
theorem d_Mc_holds_44 : decode b_Mc_holds 44 = .ok (.iconst 1, 1) := by decide +kernel
theorem d_Mc_holds_45 : decode b_Mc_holds 45 = .ok (.goto 4, 3) := by decide +kernel
theorem d_Mc_holds_48 : decode b_Mc_holds 48 = .ok (.iconst 0, 1) := by decide +kernel
theorem d_Mc_holds_49 : decode b_Mc_holds 49 = .ok (.ireturn, 1) := by decide +kernel
theorem d_Mc_holds_50 : decode b_Mc_holds 50 = .ok (.aload_n 0, 1) := by decide +kernel
theorem d_Mc_holds_51 : decode b_Mc_holds 51 = .ok (.getfield 15, 3) := by decide +kernel
theorem d_Mc_holds_54 : decode b_Mc_holds 54 = .ok (.i2l, 1) := by decide +kernel
theorem d_Mc_holds_55 : decode b_Mc_holds 55 = .ok (.ldc2_w 64, 3) := by decide +kernel
theorem d_Mc_holds_58 : decode b_Mc_holds 58 = .ok (.land, 1) := by decide +kernel
theorem d_Mc_holds_59 : decode b_Mc_holds 59 = .ok (.iload_n 2, 1) := by decide +kernel
theorem d_Mc_holds_60 : decode b_Mc_holds 60 = .ok (.i2l, 1) := by decide +kernel
theorem d_Mc_holds_61 : decode b_Mc_holds 61 = .ok (.ldc2_w 64, 3) := by decide +kernel
theorem d_Mc_holds_64 : decode b_Mc_holds 64 = .ok (.land, 1) := by decide +kernel
theorem d_Mc_holds_65 : decode b_Mc_holds 65 = .ok (.lcmp, 1) := by decide +kernel
theorem d_Mc_holds_66 : decode b_Mc_holds 66 = .ok (.ifCond .le 7, 3) := by decide +kernel
theorem d_Mc_holds_69 : decode b_Mc_holds 69 = .ok (.iconst 1, 1) := by decide +kernel
theorem d_Mc_holds_70 : decode b_Mc_holds 70 = .ok (.goto 4, 3) := by decide +kernel
theorem d_Mc_holds_73 : decode b_Mc_holds 73 = .ok (.iconst 0, 1) := by decide +kernel
theorem d_Mc_holds_74 : decode b_Mc_holds 74 = .ok (.ireturn, 1) := by decide +kernel
theorem d_Mc_holds_75 : decode b_Mc_holds 75 = .ok (.aload_n 0, 1) := by decide +kernel
theorem d_Mc_holds_76 : decode b_Mc_holds 76 = .ok (.getfield 15, 3) := by decide +kernel
theorem d_Mc_holds_79 : decode b_Mc_holds 79 = .ok (.i2l, 1) := by decide +kernel
theorem d_Mc_holds_80 : decode b_Mc_holds 80 = .ok (.ldc2_w 64, 3) := by decide +kernel
theorem d_Mc_holds_83 : decode b_Mc_holds 83 = .ok (.land, 1) := by decide +kernel
theorem d_Mc_holds_84 : decode b_Mc_holds 84 = .ok (.iload_n 2, 1) := by decide +kernel
theorem d_Mc_holds_85 : decode b_Mc_holds 85 = .ok (.i2l, 1) := by decide +kernel
theorem d_Mc_holds_86 : decode b_Mc_holds 86 = .ok (.ldc2_w 64, 3) := by decide +kernel
theorem d_Mc_holds_89 : decode b_Mc_holds 89 = .ok (.land, 1) := by decide +kernel
theorem d_Mc_holds_90 : decode b_Mc_holds 90 = .ok (.lcmp, 1) := by decide +kernel
theorem d_Mc_holds_91 : decode b_Mc_holds 91 = .ok (.ifCond .lt 7, 3) := by decide +kernel
theorem d_Mc_holds_94 : decode b_Mc_holds 94 = .ok (.iconst 1, 1) := by decide +kernel
theorem d_Mc_holds_95 : decode b_Mc_holds 95 = .ok (.goto 4, 3) := by decide +kernel
theorem d_Mc_holds_98 : decode b_Mc_holds 98 = .ok (.iconst 0, 1) := by decide +kernel
theorem d_Mc_holds_99 : decode b_Mc_holds 99 = .ok (.ireturn, 1) := by decide +kernel
theorem d_Mc_holds_100 : decode b_Mc_holds 100 = .ok (.aload_n 0, 1) := by decide +kernel
theorem d_Mc_holds_101 : decode b_Mc_holds 101 = .ok (.getfield 15, 3) := by decide +kernel
theorem d_Mc_holds_104 : decode b_Mc_holds 104 = .ok (.iload_n 2, 1) := by decide +kernel
theorem d_Mc_holds_105 : decode b_Mc_holds 105 = .ok (.iand, 1) := by decide +kernel
theorem d_Mc_holds_106 : decode b_Mc_holds 106 = .ok (.ifCond .eq 7, 3) := by decide +kernel
theorem d_Mc_holds_109 : decode b_Mc_holds 109 = .ok (.iconst 1, 1) := by decide +kernel
theorem d_Mc_holds_110 : decode b_Mc_holds 110 = .ok (.goto 4, 3) := by decide +kernel
theorem d_Mc_holds_113 : decode b_Mc_holds 113 = .ok (.iconst 0, 1) := by decide +kernel
theorem d_Mc_holds_114 : decode b_Mc_holds 114 = .ok (.ireturn, 1) := by decide +kernel
theorem d_Mc_holds_115 : decode b_Mc_holds 115 = .ok (.aload_n 0, 1) := by decide +kernel
theorem d_Mc_holds_116 : decode b_Mc_holds 116 = .ok (.getfield 15, 3) := by decide +kernel
theorem d_Mc_holds_119 : decode b_Mc_holds 119 = .ok (.aload_n 0, 1) := by decide +kernel
theorem d_Mc_holds_120 : decode b_Mc_holds 120 = .ok (.getfield 19, 3) := by decide +kernel
theorem d_Mc_holds_123 : decode b_Mc_holds 123 = .ok (.if_icmp .ne 7, 3) := by decide +kernel
theorem d_Mc_holds_126 : decode b_Mc_holds 126 = .ok (.iconst 1, 1) := by decide +kernel
theorem d_Mc_holds_127 : decode b_Mc_holds 127 = .ok (.goto 4, 3) := by decide +kernel
theorem d_Mc_holds_130 : decode b_Mc_holds 130 = .ok (.iconst 0, 1) := by decide +kernel
theorem d_Mc_holds_131 : decode b_Mc_holds 131 = .ok (.ireturn, 1) := by decide +kernel
theorem d_Mc_holds_132 : decode b_Mc_holds 132 = .ok (.iconst 0, 1) := by decide +kernel
theorem d_Mc_holds_133 : decode b_Mc_holds 133 = .ok (.ireturn, 1) := by decide +kernel
set_option maxHeartbeats 4000000 in
set_option maxRecDepth 100000 in
theorem c_Mc_holds (mc cl : Nat) (a x dn k : Int32) (o : Nat) (sz : Nat) (h26 : 26 ≤ o) (h30 : o ≤ 30) : fs_I l y_Mc_holds (k_Mc_holds :: fs_T) { frames := 0, cells := 0, slots := 0, locals := 0 } (dC, dI) vwCl (fs_tys cI cZ cJ cF) [.ref mc, .int (nI o), .int k] [(mc, .inr (2, [.ref cl, .int a, .int x, .int dn]))] sz (S := Unit) (fun r _ => (fx_ask o a k x = true ∧ r = nI 1) ∨ (fx_ask o a k x = false ∧ r = nI 0)) (fun _ => [(mc, .inr (2, [.ref cl, .int a, .int x, .int dn]))]) 0 0 := by
  refine fs_head (by decide) (Nat.le_of_ble_eq_true rfl) ?_
  intro p e s m below meth c A ls hx hb hr hts hown hlocks hin hml hK hP hD hS hA hAe hsz hl
  have hl : lv_has ls 3 [(0, .ref mc), (1, .int (nI o)), (2, .int k)] := hl
  have hown : s.vm.findClass R_Mc = some m.cls := hown
  refine lv_iload_n hx hb d_Mc_holds_0 rfl (lv_at hl 1 rfl) ?_
  rcases (show o = 26 ∨ o = 27 ∨ o = 28 ∨ o = 29 ∨ o = 30 from by omega) with hsw | hsw | hsw | hsw | hsw
  · refine fs_eqi (v := nI 26) (by rw [hsw]) ?_
    refine lv_tableIn (off := 35) (tgt := 36) hx hb d_Mc_holds_1 (by decide) (by decide) rfl (by decide) ?_
    refine lv_aload_n hx hb d_Mc_holds_36 rfl (lv_at hl 0 rfl) ?_
    refine va_get (D := (dC, dI)) (ci := 2) (v := .int a) (C := R_Mc) (T := T_Mc) (N := 4) hx hb hts uin_Mc hown hK hP 0 rfl rfl 1 (by decide) (hts _ wi_101) (fun _ h9 => h9) rfl d_Mc_holds_37 ?_
    refine lv_iload_n hx hb d_Mc_holds_40 rfl (lv_at hl 2 rfl) ?_
    refine lv_icmp_ne (tgt := 48) hx hb d_Mc_holds_41 (by decide) (fun hc41 => ?_) (fun hc41 => ?_)
    · refine lv_iconst (v := nI 0) hx hb d_Mc_holds_48 (by decide) ?_
      exact fs_zret hx hb hr hlocks hAe hK hS d_Mc_holds_49 (by decide) () (Or.inr ⟨by rw [hsw]; exact decide_eq_false hc41, rfl⟩) hP hD
    refine lv_iconst (v := nI 1) hx hb d_Mc_holds_44 (by decide) ?_
    refine lv_goto (tgt := 49) hx hb d_Mc_holds_45 (by decide) ?_
    exact fs_zret hx hb hr hlocks hAe hK hS d_Mc_holds_49 (by decide) () (Or.inl ⟨by rw [hsw]; exact decide_eq_true hc41, rfl⟩) hP hD
  · refine fs_eqi (v := nI 27) (by rw [hsw]) ?_
    refine lv_tableIn (off := 49) (tgt := 50) hx hb d_Mc_holds_1 (by decide) (by decide) rfl (by decide) ?_
    refine lv_aload_n hx hb d_Mc_holds_50 rfl (lv_at hl 0 rfl) ?_
    refine va_get (D := (dC, dI)) (ci := 2) (v := .int a) (C := R_Mc) (T := T_Mc) (N := 4) hx hb hts uin_Mc hown hK hP 0 rfl rfl 1 (by decide) (hts _ wi_101) (fun _ h9 => h9) rfl d_Mc_holds_51 ?_
    refine lv_i2l hx hb d_Mc_holds_54 rfl ?_
    refine lv_ldc2 (v := 4294967295) hx hb hown (hts _ wi_291) d_Mc_holds_55 ?_
    refine lv_land hx hb d_Mc_holds_58 ?_
    refine lv_iload_n hx hb d_Mc_holds_59 rfl (lv_at hl 2 rfl) ?_
    refine lv_i2l hx hb d_Mc_holds_60 rfl ?_
    refine lv_ldc2 (v := 4294967295) hx hb hown (hts _ wi_291) d_Mc_holds_61 ?_
    refine lv_land hx hb d_Mc_holds_64 ?_
    refine W.lcmp hx hb d_Mc_holds_65 ?_
    refine lv_if_le (tgt := 73) hx hb d_Mc_holds_66 (by decide) (fun hc66 => ?_) (fun hc66 => ?_)
    · refine lv_iconst (v := nI 0) hx hb d_Mc_holds_73 (by decide) ?_
      exact fs_zret hx hb hr hlocks hAe hK hS d_Mc_holds_74 (by decide) () (Or.inr ⟨by rw [hsw]; exact decide_eq_false ((fx_cmp_le _ _).mp hc66), rfl⟩) hP hD
    refine lv_iconst (v := nI 1) hx hb d_Mc_holds_69 (by decide) ?_
    refine lv_goto (tgt := 74) hx hb d_Mc_holds_70 (by decide) ?_
    exact fs_zret hx hb hr hlocks hAe hK hS d_Mc_holds_74 (by decide) () (Or.inl ⟨by rw [hsw]; exact decide_eq_true (Decidable.not_not.mp (fun q => hc66 ((fx_cmp_le _ _).mpr q))), rfl⟩) hP hD
  · refine fs_eqi (v := nI 28) (by rw [hsw]) ?_
    refine lv_tableIn (off := 74) (tgt := 75) hx hb d_Mc_holds_1 (by decide) (by decide) rfl (by decide) ?_
    refine lv_aload_n hx hb d_Mc_holds_75 rfl (lv_at hl 0 rfl) ?_
    refine va_get (D := (dC, dI)) (ci := 2) (v := .int a) (C := R_Mc) (T := T_Mc) (N := 4) hx hb hts uin_Mc hown hK hP 0 rfl rfl 1 (by decide) (hts _ wi_101) (fun _ h9 => h9) rfl d_Mc_holds_76 ?_
    refine lv_i2l hx hb d_Mc_holds_79 rfl ?_
    refine lv_ldc2 (v := 4294967295) hx hb hown (hts _ wi_291) d_Mc_holds_80 ?_
    refine lv_land hx hb d_Mc_holds_83 ?_
    refine lv_iload_n hx hb d_Mc_holds_84 rfl (lv_at hl 2 rfl) ?_
    refine lv_i2l hx hb d_Mc_holds_85 rfl ?_
    refine lv_ldc2 (v := 4294967295) hx hb hown (hts _ wi_291) d_Mc_holds_86 ?_
    refine lv_land hx hb d_Mc_holds_89 ?_
    refine W.lcmp hx hb d_Mc_holds_90 ?_
    refine lv_if_lt (tgt := 98) hx hb d_Mc_holds_91 (by decide) (fun hc91 => ?_) (fun hc91 => ?_)
    · refine lv_iconst (v := nI 0) hx hb d_Mc_holds_98 (by decide) ?_
      exact fs_zret hx hb hr hlocks hAe hK hS d_Mc_holds_99 (by decide) () (Or.inr ⟨by rw [hsw]; exact decide_eq_false ((fx_cmp_lt _ _).mp hc91), rfl⟩) hP hD
    refine lv_iconst (v := nI 1) hx hb d_Mc_holds_94 (by decide) ?_
    refine lv_goto (tgt := 99) hx hb d_Mc_holds_95 (by decide) ?_
    exact fs_zret hx hb hr hlocks hAe hK hS d_Mc_holds_99 (by decide) () (Or.inl ⟨by rw [hsw]; exact decide_eq_true (Decidable.not_not.mp (fun q => hc91 ((fx_cmp_lt _ _).mpr q))), rfl⟩) hP hD
  · refine fs_eqi (v := nI 29) (by rw [hsw]) ?_
    refine lv_tableIn (off := 99) (tgt := 100) hx hb d_Mc_holds_1 (by decide) (by decide) rfl (by decide) ?_
    refine lv_aload_n hx hb d_Mc_holds_100 rfl (lv_at hl 0 rfl) ?_
    refine va_get (D := (dC, dI)) (ci := 2) (v := .int a) (C := R_Mc) (T := T_Mc) (N := 4) hx hb hts uin_Mc hown hK hP 0 rfl rfl 1 (by decide) (hts _ wi_101) (fun _ h9 => h9) rfl d_Mc_holds_101 ?_
    refine lv_iload_n hx hb d_Mc_holds_104 rfl (lv_at hl 2 rfl) ?_
    refine lv_iand hx hb d_Mc_holds_105 ?_
    refine lv_if_eq (tgt := 113) hx hb d_Mc_holds_106 (by decide) (fun hc106 => ?_) (fun hc106 => ?_)
    · refine lv_iconst (v := nI 0) hx hb d_Mc_holds_113 (by decide) ?_
      exact fs_zret hx hb hr hlocks hAe hK hS d_Mc_holds_114 (by decide) () (Or.inr ⟨by rw [hsw]; show (!decide (a &&& k = 0)) = false; rw [decide_eq_true hc106]; rfl, rfl⟩) hP hD
    refine lv_iconst (v := nI 1) hx hb d_Mc_holds_109 (by decide) ?_
    refine lv_goto (tgt := 114) hx hb d_Mc_holds_110 (by decide) ?_
    exact fs_zret hx hb hr hlocks hAe hK hS d_Mc_holds_114 (by decide) () (Or.inl ⟨by rw [hsw]; show (!decide (a &&& k = 0)) = true; rw [decide_eq_false hc106]; rfl, rfl⟩) hP hD
  · refine fs_eqi (v := nI 30) (by rw [hsw]) ?_
    refine lv_tableIn (off := 114) (tgt := 115) hx hb d_Mc_holds_1 (by decide) (by decide) rfl (by decide) ?_
    refine lv_aload_n hx hb d_Mc_holds_115 rfl (lv_at hl 0 rfl) ?_
    refine va_get (D := (dC, dI)) (ci := 2) (v := .int a) (C := R_Mc) (T := T_Mc) (N := 4) hx hb hts uin_Mc hown hK hP 0 rfl rfl 1 (by decide) (hts _ wi_101) (fun _ h9 => h9) rfl d_Mc_holds_116 ?_
    refine lv_aload_n hx hb d_Mc_holds_119 rfl (lv_at hl 0 rfl) ?_
    refine va_get (D := (dC, dI)) (ci := 2) (v := .int x) (C := R_Mc) (T := T_Mc) (N := 4) hx hb hts uin_Mc hown hK hP 0 rfl rfl 2 (by decide) (hts _ wi_102) (fun _ h9 => h9) rfl d_Mc_holds_120 ?_
    refine lv_icmp_ne (tgt := 130) hx hb d_Mc_holds_123 (by decide) (fun hc123 => ?_) (fun hc123 => ?_)
    · refine lv_iconst (v := nI 0) hx hb d_Mc_holds_130 (by decide) ?_
      exact fs_zret hx hb hr hlocks hAe hK hS d_Mc_holds_131 (by decide) () (Or.inr ⟨by rw [hsw]; exact decide_eq_false hc123, rfl⟩) hP hD
    refine lv_iconst (v := nI 1) hx hb d_Mc_holds_126 (by decide) ?_
    refine lv_goto (tgt := 131) hx hb d_Mc_holds_127 (by decide) ?_
    exact fs_zret hx hb hr hlocks hAe hK hS d_Mc_holds_131 (by decide) () (Or.inl ⟨by rw [hsw]; exact decide_eq_true hc123, rfl⟩) hP hD

theorem d_Mc_distance_0 : decode b_Mc_distance 0 = .ok (.aload_n 1, 1) := by decide +kernel
theorem d_Mc_distance_1 : decode b_Mc_distance 1 = .ok (.getfield 37, 3) := by decide +kernel
theorem d_Mc_distance_4 : decode b_Mc_distance 4 = .ok (.iload_n 2, 1) := by decide +kernel
theorem d_Mc_distance_5 : decode b_Mc_distance 5 = .ok (.iaload, 1) := by decide +kernel
theorem d_Mc_distance_6 : decode b_Mc_distance 6 = .ok (.istore_n 3, 1) := by decide +kernel
theorem d_Mc_distance_7 : decode b_Mc_distance 7 = .ok (.iload_n 3, 1) := by decide +kernel
theorem d_Mc_distance_8 : decode b_Mc_distance 8 = .ok (.bipush 25, 2) := by decide +kernel
theorem d_Mc_distance_10 : decode b_Mc_distance 10 = .ok (.if_icmp .ge 5, 3) := by decide +kernel
theorem d_Mc_distance_13 : decode b_Mc_distance 13 = .ok (.iconst 0, 1) := by decide +kernel
theorem d_Mc_distance_14 : decode b_Mc_distance 14 = .ok (.ireturn, 1) := by decide +kernel
theorem d_Mc_distance_15 : decode b_Mc_distance 15 = .ok (.iload_n 3, 1) := by decide +kernel
theorem d_Mc_distance_16 : decode b_Mc_distance 16 = .ok (.bipush 25, 2) := by decide +kernel
theorem d_Mc_distance_18 : decode b_Mc_distance 18 = .ok (.if_icmp .ne 10, 3) := by decide +kernel
theorem d_Mc_distance_21 : decode b_Mc_distance 21 = .ok (.aload_n 1, 1) := by decide +kernel
theorem d_Mc_distance_22 : decode b_Mc_distance 22 = .ok (.getfield 40, 3) := by decide +kernel
theorem d_Mc_distance_25 : decode b_Mc_distance 25 = .ok (.iload_n 2, 1) := by decide +kernel
theorem d_Mc_distance_26 : decode b_Mc_distance 26 = .ok (.iaload, 1) := by decide +kernel
theorem d_Mc_distance_27 : decode b_Mc_distance 27 = .ok (.ireturn, 1) := by decide +kernel
theorem d_Mc_distance_28 : decode b_Mc_distance 28 = .ok (.aload_n 0, 1) := by decide +kernel
theorem d_Mc_distance_29 : decode b_Mc_distance 29 = .ok (.iload_n 3, 1) := by decide +kernel
theorem d_Mc_distance_30 : decode b_Mc_distance 30 = .ok (.aload_n 1, 1) := by decide +kernel
theorem d_Mc_distance_31 : decode b_Mc_distance 31 = .ok (.getfield 40, 3) := by decide +kernel
theorem d_Mc_distance_34 : decode b_Mc_distance 34 = .ok (.iload_n 2, 1) := by decide +kernel
theorem d_Mc_distance_35 : decode b_Mc_distance 35 = .ok (.iaload, 1) := by decide +kernel
theorem d_Mc_distance_36 : decode b_Mc_distance 36 = .ok (.invokevirtual 66, 3) := by decide +kernel
theorem d_Mc_distance_39 : decode b_Mc_distance 39 = .ok (.ifCond .eq 12, 3) := by decide +kernel
theorem d_Mc_distance_42 : decode b_Mc_distance 42 = .ok (.aload_n 1, 1) := by decide +kernel
theorem d_Mc_distance_43 : decode b_Mc_distance 43 = .ok (.getfield 43, 3) := by decide +kernel
theorem d_Mc_distance_46 : decode b_Mc_distance 46 = .ok (.iload_n 2, 1) := by decide +kernel
theorem d_Mc_distance_47 : decode b_Mc_distance 47 = .ok (.iaload, 1) := by decide +kernel
theorem d_Mc_distance_48 : decode b_Mc_distance 48 = .ok (.goto 9, 3) := by decide +kernel
theorem d_Mc_distance_51 : decode b_Mc_distance 51 = .ok (.aload_n 1, 1) := by decide +kernel
theorem d_Mc_distance_52 : decode b_Mc_distance 52 = .ok (.getfield 70, 3) := by decide +kernel
theorem d_Mc_distance_55 : decode b_Mc_distance 55 = .ok (.iload_n 2, 1) := by decide +kernel
theorem d_Mc_distance_56 : decode b_Mc_distance 56 = .ok (.iaload, 1) := by decide +kernel
theorem d_Mc_distance_57 : decode b_Mc_distance 57 = .ok (.ireturn, 1) := by decide +kernel
set_option maxHeartbeats 4000000 in
set_option maxRecDepth 100000 in
theorem c_Mc_distance (mc cl : Nat) (a x dn : Int32) (q o y n k : Nat) (fo fy fn fk : Nat → Int32) (L : fx_Prg) (i : Nat) (sz : Nat) (hrep : fx_rep L fo fy fn fk) (hok : fx_ok L) (hi : i < L.length) (hg5 : ¬ fx_brP L 5 i) (h31 : fx_O L i ≠ 31) : fs_I l y_Mc_distance (k_Mc_distance :: fs_T) { frames := 1, cells := 0, slots := 0, locals := 22 } (dC, dI) vwCl (fs_tys cI cZ cJ cF) [.ref mc, .ref q, .int (nI i)] [(mc, .inr (2, [.ref cl, .int a, .int x, .int dn])), (q, .inr (1, [.ref o, .ref y, .ref n, .ref k, .int (nI L.length)])), (o, .inl (cI, 40, .inl fo)), (y, .inl (cI, 40, .inl fy)), (n, .inl (cI, 40, .inl fn)), (k, .inl (cI, 40, .inl fk))] sz (S := Unit) (fun r _ => r = nI (fx_d L i a x)) (fun _ => [(mc, .inr (2, [.ref cl, .int a, .int x, .int dn])), (q, .inr (1, [.ref o, .ref y, .ref n, .ref k, .int (nI L.length)])), (o, .inl (cI, 40, .inl fo)), (y, .inl (cI, 40, .inl fy)), (n, .inl (cI, 40, .inl fn)), (k, .inl (cI, 40, .inl fk))]) 0 0 := by
  refine fs_head (by decide) (Nat.le_of_ble_eq_true rfl) ?_
  intro p e s m below meth c A ls hx hb hr hts hown hlocks hin hml hK hP hD hS hA hAe hsz hl
  have hl : lv_has ls 4 [(0, .ref mc), (1, .ref q), (2, .int (nI i))] := hl
  have hown : s.vm.findClass R_Mc = some m.cls := hown
  have hlen := hok.1
  have hO := (hok.2 i hi).1
  have hY := (hok.2 i hi).2.1
  have hN := (hok.2 i hi).2.2
  refine lv_aload_n hx hb d_Mc_distance_0 rfl (lv_at hl 1 rfl) ?_
  refine va_get (D := (dC, dI)) (ci := 1) (v := .ref o) (C := R_Fi) (T := T_Fi) (N := 5) hx hb hts uin_Fi hown hK hP 1 rfl rfl 0 (by decide) (hts _ wi_31) (fun _ h9 => h9) rfl d_Mc_distance_1 ?_
  refine lv_iload_n hx hb d_Mc_distance_4 rfl (lv_at hl 2 rfl) ?_
  refine fs_iald (v := nI (fx_O L i)) hx hb hK hP 2 0 rfl rfl i rfl (by decide) (by omega) ((hrep i (by omega)).1) d_Mc_distance_5 ?_
  refine lv_istore_n hx hb d_Mc_distance_6 rfl hl (by decide) (lv' := [(3, .int (nI (fx_O L i))), (0, .ref mc), (1, .ref q), (2, .int (nI i))]) rfl (fun ls hl => ?_)
  refine lv_iload_n hx hb d_Mc_distance_7 rfl (lv_at hl 0 rfl) ?_
  refine lv_bipush (v := nI 25) hx hb d_Mc_distance_8 (by decide) ?_
  refine lv_icmp_ge (tgt := 15) hx hb d_Mc_distance_10 (by decide) (fun hc10 => ?_) (fun hc10 => ?_)
  · rw [nI_leI (by omega) (by omega)] at hc10
    refine lv_iload_n hx hb d_Mc_distance_15 rfl (lv_at hl 0 rfl) ?_
    refine lv_bipush (v := nI 25) hx hb d_Mc_distance_16 (by decide) ?_
    refine lv_icmp_ne (tgt := 28) hx hb d_Mc_distance_18 (by decide) (fun hc18 => ?_) (fun hc18 => ?_)
    · rw [nI_eq (by omega) (by omega)] at hc18
      refine lv_aload_n hx hb d_Mc_distance_28 rfl (lv_at hl 1 rfl) ?_
      refine lv_iload_n hx hb d_Mc_distance_29 rfl (lv_at hl 0 rfl) ?_
      refine lv_aload_n hx hb d_Mc_distance_30 rfl (lv_at hl 2 rfl) ?_
      refine va_get (D := (dC, dI)) (ci := 1) (v := .ref k) (C := R_Fi) (T := T_Fi) (N := 5) hx hb hts uin_Fi hown hK hP 1 rfl rfl 3 (by decide) (hts _ wi_43) (fun _ h9 => h9) rfl d_Mc_distance_31 ?_
      refine lv_iload_n hx hb d_Mc_distance_34 rfl (lv_at hl 3 rfl) ?_
      refine fs_iald (v := fx_K L i) hx hb hK hP 5 0 rfl rfl i rfl (by decide) (by omega) ((hrep i (by omega)).2.2.2) d_Mc_distance_35 ?_
      refine fs_calli (wc := [(mc, .inr (2, [.ref cl, .int a, .int x, .int dn]))]) (wr := [(q, .inr (1, [.ref o, .ref y, .ref n, .ref k, .int (nI L.length)])), (o, .inl (cI, 40, .inl fo)), (y, .inl (cI, 40, .inl fy)), (n, .inl (cI, 40, .inl fn)), (k, .inl (cI, 40, .inl fk))]) [0] [1, 2, 3, 4, 5] hP hD hK hS hA rfl rfl rfl (by decide) (fun hPc hDc => va_runV (C := R_Mc) (As := [.int (nI (fx_O L i)), .int (fx_K L i)]) (rest := []) ⟨hx, hb, hml, hown, hts⟩ (c_Mc_holds mc cl a x dn (fx_K L i) (fx_O L i) _ (by omega) (by omega)) (⟨callB_of 2 hts (fs_g kin_Mc_holds) rfl rfl rfl (hts _ wi_5) (hts _ wi_296) (by decide +kernel) ⟨Nat.le_of_ble_eq_true rfl, Nat.le_of_ble_eq_true rfl⟩, hts _ wi_298, hts _ sel_Mc_holds⟩) (fs_preV (q0 := 0) rfl rfl hPc hK hDc) rfl rfl hl.1 rfl (lv_room (Nat.le_of_ble_eq_true rfl)) d_Mc_distance_36 ⟨Nat.le_of_ble_eq_true rfl, Nat.le_of_ble_eq_true rfl⟩) rfl (fun r36 _ H locs hp36 hP hD hS => ?_)
      have hP : va_P (dC, dI) vwCl [(mc, .inr (2, [.ref cl, .int a, .int x, .int dn])), (q, .inr (1, [.ref o, .ref y, .ref n, .ref k, .int (nI L.length)])), (o, .inl (cI, 40, .inl fo)), (y, .inl (cI, 40, .inl fy)), (n, .inl (cI, 40, .inl fn)), (k, .inl (cI, 40, .inl fk))] H := hP.sub [5, 0, 1, 2, 3, 4] rfl
      have hD : va_D A [(mc, .inr (2, [.ref cl, .int a, .int x, .int dn])), (q, .inr (1, [.ref o, .ref y, .ref n, .ref k, .int (nI L.length)])), (o, .inl (cI, 40, .inl fo)), (y, .inl (cI, 40, .inl fy)), (n, .inl (cI, 40, .inl fn)), (k, .inl (cI, 40, .inl fk))] := hD.sub [5, 0, 1, 2, 3, 4] (by decide) rfl
      rcases hp36 with ⟨hc36, rfl⟩ | ⟨hc36, rfl⟩
      · refine lv_if_eq (tgt := 51) hx hb d_Mc_distance_39 (by decide) (fun hc => absurd hc (by decide)) (fun _ => ?_)
        refine lv_aload_n hx hb d_Mc_distance_42 rfl (lv_at hl 2 rfl) ?_
        refine va_get (D := (dC, dI)) (ci := 1) (v := .ref y) (C := R_Fi) (T := T_Fi) (N := 5) hx hb hts uin_Fi hown hK hP 1 rfl rfl 1 (by decide) (hts _ wi_35) (fun _ h9 => h9) rfl d_Mc_distance_43 ?_
        refine lv_iload_n hx hb d_Mc_distance_46 rfl (lv_at hl 3 rfl) ?_
        refine fs_iald (v := nI (fx_Y L i)) hx hb hK hP 3 0 rfl rfl i rfl (by decide) (by omega) ((hrep i (by omega)).2.1) d_Mc_distance_47 ?_
        refine lv_goto (tgt := 57) hx hb d_Mc_distance_48 (by decide) ?_
        exact fs_iret hx hb hr hlocks hAe hK hS d_Mc_distance_57 () (by rw [fx_d_y (by omega) hc36]) hP hD
      refine lv_if_eq (tgt := 51) hx hb d_Mc_distance_39 (by decide) (fun _ => ?_) (fun hc => absurd (by decide) hc)
      refine lv_aload_n hx hb d_Mc_distance_51 rfl (lv_at hl 2 rfl) ?_
      refine va_get (D := (dC, dI)) (ci := 1) (v := .ref n) (C := R_Fi) (T := T_Fi) (N := 5) hx hb hts uin_Fi hown hK hP 1 rfl rfl 2 (by decide) (hts _ wi_40) (fun _ h9 => h9) rfl d_Mc_distance_52 ?_
      refine lv_iload_n hx hb d_Mc_distance_55 rfl (lv_at hl 3 rfl) ?_
      refine fs_iald (v := nI (fx_N L i)) hx hb hK hP 4 0 rfl rfl i rfl (by decide) (by omega) ((hrep i (by omega)).2.2.1) d_Mc_distance_56 ?_
      exact fs_iret hx hb hr hlocks hAe hK hS d_Mc_distance_57 () (by rw [fx_d_n (by omega) hc36]) hP hD
    rw [nI_eq (by omega) (by omega)] at hc18
    refine lv_aload_n hx hb d_Mc_distance_21 rfl (lv_at hl 2 rfl) ?_
    refine va_get (D := (dC, dI)) (ci := 1) (v := .ref k) (C := R_Fi) (T := T_Fi) (N := 5) hx hb hts uin_Fi hown hK hP 1 rfl rfl 3 (by decide) (hts _ wi_43) (fun _ h9 => h9) rfl d_Mc_distance_22 ?_
    refine lv_iload_n hx hb d_Mc_distance_25 rfl (lv_at hl 3 rfl) ?_
    refine fs_iald (v := fx_K L i) hx hb hK hP 5 0 rfl rfl i rfl (by decide) (by omega) ((hrep i (by omega)).2.2.2) d_Mc_distance_26 ?_
    exact fs_iret hx hb hr hlocks hAe hK hS d_Mc_distance_27 () (by rw [fx_d_25 (by omega)]; exact fs_clampN (by simp only [fx_brP] at hg5; omega)) hP hD
  rw [nI_leI (by omega) (by omega)] at hc10
  refine lv_iconst (v := nI 0) hx hb d_Mc_distance_13 (by decide) ?_
  exact fs_iret hx hb hr hlocks hAe hK hS d_Mc_distance_14 () (by rw [fx_d_lt (by omega)]) hP hD

theorem d_Mc_result_0 : decode b_Mc_result 0 = .ok (.iload_n 1, 1) := by decide +kernel
theorem d_Mc_result_1 : decode b_Mc_result 1 = .ok (.tableswitch 146 10 24 #[75, 82, 89, 96, 105, 112, 119, 126, 133, 75, 82, 89, 96, 105, 140], 75) := by decide +kernel
theorem d_Mc_result_76 : decode b_Mc_result 76 = .ok (.aload_n 0, 1) := by decide +kernel
theorem d_Mc_result_77 : decode b_Mc_result 77 = .ok (.getfield 15, 3) := by decide +kernel
theorem d_Mc_result_80 : decode b_Mc_result 80 = .ok (.iload_n 2, 1) := by decide +kernel
theorem d_Mc_result_81 : decode b_Mc_result 81 = .ok (.iadd, 1) := by decide +kernel
theorem d_Mc_result_82 : decode b_Mc_result 82 = .ok (.ireturn, 1) := by decide +kernel
theorem d_Mc_result_83 : decode b_Mc_result 83 = .ok (.aload_n 0, 1) := by decide +kernel
theorem d_Mc_result_84 : decode b_Mc_result 84 = .ok (.getfield 15, 3) := by decide +kernel
theorem d_Mc_result_87 : decode b_Mc_result 87 = .ok (.iload_n 2, 1) := by decide +kernel
theorem d_Mc_result_88 : decode b_Mc_result 88 = .ok (.isub, 1) := by decide +kernel
theorem d_Mc_result_89 : decode b_Mc_result 89 = .ok (.ireturn, 1) := by decide +kernel
theorem d_Mc_result_90 : decode b_Mc_result 90 = .ok (.aload_n 0, 1) := by decide +kernel
theorem d_Mc_result_91 : decode b_Mc_result 91 = .ok (.getfield 15, 3) := by decide +kernel
theorem d_Mc_result_94 : decode b_Mc_result 94 = .ok (.iload_n 2, 1) := by decide +kernel
theorem d_Mc_result_95 : decode b_Mc_result 95 = .ok (.imul, 1) := by decide +kernel
theorem d_Mc_result_96 : decode b_Mc_result 96 = .ok (.ireturn, 1) := by decide +kernel
theorem d_Mc_result_97 : decode b_Mc_result 97 = .ok (.aload_n 0, 1) := by decide +kernel
theorem d_Mc_result_98 : decode b_Mc_result 98 = .ok (.getfield 15, 3) := by decide +kernel
theorem d_Mc_result_101 : decode b_Mc_result 101 = .ok (.iload_n 2, 1) := by decide +kernel
theorem d_Mc_result_102 : decode b_Mc_result 102 = .ok (.invokestatic 61, 3) := by decide +kernel
theorem d_Mc_result_105 : decode b_Mc_result 105 = .ok (.ireturn, 1) := by decide +kernel
theorem d_Mc_result_106 : decode b_Mc_result 106 = .ok (.aload_n 0, 1) := by decide +kernel
theorem d_Mc_result_107 : decode b_Mc_result 107 = .ok (.getfield 15, 3) := by decide +kernel
theorem d_Mc_result_110 : decode b_Mc_result 110 = .ok (.iload_n 2, 1) := by decide +kernel
theorem d_Mc_result_111 : decode b_Mc_result 111 = .ok (.iand, 1) := by decide +kernel
theorem d_Mc_result_112 : decode b_Mc_result 112 = .ok (.ireturn, 1) := by decide +kernel
theorem d_Mc_result_113 : decode b_Mc_result 113 = .ok (.aload_n 0, 1) := by decide +kernel
theorem d_Mc_result_114 : decode b_Mc_result 114 = .ok (.getfield 15, 3) := by decide +kernel
theorem d_Mc_result_117 : decode b_Mc_result 117 = .ok (.iload_n 2, 1) := by decide +kernel
theorem d_Mc_result_118 : decode b_Mc_result 118 = .ok (.ior, 1) := by decide +kernel
theorem d_Mc_result_119 : decode b_Mc_result 119 = .ok (.ireturn, 1) := by decide +kernel
theorem d_Mc_result_120 : decode b_Mc_result 120 = .ok (.aload_n 0, 1) := by decide +kernel
theorem d_Mc_result_121 : decode b_Mc_result 121 = .ok (.getfield 15, 3) := by decide +kernel
theorem d_Mc_result_124 : decode b_Mc_result 124 = .ok (.iload_n 2, 1) := by decide +kernel
theorem d_Mc_result_125 : decode b_Mc_result 125 = .ok (.ixor, 1) := by decide +kernel
theorem d_Mc_result_126 : decode b_Mc_result 126 = .ok (.ireturn, 1) := by decide +kernel
theorem d_Mc_result_127 : decode b_Mc_result 127 = .ok (.aload_n 0, 1) := by decide +kernel
theorem d_Mc_result_128 : decode b_Mc_result 128 = .ok (.getfield 15, 3) := by decide +kernel
theorem d_Mc_result_131 : decode b_Mc_result 131 = .ok (.iload_n 2, 1) := by decide +kernel
theorem d_Mc_result_132 : decode b_Mc_result 132 = .ok (.ishl, 1) := by decide +kernel
theorem d_Mc_result_133 : decode b_Mc_result 133 = .ok (.ireturn, 1) := by decide +kernel
theorem d_Mc_result_134 : decode b_Mc_result 134 = .ok (.aload_n 0, 1) := by decide +kernel
theorem d_Mc_result_135 : decode b_Mc_result 135 = .ok (.getfield 15, 3) := by decide +kernel
theorem d_Mc_result_138 : decode b_Mc_result 138 = .ok (.iload_n 2, 1) := by decide +kernel
theorem d_Mc_result_139 : decode b_Mc_result 139 = .ok (.iushr, 1) := by decide +kernel
theorem d_Mc_result_140 : decode b_Mc_result 140 = .ok (.ireturn, 1) := by decide +kernel
theorem d_Mc_result_141 : decode b_Mc_result 141 = .ok (.aload_n 0, 1) := by decide +kernel
theorem d_Mc_result_142 : decode b_Mc_result 142 = .ok (.getfield 15, 3) := by decide +kernel
theorem d_Mc_result_145 : decode b_Mc_result 145 = .ok (.ineg, 1) := by decide +kernel
theorem d_Mc_result_146 : decode b_Mc_result 146 = .ok (.ireturn, 1) := by decide +kernel
theorem d_Mc_result_147 : decode b_Mc_result 147 = .ok (.aload_n 0, 1) := by decide +kernel
theorem d_Mc_result_148 : decode b_Mc_result 148 = .ok (.getfield 15, 3) := by decide +kernel
theorem d_Mc_result_151 : decode b_Mc_result 151 = .ok (.ireturn, 1) := by decide +kernel
set_option maxHeartbeats 4000000 in
set_option maxRecDepth 100000 in
theorem c_Mc_result (mc cl : Nat) (a x dn v : Int32) (o : Nat) (sz : Nat) (h10 : 10 ≤ o) (h24 : o ≤ 24) (hz : o = 13 ∨ o = 22 → ¬ v = 0) : fs_I l y_Mc_result (k_Mc_result :: fs_T) { frames := 1, cells := 0, slots := 0, locals := 21 } (dC, dI) vwCl (fs_tys cI cZ cJ cF) [.ref mc, .int (nI o), .int v] [(mc, .inr (2, [.ref cl, .int a, .int x, .int dn]))] sz (S := Unit) (fun r _ => r = fx_val o a v v) (fun _ => [(mc, .inr (2, [.ref cl, .int a, .int x, .int dn]))]) 0 0 := by
  refine fs_head (by decide) (Nat.le_of_ble_eq_true rfl) ?_
  intro p e s m below meth c A ls hx hb hr hts hown hlocks hin hml hK hP hD hS hA hAe hsz hl
  have hl : lv_has ls 3 [(0, .ref mc), (1, .int (nI o)), (2, .int v)] := hl
  have hown : s.vm.findClass R_Mc = some m.cls := hown
  refine lv_iload_n hx hb d_Mc_result_0 rfl (lv_at hl 1 rfl) ?_
  rcases (show o = 10 ∨ o = 11 ∨ o = 12 ∨ o = 13 ∨ o = 14 ∨ o = 15 ∨ o = 16 ∨ o = 17 ∨ o = 18 ∨ o = 19 ∨ o = 20 ∨ o = 21 ∨ o = 22 ∨ o = 23 ∨ o = 24 from by omega) with hsw | hsw | hsw | hsw | hsw | hsw | hsw | hsw | hsw | hsw | hsw | hsw | hsw | hsw | hsw
  · refine fs_eqi (v := nI 10) (by rw [hsw]) ?_
    refine lv_tableIn (off := 75) (tgt := 76) hx hb d_Mc_result_1 (by decide) (by decide) rfl (by decide) ?_
    refine lv_aload_n hx hb d_Mc_result_76 rfl (lv_at hl 0 rfl) ?_
    refine va_get (D := (dC, dI)) (ci := 2) (v := .int a) (C := R_Mc) (T := T_Mc) (N := 4) hx hb hts uin_Mc hown hK hP 0 rfl rfl 1 (by decide) (hts _ wi_101) (fun _ h9 => h9) rfl d_Mc_result_77 ?_
    refine lv_iload_n hx hb d_Mc_result_80 rfl (lv_at hl 2 rfl) ?_
    refine lv_iadd hx hb d_Mc_result_81 ?_
    exact fs_iret hx hb hr hlocks hAe hK hS d_Mc_result_82 () (by rw [hsw]; rfl) hP hD
  · refine fs_eqi (v := nI 11) (by rw [hsw]) ?_
    refine lv_tableIn (off := 82) (tgt := 83) hx hb d_Mc_result_1 (by decide) (by decide) rfl (by decide) ?_
    refine lv_aload_n hx hb d_Mc_result_83 rfl (lv_at hl 0 rfl) ?_
    refine va_get (D := (dC, dI)) (ci := 2) (v := .int a) (C := R_Mc) (T := T_Mc) (N := 4) hx hb hts uin_Mc hown hK hP 0 rfl rfl 1 (by decide) (hts _ wi_101) (fun _ h9 => h9) rfl d_Mc_result_84 ?_
    refine lv_iload_n hx hb d_Mc_result_87 rfl (lv_at hl 2 rfl) ?_
    refine lv_isub hx hb d_Mc_result_88 ?_
    exact fs_iret hx hb hr hlocks hAe hK hS d_Mc_result_89 () (by rw [hsw]; rfl) hP hD
  · refine fs_eqi (v := nI 12) (by rw [hsw]) ?_
    refine lv_tableIn (off := 89) (tgt := 90) hx hb d_Mc_result_1 (by decide) (by decide) rfl (by decide) ?_
    refine lv_aload_n hx hb d_Mc_result_90 rfl (lv_at hl 0 rfl) ?_
    refine va_get (D := (dC, dI)) (ci := 2) (v := .int a) (C := R_Mc) (T := T_Mc) (N := 4) hx hb hts uin_Mc hown hK hP 0 rfl rfl 1 (by decide) (hts _ wi_101) (fun _ h9 => h9) rfl d_Mc_result_91 ?_
    refine lv_iload_n hx hb d_Mc_result_94 rfl (lv_at hl 2 rfl) ?_
    refine lv_imul hx hb d_Mc_result_95 ?_
    exact fs_iret hx hb hr hlocks hAe hK hS d_Mc_result_96 () (by rw [hsw]; rfl) hP hD
  · refine fs_eqi (v := nI 13) (by rw [hsw]) ?_
    refine lv_tableIn (off := 96) (tgt := 97) hx hb d_Mc_result_1 (by decide) (by decide) rfl (by decide) ?_
    refine lv_aload_n hx hb d_Mc_result_97 rfl (lv_at hl 0 rfl) ?_
    refine va_get (D := (dC, dI)) (ci := 2) (v := .int a) (C := R_Mc) (T := T_Mc) (N := 4) hx hb hts uin_Mc hown hK hP 0 rfl rfl 1 (by decide) (hts _ wi_101) (fun _ h9 => h9) rfl d_Mc_result_98 ?_
    refine lv_iload_n hx hb d_Mc_result_101 rfl (lv_at hl 2 rfl) ?_
    refine fs_calli (wc := []) (wr := [(mc, .inr (2, [.ref cl, .int a, .int x, .int dn]))]) [] [0] hP hD hK hS hA rfl rfl rfl (by decide) (fun hPc hDc => va_runS (As := [.int a, .int v]) (rest := []) ⟨hx, hb, hml, hown, hts⟩ (c_Mc_quotient a v _ (hz (by omega))) (⟨callB_of 2 hts (fs_g kin_Mc_quotient) rfl rfl rfl (hts _ wi_5) (hts _ wi_288) (by decide +kernel) ⟨Nat.le_of_ble_eq_true rfl, Nat.le_of_ble_eq_true rfl⟩, hts _ wi_289⟩) (fs_preS hPc hK hDc) rfl rfl hl.1 rfl (lv_room (Nat.le_of_ble_eq_true rfl)) d_Mc_result_102 ⟨Nat.le_of_ble_eq_true rfl, Nat.le_of_ble_eq_true rfl⟩) rfl (fun r102 _ H locs hp102 hP hD hS => ?_)
    have hP : va_P (dC, dI) vwCl [(mc, .inr (2, [.ref cl, .int a, .int x, .int dn]))] H := hP
    have hD : va_D A [(mc, .inr (2, [.ref cl, .int a, .int x, .int dn]))] := hD
    subst hp102
    exact fs_iret hx hb hr hlocks hAe hK hS d_Mc_result_105 () (by rw [hsw]; rfl) hP hD
  · refine fs_eqi (v := nI 14) (by rw [hsw]) ?_
    refine lv_tableIn (off := 105) (tgt := 106) hx hb d_Mc_result_1 (by decide) (by decide) rfl (by decide) ?_
    refine lv_aload_n hx hb d_Mc_result_106 rfl (lv_at hl 0 rfl) ?_
    refine va_get (D := (dC, dI)) (ci := 2) (v := .int a) (C := R_Mc) (T := T_Mc) (N := 4) hx hb hts uin_Mc hown hK hP 0 rfl rfl 1 (by decide) (hts _ wi_101) (fun _ h9 => h9) rfl d_Mc_result_107 ?_
    refine lv_iload_n hx hb d_Mc_result_110 rfl (lv_at hl 2 rfl) ?_
    refine lv_iand hx hb d_Mc_result_111 ?_
    exact fs_iret hx hb hr hlocks hAe hK hS d_Mc_result_112 () (by rw [hsw]; rfl) hP hD
  · refine fs_eqi (v := nI 15) (by rw [hsw]) ?_
    refine lv_tableIn (off := 112) (tgt := 113) hx hb d_Mc_result_1 (by decide) (by decide) rfl (by decide) ?_
    refine lv_aload_n hx hb d_Mc_result_113 rfl (lv_at hl 0 rfl) ?_
    refine va_get (D := (dC, dI)) (ci := 2) (v := .int a) (C := R_Mc) (T := T_Mc) (N := 4) hx hb hts uin_Mc hown hK hP 0 rfl rfl 1 (by decide) (hts _ wi_101) (fun _ h9 => h9) rfl d_Mc_result_114 ?_
    refine lv_iload_n hx hb d_Mc_result_117 rfl (lv_at hl 2 rfl) ?_
    refine lv_ior hx hb d_Mc_result_118 ?_
    exact fs_iret hx hb hr hlocks hAe hK hS d_Mc_result_119 () (by rw [hsw]; rfl) hP hD
  · refine fs_eqi (v := nI 16) (by rw [hsw]) ?_
    refine lv_tableIn (off := 119) (tgt := 120) hx hb d_Mc_result_1 (by decide) (by decide) rfl (by decide) ?_
    refine lv_aload_n hx hb d_Mc_result_120 rfl (lv_at hl 0 rfl) ?_
    refine va_get (D := (dC, dI)) (ci := 2) (v := .int a) (C := R_Mc) (T := T_Mc) (N := 4) hx hb hts uin_Mc hown hK hP 0 rfl rfl 1 (by decide) (hts _ wi_101) (fun _ h9 => h9) rfl d_Mc_result_121 ?_
    refine lv_iload_n hx hb d_Mc_result_124 rfl (lv_at hl 2 rfl) ?_
    refine lv_ixor hx hb d_Mc_result_125 ?_
    exact fs_iret hx hb hr hlocks hAe hK hS d_Mc_result_126 () (by rw [hsw]; rfl) hP hD
  · refine fs_eqi (v := nI 17) (by rw [hsw]) ?_
    refine lv_tableIn (off := 126) (tgt := 127) hx hb d_Mc_result_1 (by decide) (by decide) rfl (by decide) ?_
    refine lv_aload_n hx hb d_Mc_result_127 rfl (lv_at hl 0 rfl) ?_
    refine va_get (D := (dC, dI)) (ci := 2) (v := .int a) (C := R_Mc) (T := T_Mc) (N := 4) hx hb hts uin_Mc hown hK hP 0 rfl rfl 1 (by decide) (hts _ wi_101) (fun _ h9 => h9) rfl d_Mc_result_128 ?_
    refine lv_iload_n hx hb d_Mc_result_131 rfl (lv_at hl 2 rfl) ?_
    refine lv_ishl hx hb d_Mc_result_132 ?_
    exact fs_iret hx hb hr hlocks hAe hK hS d_Mc_result_133 () (by rw [hsw]; rfl) hP hD
  · refine fs_eqi (v := nI 18) (by rw [hsw]) ?_
    refine lv_tableIn (off := 133) (tgt := 134) hx hb d_Mc_result_1 (by decide) (by decide) rfl (by decide) ?_
    refine lv_aload_n hx hb d_Mc_result_134 rfl (lv_at hl 0 rfl) ?_
    refine va_get (D := (dC, dI)) (ci := 2) (v := .int a) (C := R_Mc) (T := T_Mc) (N := 4) hx hb hts uin_Mc hown hK hP 0 rfl rfl 1 (by decide) (hts _ wi_101) (fun _ h9 => h9) rfl d_Mc_result_135 ?_
    refine lv_iload_n hx hb d_Mc_result_138 rfl (lv_at hl 2 rfl) ?_
    refine lv_iushr hx hb d_Mc_result_139 rfl ?_
    exact fs_iret hx hb hr hlocks hAe hK hS d_Mc_result_140 () (by rw [hsw]; rfl) hP hD
  · refine fs_eqi (v := nI 19) (by rw [hsw]) ?_
    refine lv_tableIn (off := 75) (tgt := 76) hx hb d_Mc_result_1 (by decide) (by decide) rfl (by decide) ?_
    refine lv_aload_n hx hb d_Mc_result_76 rfl (lv_at hl 0 rfl) ?_
    refine va_get (D := (dC, dI)) (ci := 2) (v := .int a) (C := R_Mc) (T := T_Mc) (N := 4) hx hb hts uin_Mc hown hK hP 0 rfl rfl 1 (by decide) (hts _ wi_101) (fun _ h9 => h9) rfl d_Mc_result_77 ?_
    refine lv_iload_n hx hb d_Mc_result_80 rfl (lv_at hl 2 rfl) ?_
    refine lv_iadd hx hb d_Mc_result_81 ?_
    exact fs_iret hx hb hr hlocks hAe hK hS d_Mc_result_82 () (by rw [hsw]; rfl) hP hD
  · refine fs_eqi (v := nI 20) (by rw [hsw]) ?_
    refine lv_tableIn (off := 82) (tgt := 83) hx hb d_Mc_result_1 (by decide) (by decide) rfl (by decide) ?_
    refine lv_aload_n hx hb d_Mc_result_83 rfl (lv_at hl 0 rfl) ?_
    refine va_get (D := (dC, dI)) (ci := 2) (v := .int a) (C := R_Mc) (T := T_Mc) (N := 4) hx hb hts uin_Mc hown hK hP 0 rfl rfl 1 (by decide) (hts _ wi_101) (fun _ h9 => h9) rfl d_Mc_result_84 ?_
    refine lv_iload_n hx hb d_Mc_result_87 rfl (lv_at hl 2 rfl) ?_
    refine lv_isub hx hb d_Mc_result_88 ?_
    exact fs_iret hx hb hr hlocks hAe hK hS d_Mc_result_89 () (by rw [hsw]; rfl) hP hD
  · refine fs_eqi (v := nI 21) (by rw [hsw]) ?_
    refine lv_tableIn (off := 89) (tgt := 90) hx hb d_Mc_result_1 (by decide) (by decide) rfl (by decide) ?_
    refine lv_aload_n hx hb d_Mc_result_90 rfl (lv_at hl 0 rfl) ?_
    refine va_get (D := (dC, dI)) (ci := 2) (v := .int a) (C := R_Mc) (T := T_Mc) (N := 4) hx hb hts uin_Mc hown hK hP 0 rfl rfl 1 (by decide) (hts _ wi_101) (fun _ h9 => h9) rfl d_Mc_result_91 ?_
    refine lv_iload_n hx hb d_Mc_result_94 rfl (lv_at hl 2 rfl) ?_
    refine lv_imul hx hb d_Mc_result_95 ?_
    exact fs_iret hx hb hr hlocks hAe hK hS d_Mc_result_96 () (by rw [hsw]; rfl) hP hD
  · refine fs_eqi (v := nI 22) (by rw [hsw]) ?_
    refine lv_tableIn (off := 96) (tgt := 97) hx hb d_Mc_result_1 (by decide) (by decide) rfl (by decide) ?_
    refine lv_aload_n hx hb d_Mc_result_97 rfl (lv_at hl 0 rfl) ?_
    refine va_get (D := (dC, dI)) (ci := 2) (v := .int a) (C := R_Mc) (T := T_Mc) (N := 4) hx hb hts uin_Mc hown hK hP 0 rfl rfl 1 (by decide) (hts _ wi_101) (fun _ h9 => h9) rfl d_Mc_result_98 ?_
    refine lv_iload_n hx hb d_Mc_result_101 rfl (lv_at hl 2 rfl) ?_
    refine fs_calli (wc := []) (wr := [(mc, .inr (2, [.ref cl, .int a, .int x, .int dn]))]) [] [0] hP hD hK hS hA rfl rfl rfl (by decide) (fun hPc hDc => va_runS (As := [.int a, .int v]) (rest := []) ⟨hx, hb, hml, hown, hts⟩ (c_Mc_quotient a v _ (hz (by omega))) (⟨callB_of 2 hts (fs_g kin_Mc_quotient) rfl rfl rfl (hts _ wi_5) (hts _ wi_288) (by decide +kernel) ⟨Nat.le_of_ble_eq_true rfl, Nat.le_of_ble_eq_true rfl⟩, hts _ wi_289⟩) (fs_preS hPc hK hDc) rfl rfl hl.1 rfl (lv_room (Nat.le_of_ble_eq_true rfl)) d_Mc_result_102 ⟨Nat.le_of_ble_eq_true rfl, Nat.le_of_ble_eq_true rfl⟩) rfl (fun r102 _ H locs hp102 hP hD hS => ?_)
    have hP : va_P (dC, dI) vwCl [(mc, .inr (2, [.ref cl, .int a, .int x, .int dn]))] H := hP
    have hD : va_D A [(mc, .inr (2, [.ref cl, .int a, .int x, .int dn]))] := hD
    subst hp102
    exact fs_iret hx hb hr hlocks hAe hK hS d_Mc_result_105 () (by rw [hsw]; rfl) hP hD
  · refine fs_eqi (v := nI 23) (by rw [hsw]) ?_
    refine lv_tableIn (off := 105) (tgt := 106) hx hb d_Mc_result_1 (by decide) (by decide) rfl (by decide) ?_
    refine lv_aload_n hx hb d_Mc_result_106 rfl (lv_at hl 0 rfl) ?_
    refine va_get (D := (dC, dI)) (ci := 2) (v := .int a) (C := R_Mc) (T := T_Mc) (N := 4) hx hb hts uin_Mc hown hK hP 0 rfl rfl 1 (by decide) (hts _ wi_101) (fun _ h9 => h9) rfl d_Mc_result_107 ?_
    refine lv_iload_n hx hb d_Mc_result_110 rfl (lv_at hl 2 rfl) ?_
    refine lv_iand hx hb d_Mc_result_111 ?_
    exact fs_iret hx hb hr hlocks hAe hK hS d_Mc_result_112 () (by rw [hsw]; rfl) hP hD
  · refine fs_eqi (v := nI 24) (by rw [hsw]) ?_
    refine lv_tableIn (off := 140) (tgt := 141) hx hb d_Mc_result_1 (by decide) (by decide) rfl (by decide) ?_
    refine lv_aload_n hx hb d_Mc_result_141 rfl (lv_at hl 0 rfl) ?_
    refine va_get (D := (dC, dI)) (ci := 2) (v := .int a) (C := R_Mc) (T := T_Mc) (N := 4) hx hb hts uin_Mc hown hK hP 0 rfl rfl 1 (by decide) (hts _ wi_101) (fun _ h9 => h9) rfl d_Mc_result_142 ?_
    refine lv_ineg hx hb d_Mc_result_145 ?_
    exact fs_iret hx hb hr hlocks hAe hK hS d_Mc_result_146 () (by rw [hsw]; rfl) hP hD

theorem d_Mc_move_0 : decode b_Mc_move 0 = .ok (.iload_n 1, 1) := by decide +kernel
theorem d_Mc_move_1 : decode b_Mc_move 1 = .ok (.tableswitch 179 0 9 #[55, 68, 76, 92, 101, 109, 125, 136, 147, 163], 55) := by decide +kernel
theorem d_Mc_move_56 : decode b_Mc_move 56 = .ok (.aload_n 0, 1) := by decide +kernel
theorem d_Mc_move_57 : decode b_Mc_move 57 = .ok (.aload_n 3, 1) := by decide +kernel
theorem d_Mc_move_58 : decode b_Mc_move 58 = .ok (.iload_n 2, 1) := by decide +kernel
theorem d_Mc_move_59 : decode b_Mc_move 59 = .ok (.bipush 15, 2) := by decide +kernel
theorem d_Mc_move_61 : decode b_Mc_move 61 = .ok (.iand, 1) := by decide +kernel
theorem d_Mc_move_62 : decode b_Mc_move 62 = .ok (.iaload, 1) := by decide +kernel
theorem d_Mc_move_63 : decode b_Mc_move 63 = .ok (.putfield 15, 3) := by decide +kernel
theorem d_Mc_move_66 : decode b_Mc_move 66 = .ok (.goto 114, 3) := by decide +kernel
theorem d_Mc_move_69 : decode b_Mc_move 69 = .ok (.aload_n 0, 1) := by decide +kernel
theorem d_Mc_move_70 : decode b_Mc_move 70 = .ok (.iload_n 2, 1) := by decide +kernel
theorem d_Mc_move_71 : decode b_Mc_move 71 = .ok (.putfield 15, 3) := by decide +kernel
theorem d_Mc_move_74 : decode b_Mc_move 74 = .ok (.goto 106, 3) := by decide +kernel
theorem d_Mc_move_77 : decode b_Mc_move 77 = .ok (.aload_n 0, 1) := by decide +kernel
theorem d_Mc_move_78 : decode b_Mc_move 78 = .ok (.aload_n 0, 1) := by decide +kernel
theorem d_Mc_move_79 : decode b_Mc_move 79 = .ok (.getfield 9, 3) := by decide +kernel
theorem d_Mc_move_82 : decode b_Mc_move 82 = .ok (.iload_n 2, 1) := by decide +kernel
theorem d_Mc_move_83 : decode b_Mc_move 83 = .ok (.bipush 15, 2) := by decide +kernel
theorem d_Mc_move_85 : decode b_Mc_move 85 = .ok (.iand, 1) := by decide +kernel
theorem d_Mc_move_86 : decode b_Mc_move 86 = .ok (.iaload, 1) := by decide +kernel
theorem d_Mc_move_87 : decode b_Mc_move 87 = .ok (.putfield 15, 3) := by decide +kernel
theorem d_Mc_move_90 : decode b_Mc_move 90 = .ok (.goto 90, 3) := by decide +kernel
theorem d_Mc_move_93 : decode b_Mc_move 93 = .ok (.aload_n 0, 1) := by decide +kernel
theorem d_Mc_move_94 : decode b_Mc_move 94 = .ok (.iload 4, 2) := by decide +kernel
theorem d_Mc_move_96 : decode b_Mc_move 96 = .ok (.putfield 15, 3) := by decide +kernel
theorem d_Mc_move_99 : decode b_Mc_move 99 = .ok (.goto 81, 3) := by decide +kernel
theorem d_Mc_move_102 : decode b_Mc_move 102 = .ok (.aload_n 0, 1) := by decide +kernel
theorem d_Mc_move_103 : decode b_Mc_move 103 = .ok (.iload_n 2, 1) := by decide +kernel
theorem d_Mc_move_104 : decode b_Mc_move 104 = .ok (.putfield 19, 3) := by decide +kernel
theorem d_Mc_move_107 : decode b_Mc_move 107 = .ok (.goto 73, 3) := by decide +kernel
theorem d_Mc_move_110 : decode b_Mc_move 110 = .ok (.aload_n 0, 1) := by decide +kernel
theorem d_Mc_move_111 : decode b_Mc_move 111 = .ok (.aload_n 0, 1) := by decide +kernel
theorem d_Mc_move_112 : decode b_Mc_move 112 = .ok (.getfield 9, 3) := by decide +kernel
theorem d_Mc_move_115 : decode b_Mc_move 115 = .ok (.iload_n 2, 1) := by decide +kernel
theorem d_Mc_move_116 : decode b_Mc_move 116 = .ok (.bipush 15, 2) := by decide +kernel
theorem d_Mc_move_118 : decode b_Mc_move 118 = .ok (.iand, 1) := by decide +kernel
theorem d_Mc_move_119 : decode b_Mc_move 119 = .ok (.iaload, 1) := by decide +kernel
theorem d_Mc_move_120 : decode b_Mc_move 120 = .ok (.putfield 19, 3) := by decide +kernel
theorem d_Mc_move_123 : decode b_Mc_move 123 = .ok (.goto 57, 3) := by decide +kernel
theorem d_Mc_move_126 : decode b_Mc_move 126 = .ok (.aload_n 0, 1) := by decide +kernel
theorem d_Mc_move_127 : decode b_Mc_move 127 = .ok (.aload_n 0, 1) := by decide +kernel
theorem d_Mc_move_128 : decode b_Mc_move 128 = .ok (.getfield 15, 3) := by decide +kernel
theorem d_Mc_move_131 : decode b_Mc_move 131 = .ok (.putfield 19, 3) := by decide +kernel
theorem d_Mc_move_134 : decode b_Mc_move 134 = .ok (.goto 46, 3) := by decide +kernel
theorem d_Mc_move_137 : decode b_Mc_move 137 = .ok (.aload_n 0, 1) := by decide +kernel
theorem d_Mc_move_138 : decode b_Mc_move 138 = .ok (.aload_n 0, 1) := by decide +kernel
theorem d_Mc_move_139 : decode b_Mc_move 139 = .ok (.getfield 19, 3) := by decide +kernel
theorem d_Mc_move_142 : decode b_Mc_move 142 = .ok (.putfield 15, 3) := by decide +kernel
theorem d_Mc_move_145 : decode b_Mc_move 145 = .ok (.goto 35, 3) := by decide +kernel
theorem d_Mc_move_148 : decode b_Mc_move 148 = .ok (.aload_n 0, 1) := by decide +kernel
theorem d_Mc_move_149 : decode b_Mc_move 149 = .ok (.getfield 9, 3) := by decide +kernel
theorem d_Mc_move_152 : decode b_Mc_move 152 = .ok (.iload_n 2, 1) := by decide +kernel
theorem d_Mc_move_153 : decode b_Mc_move 153 = .ok (.bipush 15, 2) := by decide +kernel
theorem d_Mc_move_155 : decode b_Mc_move 155 = .ok (.iand, 1) := by decide +kernel
theorem d_Mc_move_156 : decode b_Mc_move 156 = .ok (.aload_n 0, 1) := by decide +kernel
theorem d_Mc_move_157 : decode b_Mc_move 157 = .ok (.getfield 15, 3) := by decide +kernel
theorem d_Mc_move_160 : decode b_Mc_move 160 = .ok (.iastore, 1) := by decide +kernel
theorem d_Mc_move_161 : decode b_Mc_move 161 = .ok (.goto 19, 3) := by decide +kernel
theorem d_Mc_move_164 : decode b_Mc_move 164 = .ok (.aload_n 0, 1) := by decide +kernel
theorem d_Mc_move_165 : decode b_Mc_move 165 = .ok (.getfield 9, 3) := by decide +kernel
theorem d_Mc_move_168 : decode b_Mc_move 168 = .ok (.iload_n 2, 1) := by decide +kernel
theorem d_Mc_move_169 : decode b_Mc_move 169 = .ok (.bipush 15, 2) := by decide +kernel
theorem d_Mc_move_171 : decode b_Mc_move 171 = .ok (.iand, 1) := by decide +kernel
theorem d_Mc_move_172 : decode b_Mc_move 172 = .ok (.aload_n 0, 1) := by decide +kernel
theorem d_Mc_move_173 : decode b_Mc_move 173 = .ok (.getfield 19, 3) := by decide +kernel
theorem d_Mc_move_176 : decode b_Mc_move 176 = .ok (.iastore, 1) := by decide +kernel
theorem d_Mc_move_177 : decode b_Mc_move 177 = .ok (.goto 3, 3) := by decide +kernel
theorem d_Mc_move_180 : decode b_Mc_move 180 = .ok (.return_, 1) := by decide +kernel
set_option maxHeartbeats 4000000 in
set_option maxRecDepth 100000 in
theorem c_Mc_move (mc cl wd : Nat) (a x dn k : Int32) (cs w : Nat → Int32) (o len : Nat) (sz : Nat) (ho : o < 10) (hk : o = 0 ∨ o = 2 ∨ o = 5 ∨ o = 8 ∨ o = 9 → 0 ≤ k.toInt ∧ k.toInt < 16) : fs_V l y_Mc_move (k_Mc_move :: fs_T) { frames := 0, cells := 0, slots := 0, locals := 0 } (dC, dI) vwCl (fs_tys cI cZ cJ cF) [.ref mc, .int (nI o), .int k, .ref wd, .int (nI len)] [(mc, .inr (2, [.ref cl, .int a, .int x, .int dn])), (cl, .inl (cI, 16, .inl cs)), (wd, .inl (cI, 16, .inl w))] sz (S := Unit) (fun _ => True) (fun _ => [(mc, .inr (2, [.ref cl, .int (fx_a o a x k cs w len), .int (fx_x o a x k cs), .int dn])), (cl, .inl (cI, 16, .inl (fx_c o a x k cs))), (wd, .inl (cI, 16, .inl w))]) 0 0 := by
  refine fs_head (by decide) (Nat.le_of_ble_eq_true rfl) ?_
  intro p e s m below meth c A ls hx hb hr hts hown hlocks hin hml hK hP hD hS hA hAe hsz hl
  have hl : lv_has ls 5 [(0, .ref mc), (1, .int (nI o)), (2, .int k), (3, .ref wd), (4, .int (nI len))] := hl
  have hown : s.vm.findClass R_Mc = some m.cls := hown
  refine lv_iload_n hx hb d_Mc_move_0 rfl (lv_at hl 1 rfl) ?_
  rcases (show o = 0 ∨ o = 1 ∨ o = 2 ∨ o = 3 ∨ o = 4 ∨ o = 5 ∨ o = 6 ∨ o = 7 ∨ o = 8 ∨ o = 9 from by omega) with hsw | hsw | hsw | hsw | hsw | hsw | hsw | hsw | hsw | hsw
  · refine fs_eqi (v := nI 0) (by rw [hsw]) ?_
    refine lv_tableIn (off := 55) (tgt := 56) hx hb d_Mc_move_1 (by decide) (by decide) rfl (by decide) ?_
    refine lv_aload_n hx hb d_Mc_move_56 rfl (lv_at hl 0 rfl) ?_
    refine lv_aload_n hx hb d_Mc_move_57 rfl (lv_at hl 3 rfl) ?_
    refine lv_iload_n hx hb d_Mc_move_58 rfl (lv_at hl 2 rfl) ?_
    refine lv_bipush (v := nI 15) hx hb d_Mc_move_59 (by decide) ?_
    refine lv_iand hx hb d_Mc_move_61 ?_
    refine fs_eqi (v := nI k.toNatClampNeg) (fx_and15 (hk (by omega)).1 (hk (by omega)).2) ?_
    have hkn := fs_clampI (hk (by omega)).1
    have hkm := (hk (by omega)).2
    refine fs_iald (v := w k.toNatClampNeg) hx hb hK hP 2 0 rfl rfl k.toNatClampNeg rfl (by decide) (by omega) rfl d_Mc_move_62 ?_
    refine va_put (D := (dC, dI)) (ci := 2) (v := .int (w k.toNatClampNeg)) (ty := (.int)) (C := R_Mc) (T := T_Mc) (N := 4) hx hb hts uin_Mc t_Mc ok_Mc n_Mc hown hK hP hD hS 0 rfl rfl 1 (by decide) (hts _ wi_101) (fun _ h9 => h9) rfl (by decide +kernel) rfl rfl (Nat.le_of_ble_eq_true rfl) d_Mc_move_63 (fun H locs hP hD hS => ?_)
    have hP : va_P (dC, dI) vwCl [(mc, .inr (2, [.ref cl, .int (w k.toNatClampNeg), .int x, .int dn])), (cl, .inl (cI, 16, .inl cs)), (wd, .inl (cI, 16, .inl w))] H := hP
    have hD : va_D A [(mc, .inr (2, [.ref cl, .int (w k.toNatClampNeg), .int x, .int dn])), (cl, .inl (cI, 16, .inl cs)), (wd, .inl (cI, 16, .inl w))] := hD
    refine lv_goto (tgt := 180) hx hb d_Mc_move_66 (by decide) ?_
    subst hsw
    exact fs_vret hx hb hr hlocks hAe hK hS d_Mc_move_180 () (trivial) hP hD
  · refine fs_eqi (v := nI 1) (by rw [hsw]) ?_
    refine lv_tableIn (off := 68) (tgt := 69) hx hb d_Mc_move_1 (by decide) (by decide) rfl (by decide) ?_
    refine lv_aload_n hx hb d_Mc_move_69 rfl (lv_at hl 0 rfl) ?_
    refine lv_iload_n hx hb d_Mc_move_70 rfl (lv_at hl 2 rfl) ?_
    refine va_put (D := (dC, dI)) (ci := 2) (v := .int k) (ty := (.int)) (C := R_Mc) (T := T_Mc) (N := 4) hx hb hts uin_Mc t_Mc ok_Mc n_Mc hown hK hP hD hS 0 rfl rfl 1 (by decide) (hts _ wi_101) (fun _ h9 => h9) rfl (by decide +kernel) rfl rfl (Nat.le_of_ble_eq_true rfl) d_Mc_move_71 (fun H locs hP hD hS => ?_)
    have hP : va_P (dC, dI) vwCl [(mc, .inr (2, [.ref cl, .int k, .int x, .int dn])), (cl, .inl (cI, 16, .inl cs)), (wd, .inl (cI, 16, .inl w))] H := hP
    have hD : va_D A [(mc, .inr (2, [.ref cl, .int k, .int x, .int dn])), (cl, .inl (cI, 16, .inl cs)), (wd, .inl (cI, 16, .inl w))] := hD
    refine lv_goto (tgt := 180) hx hb d_Mc_move_74 (by decide) ?_
    subst hsw
    exact fs_vret hx hb hr hlocks hAe hK hS d_Mc_move_180 () (trivial) hP hD
  · refine fs_eqi (v := nI 2) (by rw [hsw]) ?_
    refine lv_tableIn (off := 76) (tgt := 77) hx hb d_Mc_move_1 (by decide) (by decide) rfl (by decide) ?_
    refine lv_aload_n hx hb d_Mc_move_77 rfl (lv_at hl 0 rfl) ?_
    refine lv_aload_n hx hb d_Mc_move_78 rfl (lv_at hl 0 rfl) ?_
    refine va_get (D := (dC, dI)) (ci := 2) (v := .ref cl) (C := R_Mc) (T := T_Mc) (N := 4) hx hb hts uin_Mc hown hK hP 0 rfl rfl 0 (by decide) (hts _ wi_100) (fun _ h9 => h9) rfl d_Mc_move_79 ?_
    refine lv_iload_n hx hb d_Mc_move_82 rfl (lv_at hl 2 rfl) ?_
    refine lv_bipush (v := nI 15) hx hb d_Mc_move_83 (by decide) ?_
    refine lv_iand hx hb d_Mc_move_85 ?_
    refine fs_eqi (v := nI k.toNatClampNeg) (fx_and15 (hk (by omega)).1 (hk (by omega)).2) ?_
    have hkn := fs_clampI (hk (by omega)).1
    have hkm := (hk (by omega)).2
    refine fs_iald (v := cs k.toNatClampNeg) hx hb hK hP 1 0 rfl rfl k.toNatClampNeg rfl (by decide) (by omega) rfl d_Mc_move_86 ?_
    refine va_put (D := (dC, dI)) (ci := 2) (v := .int (cs k.toNatClampNeg)) (ty := (.int)) (C := R_Mc) (T := T_Mc) (N := 4) hx hb hts uin_Mc t_Mc ok_Mc n_Mc hown hK hP hD hS 0 rfl rfl 1 (by decide) (hts _ wi_101) (fun _ h9 => h9) rfl (by decide +kernel) rfl rfl (Nat.le_of_ble_eq_true rfl) d_Mc_move_87 (fun H locs hP hD hS => ?_)
    have hP : va_P (dC, dI) vwCl [(mc, .inr (2, [.ref cl, .int (cs k.toNatClampNeg), .int x, .int dn])), (cl, .inl (cI, 16, .inl cs)), (wd, .inl (cI, 16, .inl w))] H := hP
    have hD : va_D A [(mc, .inr (2, [.ref cl, .int (cs k.toNatClampNeg), .int x, .int dn])), (cl, .inl (cI, 16, .inl cs)), (wd, .inl (cI, 16, .inl w))] := hD
    refine lv_goto (tgt := 180) hx hb d_Mc_move_90 (by decide) ?_
    subst hsw
    exact fs_vret hx hb hr hlocks hAe hK hS d_Mc_move_180 () (trivial) hP hD
  · refine fs_eqi (v := nI 3) (by rw [hsw]) ?_
    refine lv_tableIn (off := 92) (tgt := 93) hx hb d_Mc_move_1 (by decide) (by decide) rfl (by decide) ?_
    refine lv_aload_n hx hb d_Mc_move_93 rfl (lv_at hl 0 rfl) ?_
    refine lv_iload hx hb d_Mc_move_94 (lv_at hl 4 rfl) ?_
    refine va_put (D := (dC, dI)) (ci := 2) (v := .int (nI len)) (ty := (.int)) (C := R_Mc) (T := T_Mc) (N := 4) hx hb hts uin_Mc t_Mc ok_Mc n_Mc hown hK hP hD hS 0 rfl rfl 1 (by decide) (hts _ wi_101) (fun _ h9 => h9) rfl (by decide +kernel) rfl rfl (Nat.le_of_ble_eq_true rfl) d_Mc_move_96 (fun H locs hP hD hS => ?_)
    have hP : va_P (dC, dI) vwCl [(mc, .inr (2, [.ref cl, .int (nI len), .int x, .int dn])), (cl, .inl (cI, 16, .inl cs)), (wd, .inl (cI, 16, .inl w))] H := hP
    have hD : va_D A [(mc, .inr (2, [.ref cl, .int (nI len), .int x, .int dn])), (cl, .inl (cI, 16, .inl cs)), (wd, .inl (cI, 16, .inl w))] := hD
    refine lv_goto (tgt := 180) hx hb d_Mc_move_99 (by decide) ?_
    subst hsw
    exact fs_vret hx hb hr hlocks hAe hK hS d_Mc_move_180 () (trivial) hP hD
  · refine fs_eqi (v := nI 4) (by rw [hsw]) ?_
    refine lv_tableIn (off := 101) (tgt := 102) hx hb d_Mc_move_1 (by decide) (by decide) rfl (by decide) ?_
    refine lv_aload_n hx hb d_Mc_move_102 rfl (lv_at hl 0 rfl) ?_
    refine lv_iload_n hx hb d_Mc_move_103 rfl (lv_at hl 2 rfl) ?_
    refine va_put (D := (dC, dI)) (ci := 2) (v := .int k) (ty := (.int)) (C := R_Mc) (T := T_Mc) (N := 4) hx hb hts uin_Mc t_Mc ok_Mc n_Mc hown hK hP hD hS 0 rfl rfl 2 (by decide) (hts _ wi_102) (fun _ h9 => h9) rfl (by decide +kernel) rfl rfl (Nat.le_of_ble_eq_true rfl) d_Mc_move_104 (fun H locs hP hD hS => ?_)
    have hP : va_P (dC, dI) vwCl [(mc, .inr (2, [.ref cl, .int a, .int k, .int dn])), (cl, .inl (cI, 16, .inl cs)), (wd, .inl (cI, 16, .inl w))] H := hP
    have hD : va_D A [(mc, .inr (2, [.ref cl, .int a, .int k, .int dn])), (cl, .inl (cI, 16, .inl cs)), (wd, .inl (cI, 16, .inl w))] := hD
    refine lv_goto (tgt := 180) hx hb d_Mc_move_107 (by decide) ?_
    subst hsw
    exact fs_vret hx hb hr hlocks hAe hK hS d_Mc_move_180 () (trivial) hP hD
  · refine fs_eqi (v := nI 5) (by rw [hsw]) ?_
    refine lv_tableIn (off := 109) (tgt := 110) hx hb d_Mc_move_1 (by decide) (by decide) rfl (by decide) ?_
    refine lv_aload_n hx hb d_Mc_move_110 rfl (lv_at hl 0 rfl) ?_
    refine lv_aload_n hx hb d_Mc_move_111 rfl (lv_at hl 0 rfl) ?_
    refine va_get (D := (dC, dI)) (ci := 2) (v := .ref cl) (C := R_Mc) (T := T_Mc) (N := 4) hx hb hts uin_Mc hown hK hP 0 rfl rfl 0 (by decide) (hts _ wi_100) (fun _ h9 => h9) rfl d_Mc_move_112 ?_
    refine lv_iload_n hx hb d_Mc_move_115 rfl (lv_at hl 2 rfl) ?_
    refine lv_bipush (v := nI 15) hx hb d_Mc_move_116 (by decide) ?_
    refine lv_iand hx hb d_Mc_move_118 ?_
    refine fs_eqi (v := nI k.toNatClampNeg) (fx_and15 (hk (by omega)).1 (hk (by omega)).2) ?_
    have hkn := fs_clampI (hk (by omega)).1
    have hkm := (hk (by omega)).2
    refine fs_iald (v := cs k.toNatClampNeg) hx hb hK hP 1 0 rfl rfl k.toNatClampNeg rfl (by decide) (by omega) rfl d_Mc_move_119 ?_
    refine va_put (D := (dC, dI)) (ci := 2) (v := .int (cs k.toNatClampNeg)) (ty := (.int)) (C := R_Mc) (T := T_Mc) (N := 4) hx hb hts uin_Mc t_Mc ok_Mc n_Mc hown hK hP hD hS 0 rfl rfl 2 (by decide) (hts _ wi_102) (fun _ h9 => h9) rfl (by decide +kernel) rfl rfl (Nat.le_of_ble_eq_true rfl) d_Mc_move_120 (fun H locs hP hD hS => ?_)
    have hP : va_P (dC, dI) vwCl [(mc, .inr (2, [.ref cl, .int a, .int (cs k.toNatClampNeg), .int dn])), (cl, .inl (cI, 16, .inl cs)), (wd, .inl (cI, 16, .inl w))] H := hP
    have hD : va_D A [(mc, .inr (2, [.ref cl, .int a, .int (cs k.toNatClampNeg), .int dn])), (cl, .inl (cI, 16, .inl cs)), (wd, .inl (cI, 16, .inl w))] := hD
    refine lv_goto (tgt := 180) hx hb d_Mc_move_123 (by decide) ?_
    subst hsw
    exact fs_vret hx hb hr hlocks hAe hK hS d_Mc_move_180 () (trivial) hP hD
  · refine fs_eqi (v := nI 6) (by rw [hsw]) ?_
    refine lv_tableIn (off := 125) (tgt := 126) hx hb d_Mc_move_1 (by decide) (by decide) rfl (by decide) ?_
    refine lv_aload_n hx hb d_Mc_move_126 rfl (lv_at hl 0 rfl) ?_
    refine lv_aload_n hx hb d_Mc_move_127 rfl (lv_at hl 0 rfl) ?_
    refine va_get (D := (dC, dI)) (ci := 2) (v := .int a) (C := R_Mc) (T := T_Mc) (N := 4) hx hb hts uin_Mc hown hK hP 0 rfl rfl 1 (by decide) (hts _ wi_101) (fun _ h9 => h9) rfl d_Mc_move_128 ?_
    refine va_put (D := (dC, dI)) (ci := 2) (v := .int a) (ty := (.int)) (C := R_Mc) (T := T_Mc) (N := 4) hx hb hts uin_Mc t_Mc ok_Mc n_Mc hown hK hP hD hS 0 rfl rfl 2 (by decide) (hts _ wi_102) (fun _ h9 => h9) rfl (by decide +kernel) rfl rfl (Nat.le_of_ble_eq_true rfl) d_Mc_move_131 (fun H locs hP hD hS => ?_)
    have hP : va_P (dC, dI) vwCl [(mc, .inr (2, [.ref cl, .int a, .int a, .int dn])), (cl, .inl (cI, 16, .inl cs)), (wd, .inl (cI, 16, .inl w))] H := hP
    have hD : va_D A [(mc, .inr (2, [.ref cl, .int a, .int a, .int dn])), (cl, .inl (cI, 16, .inl cs)), (wd, .inl (cI, 16, .inl w))] := hD
    refine lv_goto (tgt := 180) hx hb d_Mc_move_134 (by decide) ?_
    subst hsw
    exact fs_vret hx hb hr hlocks hAe hK hS d_Mc_move_180 () (trivial) hP hD
  · refine fs_eqi (v := nI 7) (by rw [hsw]) ?_
    refine lv_tableIn (off := 136) (tgt := 137) hx hb d_Mc_move_1 (by decide) (by decide) rfl (by decide) ?_
    refine lv_aload_n hx hb d_Mc_move_137 rfl (lv_at hl 0 rfl) ?_
    refine lv_aload_n hx hb d_Mc_move_138 rfl (lv_at hl 0 rfl) ?_
    refine va_get (D := (dC, dI)) (ci := 2) (v := .int x) (C := R_Mc) (T := T_Mc) (N := 4) hx hb hts uin_Mc hown hK hP 0 rfl rfl 2 (by decide) (hts _ wi_102) (fun _ h9 => h9) rfl d_Mc_move_139 ?_
    refine va_put (D := (dC, dI)) (ci := 2) (v := .int x) (ty := (.int)) (C := R_Mc) (T := T_Mc) (N := 4) hx hb hts uin_Mc t_Mc ok_Mc n_Mc hown hK hP hD hS 0 rfl rfl 1 (by decide) (hts _ wi_101) (fun _ h9 => h9) rfl (by decide +kernel) rfl rfl (Nat.le_of_ble_eq_true rfl) d_Mc_move_142 (fun H locs hP hD hS => ?_)
    have hP : va_P (dC, dI) vwCl [(mc, .inr (2, [.ref cl, .int x, .int x, .int dn])), (cl, .inl (cI, 16, .inl cs)), (wd, .inl (cI, 16, .inl w))] H := hP
    have hD : va_D A [(mc, .inr (2, [.ref cl, .int x, .int x, .int dn])), (cl, .inl (cI, 16, .inl cs)), (wd, .inl (cI, 16, .inl w))] := hD
    refine lv_goto (tgt := 180) hx hb d_Mc_move_145 (by decide) ?_
    subst hsw
    exact fs_vret hx hb hr hlocks hAe hK hS d_Mc_move_180 () (trivial) hP hD
  · refine fs_eqi (v := nI 8) (by rw [hsw]) ?_
    refine lv_tableIn (off := 147) (tgt := 148) hx hb d_Mc_move_1 (by decide) (by decide) rfl (by decide) ?_
    refine lv_aload_n hx hb d_Mc_move_148 rfl (lv_at hl 0 rfl) ?_
    refine va_get (D := (dC, dI)) (ci := 2) (v := .ref cl) (C := R_Mc) (T := T_Mc) (N := 4) hx hb hts uin_Mc hown hK hP 0 rfl rfl 0 (by decide) (hts _ wi_100) (fun _ h9 => h9) rfl d_Mc_move_149 ?_
    refine lv_iload_n hx hb d_Mc_move_152 rfl (lv_at hl 2 rfl) ?_
    refine lv_bipush (v := nI 15) hx hb d_Mc_move_153 (by decide) ?_
    refine lv_iand hx hb d_Mc_move_155 ?_
    refine fs_eqi (v := nI k.toNatClampNeg) (fx_and15 (hk (by omega)).1 (hk (by omega)).2) ?_
    have hkn := fs_clampI (hk (by omega)).1
    have hkm := (hk (by omega)).2
    refine lv_aload_n hx hb d_Mc_move_156 rfl (lv_at hl 0 rfl) ?_
    refine va_get (D := (dC, dI)) (ci := 2) (v := .int a) (C := R_Mc) (T := T_Mc) (N := 4) hx hb hts uin_Mc hown hK hP 0 rfl rfl 1 (by decide) (hts _ wi_101) (fun _ h9 => h9) rfl d_Mc_move_157 ?_
    refine fs_iast hx hb hK hP hD hS 1 0 rfl rfl k.toNatClampNeg rfl (by decide) (by omega) d_Mc_move_160 (fun H locs hP hD hS => ?_)
    have hP : va_P (dC, dI) vwCl [(mc, .inr (2, [.ref cl, .int a, .int x, .int dn])), (cl, .inl (cI, 16, .inl (upd cs k.toNatClampNeg a))), (wd, .inl (cI, 16, .inl w))] H := hP
    have hD : va_D A [(mc, .inr (2, [.ref cl, .int a, .int x, .int dn])), (cl, .inl (cI, 16, .inl (upd cs k.toNatClampNeg a))), (wd, .inl (cI, 16, .inl w))] := hD
    refine lv_goto (tgt := 180) hx hb d_Mc_move_161 (by decide) ?_
    subst hsw
    exact fs_vret hx hb hr hlocks hAe hK hS d_Mc_move_180 () (trivial) hP hD
  · refine fs_eqi (v := nI 9) (by rw [hsw]) ?_
    refine lv_tableIn (off := 163) (tgt := 164) hx hb d_Mc_move_1 (by decide) (by decide) rfl (by decide) ?_
    refine lv_aload_n hx hb d_Mc_move_164 rfl (lv_at hl 0 rfl) ?_
    refine va_get (D := (dC, dI)) (ci := 2) (v := .ref cl) (C := R_Mc) (T := T_Mc) (N := 4) hx hb hts uin_Mc hown hK hP 0 rfl rfl 0 (by decide) (hts _ wi_100) (fun _ h9 => h9) rfl d_Mc_move_165 ?_
    refine lv_iload_n hx hb d_Mc_move_168 rfl (lv_at hl 2 rfl) ?_
    refine lv_bipush (v := nI 15) hx hb d_Mc_move_169 (by decide) ?_
    refine lv_iand hx hb d_Mc_move_171 ?_
    refine fs_eqi (v := nI k.toNatClampNeg) (fx_and15 (hk (by omega)).1 (hk (by omega)).2) ?_
    have hkn := fs_clampI (hk (by omega)).1
    have hkm := (hk (by omega)).2
    refine lv_aload_n hx hb d_Mc_move_172 rfl (lv_at hl 0 rfl) ?_
    refine va_get (D := (dC, dI)) (ci := 2) (v := .int x) (C := R_Mc) (T := T_Mc) (N := 4) hx hb hts uin_Mc hown hK hP 0 rfl rfl 2 (by decide) (hts _ wi_102) (fun _ h9 => h9) rfl d_Mc_move_173 ?_
    refine fs_iast hx hb hK hP hD hS 1 0 rfl rfl k.toNatClampNeg rfl (by decide) (by omega) d_Mc_move_176 (fun H locs hP hD hS => ?_)
    have hP : va_P (dC, dI) vwCl [(mc, .inr (2, [.ref cl, .int a, .int x, .int dn])), (cl, .inl (cI, 16, .inl (upd cs k.toNatClampNeg x))), (wd, .inl (cI, 16, .inl w))] H := hP
    have hD : va_D A [(mc, .inr (2, [.ref cl, .int a, .int x, .int dn])), (cl, .inl (cI, 16, .inl (upd cs k.toNatClampNeg x))), (wd, .inl (cI, 16, .inl w))] := hD
    refine lv_goto (tgt := 180) hx hb d_Mc_move_177 (by decide) ?_
    subst hsw
    exact fs_vret hx hb hr hlocks hAe hK hS d_Mc_move_180 () (trivial) hP hD

theorem d_Mc_run_0 : decode b_Mc_run 0 = .ok (.aload_n 0, 1) := by decide +kernel
theorem d_Mc_run_1 : decode b_Mc_run 1 = .ok (.getfield 9, 3) := by decide +kernel
theorem d_Mc_run_4 : decode b_Mc_run 4 = .ok (.iconst 0, 1) := by decide +kernel
theorem d_Mc_run_5 : decode b_Mc_run 5 = .ok (.invokestatic 25, 3) := by decide +kernel
theorem d_Mc_run_8 : decode b_Mc_run 8 = .ok (.aload_n 0, 1) := by decide +kernel
theorem d_Mc_run_9 : decode b_Mc_run 9 = .ok (.iconst 0, 1) := by decide +kernel
theorem d_Mc_run_10 : decode b_Mc_run 10 = .ok (.putfield 15, 3) := by decide +kernel
theorem d_Mc_run_13 : decode b_Mc_run 13 = .ok (.aload_n 0, 1) := by decide +kernel
theorem d_Mc_run_14 : decode b_Mc_run 14 = .ok (.iconst 0, 1) := by decide +kernel
theorem d_Mc_run_15 : decode b_Mc_run 15 = .ok (.putfield 19, 3) := by decide +kernel
theorem d_Mc_run_18 : decode b_Mc_run 18 = .ok (.iconst 0, 1) := by decide +kernel
theorem d_Mc_run_19 : decode b_Mc_run 19 = .ok (.istore_n 3, 1) := by decide +kernel
theorem d_Mc_run_20 : decode b_Mc_run 20 = .ok (.iconst 1, 1) := by decide +kernel
theorem d_Mc_run_21 : decode b_Mc_run 21 = .ok (.istore 4, 2) := by decide +kernel
theorem d_Mc_run_23 : decode b_Mc_run 23 = .ok (.iload 4, 2) := by decide +kernel
theorem d_Mc_run_25 : decode b_Mc_run 25 = .ok (.bipush 40, 2) := by decide +kernel
theorem d_Mc_run_27 : decode b_Mc_run 27 = .ok (.if_icmp .gt 148, 3) := by decide +kernel
theorem d_Mc_run_30 : decode b_Mc_run 30 = .ok (.aload_n 1, 1) := by decide +kernel
theorem d_Mc_run_31 : decode b_Mc_run 31 = .ok (.iload_n 3, 1) := by decide +kernel
theorem d_Mc_run_32 : decode b_Mc_run 32 = .ok (.invokevirtual 31, 3) := by decide +kernel
theorem d_Mc_run_35 : decode b_Mc_run 35 = .ok (.ifCond .eq 140, 3) := by decide +kernel
theorem d_Mc_run_38 : decode b_Mc_run 38 = .ok (.aload_n 0, 1) := by decide +kernel
theorem d_Mc_run_39 : decode b_Mc_run 39 = .ok (.iload 4, 2) := by decide +kernel
theorem d_Mc_run_41 : decode b_Mc_run 41 = .ok (.putfield 22, 3) := by decide +kernel
theorem d_Mc_run_44 : decode b_Mc_run 44 = .ok (.aload_n 1, 1) := by decide +kernel
theorem d_Mc_run_45 : decode b_Mc_run 45 = .ok (.getfield 37, 3) := by decide +kernel
theorem d_Mc_run_48 : decode b_Mc_run 48 = .ok (.iload_n 3, 1) := by decide +kernel
theorem d_Mc_run_49 : decode b_Mc_run 49 = .ok (.iaload, 1) := by decide +kernel
theorem d_Mc_run_50 : decode b_Mc_run 50 = .ok (.istore 5, 2) := by decide +kernel
theorem d_Mc_run_52 : decode b_Mc_run 52 = .ok (.aload_n 1, 1) := by decide +kernel
theorem d_Mc_run_53 : decode b_Mc_run 53 = .ok (.getfield 40, 3) := by decide +kernel
theorem d_Mc_run_56 : decode b_Mc_run 56 = .ok (.iload_n 3, 1) := by decide +kernel
theorem d_Mc_run_57 : decode b_Mc_run 57 = .ok (.iaload, 1) := by decide +kernel
theorem d_Mc_run_58 : decode b_Mc_run 58 = .ok (.istore 6, 2) := by decide +kernel
theorem d_Mc_run_60 : decode b_Mc_run 60 = .ok (.iload 5, 2) := by decide +kernel
theorem d_Mc_run_62 : decode b_Mc_run 62 = .ok (.bipush 31, 2) := by decide +kernel
theorem d_Mc_run_64 : decode b_Mc_run 64 = .ok (.if_icmp .ne 22, 3) := by decide +kernel
theorem d_Mc_run_67 : decode b_Mc_run 67 = .ok (.aload_n 1, 1) := by decide +kernel
theorem d_Mc_run_68 : decode b_Mc_run 68 = .ok (.getfield 43, 3) := by decide +kernel
theorem d_Mc_run_71 : decode b_Mc_run 71 = .ok (.iload_n 3, 1) := by decide +kernel
theorem d_Mc_run_72 : decode b_Mc_run 72 = .ok (.iaload, 1) := by decide +kernel
theorem d_Mc_run_73 : decode b_Mc_run 73 = .ok (.ifCond .eq 10, 3) := by decide +kernel
theorem d_Mc_run_76 : decode b_Mc_run 76 = .ok (.aload_n 0, 1) := by decide +kernel
theorem d_Mc_run_77 : decode b_Mc_run 77 = .ok (.getfield 15, 3) := by decide +kernel
theorem d_Mc_run_80 : decode b_Mc_run 80 = .ok (.goto 5, 3) := by decide +kernel
theorem d_Mc_run_83 : decode b_Mc_run 83 = .ok (.iload 6, 2) := by decide +kernel
theorem d_Mc_run_85 : decode b_Mc_run 85 = .ok (.ireturn, 1) := by decide +kernel
theorem d_Mc_run_86 : decode b_Mc_run 86 = .ok (.iload 5, 2) := by decide +kernel
theorem d_Mc_run_88 : decode b_Mc_run 88 = .ok (.bipush 22, 2) := by decide +kernel
theorem d_Mc_run_90 : decode b_Mc_run 90 = .ok (.if_icmp .ne 12, 3) := by decide +kernel
theorem d_Mc_run_93 : decode b_Mc_run 93 = .ok (.aload_n 0, 1) := by decide +kernel
theorem d_Mc_run_94 : decode b_Mc_run 94 = .ok (.getfield 19, 3) := by decide +kernel
theorem d_Mc_run_97 : decode b_Mc_run 97 = .ok (.ifCond .ne 5, 3) := by decide +kernel
theorem d_Mc_run_100 : decode b_Mc_run 100 = .ok (.iconst 0, 1) := by decide +kernel
theorem d_Mc_run_101 : decode b_Mc_run 101 = .ok (.ireturn, 1) := by decide +kernel
theorem d_Mc_run_102 : decode b_Mc_run 102 = .ok (.iload 5, 2) := by decide +kernel
theorem d_Mc_run_104 : decode b_Mc_run 104 = .ok (.bipush 10, 2) := by decide +kernel
theorem d_Mc_run_106 : decode b_Mc_run 106 = .ok (.if_icmp .ge 19, 3) := by decide +kernel
theorem d_Mc_run_109 : decode b_Mc_run 109 = .ok (.aload_n 0, 1) := by decide +kernel
theorem d_Mc_run_110 : decode b_Mc_run 110 = .ok (.iload 5, 2) := by decide +kernel
theorem d_Mc_run_112 : decode b_Mc_run 112 = .ok (.iload 6, 2) := by decide +kernel
theorem d_Mc_run_114 : decode b_Mc_run 114 = .ok (.aload_n 2, 1) := by decide +kernel
theorem d_Mc_run_115 : decode b_Mc_run 115 = .ok (.aload_n 1, 1) := by decide +kernel
theorem d_Mc_run_116 : decode b_Mc_run 116 = .ok (.getfield 46, 3) := by decide +kernel
theorem d_Mc_run_119 : decode b_Mc_run 119 = .ok (.invokevirtual 49, 3) := by decide +kernel
theorem d_Mc_run_122 : decode b_Mc_run 122 = .ok (.goto 36, 3) := by decide +kernel
theorem d_Mc_run_125 : decode b_Mc_run 125 = .ok (.iload 5, 2) := by decide +kernel
theorem d_Mc_run_127 : decode b_Mc_run 127 = .ok (.bipush 25, 2) := by decide +kernel
theorem d_Mc_run_129 : decode b_Mc_run 129 = .ok (.if_icmp .ge 29, 3) := by decide +kernel
theorem d_Mc_run_132 : decode b_Mc_run 132 = .ok (.aload_n 0, 1) := by decide +kernel
theorem d_Mc_run_133 : decode b_Mc_run 133 = .ok (.aload_n 0, 1) := by decide +kernel
theorem d_Mc_run_134 : decode b_Mc_run 134 = .ok (.iload 5, 2) := by decide +kernel
theorem d_Mc_run_136 : decode b_Mc_run 136 = .ok (.iload 5, 2) := by decide +kernel
theorem d_Mc_run_138 : decode b_Mc_run 138 = .ok (.bipush 19, 2) := by decide +kernel
theorem d_Mc_run_140 : decode b_Mc_run 140 = .ok (.if_icmp .ge 8, 3) := by decide +kernel
theorem d_Mc_run_143 : decode b_Mc_run 143 = .ok (.iload 6, 2) := by decide +kernel
theorem d_Mc_run_145 : decode b_Mc_run 145 = .ok (.goto 7, 3) := by decide +kernel
theorem d_Mc_run_148 : decode b_Mc_run 148 = .ok (.aload_n 0, 1) := by decide +kernel
theorem d_Mc_run_149 : decode b_Mc_run 149 = .ok (.getfield 19, 3) := by decide +kernel
theorem d_Mc_run_152 : decode b_Mc_run 152 = .ok (.invokevirtual 53, 3) := by decide +kernel
theorem d_Mc_run_155 : decode b_Mc_run 155 = .ok (.putfield 15, 3) := by decide +kernel
theorem d_Mc_run_158 : decode b_Mc_run 158 = .ok (.iload_n 3, 1) := by decide +kernel
theorem d_Mc_run_159 : decode b_Mc_run 159 = .ok (.iconst 1, 1) := by decide +kernel
theorem d_Mc_run_160 : decode b_Mc_run 160 = .ok (.iadd, 1) := by decide +kernel
theorem d_Mc_run_161 : decode b_Mc_run 161 = .ok (.aload_n 0, 1) := by decide +kernel
theorem d_Mc_run_162 : decode b_Mc_run 162 = .ok (.aload_n 1, 1) := by decide +kernel
theorem d_Mc_run_163 : decode b_Mc_run 163 = .ok (.iload_n 3, 1) := by decide +kernel
theorem d_Mc_run_164 : decode b_Mc_run 164 = .ok (.invokevirtual 57, 3) := by decide +kernel
theorem d_Mc_run_167 : decode b_Mc_run 167 = .ok (.iadd, 1) := by decide +kernel
theorem d_Mc_run_168 : decode b_Mc_run 168 = .ok (.istore_n 3, 1) := by decide +kernel
theorem d_Mc_run_169 : decode b_Mc_run 169 = .ok (.iinc 4 1, 3) := by decide +kernel
theorem d_Mc_run_172 : decode b_Mc_run 172 = .ok (.goto (-149), 3) := by decide +kernel
theorem d_Mc_run_175 : decode b_Mc_run 175 = .ok (.iconst 0, 1) := by decide +kernel
theorem d_Mc_run_176 : decode b_Mc_run 176 = .ok (.ireturn, 1) := by decide +kernel
set_option maxHeartbeats 4000000 in
set_option maxRecDepth 100000 in
theorem c_Mc_run (mc cl wd : Nat) (a x dn : Int32) (cs w : Nat → Int32) (q o y n k : Nat) (fo fy fn fk : Nat → Int32) (L : fx_Prg) (sz : Nat) (hrep : fx_rep L fo fy fn fk) (hok : fx_ok L) (hgd : fx_good L) (hpos : 0 < L.length) : fs_I l y_Mc_run (k_Mc_run :: fs_T) { frames := 2, cells := 0, slots := 0, locals := 45 } (dC, dI) vwCl (fs_tys cI cZ cJ cF) [.ref mc, .ref q, .ref wd] [(mc, .inr (2, [.ref cl, .int a, .int x, .int dn])), (cl, .inl (cI, 16, .inl cs)), (q, .inr (1, [.ref o, .ref y, .ref n, .ref k, .int (nI L.length)])), (o, .inl (cI, 40, .inl fo)), (y, .inl (cI, 40, .inl fy)), (n, .inl (cI, 40, .inl fn)), (k, .inl (cI, 40, .inl fk)), (wd, .inl (cI, 16, .inl w))] sz (S := Int32 × Int32 × (Nat → Int32)) (fun r _ => r = (fx_do L w).1) (fun u => [(mc, .inr (2, [.ref cl, .int u.1, .int u.2.1, .int (nI ((fx_do L w).2))])), (cl, .inl (cI, 16, .inl u.2.2)), (q, .inr (1, [.ref o, .ref y, .ref n, .ref k, .int (nI L.length)])), (o, .inl (cI, 40, .inl fo)), (y, .inl (cI, 40, .inl fy)), (n, .inl (cI, 40, .inl fn)), (k, .inl (cI, 40, .inl fk)), (wd, .inl (cI, 16, .inl w))]) 0 0 := by
  refine fs_head (by decide) (Nat.le_of_ble_eq_true rfl) ?_
  intro p e s m below meth c A ls hx hb hr hts hown hlocks hin hml hK hP hD hS hA hAe hsz hl
  have hl : lv_has ls 7 [(0, .ref mc), (1, .ref q), (2, .ref wd)] := hl
  have hown : s.vm.findClass R_Mc = some m.cls := hown
  have hlen := hok.1
  refine lv_aload_n hx hb d_Mc_run_0 rfl (lv_at hl 0 rfl) ?_
  refine va_get (D := (dC, dI)) (ci := 2) (v := .ref cl) (C := R_Mc) (T := T_Mc) (N := 4) hx hb hts uin_Mc hown hK hP 0 rfl rfl 0 (by decide) (hts _ wi_100) (fun _ h9 => h9) rfl d_Mc_run_1 ?_
  refine lv_iconst (v := nI 0) hx hb d_Mc_run_4 (by decide) ?_
  refine fs_callv (wc := [(cl, .inl (cI, 16, .inl cs))]) (wr := [(mc, .inr (2, [.ref cl, .int a, .int x, .int dn])), (q, .inr (1, [.ref o, .ref y, .ref n, .ref k, .int (nI L.length)])), (o, .inl (cI, 40, .inl fo)), (y, .inl (cI, 40, .inl fy)), (n, .inl (cI, 40, .inl fn)), (k, .inl (cI, 40, .inl fk)), (wd, .inl (cI, 16, .inl w))]) [1] [0, 2, 3, 4, 5, 6, 7] hP hD hK hS hA rfl rfl rfl (by decide) (fun hPc hDc => va_runS (As := [.ref cl, .int (nI 0)]) (rest := []) ⟨hx, hb, hml, hown, hts⟩ (c_Ar_fill cl 16 cs (nI 0) _ (by decide)) (⟨callB_of 2 hts (fs_g kin_Ar_fill) rfl rfl rfl (hts _ wi_7) (hts _ wi_278) (by decide +kernel) ⟨Nat.le_of_ble_eq_true rfl, Nat.le_of_ble_eq_true rfl⟩, hts _ wi_192⟩) (fs_preS hPc hK hDc) rfl rfl hl.1 rfl (lv_room (Nat.le_of_ble_eq_true rfl)) d_Mc_run_5 ⟨Nat.le_of_ble_eq_true rfl, Nat.le_of_ble_eq_true rfl⟩) rfl (fun _ H locs hp5 hP hD hS => ?_)
  have hP : va_P (dC, dI) vwCl [(mc, .inr (2, [.ref cl, .int a, .int x, .int dn])), (cl, .inl (cI, 16, .inl (fun _ => nI 0))), (q, .inr (1, [.ref o, .ref y, .ref n, .ref k, .int (nI L.length)])), (o, .inl (cI, 40, .inl fo)), (y, .inl (cI, 40, .inl fy)), (n, .inl (cI, 40, .inl fn)), (k, .inl (cI, 40, .inl fk)), (wd, .inl (cI, 16, .inl w))] H := hP.sub [0, 7, 1, 2, 3, 4, 5, 6] rfl
  have hD : va_D A [(mc, .inr (2, [.ref cl, .int a, .int x, .int dn])), (cl, .inl (cI, 16, .inl (fun _ => nI 0))), (q, .inr (1, [.ref o, .ref y, .ref n, .ref k, .int (nI L.length)])), (o, .inl (cI, 40, .inl fo)), (y, .inl (cI, 40, .inl fy)), (n, .inl (cI, 40, .inl fn)), (k, .inl (cI, 40, .inl fk)), (wd, .inl (cI, 16, .inl w))] := hD.sub [0, 7, 1, 2, 3, 4, 5, 6] (by decide) rfl
  refine lv_aload_n hx hb d_Mc_run_8 rfl (lv_at hl 0 rfl) ?_
  refine lv_iconst (v := nI 0) hx hb d_Mc_run_9 (by decide) ?_
  refine va_put (D := (dC, dI)) (ci := 2) (v := .int (nI 0)) (ty := (.int)) (C := R_Mc) (T := T_Mc) (N := 4) hx hb hts uin_Mc t_Mc ok_Mc n_Mc hown hK hP hD hS 0 rfl rfl 1 (by decide) (hts _ wi_101) (fun _ h9 => h9) rfl (by decide +kernel) rfl rfl (Nat.le_of_ble_eq_true rfl) d_Mc_run_10 (fun H locs hP hD hS => ?_)
  have hP : va_P (dC, dI) vwCl [(mc, .inr (2, [.ref cl, .int (nI 0), .int x, .int dn])), (cl, .inl (cI, 16, .inl (fun _ => nI 0))), (q, .inr (1, [.ref o, .ref y, .ref n, .ref k, .int (nI L.length)])), (o, .inl (cI, 40, .inl fo)), (y, .inl (cI, 40, .inl fy)), (n, .inl (cI, 40, .inl fn)), (k, .inl (cI, 40, .inl fk)), (wd, .inl (cI, 16, .inl w))] H := hP
  have hD : va_D A [(mc, .inr (2, [.ref cl, .int (nI 0), .int x, .int dn])), (cl, .inl (cI, 16, .inl (fun _ => nI 0))), (q, .inr (1, [.ref o, .ref y, .ref n, .ref k, .int (nI L.length)])), (o, .inl (cI, 40, .inl fo)), (y, .inl (cI, 40, .inl fy)), (n, .inl (cI, 40, .inl fn)), (k, .inl (cI, 40, .inl fk)), (wd, .inl (cI, 16, .inl w))] := hD
  refine lv_aload_n hx hb d_Mc_run_13 rfl (lv_at hl 0 rfl) ?_
  refine lv_iconst (v := nI 0) hx hb d_Mc_run_14 (by decide) ?_
  refine va_put (D := (dC, dI)) (ci := 2) (v := .int (nI 0)) (ty := (.int)) (C := R_Mc) (T := T_Mc) (N := 4) hx hb hts uin_Mc t_Mc ok_Mc n_Mc hown hK hP hD hS 0 rfl rfl 2 (by decide) (hts _ wi_102) (fun _ h9 => h9) rfl (by decide +kernel) rfl rfl (Nat.le_of_ble_eq_true rfl) d_Mc_run_15 (fun H locs hP hD hS => ?_)
  have hP : va_P (dC, dI) vwCl [(mc, .inr (2, [.ref cl, .int (nI 0), .int (nI 0), .int dn])), (cl, .inl (cI, 16, .inl (fun _ => nI 0))), (q, .inr (1, [.ref o, .ref y, .ref n, .ref k, .int (nI L.length)])), (o, .inl (cI, 40, .inl fo)), (y, .inl (cI, 40, .inl fy)), (n, .inl (cI, 40, .inl fn)), (k, .inl (cI, 40, .inl fk)), (wd, .inl (cI, 16, .inl w))] H := hP
  have hD : va_D A [(mc, .inr (2, [.ref cl, .int (nI 0), .int (nI 0), .int dn])), (cl, .inl (cI, 16, .inl (fun _ => nI 0))), (q, .inr (1, [.ref o, .ref y, .ref n, .ref k, .int (nI L.length)])), (o, .inl (cI, 40, .inl fo)), (y, .inl (cI, 40, .inl fy)), (n, .inl (cI, 40, .inl fn)), (k, .inl (cI, 40, .inl fk)), (wd, .inl (cI, 16, .inl w))] := hD
  refine lv_iconst (v := nI 0) hx hb d_Mc_run_18 (by decide) ?_
  refine lv_istore_n hx hb d_Mc_run_19 rfl hl (by decide) (lv' := [(3, .int (nI 0)), (0, .ref mc), (1, .ref q), (2, .ref wd)]) rfl (fun ls hl => ?_)
  refine lv_iconst (v := nI 1) hx hb d_Mc_run_20 (by decide) ?_
  refine lv_istore hx hb d_Mc_run_21 hl (by decide) (lv' := [(4, .int (nI 1)), (3, .int (nI 0)), (0, .ref mc), (1, .ref q), (2, .ref wd)]) rfl (fun ls hl => ?_)
  refine fs_loop6 (α1 := Nat) (α2 := Int32) (α3 := Int32) (α4 := Nat → Int32) (α5 := Nat) (α6 := Int32) (fun c a x cs i dn => 40 - c) (fun c a x cs i dn H locs ls => (c ≤ 40) ∧ (fx_run L w (40 - c) a x cs i c = fx_do L w) ∧ (¬ c = 0 → dn = nI c) ∧ (c = 0 → i = 0) ∧ (i ≤ 256 * c) ∧ va_P (dC, dI) vwCl [(mc, .inr (2, [.ref cl, .int a, .int x, .int dn])), (cl, .inl (cI, 16, .inl cs)), (q, .inr (1, [.ref o, .ref y, .ref n, .ref k, .int (nI L.length)])), (o, .inl (cI, 40, .inl fo)), (y, .inl (cI, 40, .inl fy)), (n, .inl (cI, 40, .inl fn)), (k, .inl (cI, 40, .inl fk)), (wd, .inl (cI, 16, .inl w))] H ∧ va_D A [(mc, .inr (2, [.ref cl, .int a, .int x, .int dn])), (cl, .inl (cI, 16, .inl cs)), (q, .inr (1, [.ref o, .ref y, .ref n, .ref k, .int (nI L.length)])), (o, .inl (cI, 40, .inl fo)), (y, .inl (cI, 40, .inl fy)), (n, .inl (cI, 40, .inl fn)), (k, .inl (cI, 40, .inl fk)), (wd, .inl (cI, 16, .inl w))] ∧ va_S A s.heap H locs ∧ lv_has ls 7 [(0, .ref mc), (1, .ref q), (2, .ref wd), (3, .int (nI i)), (4, .int (nI (c + 1)))]) ?_ 0 (nI 0) (nI 0) (fun _ => nI 0) 0 dn ⟨by omega, rfl, fun h => absurd rfl h, fun _ => rfl, by omega, hP, hD, hS, lv_sub hl [2, 3, 4, 1, 0] rfl⟩
  intro c a x cs i dn H locs ls hI ih23
  obtain ⟨hc, hrun, hdn, hz, hib, hP, hD, hS, hl⟩ := hI
  refine lv_iload hx hb d_Mc_run_23 (lv_at hl 4 rfl) ?_
  refine lv_bipush (v := nI 40) hx hb d_Mc_run_25 (by decide) ?_
  refine lv_icmp_gt (tgt := 175) hx hb d_Mc_run_27 (by decide) (fun hc27 => ?_) (fun hc27 => ?_)
  · rw [nI_ltI (by omega) (by omega)] at hc27
    refine lv_iconst (v := nI 0) hx hb d_Mc_run_175 (by decide) ?_
    have hc40 : c = 40 := by omega
    rw [hc40, fx_run] at hrun
    have hd9 := hdn (by omega)
    have hw2 : dn = nI (fx_do L w).2 := by rw [← hrun, hd9, hc40]
    rw [hw2] at hP hD
    exact fs_iret hx hb hr hlocks hAe hK hS d_Mc_run_176 (a, x, cs) (by rw [← hrun]; try rfl) hP hD
  rw [nI_ltI (by omega) (by omega)] at hc27
  refine lv_aload_n hx hb d_Mc_run_30 rfl (lv_at hl 1 rfl) ?_
  refine lv_iload_n hx hb d_Mc_run_31 rfl (lv_at hl 3 rfl) ?_
  refine fs_calli (wc := [(q, .inr (1, [.ref o, .ref y, .ref n, .ref k, .int (nI L.length)]))]) (wr := [(mc, .inr (2, [.ref cl, .int a, .int x, .int dn])), (cl, .inl (cI, 16, .inl cs)), (o, .inl (cI, 40, .inl fo)), (y, .inl (cI, 40, .inl fy)), (n, .inl (cI, 40, .inl fn)), (k, .inl (cI, 40, .inl fk)), (wd, .inl (cI, 16, .inl w))]) [2] [0, 1, 3, 4, 5, 6, 7] hP hD hK hS hA rfl rfl rfl (by decide) (fun hPc hDc => va_runV (C := R_Fi) (As := [.int (nI i)]) (rest := []) ⟨hx, hb, hml, hown, hts⟩ (c_Fi_has q o y n k L.length (nI i) _ (by omega)) (⟨callB_of 1 hts (fs_g kin_Fi_has) rfl rfl rfl (hts _ wi_2) (hts _ wi_279) (by decide +kernel) ⟨Nat.le_of_ble_eq_true rfl, Nat.le_of_ble_eq_true rfl⟩, hts _ wi_167, hts _ wi_168⟩) (fs_preV (q0 := 0) rfl rfl hPc hK hDc) rfl rfl hl.1 rfl (lv_room (Nat.le_of_ble_eq_true rfl)) d_Mc_run_32 ⟨Nat.le_of_ble_eq_true rfl, Nat.le_of_ble_eq_true rfl⟩) rfl (fun r32 _ H locs hp32 hP hD hS => ?_)
  have hP : va_P (dC, dI) vwCl [(mc, .inr (2, [.ref cl, .int a, .int x, .int dn])), (cl, .inl (cI, 16, .inl cs)), (q, .inr (1, [.ref o, .ref y, .ref n, .ref k, .int (nI L.length)])), (o, .inl (cI, 40, .inl fo)), (y, .inl (cI, 40, .inl fy)), (n, .inl (cI, 40, .inl fn)), (k, .inl (cI, 40, .inl fk)), (wd, .inl (cI, 16, .inl w))] H := hP.sub [0, 1, 7, 2, 3, 4, 5, 6] rfl
  have hD : va_D A [(mc, .inr (2, [.ref cl, .int a, .int x, .int dn])), (cl, .inl (cI, 16, .inl cs)), (q, .inr (1, [.ref o, .ref y, .ref n, .ref k, .int (nI L.length)])), (o, .inl (cI, 40, .inl fo)), (y, .inl (cI, 40, .inl fy)), (n, .inl (cI, 40, .inl fn)), (k, .inl (cI, 40, .inl fk)), (wd, .inl (cI, 16, .inl w))] := hD.sub [0, 1, 7, 2, 3, 4, 5, 6] (by decide) rfl
  rcases hp32 with ⟨hc32, rfl⟩ | ⟨hc32, rfl⟩
  · refine lv_if_eq (tgt := 175) hx hb d_Mc_run_35 (by decide) (fun hc => absurd hc (by decide)) (fun _ => ?_)
    have hlt : i < L.length := by obtain ⟨j, hj, e⟩ := hc32; rw [nI_eq (by omega) (by omega)] at e; omega
    have hO := (hok.2 i hlt).1
    have hY := (hok.2 i hlt).2.1
    have hN := (hok.2 i hlt).2.2
    rw [show 40 - c = (39 - c) + 1 from by omega, fx_run, if_pos hlt] at hrun
    refine lv_aload_n hx hb d_Mc_run_38 rfl (lv_at hl 0 rfl) ?_
    refine lv_iload hx hb d_Mc_run_39 (lv_at hl 4 rfl) ?_
    refine va_put (D := (dC, dI)) (ci := 2) (v := .int (nI (c + 1))) (ty := (.int)) (C := R_Mc) (T := T_Mc) (N := 4) hx hb hts uin_Mc t_Mc ok_Mc n_Mc hown hK hP hD hS 0 rfl rfl 3 (by decide) (hts _ wi_103) (fun _ h9 => h9) rfl (by decide +kernel) rfl rfl (Nat.le_of_ble_eq_true rfl) d_Mc_run_41 (fun H locs hP hD hS => ?_)
    have hP : va_P (dC, dI) vwCl [(mc, .inr (2, [.ref cl, .int a, .int x, .int (nI (c + 1))])), (cl, .inl (cI, 16, .inl cs)), (q, .inr (1, [.ref o, .ref y, .ref n, .ref k, .int (nI L.length)])), (o, .inl (cI, 40, .inl fo)), (y, .inl (cI, 40, .inl fy)), (n, .inl (cI, 40, .inl fn)), (k, .inl (cI, 40, .inl fk)), (wd, .inl (cI, 16, .inl w))] H := hP
    have hD : va_D A [(mc, .inr (2, [.ref cl, .int a, .int x, .int (nI (c + 1))])), (cl, .inl (cI, 16, .inl cs)), (q, .inr (1, [.ref o, .ref y, .ref n, .ref k, .int (nI L.length)])), (o, .inl (cI, 40, .inl fo)), (y, .inl (cI, 40, .inl fy)), (n, .inl (cI, 40, .inl fn)), (k, .inl (cI, 40, .inl fk)), (wd, .inl (cI, 16, .inl w))] := hD
    refine lv_aload_n hx hb d_Mc_run_44 rfl (lv_at hl 1 rfl) ?_
    refine va_get (D := (dC, dI)) (ci := 1) (v := .ref o) (C := R_Fi) (T := T_Fi) (N := 5) hx hb hts uin_Fi hown hK hP 2 rfl rfl 0 (by decide) (hts _ wi_31) (fun _ h9 => h9) rfl d_Mc_run_45 ?_
    refine lv_iload_n hx hb d_Mc_run_48 rfl (lv_at hl 3 rfl) ?_
    refine fs_iald (v := nI (fx_O L i)) hx hb hK hP 3 0 rfl rfl i rfl (by decide) (by omega) ((hrep i (by omega)).1) d_Mc_run_49 ?_
    refine lv_istore hx hb d_Mc_run_50 hl (by decide) (lv' := [(5, .int (nI (fx_O L i))), (0, .ref mc), (1, .ref q), (2, .ref wd), (3, .int (nI i)), (4, .int (nI (c + 1)))]) rfl (fun ls hl => ?_)
    refine lv_aload_n hx hb d_Mc_run_52 rfl (lv_at hl 2 rfl) ?_
    refine va_get (D := (dC, dI)) (ci := 1) (v := .ref k) (C := R_Fi) (T := T_Fi) (N := 5) hx hb hts uin_Fi hown hK hP 2 rfl rfl 3 (by decide) (hts _ wi_43) (fun _ h9 => h9) rfl d_Mc_run_53 ?_
    refine lv_iload_n hx hb d_Mc_run_56 rfl (lv_at hl 4 rfl) ?_
    refine fs_iald (v := fx_K L i) hx hb hK hP 6 0 rfl rfl i rfl (by decide) (by omega) ((hrep i (by omega)).2.2.2) d_Mc_run_57 ?_
    refine lv_istore hx hb d_Mc_run_58 hl (by decide) (lv' := [(6, .int (fx_K L i)), (5, .int (nI (fx_O L i))), (0, .ref mc), (1, .ref q), (2, .ref wd), (3, .int (nI i)), (4, .int (nI (c + 1)))]) rfl (fun ls hl => ?_)
    refine lv_iload hx hb d_Mc_run_60 (lv_at hl 1 rfl) ?_
    refine lv_bipush (v := nI 31) hx hb d_Mc_run_62 (by decide) ?_
    refine lv_icmp_ne (tgt := 86) hx hb d_Mc_run_64 (by decide) (fun hc64 => ?_) (fun hc64 => ?_)
    · rw [nI_eq (by omega) (by omega)] at hc64
      refine lv_iload hx hb d_Mc_run_86 (lv_at hl 1 rfl) ?_
      refine lv_bipush (v := nI 22) hx hb d_Mc_run_88 (by decide) ?_
      refine lv_icmp_ne (tgt := 102) hx hb d_Mc_run_90 (by decide) (fun hc90 => ?_) (fun hc90 => ?_)
      · rw [nI_eq (by omega) (by omega)] at hc90
        have hdz : fx_O L i = 22 → ¬ x = 0 := fun h => absurd h hc90
        rw [if_neg (by omega), if_neg (fun h => hdz h.1 h.2)] at hrun
        refine lv_iload hx hb d_Mc_run_102 (lv_at hl 1 rfl) ?_
        refine lv_bipush (v := nI 10) hx hb d_Mc_run_104 (by decide) ?_
        refine lv_icmp_ge (tgt := 125) hx hb d_Mc_run_106 (by decide) (fun hc106 => ?_) (fun hc106 => ?_)
        · rw [nI_leI (by omega) (by omega)] at hc106
          refine lv_iload hx hb d_Mc_run_125 (lv_at hl 1 rfl) ?_
          refine lv_bipush (v := nI 25) hx hb d_Mc_run_127 (by decide) ?_
          refine lv_icmp_ge (tgt := 158) hx hb d_Mc_run_129 (by decide) (fun hc129 => ?_) (fun hc129 => ?_)
          · rw [nI_leI (by omega) (by omega)] at hc129
            refine lv_iload_n hx hb d_Mc_run_158 rfl (lv_at hl 5 rfl) ?_
            refine lv_iconst (v := nI 1) hx hb d_Mc_run_159 (by decide) ?_
            refine lv_iadd hx hb d_Mc_run_160 ?_
            refine fs_eqi (nI_add _ _) ?_
            refine lv_aload_n hx hb d_Mc_run_161 rfl (lv_at hl 2 rfl) ?_
            refine lv_aload_n hx hb d_Mc_run_162 rfl (lv_at hl 3 rfl) ?_
            refine lv_iload_n hx hb d_Mc_run_163 rfl (lv_at hl 5 rfl) ?_
            refine fs_calli (wc := [(mc, .inr (2, [.ref cl, .int a, .int x, .int (nI (c + 1))])), (q, .inr (1, [.ref o, .ref y, .ref n, .ref k, .int (nI L.length)])), (o, .inl (cI, 40, .inl fo)), (y, .inl (cI, 40, .inl fy)), (n, .inl (cI, 40, .inl fn)), (k, .inl (cI, 40, .inl fk))]) (wr := [(cl, .inl (cI, 16, .inl cs)), (wd, .inl (cI, 16, .inl w))]) [0, 2, 3, 4, 5, 6] [1, 7] hP hD hK hS hA rfl rfl rfl (by decide) (fun hPc hDc => va_runV (C := R_Mc) (As := [.ref q, .int (nI i)]) (rest := [.int (nI (i + 1))]) ⟨hx, hb, hml, hown, hts⟩ (c_Mc_distance mc cl a x (nI (c + 1)) q o y n k fo fy fn fk L i _ hrep hok hlt (hgd 5 (by decide) (by decide) i hlt) (by omega)) (⟨callB_of 2 hts (fs_g kin_Mc_distance) rfl rfl rfl (hts _ wi_5) (hts _ wi_292) (by decide +kernel) ⟨Nat.le_of_ble_eq_true rfl, Nat.le_of_ble_eq_true rfl⟩, hts _ wi_294, hts _ sel_Mc_distance⟩) (fs_preV (q0 := 0) rfl rfl hPc hK hDc) rfl rfl hl.1 rfl (lv_room (Nat.le_of_ble_eq_true rfl)) d_Mc_run_164 ⟨Nat.le_of_ble_eq_true rfl, Nat.le_of_ble_eq_true rfl⟩) rfl (fun r164 _ H locs hp164 hP hD hS => ?_)
            have hP : va_P (dC, dI) vwCl [(mc, .inr (2, [.ref cl, .int a, .int x, .int (nI (c + 1))])), (cl, .inl (cI, 16, .inl cs)), (q, .inr (1, [.ref o, .ref y, .ref n, .ref k, .int (nI L.length)])), (o, .inl (cI, 40, .inl fo)), (y, .inl (cI, 40, .inl fy)), (n, .inl (cI, 40, .inl fn)), (k, .inl (cI, 40, .inl fk)), (wd, .inl (cI, 16, .inl w))] H := hP.sub [2, 0, 3, 4, 5, 6, 7, 1] rfl
            have hD : va_D A [(mc, .inr (2, [.ref cl, .int a, .int x, .int (nI (c + 1))])), (cl, .inl (cI, 16, .inl cs)), (q, .inr (1, [.ref o, .ref y, .ref n, .ref k, .int (nI L.length)])), (o, .inl (cI, 40, .inl fo)), (y, .inl (cI, 40, .inl fy)), (n, .inl (cI, 40, .inl fn)), (k, .inl (cI, 40, .inl fk)), (wd, .inl (cI, 16, .inl w))] := hD.sub [2, 0, 3, 4, 5, 6, 7, 1] (by decide) rfl
            subst hp164
            have hdl : fx_d L i a x < 256 := fx_d_le hok hlt (hgd 5 (by decide) (by decide) i hlt)
            refine lv_iadd hx hb d_Mc_run_167 ?_
            refine fs_eqi (nI_add _ _) ?_
            refine lv_istore_n hx hb d_Mc_run_168 rfl hl (by decide) (lv' := [(3, .int (nI (i + 1 + fx_d L i a x))), (6, .int (fx_K L i)), (5, .int (nI (fx_O L i))), (0, .ref mc), (1, .ref q), (2, .ref wd), (4, .int (nI (c + 1)))]) rfl (fun ls hl => ?_)
            refine lv_iinc (v := nI (c + 1 + 1)) (k := 6) hx hb d_Mc_run_169 hl rfl (fs_incN (c + 1) 1) (by decide) (lv' := [(4, .int (nI (c + 1 + 1))), (3, .int (nI (i + 1 + fx_d L i a x))), (6, .int (fx_K L i)), (5, .int (nI (fx_O L i))), (0, .ref mc), (1, .ref q), (2, .ref wd)]) rfl (fun ls hl => ?_)
            refine lv_goto (tgt := 23) hx hb d_Mc_run_172 (by decide) ?_
            exact ih23 (c + 1) a x cs (i + 1 + fx_d L i a x) (nI (c + 1)) _ _ _ (by omega) ⟨by omega, by rw [← hrun, fx_a_hi (by omega), fx_x_hi (by omega), fx_c_hi (by omega), show 40 - (c + 1) = 39 - c from by omega], fun _ => rfl, fun h => absurd h (by omega), by omega, hP, hD, hS, lv_sub hl [4, 5, 6, 1, 0] rfl⟩
          rw [nI_leI (by omega) (by omega)] at hc129
          refine lv_aload_n hx hb d_Mc_run_132 rfl (lv_at hl 2 rfl) ?_
          refine lv_aload_n hx hb d_Mc_run_133 rfl (lv_at hl 2 rfl) ?_
          refine lv_iload hx hb d_Mc_run_134 (lv_at hl 1 rfl) ?_
          refine lv_iload hx hb d_Mc_run_136 (lv_at hl 1 rfl) ?_
          refine lv_bipush (v := nI 19) hx hb d_Mc_run_138 (by decide) ?_
          refine lv_icmp_ge (tgt := 148) hx hb d_Mc_run_140 (by decide) (fun hc140 => ?_) (fun hc140 => ?_)
          · rw [nI_leI (by omega) (by omega)] at hc140
            refine lv_aload_n hx hb d_Mc_run_148 rfl (lv_at hl 2 rfl) ?_
            refine va_get (D := (dC, dI)) (ci := 2) (v := .int x) (C := R_Mc) (T := T_Mc) (N := 4) hx hb hts uin_Mc hown hK hP 0 rfl rfl 2 (by decide) (hts _ wi_102) (fun _ h9 => h9) rfl d_Mc_run_149 ?_
            refine fs_calli (wc := [(mc, .inr (2, [.ref cl, .int a, .int x, .int (nI (c + 1))]))]) (wr := [(cl, .inl (cI, 16, .inl cs)), (q, .inr (1, [.ref o, .ref y, .ref n, .ref k, .int (nI L.length)])), (o, .inl (cI, 40, .inl fo)), (y, .inl (cI, 40, .inl fy)), (n, .inl (cI, 40, .inl fn)), (k, .inl (cI, 40, .inl fk)), (wd, .inl (cI, 16, .inl w))]) [0] [1, 2, 3, 4, 5, 6, 7] hP hD hK hS hA rfl rfl rfl (by decide) (fun hPc hDc => va_runV (C := R_Mc) (As := [.int (nI (fx_O L i)), .int x]) (rest := [.ref mc]) ⟨hx, hb, hml, hown, hts⟩ (c_Mc_result mc cl a x (nI (c + 1)) x (fx_O L i) _ (by omega) (by omega) (fun h => by rcases h with h | h; omega; exact hdz h)) (⟨callB_of 2 hts (fs_g kin_Mc_result) rfl rfl rfl (hts _ wi_5) (hts _ wi_284) (by decide +kernel) ⟨Nat.le_of_ble_eq_true rfl, Nat.le_of_ble_eq_true rfl⟩, hts _ wi_286, hts _ sel_Mc_result⟩) (fs_preV (q0 := 0) rfl rfl hPc hK hDc) rfl rfl hl.1 rfl (lv_room (Nat.le_of_ble_eq_true rfl)) d_Mc_run_152 ⟨Nat.le_of_ble_eq_true rfl, Nat.le_of_ble_eq_true rfl⟩) rfl (fun r152 _ H locs hp152 hP hD hS => ?_)
            have hP : va_P (dC, dI) vwCl [(mc, .inr (2, [.ref cl, .int a, .int x, .int (nI (c + 1))])), (cl, .inl (cI, 16, .inl cs)), (q, .inr (1, [.ref o, .ref y, .ref n, .ref k, .int (nI L.length)])), (o, .inl (cI, 40, .inl fo)), (y, .inl (cI, 40, .inl fy)), (n, .inl (cI, 40, .inl fn)), (k, .inl (cI, 40, .inl fk)), (wd, .inl (cI, 16, .inl w))] H := hP.sub [7, 0, 1, 2, 3, 4, 5, 6] rfl
            have hD : va_D A [(mc, .inr (2, [.ref cl, .int a, .int x, .int (nI (c + 1))])), (cl, .inl (cI, 16, .inl cs)), (q, .inr (1, [.ref o, .ref y, .ref n, .ref k, .int (nI L.length)])), (o, .inl (cI, 40, .inl fo)), (y, .inl (cI, 40, .inl fy)), (n, .inl (cI, 40, .inl fn)), (k, .inl (cI, 40, .inl fk)), (wd, .inl (cI, 16, .inl w))] := hD.sub [7, 0, 1, 2, 3, 4, 5, 6] (by decide) rfl
            subst hp152
            refine va_put (D := (dC, dI)) (ci := 2) (v := .int (fx_val (fx_O L i) a x x)) (ty := (.int)) (C := R_Mc) (T := T_Mc) (N := 4) hx hb hts uin_Mc t_Mc ok_Mc n_Mc hown hK hP hD hS 0 rfl rfl 1 (by decide) (hts _ wi_101) (fun _ h9 => h9) rfl (by decide +kernel) rfl rfl (Nat.le_of_ble_eq_true rfl) d_Mc_run_155 (fun H locs hP hD hS => ?_)
            have hP : va_P (dC, dI) vwCl [(mc, .inr (2, [.ref cl, .int (fx_val (fx_O L i) a x x), .int x, .int (nI (c + 1))])), (cl, .inl (cI, 16, .inl cs)), (q, .inr (1, [.ref o, .ref y, .ref n, .ref k, .int (nI L.length)])), (o, .inl (cI, 40, .inl fo)), (y, .inl (cI, 40, .inl fy)), (n, .inl (cI, 40, .inl fn)), (k, .inl (cI, 40, .inl fk)), (wd, .inl (cI, 16, .inl w))] H := hP
            have hD : va_D A [(mc, .inr (2, [.ref cl, .int (fx_val (fx_O L i) a x x), .int x, .int (nI (c + 1))])), (cl, .inl (cI, 16, .inl cs)), (q, .inr (1, [.ref o, .ref y, .ref n, .ref k, .int (nI L.length)])), (o, .inl (cI, 40, .inl fo)), (y, .inl (cI, 40, .inl fy)), (n, .inl (cI, 40, .inl fn)), (k, .inl (cI, 40, .inl fk)), (wd, .inl (cI, 16, .inl w))] := hD
            refine lv_iload_n hx hb d_Mc_run_158 rfl (lv_at hl 5 rfl) ?_
            refine lv_iconst (v := nI 1) hx hb d_Mc_run_159 (by decide) ?_
            refine lv_iadd hx hb d_Mc_run_160 ?_
            refine fs_eqi (nI_add _ _) ?_
            refine lv_aload_n hx hb d_Mc_run_161 rfl (lv_at hl 2 rfl) ?_
            refine lv_aload_n hx hb d_Mc_run_162 rfl (lv_at hl 3 rfl) ?_
            refine lv_iload_n hx hb d_Mc_run_163 rfl (lv_at hl 5 rfl) ?_
            refine fs_calli (wc := [(mc, .inr (2, [.ref cl, .int (fx_val (fx_O L i) a x x), .int x, .int (nI (c + 1))])), (q, .inr (1, [.ref o, .ref y, .ref n, .ref k, .int (nI L.length)])), (o, .inl (cI, 40, .inl fo)), (y, .inl (cI, 40, .inl fy)), (n, .inl (cI, 40, .inl fn)), (k, .inl (cI, 40, .inl fk))]) (wr := [(cl, .inl (cI, 16, .inl cs)), (wd, .inl (cI, 16, .inl w))]) [0, 2, 3, 4, 5, 6] [1, 7] hP hD hK hS hA rfl rfl rfl (by decide) (fun hPc hDc => va_runV (C := R_Mc) (As := [.ref q, .int (nI i)]) (rest := [.int (nI (i + 1))]) ⟨hx, hb, hml, hown, hts⟩ (c_Mc_distance mc cl (fx_val (fx_O L i) a x x) x (nI (c + 1)) q o y n k fo fy fn fk L i _ hrep hok hlt (hgd 5 (by decide) (by decide) i hlt) (by omega)) (⟨callB_of 2 hts (fs_g kin_Mc_distance) rfl rfl rfl (hts _ wi_5) (hts _ wi_292) (by decide +kernel) ⟨Nat.le_of_ble_eq_true rfl, Nat.le_of_ble_eq_true rfl⟩, hts _ wi_294, hts _ sel_Mc_distance⟩) (fs_preV (q0 := 0) rfl rfl hPc hK hDc) rfl rfl hl.1 rfl (lv_room (Nat.le_of_ble_eq_true rfl)) d_Mc_run_164 ⟨Nat.le_of_ble_eq_true rfl, Nat.le_of_ble_eq_true rfl⟩) rfl (fun r164 _ H locs hp164 hP hD hS => ?_)
            have hP : va_P (dC, dI) vwCl [(mc, .inr (2, [.ref cl, .int (fx_val (fx_O L i) a x x), .int x, .int (nI (c + 1))])), (cl, .inl (cI, 16, .inl cs)), (q, .inr (1, [.ref o, .ref y, .ref n, .ref k, .int (nI L.length)])), (o, .inl (cI, 40, .inl fo)), (y, .inl (cI, 40, .inl fy)), (n, .inl (cI, 40, .inl fn)), (k, .inl (cI, 40, .inl fk)), (wd, .inl (cI, 16, .inl w))] H := hP.sub [2, 0, 3, 4, 5, 6, 7, 1] rfl
            have hD : va_D A [(mc, .inr (2, [.ref cl, .int (fx_val (fx_O L i) a x x), .int x, .int (nI (c + 1))])), (cl, .inl (cI, 16, .inl cs)), (q, .inr (1, [.ref o, .ref y, .ref n, .ref k, .int (nI L.length)])), (o, .inl (cI, 40, .inl fo)), (y, .inl (cI, 40, .inl fy)), (n, .inl (cI, 40, .inl fn)), (k, .inl (cI, 40, .inl fk)), (wd, .inl (cI, 16, .inl w))] := hD.sub [2, 0, 3, 4, 5, 6, 7, 1] (by decide) rfl
            subst hp164
            have hdl : fx_d L i (fx_val (fx_O L i) a x x) x < 256 := fx_d_le hok hlt (hgd 5 (by decide) (by decide) i hlt)
            refine lv_iadd hx hb d_Mc_run_167 ?_
            refine fs_eqi (nI_add _ _) ?_
            refine lv_istore_n hx hb d_Mc_run_168 rfl hl (by decide) (lv' := [(3, .int (nI (i + 1 + fx_d L i (fx_val (fx_O L i) a x x) x))), (6, .int (fx_K L i)), (5, .int (nI (fx_O L i))), (0, .ref mc), (1, .ref q), (2, .ref wd), (4, .int (nI (c + 1)))]) rfl (fun ls hl => ?_)
            refine lv_iinc (v := nI (c + 1 + 1)) (k := 6) hx hb d_Mc_run_169 hl rfl (fs_incN (c + 1) 1) (by decide) (lv' := [(4, .int (nI (c + 1 + 1))), (3, .int (nI (i + 1 + fx_d L i (fx_val (fx_O L i) a x x) x))), (6, .int (fx_K L i)), (5, .int (nI (fx_O L i))), (0, .ref mc), (1, .ref q), (2, .ref wd)]) rfl (fun ls hl => ?_)
            refine lv_goto (tgt := 23) hx hb d_Mc_run_172 (by decide) ?_
            exact ih23 (c + 1) (fx_val (fx_O L i) a x x) x cs (i + 1 + fx_d L i (fx_val (fx_O L i) a x x) x) (nI (c + 1)) _ _ _ (by omega) ⟨by omega, by rw [← hrun, fx_a_mid (by omega) (by omega), fx_x_hi (by omega), fx_c_hi (by omega), fx_d_lt (by omega), fx_d_lt (by omega), fx_val_x (by omega), show 40 - (c + 1) = 39 - c from by omega], fun _ => rfl, fun h => absurd h (by omega), by omega, hP, hD, hS, lv_sub hl [4, 5, 6, 1, 0] rfl⟩
          rw [nI_leI (by omega) (by omega)] at hc140
          refine lv_iload hx hb d_Mc_run_143 (lv_at hl 0 rfl) ?_
          refine lv_goto (tgt := 152) hx hb d_Mc_run_145 (by decide) ?_
          refine fs_calli (wc := [(mc, .inr (2, [.ref cl, .int a, .int x, .int (nI (c + 1))]))]) (wr := [(cl, .inl (cI, 16, .inl cs)), (q, .inr (1, [.ref o, .ref y, .ref n, .ref k, .int (nI L.length)])), (o, .inl (cI, 40, .inl fo)), (y, .inl (cI, 40, .inl fy)), (n, .inl (cI, 40, .inl fn)), (k, .inl (cI, 40, .inl fk)), (wd, .inl (cI, 16, .inl w))]) [0] [1, 2, 3, 4, 5, 6, 7] hP hD hK hS hA rfl rfl rfl (by decide) (fun hPc hDc => va_runV (C := R_Mc) (As := [.int (nI (fx_O L i)), .int (fx_K L i)]) (rest := [.ref mc]) ⟨hx, hb, hml, hown, hts⟩ (c_Mc_result mc cl a x (nI (c + 1)) (fx_K L i) (fx_O L i) _ (by omega) (by omega) (fun h => by rcases h with h | h; have := hgd 3 (by decide) (by decide) i hlt; simp only [fx_brP] at this; rw [fs_eq0]; omega; omega)) (⟨callB_of 2 hts (fs_g kin_Mc_result) rfl rfl rfl (hts _ wi_5) (hts _ wi_284) (by decide +kernel) ⟨Nat.le_of_ble_eq_true rfl, Nat.le_of_ble_eq_true rfl⟩, hts _ wi_286, hts _ sel_Mc_result⟩) (fs_preV (q0 := 0) rfl rfl hPc hK hDc) rfl rfl hl.1 rfl (lv_room (Nat.le_of_ble_eq_true rfl)) d_Mc_run_152 ⟨Nat.le_of_ble_eq_true rfl, Nat.le_of_ble_eq_true rfl⟩) rfl (fun r152 _ H locs hp152 hP hD hS => ?_)
          have hP : va_P (dC, dI) vwCl [(mc, .inr (2, [.ref cl, .int a, .int x, .int (nI (c + 1))])), (cl, .inl (cI, 16, .inl cs)), (q, .inr (1, [.ref o, .ref y, .ref n, .ref k, .int (nI L.length)])), (o, .inl (cI, 40, .inl fo)), (y, .inl (cI, 40, .inl fy)), (n, .inl (cI, 40, .inl fn)), (k, .inl (cI, 40, .inl fk)), (wd, .inl (cI, 16, .inl w))] H := hP.sub [7, 0, 1, 2, 3, 4, 5, 6] rfl
          have hD : va_D A [(mc, .inr (2, [.ref cl, .int a, .int x, .int (nI (c + 1))])), (cl, .inl (cI, 16, .inl cs)), (q, .inr (1, [.ref o, .ref y, .ref n, .ref k, .int (nI L.length)])), (o, .inl (cI, 40, .inl fo)), (y, .inl (cI, 40, .inl fy)), (n, .inl (cI, 40, .inl fn)), (k, .inl (cI, 40, .inl fk)), (wd, .inl (cI, 16, .inl w))] := hD.sub [7, 0, 1, 2, 3, 4, 5, 6] (by decide) rfl
          subst hp152
          refine va_put (D := (dC, dI)) (ci := 2) (v := .int (fx_val (fx_O L i) a (fx_K L i) (fx_K L i))) (ty := (.int)) (C := R_Mc) (T := T_Mc) (N := 4) hx hb hts uin_Mc t_Mc ok_Mc n_Mc hown hK hP hD hS 0 rfl rfl 1 (by decide) (hts _ wi_101) (fun _ h9 => h9) rfl (by decide +kernel) rfl rfl (Nat.le_of_ble_eq_true rfl) d_Mc_run_155 (fun H locs hP hD hS => ?_)
          have hP : va_P (dC, dI) vwCl [(mc, .inr (2, [.ref cl, .int (fx_val (fx_O L i) a (fx_K L i) (fx_K L i)), .int x, .int (nI (c + 1))])), (cl, .inl (cI, 16, .inl cs)), (q, .inr (1, [.ref o, .ref y, .ref n, .ref k, .int (nI L.length)])), (o, .inl (cI, 40, .inl fo)), (y, .inl (cI, 40, .inl fy)), (n, .inl (cI, 40, .inl fn)), (k, .inl (cI, 40, .inl fk)), (wd, .inl (cI, 16, .inl w))] H := hP
          have hD : va_D A [(mc, .inr (2, [.ref cl, .int (fx_val (fx_O L i) a (fx_K L i) (fx_K L i)), .int x, .int (nI (c + 1))])), (cl, .inl (cI, 16, .inl cs)), (q, .inr (1, [.ref o, .ref y, .ref n, .ref k, .int (nI L.length)])), (o, .inl (cI, 40, .inl fo)), (y, .inl (cI, 40, .inl fy)), (n, .inl (cI, 40, .inl fn)), (k, .inl (cI, 40, .inl fk)), (wd, .inl (cI, 16, .inl w))] := hD
          refine lv_iload_n hx hb d_Mc_run_158 rfl (lv_at hl 5 rfl) ?_
          refine lv_iconst (v := nI 1) hx hb d_Mc_run_159 (by decide) ?_
          refine lv_iadd hx hb d_Mc_run_160 ?_
          refine fs_eqi (nI_add _ _) ?_
          refine lv_aload_n hx hb d_Mc_run_161 rfl (lv_at hl 2 rfl) ?_
          refine lv_aload_n hx hb d_Mc_run_162 rfl (lv_at hl 3 rfl) ?_
          refine lv_iload_n hx hb d_Mc_run_163 rfl (lv_at hl 5 rfl) ?_
          refine fs_calli (wc := [(mc, .inr (2, [.ref cl, .int (fx_val (fx_O L i) a (fx_K L i) (fx_K L i)), .int x, .int (nI (c + 1))])), (q, .inr (1, [.ref o, .ref y, .ref n, .ref k, .int (nI L.length)])), (o, .inl (cI, 40, .inl fo)), (y, .inl (cI, 40, .inl fy)), (n, .inl (cI, 40, .inl fn)), (k, .inl (cI, 40, .inl fk))]) (wr := [(cl, .inl (cI, 16, .inl cs)), (wd, .inl (cI, 16, .inl w))]) [0, 2, 3, 4, 5, 6] [1, 7] hP hD hK hS hA rfl rfl rfl (by decide) (fun hPc hDc => va_runV (C := R_Mc) (As := [.ref q, .int (nI i)]) (rest := [.int (nI (i + 1))]) ⟨hx, hb, hml, hown, hts⟩ (c_Mc_distance mc cl (fx_val (fx_O L i) a (fx_K L i) (fx_K L i)) x (nI (c + 1)) q o y n k fo fy fn fk L i _ hrep hok hlt (hgd 5 (by decide) (by decide) i hlt) (by omega)) (⟨callB_of 2 hts (fs_g kin_Mc_distance) rfl rfl rfl (hts _ wi_5) (hts _ wi_292) (by decide +kernel) ⟨Nat.le_of_ble_eq_true rfl, Nat.le_of_ble_eq_true rfl⟩, hts _ wi_294, hts _ sel_Mc_distance⟩) (fs_preV (q0 := 0) rfl rfl hPc hK hDc) rfl rfl hl.1 rfl (lv_room (Nat.le_of_ble_eq_true rfl)) d_Mc_run_164 ⟨Nat.le_of_ble_eq_true rfl, Nat.le_of_ble_eq_true rfl⟩) rfl (fun r164 _ H locs hp164 hP hD hS => ?_)
          have hP : va_P (dC, dI) vwCl [(mc, .inr (2, [.ref cl, .int (fx_val (fx_O L i) a (fx_K L i) (fx_K L i)), .int x, .int (nI (c + 1))])), (cl, .inl (cI, 16, .inl cs)), (q, .inr (1, [.ref o, .ref y, .ref n, .ref k, .int (nI L.length)])), (o, .inl (cI, 40, .inl fo)), (y, .inl (cI, 40, .inl fy)), (n, .inl (cI, 40, .inl fn)), (k, .inl (cI, 40, .inl fk)), (wd, .inl (cI, 16, .inl w))] H := hP.sub [2, 0, 3, 4, 5, 6, 7, 1] rfl
          have hD : va_D A [(mc, .inr (2, [.ref cl, .int (fx_val (fx_O L i) a (fx_K L i) (fx_K L i)), .int x, .int (nI (c + 1))])), (cl, .inl (cI, 16, .inl cs)), (q, .inr (1, [.ref o, .ref y, .ref n, .ref k, .int (nI L.length)])), (o, .inl (cI, 40, .inl fo)), (y, .inl (cI, 40, .inl fy)), (n, .inl (cI, 40, .inl fn)), (k, .inl (cI, 40, .inl fk)), (wd, .inl (cI, 16, .inl w))] := hD.sub [2, 0, 3, 4, 5, 6, 7, 1] (by decide) rfl
          subst hp164
          have hdl : fx_d L i (fx_val (fx_O L i) a (fx_K L i) (fx_K L i)) x < 256 := fx_d_le hok hlt (hgd 5 (by decide) (by decide) i hlt)
          refine lv_iadd hx hb d_Mc_run_167 ?_
          refine fs_eqi (nI_add _ _) ?_
          refine lv_istore_n hx hb d_Mc_run_168 rfl hl (by decide) (lv' := [(3, .int (nI (i + 1 + fx_d L i (fx_val (fx_O L i) a (fx_K L i) (fx_K L i)) x))), (6, .int (fx_K L i)), (5, .int (nI (fx_O L i))), (0, .ref mc), (1, .ref q), (2, .ref wd), (4, .int (nI (c + 1)))]) rfl (fun ls hl => ?_)
          refine lv_iinc (v := nI (c + 1 + 1)) (k := 6) hx hb d_Mc_run_169 hl rfl (fs_incN (c + 1) 1) (by decide) (lv' := [(4, .int (nI (c + 1 + 1))), (3, .int (nI (i + 1 + fx_d L i (fx_val (fx_O L i) a (fx_K L i) (fx_K L i)) x))), (6, .int (fx_K L i)), (5, .int (nI (fx_O L i))), (0, .ref mc), (1, .ref q), (2, .ref wd)]) rfl (fun ls hl => ?_)
          refine lv_goto (tgt := 23) hx hb d_Mc_run_172 (by decide) ?_
          exact ih23 (c + 1) (fx_val (fx_O L i) a (fx_K L i) (fx_K L i)) x cs (i + 1 + fx_d L i (fx_val (fx_O L i) a (fx_K L i) (fx_K L i)) x) (nI (c + 1)) _ _ _ (by omega) ⟨by omega, by rw [← hrun, fx_a_mid (by omega) (by omega), fx_x_hi (by omega), fx_c_hi (by omega), fx_d_lt (by omega), fx_d_lt (by omega), ← fx_val_k (x := x) (by omega), show 40 - (c + 1) = 39 - c from by omega], fun _ => rfl, fun h => absurd h (by omega), by omega, hP, hD, hS, lv_sub hl [4, 5, 6, 1, 0] rfl⟩
        rw [nI_leI (by omega) (by omega)] at hc106
        refine lv_aload_n hx hb d_Mc_run_109 rfl (lv_at hl 2 rfl) ?_
        refine lv_iload hx hb d_Mc_run_110 (lv_at hl 1 rfl) ?_
        refine lv_iload hx hb d_Mc_run_112 (lv_at hl 0 rfl) ?_
        refine lv_aload_n hx hb d_Mc_run_114 rfl (lv_at hl 4 rfl) ?_
        refine lv_aload_n hx hb d_Mc_run_115 rfl (lv_at hl 3 rfl) ?_
        refine va_get (D := (dC, dI)) (ci := 1) (v := .int (nI L.length)) (C := R_Fi) (T := T_Fi) (N := 5) hx hb hts uin_Fi hown hK hP 2 rfl rfl 4 (by decide) (hts _ wi_47) (fun _ h9 => h9) rfl d_Mc_run_116 ?_
        refine fs_callv (wc := [(mc, .inr (2, [.ref cl, .int a, .int x, .int (nI (c + 1))])), (cl, .inl (cI, 16, .inl cs)), (wd, .inl (cI, 16, .inl w))]) (wr := [(q, .inr (1, [.ref o, .ref y, .ref n, .ref k, .int (nI L.length)])), (o, .inl (cI, 40, .inl fo)), (y, .inl (cI, 40, .inl fy)), (n, .inl (cI, 40, .inl fn)), (k, .inl (cI, 40, .inl fk))]) [0, 1, 7] [2, 3, 4, 5, 6] hP hD hK hS hA rfl rfl rfl (by decide) (fun hPc hDc => va_runV (C := R_Mc) (As := [.int (nI (fx_O L i)), .int (fx_K L i), .ref wd, .int (nI L.length)]) (rest := []) ⟨hx, hb, hml, hown, hts⟩ (c_Mc_move mc cl wd a x (nI (c + 1)) (fx_K L i) cs w (fx_O L i) L.length _ (by omega) (fun h => by have := hgd 2 (by decide) (by decide) i hlt; simp only [fx_brP] at this; omega)) (⟨callB_of 4 hts (fs_g kin_Mc_move) rfl rfl rfl (hts _ wi_5) (hts _ wi_280) (by decide +kernel) ⟨Nat.le_of_ble_eq_true rfl, Nat.le_of_ble_eq_true rfl⟩, hts _ wi_282, hts _ sel_Mc_move⟩) (fs_preV (q0 := 0) rfl rfl hPc hK hDc) rfl rfl hl.1 rfl (lv_room (Nat.le_of_ble_eq_true rfl)) d_Mc_run_119 ⟨Nat.le_of_ble_eq_true rfl, Nat.le_of_ble_eq_true rfl⟩) rfl (fun _ H locs hp119 hP hD hS => ?_)
        have hP : va_P (dC, dI) vwCl [(mc, .inr (2, [.ref cl, .int (fx_a (fx_O L i) a x (fx_K L i) cs w L.length), .int (fx_x (fx_O L i) a x (fx_K L i) cs), .int (nI (c + 1))])), (cl, .inl (cI, 16, .inl (fx_c (fx_O L i) a x (fx_K L i) cs))), (q, .inr (1, [.ref o, .ref y, .ref n, .ref k, .int (nI L.length)])), (o, .inl (cI, 40, .inl fo)), (y, .inl (cI, 40, .inl fy)), (n, .inl (cI, 40, .inl fn)), (k, .inl (cI, 40, .inl fk)), (wd, .inl (cI, 16, .inl w))] H := hP.sub [5, 6, 0, 1, 2, 3, 4, 7] rfl
        have hD : va_D A [(mc, .inr (2, [.ref cl, .int (fx_a (fx_O L i) a x (fx_K L i) cs w L.length), .int (fx_x (fx_O L i) a x (fx_K L i) cs), .int (nI (c + 1))])), (cl, .inl (cI, 16, .inl (fx_c (fx_O L i) a x (fx_K L i) cs))), (q, .inr (1, [.ref o, .ref y, .ref n, .ref k, .int (nI L.length)])), (o, .inl (cI, 40, .inl fo)), (y, .inl (cI, 40, .inl fy)), (n, .inl (cI, 40, .inl fn)), (k, .inl (cI, 40, .inl fk)), (wd, .inl (cI, 16, .inl w))] := hD.sub [5, 6, 0, 1, 2, 3, 4, 7] (by decide) rfl
        refine lv_goto (tgt := 158) hx hb d_Mc_run_122 (by decide) ?_
        refine lv_iload_n hx hb d_Mc_run_158 rfl (lv_at hl 5 rfl) ?_
        refine lv_iconst (v := nI 1) hx hb d_Mc_run_159 (by decide) ?_
        refine lv_iadd hx hb d_Mc_run_160 ?_
        refine fs_eqi (nI_add _ _) ?_
        refine lv_aload_n hx hb d_Mc_run_161 rfl (lv_at hl 2 rfl) ?_
        refine lv_aload_n hx hb d_Mc_run_162 rfl (lv_at hl 3 rfl) ?_
        refine lv_iload_n hx hb d_Mc_run_163 rfl (lv_at hl 5 rfl) ?_
        refine fs_calli (wc := [(mc, .inr (2, [.ref cl, .int (fx_a (fx_O L i) a x (fx_K L i) cs w L.length), .int (fx_x (fx_O L i) a x (fx_K L i) cs), .int (nI (c + 1))])), (q, .inr (1, [.ref o, .ref y, .ref n, .ref k, .int (nI L.length)])), (o, .inl (cI, 40, .inl fo)), (y, .inl (cI, 40, .inl fy)), (n, .inl (cI, 40, .inl fn)), (k, .inl (cI, 40, .inl fk))]) (wr := [(cl, .inl (cI, 16, .inl (fx_c (fx_O L i) a x (fx_K L i) cs))), (wd, .inl (cI, 16, .inl w))]) [0, 2, 3, 4, 5, 6] [1, 7] hP hD hK hS hA rfl rfl rfl (by decide) (fun hPc hDc => va_runV (C := R_Mc) (As := [.ref q, .int (nI i)]) (rest := [.int (nI (i + 1))]) ⟨hx, hb, hml, hown, hts⟩ (c_Mc_distance mc cl (fx_a (fx_O L i) a x (fx_K L i) cs w L.length) (fx_x (fx_O L i) a x (fx_K L i) cs) (nI (c + 1)) q o y n k fo fy fn fk L i _ hrep hok hlt (hgd 5 (by decide) (by decide) i hlt) (by omega)) (⟨callB_of 2 hts (fs_g kin_Mc_distance) rfl rfl rfl (hts _ wi_5) (hts _ wi_292) (by decide +kernel) ⟨Nat.le_of_ble_eq_true rfl, Nat.le_of_ble_eq_true rfl⟩, hts _ wi_294, hts _ sel_Mc_distance⟩) (fs_preV (q0 := 0) rfl rfl hPc hK hDc) rfl rfl hl.1 rfl (lv_room (Nat.le_of_ble_eq_true rfl)) d_Mc_run_164 ⟨Nat.le_of_ble_eq_true rfl, Nat.le_of_ble_eq_true rfl⟩) rfl (fun r164 _ H locs hp164 hP hD hS => ?_)
        have hP : va_P (dC, dI) vwCl [(mc, .inr (2, [.ref cl, .int (fx_a (fx_O L i) a x (fx_K L i) cs w L.length), .int (fx_x (fx_O L i) a x (fx_K L i) cs), .int (nI (c + 1))])), (cl, .inl (cI, 16, .inl (fx_c (fx_O L i) a x (fx_K L i) cs))), (q, .inr (1, [.ref o, .ref y, .ref n, .ref k, .int (nI L.length)])), (o, .inl (cI, 40, .inl fo)), (y, .inl (cI, 40, .inl fy)), (n, .inl (cI, 40, .inl fn)), (k, .inl (cI, 40, .inl fk)), (wd, .inl (cI, 16, .inl w))] H := hP.sub [2, 0, 3, 4, 5, 6, 7, 1] rfl
        have hD : va_D A [(mc, .inr (2, [.ref cl, .int (fx_a (fx_O L i) a x (fx_K L i) cs w L.length), .int (fx_x (fx_O L i) a x (fx_K L i) cs), .int (nI (c + 1))])), (cl, .inl (cI, 16, .inl (fx_c (fx_O L i) a x (fx_K L i) cs))), (q, .inr (1, [.ref o, .ref y, .ref n, .ref k, .int (nI L.length)])), (o, .inl (cI, 40, .inl fo)), (y, .inl (cI, 40, .inl fy)), (n, .inl (cI, 40, .inl fn)), (k, .inl (cI, 40, .inl fk)), (wd, .inl (cI, 16, .inl w))] := hD.sub [2, 0, 3, 4, 5, 6, 7, 1] (by decide) rfl
        subst hp164
        have hdl : fx_d L i (fx_a (fx_O L i) a x (fx_K L i) cs w L.length) (fx_x (fx_O L i) a x (fx_K L i) cs) < 256 := fx_d_le hok hlt (hgd 5 (by decide) (by decide) i hlt)
        refine lv_iadd hx hb d_Mc_run_167 ?_
        refine fs_eqi (nI_add _ _) ?_
        refine lv_istore_n hx hb d_Mc_run_168 rfl hl (by decide) (lv' := [(3, .int (nI (i + 1 + fx_d L i (fx_a (fx_O L i) a x (fx_K L i) cs w L.length) (fx_x (fx_O L i) a x (fx_K L i) cs)))), (6, .int (fx_K L i)), (5, .int (nI (fx_O L i))), (0, .ref mc), (1, .ref q), (2, .ref wd), (4, .int (nI (c + 1)))]) rfl (fun ls hl => ?_)
        refine lv_iinc (v := nI (c + 1 + 1)) (k := 6) hx hb d_Mc_run_169 hl rfl (fs_incN (c + 1) 1) (by decide) (lv' := [(4, .int (nI (c + 1 + 1))), (3, .int (nI (i + 1 + fx_d L i (fx_a (fx_O L i) a x (fx_K L i) cs w L.length) (fx_x (fx_O L i) a x (fx_K L i) cs)))), (6, .int (fx_K L i)), (5, .int (nI (fx_O L i))), (0, .ref mc), (1, .ref q), (2, .ref wd)]) rfl (fun ls hl => ?_)
        refine lv_goto (tgt := 23) hx hb d_Mc_run_172 (by decide) ?_
        exact ih23 (c + 1) (fx_a (fx_O L i) a x (fx_K L i) cs w L.length) (fx_x (fx_O L i) a x (fx_K L i) cs) (fx_c (fx_O L i) a x (fx_K L i) cs) (i + 1 + fx_d L i (fx_a (fx_O L i) a x (fx_K L i) cs w L.length) (fx_x (fx_O L i) a x (fx_K L i) cs)) (nI (c + 1)) _ _ _ (by omega) ⟨by omega, by rw [← hrun, fx_d_lt (by omega), fx_d_lt (by omega), show 40 - (c + 1) = 39 - c from by omega], fun _ => rfl, fun h => absurd h (by omega), by omega, hP, hD, hS, lv_sub hl [4, 5, 6, 1, 0] rfl⟩
      rw [nI_eq (by omega) (by omega)] at hc90
      refine lv_aload_n hx hb d_Mc_run_93 rfl (lv_at hl 2 rfl) ?_
      refine va_get (D := (dC, dI)) (ci := 2) (v := .int x) (C := R_Mc) (T := T_Mc) (N := 4) hx hb hts uin_Mc hown hK hP 0 rfl rfl 2 (by decide) (hts _ wi_102) (fun _ h9 => h9) rfl d_Mc_run_94 ?_
      refine lv_if_ne (tgt := 102) hx hb d_Mc_run_97 (by decide) (fun hc97 => ?_) (fun hc97 => ?_)
      · have hdz : fx_O L i = 22 → ¬ x = 0 := fun _ => hc97
        rw [if_neg (by omega), if_neg (fun h => hdz h.1 h.2)] at hrun
        refine lv_iload hx hb d_Mc_run_102 (lv_at hl 1 rfl) ?_
        refine lv_bipush (v := nI 10) hx hb d_Mc_run_104 (by decide) ?_
        refine lv_icmp_ge (tgt := 125) hx hb d_Mc_run_106 (by decide) (fun hc106 => ?_) (fun hc106 => ?_)
        · rw [nI_leI (by omega) (by omega)] at hc106
          refine lv_iload hx hb d_Mc_run_125 (lv_at hl 1 rfl) ?_
          refine lv_bipush (v := nI 25) hx hb d_Mc_run_127 (by decide) ?_
          refine lv_icmp_ge (tgt := 158) hx hb d_Mc_run_129 (by decide) (fun hc129 => ?_) (fun hc129 => ?_)
          · rw [nI_leI (by omega) (by omega)] at hc129
            refine lv_iload_n hx hb d_Mc_run_158 rfl (lv_at hl 5 rfl) ?_
            refine lv_iconst (v := nI 1) hx hb d_Mc_run_159 (by decide) ?_
            refine lv_iadd hx hb d_Mc_run_160 ?_
            refine fs_eqi (nI_add _ _) ?_
            refine lv_aload_n hx hb d_Mc_run_161 rfl (lv_at hl 2 rfl) ?_
            refine lv_aload_n hx hb d_Mc_run_162 rfl (lv_at hl 3 rfl) ?_
            refine lv_iload_n hx hb d_Mc_run_163 rfl (lv_at hl 5 rfl) ?_
            refine fs_calli (wc := [(mc, .inr (2, [.ref cl, .int a, .int x, .int (nI (c + 1))])), (q, .inr (1, [.ref o, .ref y, .ref n, .ref k, .int (nI L.length)])), (o, .inl (cI, 40, .inl fo)), (y, .inl (cI, 40, .inl fy)), (n, .inl (cI, 40, .inl fn)), (k, .inl (cI, 40, .inl fk))]) (wr := [(cl, .inl (cI, 16, .inl cs)), (wd, .inl (cI, 16, .inl w))]) [0, 2, 3, 4, 5, 6] [1, 7] hP hD hK hS hA rfl rfl rfl (by decide) (fun hPc hDc => va_runV (C := R_Mc) (As := [.ref q, .int (nI i)]) (rest := [.int (nI (i + 1))]) ⟨hx, hb, hml, hown, hts⟩ (c_Mc_distance mc cl a x (nI (c + 1)) q o y n k fo fy fn fk L i _ hrep hok hlt (hgd 5 (by decide) (by decide) i hlt) (by omega)) (⟨callB_of 2 hts (fs_g kin_Mc_distance) rfl rfl rfl (hts _ wi_5) (hts _ wi_292) (by decide +kernel) ⟨Nat.le_of_ble_eq_true rfl, Nat.le_of_ble_eq_true rfl⟩, hts _ wi_294, hts _ sel_Mc_distance⟩) (fs_preV (q0 := 0) rfl rfl hPc hK hDc) rfl rfl hl.1 rfl (lv_room (Nat.le_of_ble_eq_true rfl)) d_Mc_run_164 ⟨Nat.le_of_ble_eq_true rfl, Nat.le_of_ble_eq_true rfl⟩) rfl (fun r164 _ H locs hp164 hP hD hS => ?_)
            have hP : va_P (dC, dI) vwCl [(mc, .inr (2, [.ref cl, .int a, .int x, .int (nI (c + 1))])), (cl, .inl (cI, 16, .inl cs)), (q, .inr (1, [.ref o, .ref y, .ref n, .ref k, .int (nI L.length)])), (o, .inl (cI, 40, .inl fo)), (y, .inl (cI, 40, .inl fy)), (n, .inl (cI, 40, .inl fn)), (k, .inl (cI, 40, .inl fk)), (wd, .inl (cI, 16, .inl w))] H := hP.sub [2, 0, 3, 4, 5, 6, 7, 1] rfl
            have hD : va_D A [(mc, .inr (2, [.ref cl, .int a, .int x, .int (nI (c + 1))])), (cl, .inl (cI, 16, .inl cs)), (q, .inr (1, [.ref o, .ref y, .ref n, .ref k, .int (nI L.length)])), (o, .inl (cI, 40, .inl fo)), (y, .inl (cI, 40, .inl fy)), (n, .inl (cI, 40, .inl fn)), (k, .inl (cI, 40, .inl fk)), (wd, .inl (cI, 16, .inl w))] := hD.sub [2, 0, 3, 4, 5, 6, 7, 1] (by decide) rfl
            subst hp164
            have hdl : fx_d L i a x < 256 := fx_d_le hok hlt (hgd 5 (by decide) (by decide) i hlt)
            refine lv_iadd hx hb d_Mc_run_167 ?_
            refine fs_eqi (nI_add _ _) ?_
            refine lv_istore_n hx hb d_Mc_run_168 rfl hl (by decide) (lv' := [(3, .int (nI (i + 1 + fx_d L i a x))), (6, .int (fx_K L i)), (5, .int (nI (fx_O L i))), (0, .ref mc), (1, .ref q), (2, .ref wd), (4, .int (nI (c + 1)))]) rfl (fun ls hl => ?_)
            refine lv_iinc (v := nI (c + 1 + 1)) (k := 6) hx hb d_Mc_run_169 hl rfl (fs_incN (c + 1) 1) (by decide) (lv' := [(4, .int (nI (c + 1 + 1))), (3, .int (nI (i + 1 + fx_d L i a x))), (6, .int (fx_K L i)), (5, .int (nI (fx_O L i))), (0, .ref mc), (1, .ref q), (2, .ref wd)]) rfl (fun ls hl => ?_)
            refine lv_goto (tgt := 23) hx hb d_Mc_run_172 (by decide) ?_
            exact ih23 (c + 1) a x cs (i + 1 + fx_d L i a x) (nI (c + 1)) _ _ _ (by omega) ⟨by omega, by rw [← hrun, fx_a_hi (by omega), fx_x_hi (by omega), fx_c_hi (by omega), show 40 - (c + 1) = 39 - c from by omega], fun _ => rfl, fun h => absurd h (by omega), by omega, hP, hD, hS, lv_sub hl [4, 5, 6, 1, 0] rfl⟩
          rw [nI_leI (by omega) (by omega)] at hc129
          refine lv_aload_n hx hb d_Mc_run_132 rfl (lv_at hl 2 rfl) ?_
          refine lv_aload_n hx hb d_Mc_run_133 rfl (lv_at hl 2 rfl) ?_
          refine lv_iload hx hb d_Mc_run_134 (lv_at hl 1 rfl) ?_
          refine lv_iload hx hb d_Mc_run_136 (lv_at hl 1 rfl) ?_
          refine lv_bipush (v := nI 19) hx hb d_Mc_run_138 (by decide) ?_
          refine lv_icmp_ge (tgt := 148) hx hb d_Mc_run_140 (by decide) (fun hc140 => ?_) (fun hc140 => ?_)
          · rw [nI_leI (by omega) (by omega)] at hc140
            refine lv_aload_n hx hb d_Mc_run_148 rfl (lv_at hl 2 rfl) ?_
            refine va_get (D := (dC, dI)) (ci := 2) (v := .int x) (C := R_Mc) (T := T_Mc) (N := 4) hx hb hts uin_Mc hown hK hP 0 rfl rfl 2 (by decide) (hts _ wi_102) (fun _ h9 => h9) rfl d_Mc_run_149 ?_
            refine fs_calli (wc := [(mc, .inr (2, [.ref cl, .int a, .int x, .int (nI (c + 1))]))]) (wr := [(cl, .inl (cI, 16, .inl cs)), (q, .inr (1, [.ref o, .ref y, .ref n, .ref k, .int (nI L.length)])), (o, .inl (cI, 40, .inl fo)), (y, .inl (cI, 40, .inl fy)), (n, .inl (cI, 40, .inl fn)), (k, .inl (cI, 40, .inl fk)), (wd, .inl (cI, 16, .inl w))]) [0] [1, 2, 3, 4, 5, 6, 7] hP hD hK hS hA rfl rfl rfl (by decide) (fun hPc hDc => va_runV (C := R_Mc) (As := [.int (nI (fx_O L i)), .int x]) (rest := [.ref mc]) ⟨hx, hb, hml, hown, hts⟩ (c_Mc_result mc cl a x (nI (c + 1)) x (fx_O L i) _ (by omega) (by omega) (fun h => by rcases h with h | h; omega; exact hdz h)) (⟨callB_of 2 hts (fs_g kin_Mc_result) rfl rfl rfl (hts _ wi_5) (hts _ wi_284) (by decide +kernel) ⟨Nat.le_of_ble_eq_true rfl, Nat.le_of_ble_eq_true rfl⟩, hts _ wi_286, hts _ sel_Mc_result⟩) (fs_preV (q0 := 0) rfl rfl hPc hK hDc) rfl rfl hl.1 rfl (lv_room (Nat.le_of_ble_eq_true rfl)) d_Mc_run_152 ⟨Nat.le_of_ble_eq_true rfl, Nat.le_of_ble_eq_true rfl⟩) rfl (fun r152 _ H locs hp152 hP hD hS => ?_)
            have hP : va_P (dC, dI) vwCl [(mc, .inr (2, [.ref cl, .int a, .int x, .int (nI (c + 1))])), (cl, .inl (cI, 16, .inl cs)), (q, .inr (1, [.ref o, .ref y, .ref n, .ref k, .int (nI L.length)])), (o, .inl (cI, 40, .inl fo)), (y, .inl (cI, 40, .inl fy)), (n, .inl (cI, 40, .inl fn)), (k, .inl (cI, 40, .inl fk)), (wd, .inl (cI, 16, .inl w))] H := hP.sub [7, 0, 1, 2, 3, 4, 5, 6] rfl
            have hD : va_D A [(mc, .inr (2, [.ref cl, .int a, .int x, .int (nI (c + 1))])), (cl, .inl (cI, 16, .inl cs)), (q, .inr (1, [.ref o, .ref y, .ref n, .ref k, .int (nI L.length)])), (o, .inl (cI, 40, .inl fo)), (y, .inl (cI, 40, .inl fy)), (n, .inl (cI, 40, .inl fn)), (k, .inl (cI, 40, .inl fk)), (wd, .inl (cI, 16, .inl w))] := hD.sub [7, 0, 1, 2, 3, 4, 5, 6] (by decide) rfl
            subst hp152
            refine va_put (D := (dC, dI)) (ci := 2) (v := .int (fx_val (fx_O L i) a x x)) (ty := (.int)) (C := R_Mc) (T := T_Mc) (N := 4) hx hb hts uin_Mc t_Mc ok_Mc n_Mc hown hK hP hD hS 0 rfl rfl 1 (by decide) (hts _ wi_101) (fun _ h9 => h9) rfl (by decide +kernel) rfl rfl (Nat.le_of_ble_eq_true rfl) d_Mc_run_155 (fun H locs hP hD hS => ?_)
            have hP : va_P (dC, dI) vwCl [(mc, .inr (2, [.ref cl, .int (fx_val (fx_O L i) a x x), .int x, .int (nI (c + 1))])), (cl, .inl (cI, 16, .inl cs)), (q, .inr (1, [.ref o, .ref y, .ref n, .ref k, .int (nI L.length)])), (o, .inl (cI, 40, .inl fo)), (y, .inl (cI, 40, .inl fy)), (n, .inl (cI, 40, .inl fn)), (k, .inl (cI, 40, .inl fk)), (wd, .inl (cI, 16, .inl w))] H := hP
            have hD : va_D A [(mc, .inr (2, [.ref cl, .int (fx_val (fx_O L i) a x x), .int x, .int (nI (c + 1))])), (cl, .inl (cI, 16, .inl cs)), (q, .inr (1, [.ref o, .ref y, .ref n, .ref k, .int (nI L.length)])), (o, .inl (cI, 40, .inl fo)), (y, .inl (cI, 40, .inl fy)), (n, .inl (cI, 40, .inl fn)), (k, .inl (cI, 40, .inl fk)), (wd, .inl (cI, 16, .inl w))] := hD
            refine lv_iload_n hx hb d_Mc_run_158 rfl (lv_at hl 5 rfl) ?_
            refine lv_iconst (v := nI 1) hx hb d_Mc_run_159 (by decide) ?_
            refine lv_iadd hx hb d_Mc_run_160 ?_
            refine fs_eqi (nI_add _ _) ?_
            refine lv_aload_n hx hb d_Mc_run_161 rfl (lv_at hl 2 rfl) ?_
            refine lv_aload_n hx hb d_Mc_run_162 rfl (lv_at hl 3 rfl) ?_
            refine lv_iload_n hx hb d_Mc_run_163 rfl (lv_at hl 5 rfl) ?_
            refine fs_calli (wc := [(mc, .inr (2, [.ref cl, .int (fx_val (fx_O L i) a x x), .int x, .int (nI (c + 1))])), (q, .inr (1, [.ref o, .ref y, .ref n, .ref k, .int (nI L.length)])), (o, .inl (cI, 40, .inl fo)), (y, .inl (cI, 40, .inl fy)), (n, .inl (cI, 40, .inl fn)), (k, .inl (cI, 40, .inl fk))]) (wr := [(cl, .inl (cI, 16, .inl cs)), (wd, .inl (cI, 16, .inl w))]) [0, 2, 3, 4, 5, 6] [1, 7] hP hD hK hS hA rfl rfl rfl (by decide) (fun hPc hDc => va_runV (C := R_Mc) (As := [.ref q, .int (nI i)]) (rest := [.int (nI (i + 1))]) ⟨hx, hb, hml, hown, hts⟩ (c_Mc_distance mc cl (fx_val (fx_O L i) a x x) x (nI (c + 1)) q o y n k fo fy fn fk L i _ hrep hok hlt (hgd 5 (by decide) (by decide) i hlt) (by omega)) (⟨callB_of 2 hts (fs_g kin_Mc_distance) rfl rfl rfl (hts _ wi_5) (hts _ wi_292) (by decide +kernel) ⟨Nat.le_of_ble_eq_true rfl, Nat.le_of_ble_eq_true rfl⟩, hts _ wi_294, hts _ sel_Mc_distance⟩) (fs_preV (q0 := 0) rfl rfl hPc hK hDc) rfl rfl hl.1 rfl (lv_room (Nat.le_of_ble_eq_true rfl)) d_Mc_run_164 ⟨Nat.le_of_ble_eq_true rfl, Nat.le_of_ble_eq_true rfl⟩) rfl (fun r164 _ H locs hp164 hP hD hS => ?_)
            have hP : va_P (dC, dI) vwCl [(mc, .inr (2, [.ref cl, .int (fx_val (fx_O L i) a x x), .int x, .int (nI (c + 1))])), (cl, .inl (cI, 16, .inl cs)), (q, .inr (1, [.ref o, .ref y, .ref n, .ref k, .int (nI L.length)])), (o, .inl (cI, 40, .inl fo)), (y, .inl (cI, 40, .inl fy)), (n, .inl (cI, 40, .inl fn)), (k, .inl (cI, 40, .inl fk)), (wd, .inl (cI, 16, .inl w))] H := hP.sub [2, 0, 3, 4, 5, 6, 7, 1] rfl
            have hD : va_D A [(mc, .inr (2, [.ref cl, .int (fx_val (fx_O L i) a x x), .int x, .int (nI (c + 1))])), (cl, .inl (cI, 16, .inl cs)), (q, .inr (1, [.ref o, .ref y, .ref n, .ref k, .int (nI L.length)])), (o, .inl (cI, 40, .inl fo)), (y, .inl (cI, 40, .inl fy)), (n, .inl (cI, 40, .inl fn)), (k, .inl (cI, 40, .inl fk)), (wd, .inl (cI, 16, .inl w))] := hD.sub [2, 0, 3, 4, 5, 6, 7, 1] (by decide) rfl
            subst hp164
            have hdl : fx_d L i (fx_val (fx_O L i) a x x) x < 256 := fx_d_le hok hlt (hgd 5 (by decide) (by decide) i hlt)
            refine lv_iadd hx hb d_Mc_run_167 ?_
            refine fs_eqi (nI_add _ _) ?_
            refine lv_istore_n hx hb d_Mc_run_168 rfl hl (by decide) (lv' := [(3, .int (nI (i + 1 + fx_d L i (fx_val (fx_O L i) a x x) x))), (6, .int (fx_K L i)), (5, .int (nI (fx_O L i))), (0, .ref mc), (1, .ref q), (2, .ref wd), (4, .int (nI (c + 1)))]) rfl (fun ls hl => ?_)
            refine lv_iinc (v := nI (c + 1 + 1)) (k := 6) hx hb d_Mc_run_169 hl rfl (fs_incN (c + 1) 1) (by decide) (lv' := [(4, .int (nI (c + 1 + 1))), (3, .int (nI (i + 1 + fx_d L i (fx_val (fx_O L i) a x x) x))), (6, .int (fx_K L i)), (5, .int (nI (fx_O L i))), (0, .ref mc), (1, .ref q), (2, .ref wd)]) rfl (fun ls hl => ?_)
            refine lv_goto (tgt := 23) hx hb d_Mc_run_172 (by decide) ?_
            exact ih23 (c + 1) (fx_val (fx_O L i) a x x) x cs (i + 1 + fx_d L i (fx_val (fx_O L i) a x x) x) (nI (c + 1)) _ _ _ (by omega) ⟨by omega, by rw [← hrun, fx_a_mid (by omega) (by omega), fx_x_hi (by omega), fx_c_hi (by omega), fx_d_lt (by omega), fx_d_lt (by omega), fx_val_x (by omega), show 40 - (c + 1) = 39 - c from by omega], fun _ => rfl, fun h => absurd h (by omega), by omega, hP, hD, hS, lv_sub hl [4, 5, 6, 1, 0] rfl⟩
          rw [nI_leI (by omega) (by omega)] at hc140
          refine lv_iload hx hb d_Mc_run_143 (lv_at hl 0 rfl) ?_
          refine lv_goto (tgt := 152) hx hb d_Mc_run_145 (by decide) ?_
          refine fs_calli (wc := [(mc, .inr (2, [.ref cl, .int a, .int x, .int (nI (c + 1))]))]) (wr := [(cl, .inl (cI, 16, .inl cs)), (q, .inr (1, [.ref o, .ref y, .ref n, .ref k, .int (nI L.length)])), (o, .inl (cI, 40, .inl fo)), (y, .inl (cI, 40, .inl fy)), (n, .inl (cI, 40, .inl fn)), (k, .inl (cI, 40, .inl fk)), (wd, .inl (cI, 16, .inl w))]) [0] [1, 2, 3, 4, 5, 6, 7] hP hD hK hS hA rfl rfl rfl (by decide) (fun hPc hDc => va_runV (C := R_Mc) (As := [.int (nI (fx_O L i)), .int (fx_K L i)]) (rest := [.ref mc]) ⟨hx, hb, hml, hown, hts⟩ (c_Mc_result mc cl a x (nI (c + 1)) (fx_K L i) (fx_O L i) _ (by omega) (by omega) (fun h => by rcases h with h | h; have := hgd 3 (by decide) (by decide) i hlt; simp only [fx_brP] at this; rw [fs_eq0]; omega; omega)) (⟨callB_of 2 hts (fs_g kin_Mc_result) rfl rfl rfl (hts _ wi_5) (hts _ wi_284) (by decide +kernel) ⟨Nat.le_of_ble_eq_true rfl, Nat.le_of_ble_eq_true rfl⟩, hts _ wi_286, hts _ sel_Mc_result⟩) (fs_preV (q0 := 0) rfl rfl hPc hK hDc) rfl rfl hl.1 rfl (lv_room (Nat.le_of_ble_eq_true rfl)) d_Mc_run_152 ⟨Nat.le_of_ble_eq_true rfl, Nat.le_of_ble_eq_true rfl⟩) rfl (fun r152 _ H locs hp152 hP hD hS => ?_)
          have hP : va_P (dC, dI) vwCl [(mc, .inr (2, [.ref cl, .int a, .int x, .int (nI (c + 1))])), (cl, .inl (cI, 16, .inl cs)), (q, .inr (1, [.ref o, .ref y, .ref n, .ref k, .int (nI L.length)])), (o, .inl (cI, 40, .inl fo)), (y, .inl (cI, 40, .inl fy)), (n, .inl (cI, 40, .inl fn)), (k, .inl (cI, 40, .inl fk)), (wd, .inl (cI, 16, .inl w))] H := hP.sub [7, 0, 1, 2, 3, 4, 5, 6] rfl
          have hD : va_D A [(mc, .inr (2, [.ref cl, .int a, .int x, .int (nI (c + 1))])), (cl, .inl (cI, 16, .inl cs)), (q, .inr (1, [.ref o, .ref y, .ref n, .ref k, .int (nI L.length)])), (o, .inl (cI, 40, .inl fo)), (y, .inl (cI, 40, .inl fy)), (n, .inl (cI, 40, .inl fn)), (k, .inl (cI, 40, .inl fk)), (wd, .inl (cI, 16, .inl w))] := hD.sub [7, 0, 1, 2, 3, 4, 5, 6] (by decide) rfl
          subst hp152
          refine va_put (D := (dC, dI)) (ci := 2) (v := .int (fx_val (fx_O L i) a (fx_K L i) (fx_K L i))) (ty := (.int)) (C := R_Mc) (T := T_Mc) (N := 4) hx hb hts uin_Mc t_Mc ok_Mc n_Mc hown hK hP hD hS 0 rfl rfl 1 (by decide) (hts _ wi_101) (fun _ h9 => h9) rfl (by decide +kernel) rfl rfl (Nat.le_of_ble_eq_true rfl) d_Mc_run_155 (fun H locs hP hD hS => ?_)
          have hP : va_P (dC, dI) vwCl [(mc, .inr (2, [.ref cl, .int (fx_val (fx_O L i) a (fx_K L i) (fx_K L i)), .int x, .int (nI (c + 1))])), (cl, .inl (cI, 16, .inl cs)), (q, .inr (1, [.ref o, .ref y, .ref n, .ref k, .int (nI L.length)])), (o, .inl (cI, 40, .inl fo)), (y, .inl (cI, 40, .inl fy)), (n, .inl (cI, 40, .inl fn)), (k, .inl (cI, 40, .inl fk)), (wd, .inl (cI, 16, .inl w))] H := hP
          have hD : va_D A [(mc, .inr (2, [.ref cl, .int (fx_val (fx_O L i) a (fx_K L i) (fx_K L i)), .int x, .int (nI (c + 1))])), (cl, .inl (cI, 16, .inl cs)), (q, .inr (1, [.ref o, .ref y, .ref n, .ref k, .int (nI L.length)])), (o, .inl (cI, 40, .inl fo)), (y, .inl (cI, 40, .inl fy)), (n, .inl (cI, 40, .inl fn)), (k, .inl (cI, 40, .inl fk)), (wd, .inl (cI, 16, .inl w))] := hD
          refine lv_iload_n hx hb d_Mc_run_158 rfl (lv_at hl 5 rfl) ?_
          refine lv_iconst (v := nI 1) hx hb d_Mc_run_159 (by decide) ?_
          refine lv_iadd hx hb d_Mc_run_160 ?_
          refine fs_eqi (nI_add _ _) ?_
          refine lv_aload_n hx hb d_Mc_run_161 rfl (lv_at hl 2 rfl) ?_
          refine lv_aload_n hx hb d_Mc_run_162 rfl (lv_at hl 3 rfl) ?_
          refine lv_iload_n hx hb d_Mc_run_163 rfl (lv_at hl 5 rfl) ?_
          refine fs_calli (wc := [(mc, .inr (2, [.ref cl, .int (fx_val (fx_O L i) a (fx_K L i) (fx_K L i)), .int x, .int (nI (c + 1))])), (q, .inr (1, [.ref o, .ref y, .ref n, .ref k, .int (nI L.length)])), (o, .inl (cI, 40, .inl fo)), (y, .inl (cI, 40, .inl fy)), (n, .inl (cI, 40, .inl fn)), (k, .inl (cI, 40, .inl fk))]) (wr := [(cl, .inl (cI, 16, .inl cs)), (wd, .inl (cI, 16, .inl w))]) [0, 2, 3, 4, 5, 6] [1, 7] hP hD hK hS hA rfl rfl rfl (by decide) (fun hPc hDc => va_runV (C := R_Mc) (As := [.ref q, .int (nI i)]) (rest := [.int (nI (i + 1))]) ⟨hx, hb, hml, hown, hts⟩ (c_Mc_distance mc cl (fx_val (fx_O L i) a (fx_K L i) (fx_K L i)) x (nI (c + 1)) q o y n k fo fy fn fk L i _ hrep hok hlt (hgd 5 (by decide) (by decide) i hlt) (by omega)) (⟨callB_of 2 hts (fs_g kin_Mc_distance) rfl rfl rfl (hts _ wi_5) (hts _ wi_292) (by decide +kernel) ⟨Nat.le_of_ble_eq_true rfl, Nat.le_of_ble_eq_true rfl⟩, hts _ wi_294, hts _ sel_Mc_distance⟩) (fs_preV (q0 := 0) rfl rfl hPc hK hDc) rfl rfl hl.1 rfl (lv_room (Nat.le_of_ble_eq_true rfl)) d_Mc_run_164 ⟨Nat.le_of_ble_eq_true rfl, Nat.le_of_ble_eq_true rfl⟩) rfl (fun r164 _ H locs hp164 hP hD hS => ?_)
          have hP : va_P (dC, dI) vwCl [(mc, .inr (2, [.ref cl, .int (fx_val (fx_O L i) a (fx_K L i) (fx_K L i)), .int x, .int (nI (c + 1))])), (cl, .inl (cI, 16, .inl cs)), (q, .inr (1, [.ref o, .ref y, .ref n, .ref k, .int (nI L.length)])), (o, .inl (cI, 40, .inl fo)), (y, .inl (cI, 40, .inl fy)), (n, .inl (cI, 40, .inl fn)), (k, .inl (cI, 40, .inl fk)), (wd, .inl (cI, 16, .inl w))] H := hP.sub [2, 0, 3, 4, 5, 6, 7, 1] rfl
          have hD : va_D A [(mc, .inr (2, [.ref cl, .int (fx_val (fx_O L i) a (fx_K L i) (fx_K L i)), .int x, .int (nI (c + 1))])), (cl, .inl (cI, 16, .inl cs)), (q, .inr (1, [.ref o, .ref y, .ref n, .ref k, .int (nI L.length)])), (o, .inl (cI, 40, .inl fo)), (y, .inl (cI, 40, .inl fy)), (n, .inl (cI, 40, .inl fn)), (k, .inl (cI, 40, .inl fk)), (wd, .inl (cI, 16, .inl w))] := hD.sub [2, 0, 3, 4, 5, 6, 7, 1] (by decide) rfl
          subst hp164
          have hdl : fx_d L i (fx_val (fx_O L i) a (fx_K L i) (fx_K L i)) x < 256 := fx_d_le hok hlt (hgd 5 (by decide) (by decide) i hlt)
          refine lv_iadd hx hb d_Mc_run_167 ?_
          refine fs_eqi (nI_add _ _) ?_
          refine lv_istore_n hx hb d_Mc_run_168 rfl hl (by decide) (lv' := [(3, .int (nI (i + 1 + fx_d L i (fx_val (fx_O L i) a (fx_K L i) (fx_K L i)) x))), (6, .int (fx_K L i)), (5, .int (nI (fx_O L i))), (0, .ref mc), (1, .ref q), (2, .ref wd), (4, .int (nI (c + 1)))]) rfl (fun ls hl => ?_)
          refine lv_iinc (v := nI (c + 1 + 1)) (k := 6) hx hb d_Mc_run_169 hl rfl (fs_incN (c + 1) 1) (by decide) (lv' := [(4, .int (nI (c + 1 + 1))), (3, .int (nI (i + 1 + fx_d L i (fx_val (fx_O L i) a (fx_K L i) (fx_K L i)) x))), (6, .int (fx_K L i)), (5, .int (nI (fx_O L i))), (0, .ref mc), (1, .ref q), (2, .ref wd)]) rfl (fun ls hl => ?_)
          refine lv_goto (tgt := 23) hx hb d_Mc_run_172 (by decide) ?_
          exact ih23 (c + 1) (fx_val (fx_O L i) a (fx_K L i) (fx_K L i)) x cs (i + 1 + fx_d L i (fx_val (fx_O L i) a (fx_K L i) (fx_K L i)) x) (nI (c + 1)) _ _ _ (by omega) ⟨by omega, by rw [← hrun, fx_a_mid (by omega) (by omega), fx_x_hi (by omega), fx_c_hi (by omega), fx_d_lt (by omega), fx_d_lt (by omega), ← fx_val_k (x := x) (by omega), show 40 - (c + 1) = 39 - c from by omega], fun _ => rfl, fun h => absurd h (by omega), by omega, hP, hD, hS, lv_sub hl [4, 5, 6, 1, 0] rfl⟩
        rw [nI_leI (by omega) (by omega)] at hc106
        refine lv_aload_n hx hb d_Mc_run_109 rfl (lv_at hl 2 rfl) ?_
        refine lv_iload hx hb d_Mc_run_110 (lv_at hl 1 rfl) ?_
        refine lv_iload hx hb d_Mc_run_112 (lv_at hl 0 rfl) ?_
        refine lv_aload_n hx hb d_Mc_run_114 rfl (lv_at hl 4 rfl) ?_
        refine lv_aload_n hx hb d_Mc_run_115 rfl (lv_at hl 3 rfl) ?_
        refine va_get (D := (dC, dI)) (ci := 1) (v := .int (nI L.length)) (C := R_Fi) (T := T_Fi) (N := 5) hx hb hts uin_Fi hown hK hP 2 rfl rfl 4 (by decide) (hts _ wi_47) (fun _ h9 => h9) rfl d_Mc_run_116 ?_
        refine fs_callv (wc := [(mc, .inr (2, [.ref cl, .int a, .int x, .int (nI (c + 1))])), (cl, .inl (cI, 16, .inl cs)), (wd, .inl (cI, 16, .inl w))]) (wr := [(q, .inr (1, [.ref o, .ref y, .ref n, .ref k, .int (nI L.length)])), (o, .inl (cI, 40, .inl fo)), (y, .inl (cI, 40, .inl fy)), (n, .inl (cI, 40, .inl fn)), (k, .inl (cI, 40, .inl fk))]) [0, 1, 7] [2, 3, 4, 5, 6] hP hD hK hS hA rfl rfl rfl (by decide) (fun hPc hDc => va_runV (C := R_Mc) (As := [.int (nI (fx_O L i)), .int (fx_K L i), .ref wd, .int (nI L.length)]) (rest := []) ⟨hx, hb, hml, hown, hts⟩ (c_Mc_move mc cl wd a x (nI (c + 1)) (fx_K L i) cs w (fx_O L i) L.length _ (by omega) (fun h => by have := hgd 2 (by decide) (by decide) i hlt; simp only [fx_brP] at this; omega)) (⟨callB_of 4 hts (fs_g kin_Mc_move) rfl rfl rfl (hts _ wi_5) (hts _ wi_280) (by decide +kernel) ⟨Nat.le_of_ble_eq_true rfl, Nat.le_of_ble_eq_true rfl⟩, hts _ wi_282, hts _ sel_Mc_move⟩) (fs_preV (q0 := 0) rfl rfl hPc hK hDc) rfl rfl hl.1 rfl (lv_room (Nat.le_of_ble_eq_true rfl)) d_Mc_run_119 ⟨Nat.le_of_ble_eq_true rfl, Nat.le_of_ble_eq_true rfl⟩) rfl (fun _ H locs hp119 hP hD hS => ?_)
        have hP : va_P (dC, dI) vwCl [(mc, .inr (2, [.ref cl, .int (fx_a (fx_O L i) a x (fx_K L i) cs w L.length), .int (fx_x (fx_O L i) a x (fx_K L i) cs), .int (nI (c + 1))])), (cl, .inl (cI, 16, .inl (fx_c (fx_O L i) a x (fx_K L i) cs))), (q, .inr (1, [.ref o, .ref y, .ref n, .ref k, .int (nI L.length)])), (o, .inl (cI, 40, .inl fo)), (y, .inl (cI, 40, .inl fy)), (n, .inl (cI, 40, .inl fn)), (k, .inl (cI, 40, .inl fk)), (wd, .inl (cI, 16, .inl w))] H := hP.sub [5, 6, 0, 1, 2, 3, 4, 7] rfl
        have hD : va_D A [(mc, .inr (2, [.ref cl, .int (fx_a (fx_O L i) a x (fx_K L i) cs w L.length), .int (fx_x (fx_O L i) a x (fx_K L i) cs), .int (nI (c + 1))])), (cl, .inl (cI, 16, .inl (fx_c (fx_O L i) a x (fx_K L i) cs))), (q, .inr (1, [.ref o, .ref y, .ref n, .ref k, .int (nI L.length)])), (o, .inl (cI, 40, .inl fo)), (y, .inl (cI, 40, .inl fy)), (n, .inl (cI, 40, .inl fn)), (k, .inl (cI, 40, .inl fk)), (wd, .inl (cI, 16, .inl w))] := hD.sub [5, 6, 0, 1, 2, 3, 4, 7] (by decide) rfl
        refine lv_goto (tgt := 158) hx hb d_Mc_run_122 (by decide) ?_
        refine lv_iload_n hx hb d_Mc_run_158 rfl (lv_at hl 5 rfl) ?_
        refine lv_iconst (v := nI 1) hx hb d_Mc_run_159 (by decide) ?_
        refine lv_iadd hx hb d_Mc_run_160 ?_
        refine fs_eqi (nI_add _ _) ?_
        refine lv_aload_n hx hb d_Mc_run_161 rfl (lv_at hl 2 rfl) ?_
        refine lv_aload_n hx hb d_Mc_run_162 rfl (lv_at hl 3 rfl) ?_
        refine lv_iload_n hx hb d_Mc_run_163 rfl (lv_at hl 5 rfl) ?_
        refine fs_calli (wc := [(mc, .inr (2, [.ref cl, .int (fx_a (fx_O L i) a x (fx_K L i) cs w L.length), .int (fx_x (fx_O L i) a x (fx_K L i) cs), .int (nI (c + 1))])), (q, .inr (1, [.ref o, .ref y, .ref n, .ref k, .int (nI L.length)])), (o, .inl (cI, 40, .inl fo)), (y, .inl (cI, 40, .inl fy)), (n, .inl (cI, 40, .inl fn)), (k, .inl (cI, 40, .inl fk))]) (wr := [(cl, .inl (cI, 16, .inl (fx_c (fx_O L i) a x (fx_K L i) cs))), (wd, .inl (cI, 16, .inl w))]) [0, 2, 3, 4, 5, 6] [1, 7] hP hD hK hS hA rfl rfl rfl (by decide) (fun hPc hDc => va_runV (C := R_Mc) (As := [.ref q, .int (nI i)]) (rest := [.int (nI (i + 1))]) ⟨hx, hb, hml, hown, hts⟩ (c_Mc_distance mc cl (fx_a (fx_O L i) a x (fx_K L i) cs w L.length) (fx_x (fx_O L i) a x (fx_K L i) cs) (nI (c + 1)) q o y n k fo fy fn fk L i _ hrep hok hlt (hgd 5 (by decide) (by decide) i hlt) (by omega)) (⟨callB_of 2 hts (fs_g kin_Mc_distance) rfl rfl rfl (hts _ wi_5) (hts _ wi_292) (by decide +kernel) ⟨Nat.le_of_ble_eq_true rfl, Nat.le_of_ble_eq_true rfl⟩, hts _ wi_294, hts _ sel_Mc_distance⟩) (fs_preV (q0 := 0) rfl rfl hPc hK hDc) rfl rfl hl.1 rfl (lv_room (Nat.le_of_ble_eq_true rfl)) d_Mc_run_164 ⟨Nat.le_of_ble_eq_true rfl, Nat.le_of_ble_eq_true rfl⟩) rfl (fun r164 _ H locs hp164 hP hD hS => ?_)
        have hP : va_P (dC, dI) vwCl [(mc, .inr (2, [.ref cl, .int (fx_a (fx_O L i) a x (fx_K L i) cs w L.length), .int (fx_x (fx_O L i) a x (fx_K L i) cs), .int (nI (c + 1))])), (cl, .inl (cI, 16, .inl (fx_c (fx_O L i) a x (fx_K L i) cs))), (q, .inr (1, [.ref o, .ref y, .ref n, .ref k, .int (nI L.length)])), (o, .inl (cI, 40, .inl fo)), (y, .inl (cI, 40, .inl fy)), (n, .inl (cI, 40, .inl fn)), (k, .inl (cI, 40, .inl fk)), (wd, .inl (cI, 16, .inl w))] H := hP.sub [2, 0, 3, 4, 5, 6, 7, 1] rfl
        have hD : va_D A [(mc, .inr (2, [.ref cl, .int (fx_a (fx_O L i) a x (fx_K L i) cs w L.length), .int (fx_x (fx_O L i) a x (fx_K L i) cs), .int (nI (c + 1))])), (cl, .inl (cI, 16, .inl (fx_c (fx_O L i) a x (fx_K L i) cs))), (q, .inr (1, [.ref o, .ref y, .ref n, .ref k, .int (nI L.length)])), (o, .inl (cI, 40, .inl fo)), (y, .inl (cI, 40, .inl fy)), (n, .inl (cI, 40, .inl fn)), (k, .inl (cI, 40, .inl fk)), (wd, .inl (cI, 16, .inl w))] := hD.sub [2, 0, 3, 4, 5, 6, 7, 1] (by decide) rfl
        subst hp164
        have hdl : fx_d L i (fx_a (fx_O L i) a x (fx_K L i) cs w L.length) (fx_x (fx_O L i) a x (fx_K L i) cs) < 256 := fx_d_le hok hlt (hgd 5 (by decide) (by decide) i hlt)
        refine lv_iadd hx hb d_Mc_run_167 ?_
        refine fs_eqi (nI_add _ _) ?_
        refine lv_istore_n hx hb d_Mc_run_168 rfl hl (by decide) (lv' := [(3, .int (nI (i + 1 + fx_d L i (fx_a (fx_O L i) a x (fx_K L i) cs w L.length) (fx_x (fx_O L i) a x (fx_K L i) cs)))), (6, .int (fx_K L i)), (5, .int (nI (fx_O L i))), (0, .ref mc), (1, .ref q), (2, .ref wd), (4, .int (nI (c + 1)))]) rfl (fun ls hl => ?_)
        refine lv_iinc (v := nI (c + 1 + 1)) (k := 6) hx hb d_Mc_run_169 hl rfl (fs_incN (c + 1) 1) (by decide) (lv' := [(4, .int (nI (c + 1 + 1))), (3, .int (nI (i + 1 + fx_d L i (fx_a (fx_O L i) a x (fx_K L i) cs w L.length) (fx_x (fx_O L i) a x (fx_K L i) cs)))), (6, .int (fx_K L i)), (5, .int (nI (fx_O L i))), (0, .ref mc), (1, .ref q), (2, .ref wd)]) rfl (fun ls hl => ?_)
        refine lv_goto (tgt := 23) hx hb d_Mc_run_172 (by decide) ?_
        exact ih23 (c + 1) (fx_a (fx_O L i) a x (fx_K L i) cs w L.length) (fx_x (fx_O L i) a x (fx_K L i) cs) (fx_c (fx_O L i) a x (fx_K L i) cs) (i + 1 + fx_d L i (fx_a (fx_O L i) a x (fx_K L i) cs w L.length) (fx_x (fx_O L i) a x (fx_K L i) cs)) (nI (c + 1)) _ _ _ (by omega) ⟨by omega, by rw [← hrun, fx_d_lt (by omega), fx_d_lt (by omega), show 40 - (c + 1) = 39 - c from by omega], fun _ => rfl, fun h => absurd h (by omega), by omega, hP, hD, hS, lv_sub hl [4, 5, 6, 1, 0] rfl⟩
      refine lv_iconst (v := nI 0) hx hb d_Mc_run_100 (by decide) ?_
      rw [if_neg (by omega), if_pos ⟨by omega, hc97⟩] at hrun
      have hw2 : (fx_do L w).2 = c + 1 := by rw [← hrun]
      rw [← hw2] at hP hD
      exact fs_iret hx hb hr hlocks hAe hK hS d_Mc_run_101 (a, x, cs) (by rw [← hrun]; try rfl) hP hD
    rw [nI_eq (by omega) (by omega)] at hc64
    refine lv_aload_n hx hb d_Mc_run_67 rfl (lv_at hl 3 rfl) ?_
    refine va_get (D := (dC, dI)) (ci := 1) (v := .ref y) (C := R_Fi) (T := T_Fi) (N := 5) hx hb hts uin_Fi hown hK hP 2 rfl rfl 1 (by decide) (hts _ wi_35) (fun _ h9 => h9) rfl d_Mc_run_68 ?_
    refine lv_iload_n hx hb d_Mc_run_71 rfl (lv_at hl 5 rfl) ?_
    refine fs_iald (v := nI (fx_Y L i)) hx hb hK hP 4 0 rfl rfl i rfl (by decide) (by omega) ((hrep i (by omega)).2.1) d_Mc_run_72 ?_
    refine lv_if_eq (tgt := 83) hx hb d_Mc_run_73 (by decide) (fun hc73 => ?_) (fun hc73 => ?_)
    · try rw [← nI_0] at hc73
      rw [nI_eq (by omega) (by omega)] at hc73
      refine lv_iload hx hb d_Mc_run_83 (lv_at hl 0 rfl) ?_
      rw [if_pos (by omega), if_pos (by omega)] at hrun
      have hw2 : (fx_do L w).2 = c + 1 := by rw [← hrun]
      rw [← hw2] at hP hD
      exact fs_iret hx hb hr hlocks hAe hK hS d_Mc_run_85 (a, x, cs) (by rw [← hrun]; try rfl) hP hD
    try rw [← nI_0] at hc73
    rw [nI_eq (by omega) (by omega)] at hc73
    refine lv_aload_n hx hb d_Mc_run_76 rfl (lv_at hl 2 rfl) ?_
    refine va_get (D := (dC, dI)) (ci := 2) (v := .int a) (C := R_Mc) (T := T_Mc) (N := 4) hx hb hts uin_Mc hown hK hP 0 rfl rfl 1 (by decide) (hts _ wi_101) (fun _ h9 => h9) rfl d_Mc_run_77 ?_
    refine lv_goto (tgt := 85) hx hb d_Mc_run_80 (by decide) ?_
    rw [if_pos (by omega), if_neg (by omega)] at hrun
    have hw2 : (fx_do L w).2 = c + 1 := by rw [← hrun]
    rw [← hw2] at hP hD
    exact fs_iret hx hb hr hlocks hAe hK hS d_Mc_run_85 (a, x, cs) (by rw [← hrun]; try rfl) hP hD
  refine lv_if_eq (tgt := 175) hx hb d_Mc_run_35 (by decide) (fun _ => ?_) (fun hc => absurd (by decide) hc)
  refine lv_iconst (v := nI 0) hx hb d_Mc_run_175 (by decide) ?_
  have hge : ¬ i < L.length := fun h => hc32 i h rfl
  have hc0 : ¬ c = 0 := fun h => hge (by rw [hz h]; omega)
  rw [show 40 - c = (39 - c) + 1 from by omega, fx_run, if_neg hge] at hrun
  have hw2 : dn = nI (fx_do L w).2 := by rw [← hrun]; exact hdn hc0
  rw [hw2] at hP hD
  exact fs_iret hx hb hr hlocks hAe hK hS d_Mc_run_176 (a, x, cs) (by rw [← hrun]; try rfl) hP hD

end MC
end
section
section RU
variable {l : Launch} {dC : Nat → ClassId} {dI : Nat → Nat → Nat} {cI cZ cJ cF : ClassId}
/-- rules as four rows hold them -/
def fx_rrep (rs : List fx_Rule) (gc ga gm gv : Nat → Int32) : Prop := ∀ i, i < rs.length → rs[i]? = some (gc i, ga i, gm i, gv i)
def fx_len (v : Int32) : Nat := if v = -1 then 3 else 6
theorem fx_one_len (q : fx_Rule) : (fx_one q).length = fx_len q.2.1 := by
  unfold fx_one fx_len
  split <;> rfl
theorem fx_len_le (v : Int32) : fx_len v ≤ 6 ∧ 3 ≤ fx_len v := by
  unfold fx_len
  split <;> omega
theorem fx_take {rs : List fx_Rule} {gc ga gm gv : Nat → Int32} (h : fx_rrep rs gc ga gm gv) {r : Nat} (hr : r < rs.length) : (rs.take (r + 1)).flatMap fx_one = (rs.take r).flatMap fx_one ++ fx_one (gc r, ga r, gm r, gv r) := by
  rw [List.take_succ, h r hr]
  simp
theorem fx_take_len (rs : List fx_Rule) (r : Nat) : ((rs.take r).flatMap fx_one).length ≤ (rs.flatMap fx_one).length := by
  conv => rhs; rw [← List.take_append_drop r rs]
  rw [List.flatMap_append, List.length_append]
  omega
theorem fx_flat_le : ∀ (rs : List fx_Rule), (rs.flatMap fx_one).length ≤ 6 * rs.length
  | [] => by simp
  | q :: t => by
    rw [List.flatMap_cons, List.length_append, fx_one_len, List.length_cons]
    have h1 := fx_flat_le t
    have h2 := (fx_len_le q.2.1).1
    omega
theorem fx_getD_app {L : fx_Prg} {x : fx_Ins} {i : Nat} (h : i < L.length) : (L ++ [x]).getD i (0, 0, 0, 0) = L.getD i (0, 0, 0, 0) := by
  simp [List.getD_eq_getElem?_getD, List.getElem?_append_left h]
theorem fx_getD_last {L : fx_Prg} {x : fx_Ins} : (L ++ [x]).getD L.length (0, 0, 0, 0) = x := by
  simp [List.getD_eq_getElem?_getD]
theorem fx_rep_app {L : fx_Prg} {fo fy fn fk : Nat → Int32} {m o y n : Nat} {k vo vy vn : Int32} (hm : m = L.length) (ho : vo = nI o) (hy : vy = nI y) (hn : vn = nI n) (h : fx_rep L fo fy fn fk) : fx_rep (L ++ [(o, y, n, k)]) (upd fo m vo) (upd fy m vy) (upd fn m vn) (upd fk m k) := by
  subst hm ho hy hn
  intro i hi
  rw [List.length_append, List.length_singleton] at hi
  unfold fx_O fx_Y fx_N fx_K upd
  by_cases e : i = L.length
  · subst e
    rw [fx_getD_last]
    simp
  · rw [fx_getD_app (by omega)]
    simp only [if_neg e]
    exact h i (by omega)
theorem fx_ok_app {L : fx_Prg} {x : fx_Ins} (h : fx_ok L) (hl : L.length < 40) (ho : x.1 < 32) (hy : x.2.1 < 256) (hn : x.2.2.1 < 256) : fx_ok (L ++ [x]) := by
  refine ⟨by rw [List.length_append, List.length_singleton]; omega, fun i hi => ?_⟩
  rw [List.length_append, List.length_singleton] at hi
  unfold fx_O fx_Y fx_N
  by_cases e : i = L.length
  · subst e
    rw [fx_getD_last]
    exact ⟨ho, hy, hn⟩
  · rw [fx_getD_app (by omega)]
    exact h.2 i (by omega)
theorem fx_rep_nil (fo fy fn fk : Nat → Int32) : fx_rep [] fo fy fn fk := fun i hi => absurd hi (by simp)
theorem d_Ru_append_0 : decode b_Ru_append 0 = .ok (.aload_n 0, 1) := by decide +kernel
theorem d_Ru_append_1 : decode b_Ru_append 1 = .ok (.getfield 24, 3) := by decide +kernel
theorem d_Ru_append_4 : decode b_Ru_append 4 = .ok (.bipush 8, 2) := by decide +kernel
theorem d_Ru_append_6 : decode b_Ru_append 6 = .ok (.if_icmp .lt 6, 3) := by decide +kernel
theorem d_Ru_append_9 : decode b_Ru_append 9 = .ok (.bipush (-2), 2) := by decide +kernel
theorem d_Ru_append_11 : decode b_Ru_append 11 = .ok (.ireturn, 1) := by decide +kernel
theorem d_Ru_append_12 : decode b_Ru_append 12 = .ok (.aload_n 0, 1) := by decide +kernel
theorem d_Ru_append_13 : decode b_Ru_append 13 = .ok (.getfield 9, 3) := by decide +kernel
theorem d_Ru_append_16 : decode b_Ru_append 16 = .ok (.aload_n 0, 1) := by decide +kernel
theorem d_Ru_append_17 : decode b_Ru_append 17 = .ok (.getfield 24, 3) := by decide +kernel
theorem d_Ru_append_20 : decode b_Ru_append 20 = .ok (.iload_n 1, 1) := by decide +kernel
theorem d_Ru_append_21 : decode b_Ru_append 21 = .ok (.iastore, 1) := by decide +kernel
theorem d_Ru_append_22 : decode b_Ru_append 22 = .ok (.aload_n 0, 1) := by decide +kernel
theorem d_Ru_append_23 : decode b_Ru_append 23 = .ok (.getfield 15, 3) := by decide +kernel
theorem d_Ru_append_26 : decode b_Ru_append 26 = .ok (.aload_n 0, 1) := by decide +kernel
theorem d_Ru_append_27 : decode b_Ru_append 27 = .ok (.getfield 24, 3) := by decide +kernel
theorem d_Ru_append_30 : decode b_Ru_append 30 = .ok (.iload_n 2, 1) := by decide +kernel
theorem d_Ru_append_31 : decode b_Ru_append 31 = .ok (.iastore, 1) := by decide +kernel
theorem d_Ru_append_32 : decode b_Ru_append 32 = .ok (.aload_n 0, 1) := by decide +kernel
theorem d_Ru_append_33 : decode b_Ru_append 33 = .ok (.getfield 18, 3) := by decide +kernel
theorem d_Ru_append_36 : decode b_Ru_append 36 = .ok (.aload_n 0, 1) := by decide +kernel
theorem d_Ru_append_37 : decode b_Ru_append 37 = .ok (.getfield 24, 3) := by decide +kernel
theorem d_Ru_append_40 : decode b_Ru_append 40 = .ok (.iload_n 3, 1) := by decide +kernel
theorem d_Ru_append_41 : decode b_Ru_append 41 = .ok (.iastore, 1) := by decide +kernel
theorem d_Ru_append_42 : decode b_Ru_append 42 = .ok (.aload_n 0, 1) := by decide +kernel
theorem d_Ru_append_43 : decode b_Ru_append 43 = .ok (.getfield 21, 3) := by decide +kernel
theorem d_Ru_append_46 : decode b_Ru_append 46 = .ok (.aload_n 0, 1) := by decide +kernel
theorem d_Ru_append_47 : decode b_Ru_append 47 = .ok (.getfield 24, 3) := by decide +kernel
theorem d_Ru_append_50 : decode b_Ru_append 50 = .ok (.iload 4, 2) := by decide +kernel
theorem d_Ru_append_52 : decode b_Ru_append 52 = .ok (.iastore, 1) := by decide +kernel
theorem d_Ru_append_53 : decode b_Ru_append 53 = .ok (.aload_n 0, 1) := by decide +kernel
theorem d_Ru_append_54 : decode b_Ru_append 54 = .ok (.dup, 1) := by decide +kernel
theorem d_Ru_append_55 : decode b_Ru_append 55 = .ok (.getfield 24, 3) := by decide +kernel
theorem d_Ru_append_58 : decode b_Ru_append 58 = .ok (.iconst 1, 1) := by decide +kernel
theorem d_Ru_append_59 : decode b_Ru_append 59 = .ok (.iadd, 1) := by decide +kernel
theorem d_Ru_append_60 : decode b_Ru_append 60 = .ok (.putfield 24, 3) := by decide +kernel
theorem d_Ru_append_63 : decode b_Ru_append 63 = .ok (.aload_n 0, 1) := by decide +kernel
theorem d_Ru_append_64 : decode b_Ru_append 64 = .ok (.getfield 24, 3) := by decide +kernel
theorem d_Ru_append_67 : decode b_Ru_append 67 = .ok (.ireturn, 1) := by decide +kernel
set_option maxHeartbeats 4000000 in
set_option maxRecDepth 100000 in
theorem c_Ru_append (ru rc ra rm rv cnt : Nat) (gc ga gm gv : Nat → Int32) (v1 v2 v3 v4 : Int32) (sz : Nat) (hcnt : cnt < 8) : fs_I l y_Ru_append (k_Ru_append :: fs_T) { frames := 0, cells := 0, slots := 0, locals := 0 } (dC, dI) vwCl (fs_tys cI cZ cJ cF) [.ref ru, .int v1, .int v2, .int v3, .int v4] [(ru, .inr (3, [.ref rc, .ref ra, .ref rm, .ref rv, .int (nI cnt)])), (rc, .inl (cI, 8, .inl gc)), (ra, .inl (cI, 8, .inl ga)), (rm, .inl (cI, 8, .inl gm)), (rv, .inl (cI, 8, .inl gv))] sz (S := Unit) (fun r _ => r = nI (cnt + 1)) (fun _ => [(ru, .inr (3, [.ref rc, .ref ra, .ref rm, .ref rv, .int (nI (cnt + 1))])), (rc, .inl (cI, 8, .inl (upd gc cnt v1))), (ra, .inl (cI, 8, .inl (upd ga cnt v2))), (rm, .inl (cI, 8, .inl (upd gm cnt v3))), (rv, .inl (cI, 8, .inl (upd gv cnt v4)))]) 0 0 := by
  refine fs_head (by decide) (Nat.le_of_ble_eq_true rfl) ?_
  intro p e s m below meth c A ls hx hb hr hts hown hlocks hin hml hK hP hD hS hA hAe hsz hl
  have hl : lv_has ls 5 [(0, .ref ru), (1, .int v1), (2, .int v2), (3, .int v3), (4, .int v4)] := hl
  have hown : s.vm.findClass R_Ru = some m.cls := hown
  refine lv_aload_n hx hb d_Ru_append_0 rfl (lv_at hl 0 rfl) ?_
  refine va_get (D := (dC, dI)) (ci := 3) (v := .int (nI cnt)) (C := R_Ru) (T := T_Ru) (N := 5) hx hb hts uin_Ru hown hK hP 0 rfl rfl 4 (by decide) (hts _ wi_72) (fun _ h9 => h9) rfl d_Ru_append_1 ?_
  refine lv_bipush (v := nI 8) hx hb d_Ru_append_4 (by decide) ?_
  refine lv_icmp_lt (tgt := 12) hx hb d_Ru_append_6 (by decide) (fun hc6 => ?_) (fun hc6 => absurd (nI_lt hcnt (by decide)) hc6)
  rw [nI_ltI (by omega) (by omega)] at hc6
  refine lv_aload_n hx hb d_Ru_append_12 rfl (lv_at hl 0 rfl) ?_
  refine va_get (D := (dC, dI)) (ci := 3) (v := .ref rc) (C := R_Ru) (T := T_Ru) (N := 5) hx hb hts uin_Ru hown hK hP 0 rfl rfl 0 (by decide) (hts _ wi_68) (fun _ h9 => h9) rfl d_Ru_append_13 ?_
  refine lv_aload_n hx hb d_Ru_append_16 rfl (lv_at hl 0 rfl) ?_
  refine va_get (D := (dC, dI)) (ci := 3) (v := .int (nI cnt)) (C := R_Ru) (T := T_Ru) (N := 5) hx hb hts uin_Ru hown hK hP 0 rfl rfl 4 (by decide) (hts _ wi_72) (fun _ h9 => h9) rfl d_Ru_append_17 ?_
  refine lv_iload_n hx hb d_Ru_append_20 rfl (lv_at hl 1 rfl) ?_
  refine fs_iast hx hb hK hP hD hS 1 0 rfl rfl cnt rfl (by decide) (by omega) d_Ru_append_21 (fun H locs hP hD hS => ?_)
  have hP : va_P (dC, dI) vwCl [(ru, .inr (3, [.ref rc, .ref ra, .ref rm, .ref rv, .int (nI cnt)])), (rc, .inl (cI, 8, .inl (upd gc cnt v1))), (ra, .inl (cI, 8, .inl ga)), (rm, .inl (cI, 8, .inl gm)), (rv, .inl (cI, 8, .inl gv))] H := hP
  have hD : va_D A [(ru, .inr (3, [.ref rc, .ref ra, .ref rm, .ref rv, .int (nI cnt)])), (rc, .inl (cI, 8, .inl (upd gc cnt v1))), (ra, .inl (cI, 8, .inl ga)), (rm, .inl (cI, 8, .inl gm)), (rv, .inl (cI, 8, .inl gv))] := hD
  refine lv_aload_n hx hb d_Ru_append_22 rfl (lv_at hl 0 rfl) ?_
  refine va_get (D := (dC, dI)) (ci := 3) (v := .ref ra) (C := R_Ru) (T := T_Ru) (N := 5) hx hb hts uin_Ru hown hK hP 0 rfl rfl 1 (by decide) (hts _ wi_69) (fun _ h9 => h9) rfl d_Ru_append_23 ?_
  refine lv_aload_n hx hb d_Ru_append_26 rfl (lv_at hl 0 rfl) ?_
  refine va_get (D := (dC, dI)) (ci := 3) (v := .int (nI cnt)) (C := R_Ru) (T := T_Ru) (N := 5) hx hb hts uin_Ru hown hK hP 0 rfl rfl 4 (by decide) (hts _ wi_72) (fun _ h9 => h9) rfl d_Ru_append_27 ?_
  refine lv_iload_n hx hb d_Ru_append_30 rfl (lv_at hl 2 rfl) ?_
  refine fs_iast hx hb hK hP hD hS 2 0 rfl rfl cnt rfl (by decide) (by omega) d_Ru_append_31 (fun H locs hP hD hS => ?_)
  have hP : va_P (dC, dI) vwCl [(ru, .inr (3, [.ref rc, .ref ra, .ref rm, .ref rv, .int (nI cnt)])), (rc, .inl (cI, 8, .inl (upd gc cnt v1))), (ra, .inl (cI, 8, .inl (upd ga cnt v2))), (rm, .inl (cI, 8, .inl gm)), (rv, .inl (cI, 8, .inl gv))] H := hP
  have hD : va_D A [(ru, .inr (3, [.ref rc, .ref ra, .ref rm, .ref rv, .int (nI cnt)])), (rc, .inl (cI, 8, .inl (upd gc cnt v1))), (ra, .inl (cI, 8, .inl (upd ga cnt v2))), (rm, .inl (cI, 8, .inl gm)), (rv, .inl (cI, 8, .inl gv))] := hD
  refine lv_aload_n hx hb d_Ru_append_32 rfl (lv_at hl 0 rfl) ?_
  refine va_get (D := (dC, dI)) (ci := 3) (v := .ref rm) (C := R_Ru) (T := T_Ru) (N := 5) hx hb hts uin_Ru hown hK hP 0 rfl rfl 2 (by decide) (hts _ wi_70) (fun _ h9 => h9) rfl d_Ru_append_33 ?_
  refine lv_aload_n hx hb d_Ru_append_36 rfl (lv_at hl 0 rfl) ?_
  refine va_get (D := (dC, dI)) (ci := 3) (v := .int (nI cnt)) (C := R_Ru) (T := T_Ru) (N := 5) hx hb hts uin_Ru hown hK hP 0 rfl rfl 4 (by decide) (hts _ wi_72) (fun _ h9 => h9) rfl d_Ru_append_37 ?_
  refine lv_iload_n hx hb d_Ru_append_40 rfl (lv_at hl 3 rfl) ?_
  refine fs_iast hx hb hK hP hD hS 3 0 rfl rfl cnt rfl (by decide) (by omega) d_Ru_append_41 (fun H locs hP hD hS => ?_)
  have hP : va_P (dC, dI) vwCl [(ru, .inr (3, [.ref rc, .ref ra, .ref rm, .ref rv, .int (nI cnt)])), (rc, .inl (cI, 8, .inl (upd gc cnt v1))), (ra, .inl (cI, 8, .inl (upd ga cnt v2))), (rm, .inl (cI, 8, .inl (upd gm cnt v3))), (rv, .inl (cI, 8, .inl gv))] H := hP
  have hD : va_D A [(ru, .inr (3, [.ref rc, .ref ra, .ref rm, .ref rv, .int (nI cnt)])), (rc, .inl (cI, 8, .inl (upd gc cnt v1))), (ra, .inl (cI, 8, .inl (upd ga cnt v2))), (rm, .inl (cI, 8, .inl (upd gm cnt v3))), (rv, .inl (cI, 8, .inl gv))] := hD
  refine lv_aload_n hx hb d_Ru_append_42 rfl (lv_at hl 0 rfl) ?_
  refine va_get (D := (dC, dI)) (ci := 3) (v := .ref rv) (C := R_Ru) (T := T_Ru) (N := 5) hx hb hts uin_Ru hown hK hP 0 rfl rfl 3 (by decide) (hts _ wi_71) (fun _ h9 => h9) rfl d_Ru_append_43 ?_
  refine lv_aload_n hx hb d_Ru_append_46 rfl (lv_at hl 0 rfl) ?_
  refine va_get (D := (dC, dI)) (ci := 3) (v := .int (nI cnt)) (C := R_Ru) (T := T_Ru) (N := 5) hx hb hts uin_Ru hown hK hP 0 rfl rfl 4 (by decide) (hts _ wi_72) (fun _ h9 => h9) rfl d_Ru_append_47 ?_
  refine lv_iload hx hb d_Ru_append_50 (lv_at hl 4 rfl) ?_
  refine fs_iast hx hb hK hP hD hS 4 0 rfl rfl cnt rfl (by decide) (by omega) d_Ru_append_52 (fun H locs hP hD hS => ?_)
  have hP : va_P (dC, dI) vwCl [(ru, .inr (3, [.ref rc, .ref ra, .ref rm, .ref rv, .int (nI cnt)])), (rc, .inl (cI, 8, .inl (upd gc cnt v1))), (ra, .inl (cI, 8, .inl (upd ga cnt v2))), (rm, .inl (cI, 8, .inl (upd gm cnt v3))), (rv, .inl (cI, 8, .inl (upd gv cnt v4)))] H := hP
  have hD : va_D A [(ru, .inr (3, [.ref rc, .ref ra, .ref rm, .ref rv, .int (nI cnt)])), (rc, .inl (cI, 8, .inl (upd gc cnt v1))), (ra, .inl (cI, 8, .inl (upd ga cnt v2))), (rm, .inl (cI, 8, .inl (upd gm cnt v3))), (rv, .inl (cI, 8, .inl (upd gv cnt v4)))] := hD
  refine lv_aload_n hx hb d_Ru_append_53 rfl (lv_at hl 0 rfl) ?_
  refine lv_dup hx hb d_Ru_append_54 rfl ?_
  refine va_get (D := (dC, dI)) (ci := 3) (v := .int (nI cnt)) (C := R_Ru) (T := T_Ru) (N := 5) hx hb hts uin_Ru hown hK hP 0 rfl rfl 4 (by decide) (hts _ wi_72) (fun _ h9 => h9) rfl d_Ru_append_55 ?_
  refine lv_iconst (v := nI 1) hx hb d_Ru_append_58 (by decide) ?_
  refine lv_iadd hx hb d_Ru_append_59 ?_
  refine fs_eqi (nI_add _ _) ?_
  refine va_put (D := (dC, dI)) (ci := 3) (v := .int (nI (cnt + 1))) (ty := (.int)) (C := R_Ru) (T := T_Ru) (N := 5) hx hb hts uin_Ru t_Ru ok_Ru n_Ru hown hK hP hD hS 0 rfl rfl 4 (by decide) (hts _ wi_72) (fun _ h9 => h9) rfl (by decide +kernel) rfl rfl (Nat.le_of_ble_eq_true rfl) d_Ru_append_60 (fun H locs hP hD hS => ?_)
  have hP : va_P (dC, dI) vwCl [(ru, .inr (3, [.ref rc, .ref ra, .ref rm, .ref rv, .int (nI (cnt + 1))])), (rc, .inl (cI, 8, .inl (upd gc cnt v1))), (ra, .inl (cI, 8, .inl (upd ga cnt v2))), (rm, .inl (cI, 8, .inl (upd gm cnt v3))), (rv, .inl (cI, 8, .inl (upd gv cnt v4)))] H := hP
  have hD : va_D A [(ru, .inr (3, [.ref rc, .ref ra, .ref rm, .ref rv, .int (nI (cnt + 1))])), (rc, .inl (cI, 8, .inl (upd gc cnt v1))), (ra, .inl (cI, 8, .inl (upd ga cnt v2))), (rm, .inl (cI, 8, .inl (upd gm cnt v3))), (rv, .inl (cI, 8, .inl (upd gv cnt v4)))] := hD
  refine lv_aload_n hx hb d_Ru_append_63 rfl (lv_at hl 0 rfl) ?_
  refine va_get (D := (dC, dI)) (ci := 3) (v := .int (nI (cnt + 1))) (C := R_Ru) (T := T_Ru) (N := 5) hx hb hts uin_Ru hown hK hP 0 rfl rfl 4 (by decide) (hts _ wi_72) (fun _ h9 => h9) rfl d_Ru_append_64 ?_
  exact fs_iret hx hb hr hlocks hAe hK hS d_Ru_append_67 () (rfl) hP hD

set_option maxHeartbeats 4000000 in
set_option maxRecDepth 100000 in
theorem c_Ru_appendF (ru rc ra rm rv : Nat) (gc ga gm gv : Nat → Int32) (v1 v2 v3 v4 : Int32) (sz : Nat)  : fs_I l y_Ru_append (k_Ru_append :: fs_T) { frames := 0, cells := 0, slots := 0, locals := 0 } (dC, dI) vwCl (fs_tys cI cZ cJ cF) [.ref ru, .int v1, .int v2, .int v3, .int v4] [(ru, .inr (3, [.ref rc, .ref ra, .ref rm, .ref rv, .int (nI 8)])), (rc, .inl (cI, 8, .inl gc)), (ra, .inl (cI, 8, .inl ga)), (rm, .inl (cI, 8, .inl gm)), (rv, .inl (cI, 8, .inl gv))] sz (S := Unit) (fun r _ => r = (-2)) (fun _ => [(ru, .inr (3, [.ref rc, .ref ra, .ref rm, .ref rv, .int (nI 8)])), (rc, .inl (cI, 8, .inl gc)), (ra, .inl (cI, 8, .inl ga)), (rm, .inl (cI, 8, .inl gm)), (rv, .inl (cI, 8, .inl gv))]) 0 0 := by
  refine fs_head (by decide) (Nat.le_of_ble_eq_true rfl) ?_
  intro p e s m below meth c A ls hx hb hr hts hown hlocks hin hml hK hP hD hS hA hAe hsz hl
  have hl : lv_has ls 5 [(0, .ref ru), (1, .int v1), (2, .int v2), (3, .int v3), (4, .int v4)] := hl
  have hown : s.vm.findClass R_Ru = some m.cls := hown
  refine lv_aload_n hx hb d_Ru_append_0 rfl (lv_at hl 0 rfl) ?_
  refine va_get (D := (dC, dI)) (ci := 3) (v := .int (nI 8)) (C := R_Ru) (T := T_Ru) (N := 5) hx hb hts uin_Ru hown hK hP 0 rfl rfl 4 (by decide) (hts _ wi_72) (fun _ h9 => h9) rfl d_Ru_append_1 ?_
  refine lv_bipush (v := nI 8) hx hb d_Ru_append_4 (by decide) ?_
  refine lv_icmp_lt (tgt := 12) hx hb d_Ru_append_6 (by decide) (fun hc => absurd hc (by decide)) (fun _ => ?_)
  refine lv_bipush (v := (-2)) hx hb d_Ru_append_9 (by decide) ?_
  exact fs_iret hx hb hr hlocks hAe hK hS d_Ru_append_11 () (rfl) hP hD

theorem d_Ru_empty_0 : decode b_Ru_empty 0 = .ok (.aload_n 0, 1) := by decide +kernel
theorem d_Ru_empty_1 : decode b_Ru_empty 1 = .ok (.getfield 24, 3) := by decide +kernel
theorem d_Ru_empty_4 : decode b_Ru_empty 4 = .ok (.istore_n 1, 1) := by decide +kernel
theorem d_Ru_empty_5 : decode b_Ru_empty 5 = .ok (.aload_n 0, 1) := by decide +kernel
theorem d_Ru_empty_6 : decode b_Ru_empty 6 = .ok (.iconst 0, 1) := by decide +kernel
theorem d_Ru_empty_7 : decode b_Ru_empty 7 = .ok (.putfield 24, 3) := by decide +kernel
theorem d_Ru_empty_10 : decode b_Ru_empty 10 = .ok (.iload_n 1, 1) := by decide +kernel
theorem d_Ru_empty_11 : decode b_Ru_empty 11 = .ok (.ireturn, 1) := by decide +kernel
set_option maxHeartbeats 4000000 in
set_option maxRecDepth 100000 in
theorem c_Ru_empty (ru rc ra rm rv cnt : Nat) (sz : Nat)  : fs_I l y_Ru_empty (k_Ru_empty :: fs_T) { frames := 0, cells := 0, slots := 0, locals := 0 } (dC, dI) vwCl (fs_tys cI cZ cJ cF) [.ref ru] [(ru, .inr (3, [.ref rc, .ref ra, .ref rm, .ref rv, .int (nI cnt)]))] sz (S := Unit) (fun r _ => r = nI cnt) (fun _ => [(ru, .inr (3, [.ref rc, .ref ra, .ref rm, .ref rv, .int (nI 0)]))]) 0 0 := by
  refine fs_head (by decide) (Nat.le_of_ble_eq_true rfl) ?_
  intro p e s m below meth c A ls hx hb hr hts hown hlocks hin hml hK hP hD hS hA hAe hsz hl
  have hl : lv_has ls 2 [(0, .ref ru)] := hl
  have hown : s.vm.findClass R_Ru = some m.cls := hown
  refine lv_aload_n hx hb d_Ru_empty_0 rfl (lv_at hl 0 rfl) ?_
  refine va_get (D := (dC, dI)) (ci := 3) (v := .int (nI cnt)) (C := R_Ru) (T := T_Ru) (N := 5) hx hb hts uin_Ru hown hK hP 0 rfl rfl 4 (by decide) (hts _ wi_72) (fun _ h9 => h9) rfl d_Ru_empty_1 ?_
  refine lv_istore_n hx hb d_Ru_empty_4 rfl hl (by decide) (lv' := [(1, .int (nI cnt)), (0, .ref ru)]) rfl (fun ls hl => ?_)
  refine lv_aload_n hx hb d_Ru_empty_5 rfl (lv_at hl 1 rfl) ?_
  refine lv_iconst (v := nI 0) hx hb d_Ru_empty_6 (by decide) ?_
  refine va_put (D := (dC, dI)) (ci := 3) (v := .int (nI 0)) (ty := (.int)) (C := R_Ru) (T := T_Ru) (N := 5) hx hb hts uin_Ru t_Ru ok_Ru n_Ru hown hK hP hD hS 0 rfl rfl 4 (by decide) (hts _ wi_72) (fun _ h9 => h9) rfl (by decide +kernel) rfl rfl (Nat.le_of_ble_eq_true rfl) d_Ru_empty_7 (fun H locs hP hD hS => ?_)
  have hP : va_P (dC, dI) vwCl [(ru, .inr (3, [.ref rc, .ref ra, .ref rm, .ref rv, .int (nI 0)]))] H := hP
  have hD : va_D A [(ru, .inr (3, [.ref rc, .ref ra, .ref rm, .ref rv, .int (nI 0)]))] := hD
  refine lv_iload_n hx hb d_Ru_empty_10 rfl (lv_at hl 0 rfl) ?_
  exact fs_iret hx hb hr hlocks hAe hK hS d_Ru_empty_11 () (rfl) hP hD

theorem d_Ru_lengthOf_0 : decode b_Ru_lengthOf 0 = .ok (.aload_n 0, 1) := by decide +kernel
theorem d_Ru_lengthOf_1 : decode b_Ru_lengthOf 1 = .ok (.getfield 15, 3) := by decide +kernel
theorem d_Ru_lengthOf_4 : decode b_Ru_lengthOf 4 = .ok (.iload_n 1, 1) := by decide +kernel
theorem d_Ru_lengthOf_5 : decode b_Ru_lengthOf 5 = .ok (.iaload, 1) := by decide +kernel
theorem d_Ru_lengthOf_6 : decode b_Ru_lengthOf 6 = .ok (.iconst (-1), 1) := by decide +kernel
theorem d_Ru_lengthOf_7 : decode b_Ru_lengthOf 7 = .ok (.if_icmp .ne 7, 3) := by decide +kernel
theorem d_Ru_lengthOf_10 : decode b_Ru_lengthOf 10 = .ok (.iconst 3, 1) := by decide +kernel
theorem d_Ru_lengthOf_11 : decode b_Ru_lengthOf 11 = .ok (.goto 5, 3) := by decide +kernel
theorem d_Ru_lengthOf_14 : decode b_Ru_lengthOf 14 = .ok (.bipush 6, 2) := by decide +kernel
theorem d_Ru_lengthOf_16 : decode b_Ru_lengthOf 16 = .ok (.ireturn, 1) := by decide +kernel
set_option maxHeartbeats 4000000 in
set_option maxRecDepth 100000 in
theorem c_Ru_lengthOf (ru rc ra rm rv cnt r : Nat) (ga : Nat → Int32) (sz : Nat) (hr8 : r < 8) : fs_I l y_Ru_lengthOf (k_Ru_lengthOf :: fs_T) { frames := 0, cells := 0, slots := 0, locals := 0 } (dC, dI) vwCl (fs_tys cI cZ cJ cF) [.ref ru, .int (nI r)] [(ru, .inr (3, [.ref rc, .ref ra, .ref rm, .ref rv, .int (nI cnt)])), (ra, .inl (cI, 8, .inl ga))] sz (S := Unit) (fun z _ => z = nI (fx_len (ga r))) (fun _ => [(ru, .inr (3, [.ref rc, .ref ra, .ref rm, .ref rv, .int (nI cnt)])), (ra, .inl (cI, 8, .inl ga))]) 0 0 := by
  refine fs_head (by decide) (Nat.le_of_ble_eq_true rfl) ?_
  intro p e s m below meth c A ls hx hb hr hts hown hlocks hin hml hK hP hD hS hA hAe hsz hl
  have hl : lv_has ls 2 [(0, .ref ru), (1, .int (nI r))] := hl
  have hown : s.vm.findClass R_Ru = some m.cls := hown
  refine lv_aload_n hx hb d_Ru_lengthOf_0 rfl (lv_at hl 0 rfl) ?_
  refine va_get (D := (dC, dI)) (ci := 3) (v := .ref ra) (C := R_Ru) (T := T_Ru) (N := 5) hx hb hts uin_Ru hown hK hP 0 rfl rfl 1 (by decide) (hts _ wi_69) (fun _ h9 => h9) rfl d_Ru_lengthOf_1 ?_
  refine lv_iload_n hx hb d_Ru_lengthOf_4 rfl (lv_at hl 1 rfl) ?_
  refine fs_iald (v := ga r) hx hb hK hP 1 0 rfl rfl r rfl (by decide) (by omega) rfl d_Ru_lengthOf_5 ?_
  refine lv_iconst (v := (-1)) hx hb d_Ru_lengthOf_6 (by decide) ?_
  refine lv_icmp_ne (tgt := 14) hx hb d_Ru_lengthOf_7 (by decide) (fun hc7 => ?_) (fun hc7 => ?_)
  · refine lv_bipush (v := nI 6) hx hb d_Ru_lengthOf_14 (by decide) ?_
    exact fs_iret hx hb hr hlocks hAe hK hS d_Ru_lengthOf_16 () (by rw [fx_len, if_neg hc7]) hP hD
  refine lv_iconst (v := nI 3) hx hb d_Ru_lengthOf_10 (by decide) ?_
  refine lv_goto (tgt := 16) hx hb d_Ru_lengthOf_11 (by decide) ?_
  exact fs_iret hx hb hr hlocks hAe hK hS d_Ru_lengthOf_16 () (by rw [fx_len, if_pos hc7]) hP hD

theorem d_Ru_translatedLength_0 : decode b_Ru_translatedLength 0 = .ok (.iconst 1, 1) := by decide +kernel
theorem d_Ru_translatedLength_1 : decode b_Ru_translatedLength 1 = .ok (.istore_n 1, 1) := by decide +kernel
theorem d_Ru_translatedLength_2 : decode b_Ru_translatedLength 2 = .ok (.iconst 0, 1) := by decide +kernel
theorem d_Ru_translatedLength_3 : decode b_Ru_translatedLength 3 = .ok (.istore_n 2, 1) := by decide +kernel
theorem d_Ru_translatedLength_4 : decode b_Ru_translatedLength 4 = .ok (.iload_n 2, 1) := by decide +kernel
theorem d_Ru_translatedLength_5 : decode b_Ru_translatedLength 5 = .ok (.aload_n 0, 1) := by decide +kernel
theorem d_Ru_translatedLength_6 : decode b_Ru_translatedLength 6 = .ok (.getfield 24, 3) := by decide +kernel
theorem d_Ru_translatedLength_9 : decode b_Ru_translatedLength 9 = .ok (.if_icmp .ge 17, 3) := by decide +kernel
theorem d_Ru_translatedLength_12 : decode b_Ru_translatedLength 12 = .ok (.iload_n 1, 1) := by decide +kernel
theorem d_Ru_translatedLength_13 : decode b_Ru_translatedLength 13 = .ok (.aload_n 0, 1) := by decide +kernel
theorem d_Ru_translatedLength_14 : decode b_Ru_translatedLength 14 = .ok (.iload_n 2, 1) := by decide +kernel
theorem d_Ru_translatedLength_15 : decode b_Ru_translatedLength 15 = .ok (.invokevirtual 28, 3) := by decide +kernel
theorem d_Ru_translatedLength_18 : decode b_Ru_translatedLength 18 = .ok (.iadd, 1) := by decide +kernel
theorem d_Ru_translatedLength_19 : decode b_Ru_translatedLength 19 = .ok (.istore_n 1, 1) := by decide +kernel
theorem d_Ru_translatedLength_20 : decode b_Ru_translatedLength 20 = .ok (.iinc 2 1, 3) := by decide +kernel
theorem d_Ru_translatedLength_23 : decode b_Ru_translatedLength 23 = .ok (.goto (-19), 3) := by decide +kernel
theorem d_Ru_translatedLength_26 : decode b_Ru_translatedLength 26 = .ok (.iload_n 1, 1) := by decide +kernel
theorem d_Ru_translatedLength_27 : decode b_Ru_translatedLength 27 = .ok (.ireturn, 1) := by decide +kernel
set_option maxHeartbeats 4000000 in
set_option maxRecDepth 100000 in
theorem c_Ru_translatedLength (ru rc ra rm rv cnt : Nat) (gc ga gm gv : Nat → Int32) (rs : List fx_Rule) (sz : Nat) (hcnt : cnt = rs.length) (hc8 : cnt ≤ 8) (hrr : fx_rrep rs gc ga gm gv) : fs_I l y_Ru_translatedLength (k_Ru_translatedLength :: fs_T) { frames := 1, cells := 0, slots := 0, locals := 21 } (dC, dI) vwCl (fs_tys cI cZ cJ cF) [.ref ru] [(ru, .inr (3, [.ref rc, .ref ra, .ref rm, .ref rv, .int (nI cnt)])), (rc, .inl (cI, 8, .inl gc)), (ra, .inl (cI, 8, .inl ga)), (rm, .inl (cI, 8, .inl gm)), (rv, .inl (cI, 8, .inl gv))] sz (S := Unit) (fun z _ => z = nI (1 + (rs.flatMap fx_one).length)) (fun _ => [(ru, .inr (3, [.ref rc, .ref ra, .ref rm, .ref rv, .int (nI cnt)])), (rc, .inl (cI, 8, .inl gc)), (ra, .inl (cI, 8, .inl ga)), (rm, .inl (cI, 8, .inl gm)), (rv, .inl (cI, 8, .inl gv))]) 0 0 := by
  refine fs_head (by decide) (Nat.le_of_ble_eq_true rfl) ?_
  intro p e s m below meth c A ls hx hb hr hts hown hlocks hin hml hK hP hD hS hA hAe hsz hl
  have hl : lv_has ls 3 [(0, .ref ru)] := hl
  have hown : s.vm.findClass R_Ru = some m.cls := hown
  refine lv_iconst (v := nI 1) hx hb d_Ru_translatedLength_0 (by decide) ?_
  refine lv_istore_n hx hb d_Ru_translatedLength_1 rfl hl (by decide) (lv' := [(1, .int (nI 1)), (0, .ref ru)]) rfl (fun ls hl => ?_)
  refine lv_iconst (v := nI 0) hx hb d_Ru_translatedLength_2 (by decide) ?_
  refine lv_istore_n hx hb d_Ru_translatedLength_3 rfl hl (by decide) (lv' := [(2, .int (nI 0)), (1, .int (nI 1)), (0, .ref ru)]) rfl (fun ls hl => ?_)
  refine fs_loop2 (α1 := Nat) (α2 := Nat) (fun r acc => cnt - r) (fun r acc H locs ls => (r ≤ cnt) ∧ (acc = 1 + ((rs.take r).flatMap fx_one).length) ∧ va_P (dC, dI) vwCl [(ru, .inr (3, [.ref rc, .ref ra, .ref rm, .ref rv, .int (nI cnt)])), (rc, .inl (cI, 8, .inl gc)), (ra, .inl (cI, 8, .inl ga)), (rm, .inl (cI, 8, .inl gm)), (rv, .inl (cI, 8, .inl gv))] H ∧ va_D A [(ru, .inr (3, [.ref rc, .ref ra, .ref rm, .ref rv, .int (nI cnt)])), (rc, .inl (cI, 8, .inl gc)), (ra, .inl (cI, 8, .inl ga)), (rm, .inl (cI, 8, .inl gm)), (rv, .inl (cI, 8, .inl gv))] ∧ va_S A s.heap H locs ∧ lv_has ls 3 [(0, .ref ru), (1, .int (nI acc)), (2, .int (nI r))]) ?_ 0 1 ⟨by omega, by simp, hP, hD, hS, lv_sub hl [2, 1, 0] rfl⟩
  intro r acc H locs ls hI ih4
  obtain ⟨hrc, hacc, hP, hD, hS, hl⟩ := hI
  have hfl := fx_flat_le (rs.take r)
  have htl : (rs.take r).length ≤ rs.length := (by rw [List.length_take]; omega)
  refine lv_iload_n hx hb d_Ru_translatedLength_4 rfl (lv_at hl 2 rfl) ?_
  refine lv_aload_n hx hb d_Ru_translatedLength_5 rfl (lv_at hl 0 rfl) ?_
  refine va_get (D := (dC, dI)) (ci := 3) (v := .int (nI cnt)) (C := R_Ru) (T := T_Ru) (N := 5) hx hb hts uin_Ru hown hK hP 0 rfl rfl 4 (by decide) (hts _ wi_72) (fun _ h9 => h9) rfl d_Ru_translatedLength_6 ?_
  refine lv_icmp_ge (tgt := 26) hx hb d_Ru_translatedLength_9 (by decide) (fun hc9 => ?_) (fun hc9 => ?_)
  · rw [nI_leI (by omega) (by omega)] at hc9
    refine lv_iload_n hx hb d_Ru_translatedLength_26 rfl (lv_at hl 1 rfl) ?_
    exact fs_iret hx hb hr hlocks hAe hK hS d_Ru_translatedLength_27 () (by rw [hacc, List.take_of_length_le (by omega)]) hP hD
  rw [nI_leI (by omega) (by omega)] at hc9
  refine lv_iload_n hx hb d_Ru_translatedLength_12 rfl (lv_at hl 1 rfl) ?_
  refine lv_aload_n hx hb d_Ru_translatedLength_13 rfl (lv_at hl 0 rfl) ?_
  refine lv_iload_n hx hb d_Ru_translatedLength_14 rfl (lv_at hl 2 rfl) ?_
  refine fs_calli (wc := [(ru, .inr (3, [.ref rc, .ref ra, .ref rm, .ref rv, .int (nI cnt)])), (ra, .inl (cI, 8, .inl ga))]) (wr := [(rc, .inl (cI, 8, .inl gc)), (rm, .inl (cI, 8, .inl gm)), (rv, .inl (cI, 8, .inl gv))]) [0, 2] [1, 3, 4] hP hD hK hS hA rfl rfl rfl (by decide) (fun hPc hDc => va_runV (C := R_Ru) (As := [.int (nI r)]) (rest := [.int (nI acc)]) ⟨hx, hb, hml, hown, hts⟩ (c_Ru_lengthOf ru rc ra rm rv cnt r ga _ (by omega)) (⟨callB_of 1 hts (fs_g kin_Ru_lengthOf) rfl rfl rfl (hts _ wi_3) (hts _ wi_254) (by decide +kernel) ⟨Nat.le_of_ble_eq_true rfl, Nat.le_of_ble_eq_true rfl⟩, hts _ wi_256, hts _ sel_Ru_lengthOf⟩) (fs_preV (q0 := 0) rfl rfl hPc hK hDc) rfl rfl hl.1 rfl (lv_room (Nat.le_of_ble_eq_true rfl)) d_Ru_translatedLength_15 ⟨Nat.le_of_ble_eq_true rfl, Nat.le_of_ble_eq_true rfl⟩) rfl (fun r15 _ H locs hp15 hP hD hS => ?_)
  have hP : va_P (dC, dI) vwCl [(ru, .inr (3, [.ref rc, .ref ra, .ref rm, .ref rv, .int (nI cnt)])), (rc, .inl (cI, 8, .inl gc)), (ra, .inl (cI, 8, .inl ga)), (rm, .inl (cI, 8, .inl gm)), (rv, .inl (cI, 8, .inl gv))] H := hP.sub [3, 0, 4, 1, 2] rfl
  have hD : va_D A [(ru, .inr (3, [.ref rc, .ref ra, .ref rm, .ref rv, .int (nI cnt)])), (rc, .inl (cI, 8, .inl gc)), (ra, .inl (cI, 8, .inl ga)), (rm, .inl (cI, 8, .inl gm)), (rv, .inl (cI, 8, .inl gv))] := hD.sub [3, 0, 4, 1, 2] (by decide) rfl
  subst hp15
  have hl6 := fx_len_le (ga r)
  refine lv_iadd hx hb d_Ru_translatedLength_18 ?_
  refine fs_eqi (nI_add _ _) ?_
  refine lv_istore_n hx hb d_Ru_translatedLength_19 rfl hl (by decide) (lv' := [(1, .int (nI (acc + fx_len (ga r)))), (0, .ref ru), (2, .int (nI r))]) rfl (fun ls hl => ?_)
  refine lv_iinc (v := nI (r + 1)) (k := 2) hx hb d_Ru_translatedLength_20 hl rfl (fs_incN r 1) (by decide) (lv' := [(2, .int (nI (r + 1))), (1, .int (nI (acc + fx_len (ga r)))), (0, .ref ru)]) rfl (fun ls hl => ?_)
  refine lv_goto (tgt := 4) hx hb d_Ru_translatedLength_23 (by decide) ?_
  exact ih4 (r + 1) (acc + fx_len (ga r)) _ _ _ (by omega) ⟨by omega, by rw [fx_take hrr (by omega), List.length_append, fx_one_len, hacc]; dsimp only; omega, hP, hD, hS, lv_sub hl [2, 1, 0] rfl⟩

theorem d_Ru_translateOne_0 : decode b_Ru_translateOne 0 = .ok (.aload_n 1, 1) := by decide +kernel
theorem d_Ru_translateOne_1 : decode b_Ru_translateOne 1 = .ok (.iconst 0, 1) := by decide +kernel
theorem d_Ru_translateOne_2 : decode b_Ru_translateOne 2 = .ok (.iconst 0, 1) := by decide +kernel
theorem d_Ru_translateOne_3 : decode b_Ru_translateOne 3 = .ok (.iconst 0, 1) := by decide +kernel
theorem d_Ru_translateOne_4 : decode b_Ru_translateOne 4 = .ok (.iconst 0, 1) := by decide +kernel
theorem d_Ru_translateOne_5 : decode b_Ru_translateOne 5 = .ok (.invokevirtual 42, 3) := by decide +kernel
theorem d_Ru_translateOne_8 : decode b_Ru_translateOne 8 = .ok (.pop, 1) := by decide +kernel
theorem d_Ru_translateOne_9 : decode b_Ru_translateOne 9 = .ok (.aload_n 1, 1) := by decide +kernel
theorem d_Ru_translateOne_10 : decode b_Ru_translateOne 10 = .ok (.bipush 26, 2) := by decide +kernel
theorem d_Ru_translateOne_12 : decode b_Ru_translateOne 12 = .ok (.iconst 0, 1) := by decide +kernel
theorem d_Ru_translateOne_13 : decode b_Ru_translateOne 13 = .ok (.aload_n 0, 1) := by decide +kernel
theorem d_Ru_translateOne_14 : decode b_Ru_translateOne 14 = .ok (.iload_n 2, 1) := by decide +kernel
theorem d_Ru_translateOne_15 : decode b_Ru_translateOne 15 = .ok (.invokevirtual 28, 3) := by decide +kernel
theorem d_Ru_translateOne_18 : decode b_Ru_translateOne 18 = .ok (.iconst 2, 1) := by decide +kernel
theorem d_Ru_translateOne_19 : decode b_Ru_translateOne 19 = .ok (.isub, 1) := by decide +kernel
theorem d_Ru_translateOne_20 : decode b_Ru_translateOne 20 = .ok (.aload_n 0, 1) := by decide +kernel
theorem d_Ru_translateOne_21 : decode b_Ru_translateOne 21 = .ok (.getfield 9, 3) := by decide +kernel
theorem d_Ru_translateOne_24 : decode b_Ru_translateOne 24 = .ok (.iload_n 2, 1) := by decide +kernel
theorem d_Ru_translateOne_25 : decode b_Ru_translateOne 25 = .ok (.iaload, 1) := by decide +kernel
theorem d_Ru_translateOne_26 : decode b_Ru_translateOne 26 = .ok (.invokevirtual 42, 3) := by decide +kernel
theorem d_Ru_translateOne_29 : decode b_Ru_translateOne 29 = .ok (.pop, 1) := by decide +kernel
theorem d_Ru_translateOne_30 : decode b_Ru_translateOne 30 = .ok (.aload_n 0, 1) := by decide +kernel
theorem d_Ru_translateOne_31 : decode b_Ru_translateOne 31 = .ok (.getfield 15, 3) := by decide +kernel
theorem d_Ru_translateOne_34 : decode b_Ru_translateOne 34 = .ok (.iload_n 2, 1) := by decide +kernel
theorem d_Ru_translateOne_35 : decode b_Ru_translateOne 35 = .ok (.iaload, 1) := by decide +kernel
theorem d_Ru_translateOne_36 : decode b_Ru_translateOne 36 = .ok (.iconst (-1), 1) := by decide +kernel
theorem d_Ru_translateOne_37 : decode b_Ru_translateOne 37 = .ok (.if_icmp .eq 49, 3) := by decide +kernel
theorem d_Ru_translateOne_40 : decode b_Ru_translateOne 40 = .ok (.aload_n 1, 1) := by decide +kernel
theorem d_Ru_translateOne_41 : decode b_Ru_translateOne 41 = .ok (.iconst 0, 1) := by decide +kernel
theorem d_Ru_translateOne_42 : decode b_Ru_translateOne 42 = .ok (.iconst 0, 1) := by decide +kernel
theorem d_Ru_translateOne_43 : decode b_Ru_translateOne 43 = .ok (.iconst 0, 1) := by decide +kernel
theorem d_Ru_translateOne_44 : decode b_Ru_translateOne 44 = .ok (.iconst 4, 1) := by decide +kernel
theorem d_Ru_translateOne_45 : decode b_Ru_translateOne 45 = .ok (.aload_n 0, 1) := by decide +kernel
theorem d_Ru_translateOne_46 : decode b_Ru_translateOne 46 = .ok (.getfield 15, 3) := by decide +kernel
theorem d_Ru_translateOne_49 : decode b_Ru_translateOne 49 = .ok (.iload_n 2, 1) := by decide +kernel
theorem d_Ru_translateOne_50 : decode b_Ru_translateOne 50 = .ok (.iaload, 1) := by decide +kernel
theorem d_Ru_translateOne_51 : decode b_Ru_translateOne 51 = .ok (.iadd, 1) := by decide +kernel
theorem d_Ru_translateOne_52 : decode b_Ru_translateOne 52 = .ok (.invokevirtual 42, 3) := by decide +kernel
theorem d_Ru_translateOne_55 : decode b_Ru_translateOne 55 = .ok (.pop, 1) := by decide +kernel
theorem d_Ru_translateOne_56 : decode b_Ru_translateOne 56 = .ok (.aload_n 1, 1) := by decide +kernel
theorem d_Ru_translateOne_57 : decode b_Ru_translateOne 57 = .ok (.bipush 14, 2) := by decide +kernel
theorem d_Ru_translateOne_59 : decode b_Ru_translateOne 59 = .ok (.iconst 0, 1) := by decide +kernel
theorem d_Ru_translateOne_60 : decode b_Ru_translateOne 60 = .ok (.iconst 0, 1) := by decide +kernel
theorem d_Ru_translateOne_61 : decode b_Ru_translateOne 61 = .ok (.aload_n 0, 1) := by decide +kernel
theorem d_Ru_translateOne_62 : decode b_Ru_translateOne 62 = .ok (.getfield 18, 3) := by decide +kernel
theorem d_Ru_translateOne_65 : decode b_Ru_translateOne 65 = .ok (.iload_n 2, 1) := by decide +kernel
theorem d_Ru_translateOne_66 : decode b_Ru_translateOne 66 = .ok (.iaload, 1) := by decide +kernel
theorem d_Ru_translateOne_67 : decode b_Ru_translateOne 67 = .ok (.invokevirtual 42, 3) := by decide +kernel
theorem d_Ru_translateOne_70 : decode b_Ru_translateOne 70 = .ok (.pop, 1) := by decide +kernel
theorem d_Ru_translateOne_71 : decode b_Ru_translateOne 71 = .ok (.aload_n 1, 1) := by decide +kernel
theorem d_Ru_translateOne_72 : decode b_Ru_translateOne 72 = .ok (.bipush 26, 2) := by decide +kernel
theorem d_Ru_translateOne_74 : decode b_Ru_translateOne 74 = .ok (.iconst 0, 1) := by decide +kernel
theorem d_Ru_translateOne_75 : decode b_Ru_translateOne 75 = .ok (.iconst 1, 1) := by decide +kernel
theorem d_Ru_translateOne_76 : decode b_Ru_translateOne 76 = .ok (.aload_n 0, 1) := by decide +kernel
theorem d_Ru_translateOne_77 : decode b_Ru_translateOne 77 = .ok (.getfield 21, 3) := by decide +kernel
theorem d_Ru_translateOne_80 : decode b_Ru_translateOne 80 = .ok (.iload_n 2, 1) := by decide +kernel
theorem d_Ru_translateOne_81 : decode b_Ru_translateOne 81 = .ok (.iaload, 1) := by decide +kernel
theorem d_Ru_translateOne_82 : decode b_Ru_translateOne 82 = .ok (.invokevirtual 42, 3) := by decide +kernel
theorem d_Ru_translateOne_85 : decode b_Ru_translateOne 85 = .ok (.pop, 1) := by decide +kernel
theorem d_Ru_translateOne_86 : decode b_Ru_translateOne 86 = .ok (.aload_n 1, 1) := by decide +kernel
theorem d_Ru_translateOne_87 : decode b_Ru_translateOne 87 = .ok (.bipush 31, 2) := by decide +kernel
theorem d_Ru_translateOne_89 : decode b_Ru_translateOne 89 = .ok (.iconst 0, 1) := by decide +kernel
theorem d_Ru_translateOne_90 : decode b_Ru_translateOne 90 = .ok (.iconst 0, 1) := by decide +kernel
theorem d_Ru_translateOne_91 : decode b_Ru_translateOne 91 = .ok (.ldc 46, 2) := by decide +kernel
theorem d_Ru_translateOne_93 : decode b_Ru_translateOne 93 = .ok (.invokevirtual 42, 3) := by decide +kernel
theorem d_Ru_translateOne_96 : decode b_Ru_translateOne 96 = .ok (.pop, 1) := by decide +kernel
theorem d_Ru_translateOne_97 : decode b_Ru_translateOne 97 = .ok (.return_, 1) := by decide +kernel
set_option maxHeartbeats 4000000 in
set_option maxRecDepth 100000 in
theorem c_Ru_translateOneP (ru rc ra rm rv cnt : Nat) (gc ga gm gv : Nat → Int32) (q o y n k : Nat) (fo fy fn fk : Nat → Int32) (L : fx_Prg) (r : Nat) (sz : Nat) (hrep : fx_rep L fo fy fn fk) (hr8 : r < 8) (hv : ga r = -1) (hl0 : L.length + fx_len (ga r) ≤ 39) : fs_V l y_Ru_translateOne (k_Ru_translateOne :: fs_T) { frames := 1, cells := 0, slots := 0, locals := 24 } (dC, dI) vwCl (fs_tys cI cZ cJ cF) [.ref ru, .ref q, .int (nI r)] [(ru, .inr (3, [.ref rc, .ref ra, .ref rm, .ref rv, .int (nI cnt)])), (rc, .inl (cI, 8, .inl gc)), (ra, .inl (cI, 8, .inl ga)), (rm, .inl (cI, 8, .inl gm)), (rv, .inl (cI, 8, .inl gv)), (q, .inr (1, [.ref o, .ref y, .ref n, .ref k, .int (nI L.length)])), (o, .inl (cI, 40, .inl fo)), (y, .inl (cI, 40, .inl fy)), (n, .inl (cI, 40, .inl fn)), (k, .inl (cI, 40, .inl fk))] sz (S := (Nat → Int32) × (Nat → Int32) × (Nat → Int32) × (Nat → Int32)) (fun u => fx_rep (L ++ fx_one (gc r, ga r, gm r, gv r)) u.1 u.2.1 u.2.2.1 u.2.2.2) (fun u => [(ru, .inr (3, [.ref rc, .ref ra, .ref rm, .ref rv, .int (nI cnt)])), (rc, .inl (cI, 8, .inl gc)), (ra, .inl (cI, 8, .inl ga)), (rm, .inl (cI, 8, .inl gm)), (rv, .inl (cI, 8, .inl gv)), (q, .inr (1, [.ref o, .ref y, .ref n, .ref k, .int (nI ((L ++ fx_one (gc r, ga r, gm r, gv r)).length))])), (o, .inl (cI, 40, .inl u.1)), (y, .inl (cI, 40, .inl u.2.1)), (n, .inl (cI, 40, .inl u.2.2.1)), (k, .inl (cI, 40, .inl u.2.2.2))]) 0 0 := by
  refine fs_head (by decide) (Nat.le_of_ble_eq_true rfl) ?_
  intro p e s m below meth c A ls hx hb hr hts hown hlocks hin hml hK hP hD hS hA hAe hsz hl
  have hl : lv_has ls 3 [(0, .ref ru), (1, .ref q), (2, .int (nI r))] := hl
  have hown : s.vm.findClass R_Ru = some m.cls := hown
  have hl9 : L.length + 3 ≤ 39 := by rw [fx_len, if_pos hv] at hl0; exact hl0
  refine lv_aload_n hx hb d_Ru_translateOne_0 rfl (lv_at hl 1 rfl) ?_
  refine lv_iconst (v := nI 0) hx hb d_Ru_translateOne_1 (by decide) ?_
  refine lv_iconst (v := nI 0) hx hb d_Ru_translateOne_2 (by decide) ?_
  refine lv_iconst (v := nI 0) hx hb d_Ru_translateOne_3 (by decide) ?_
  refine lv_iconst (v := nI 0) hx hb d_Ru_translateOne_4 (by decide) ?_
  refine fs_calli (wc := [(q, .inr (1, [.ref o, .ref y, .ref n, .ref k, .int (nI L.length)])), (o, .inl (cI, 40, .inl fo)), (y, .inl (cI, 40, .inl fy)), (n, .inl (cI, 40, .inl fn)), (k, .inl (cI, 40, .inl fk))]) (wr := [(ru, .inr (3, [.ref rc, .ref ra, .ref rm, .ref rv, .int (nI cnt)])), (rc, .inl (cI, 8, .inl gc)), (ra, .inl (cI, 8, .inl ga)), (rm, .inl (cI, 8, .inl gm)), (rv, .inl (cI, 8, .inl gv))]) [5, 6, 7, 8, 9] [0, 1, 2, 3, 4] hP hD hK hS hA rfl rfl rfl (by decide) (fun hPc hDc => va_runV (C := R_Fi) (As := [.int (nI 0), .int (nI 0), .int (nI 0), .int (nI 0)]) (rest := []) ⟨hx, hb, hml, hown, hts⟩ (c_Fi_append q o y n k L.length fo fy fn fk (nI 0) (nI 0) (nI 0) (nI 0) _ (by omega)) (⟨callB_of 4 hts (fs_g kin_Fi_append) rfl rfl rfl (hts _ wi_2) (hts _ wi_267) (by decide +kernel) ⟨Nat.le_of_ble_eq_true rfl, Nat.le_of_ble_eq_true rfl⟩, hts _ wi_147, hts _ wi_148⟩) (fs_preV (q0 := 0) rfl rfl hPc hK hDc) rfl rfl hl.1 rfl (lv_room (Nat.le_of_ble_eq_true rfl)) d_Ru_translateOne_5 ⟨Nat.le_of_ble_eq_true rfl, Nat.le_of_ble_eq_true rfl⟩) rfl (fun r5 _ H locs hp5 hP hD hS => ?_)
  have hP : va_P (dC, dI) vwCl [(ru, .inr (3, [.ref rc, .ref ra, .ref rm, .ref rv, .int (nI cnt)])), (rc, .inl (cI, 8, .inl gc)), (ra, .inl (cI, 8, .inl ga)), (rm, .inl (cI, 8, .inl gm)), (rv, .inl (cI, 8, .inl gv)), (q, .inr (1, [.ref o, .ref y, .ref n, .ref k, .int (nI (L.length + 1))])), (o, .inl (cI, 40, .inl (upd fo L.length (nI 0)))), (y, .inl (cI, 40, .inl (upd fy L.length (nI 0)))), (n, .inl (cI, 40, .inl (upd fn L.length (nI 0)))), (k, .inl (cI, 40, .inl (upd fk L.length (nI 0))))] H := hP
  have hD : va_D A [(ru, .inr (3, [.ref rc, .ref ra, .ref rm, .ref rv, .int (nI cnt)])), (rc, .inl (cI, 8, .inl gc)), (ra, .inl (cI, 8, .inl ga)), (rm, .inl (cI, 8, .inl gm)), (rv, .inl (cI, 8, .inl gv)), (q, .inr (1, [.ref o, .ref y, .ref n, .ref k, .int (nI (L.length + 1))])), (o, .inl (cI, 40, .inl (upd fo L.length (nI 0)))), (y, .inl (cI, 40, .inl (upd fy L.length (nI 0)))), (n, .inl (cI, 40, .inl (upd fn L.length (nI 0)))), (k, .inl (cI, 40, .inl (upd fk L.length (nI 0))))] := hD
  subst hp5
  refine lv_pop hx hb d_Ru_translateOne_8 rfl ?_
  refine lv_aload_n hx hb d_Ru_translateOne_9 rfl (lv_at hl 1 rfl) ?_
  refine lv_bipush (v := nI 26) hx hb d_Ru_translateOne_10 (by decide) ?_
  refine lv_iconst (v := nI 0) hx hb d_Ru_translateOne_12 (by decide) ?_
  refine lv_aload_n hx hb d_Ru_translateOne_13 rfl (lv_at hl 0 rfl) ?_
  refine lv_iload_n hx hb d_Ru_translateOne_14 rfl (lv_at hl 2 rfl) ?_
  refine fs_calli (wc := [(ru, .inr (3, [.ref rc, .ref ra, .ref rm, .ref rv, .int (nI cnt)])), (ra, .inl (cI, 8, .inl ga))]) (wr := [(rc, .inl (cI, 8, .inl gc)), (rm, .inl (cI, 8, .inl gm)), (rv, .inl (cI, 8, .inl gv)), (q, .inr (1, [.ref o, .ref y, .ref n, .ref k, .int (nI (L.length + 1))])), (o, .inl (cI, 40, .inl (upd fo L.length (nI 0)))), (y, .inl (cI, 40, .inl (upd fy L.length (nI 0)))), (n, .inl (cI, 40, .inl (upd fn L.length (nI 0)))), (k, .inl (cI, 40, .inl (upd fk L.length (nI 0))))]) [0, 2] [1, 3, 4, 5, 6, 7, 8, 9] hP hD hK hS hA rfl rfl rfl (by decide) (fun hPc hDc => va_runV (C := R_Ru) (As := [.int (nI r)]) (rest := [.int (nI 0), .int (nI 26), .ref q]) ⟨hx, hb, hml, hown, hts⟩ (c_Ru_lengthOf ru rc ra rm rv cnt r ga _ (by omega)) (⟨callB_of 1 hts (fs_g kin_Ru_lengthOf) rfl rfl rfl (hts _ wi_3) (hts _ wi_254) (by decide +kernel) ⟨Nat.le_of_ble_eq_true rfl, Nat.le_of_ble_eq_true rfl⟩, hts _ wi_256, hts _ sel_Ru_lengthOf⟩) (fs_preV (q0 := 0) rfl rfl hPc hK hDc) rfl rfl hl.1 rfl (lv_room (Nat.le_of_ble_eq_true rfl)) d_Ru_translateOne_15 ⟨Nat.le_of_ble_eq_true rfl, Nat.le_of_ble_eq_true rfl⟩) rfl (fun r15 _ H locs hp15 hP hD hS => ?_)
  have hP : va_P (dC, dI) vwCl [(ru, .inr (3, [.ref rc, .ref ra, .ref rm, .ref rv, .int (nI cnt)])), (rc, .inl (cI, 8, .inl gc)), (ra, .inl (cI, 8, .inl ga)), (rm, .inl (cI, 8, .inl gm)), (rv, .inl (cI, 8, .inl gv)), (q, .inr (1, [.ref o, .ref y, .ref n, .ref k, .int (nI (L.length + 1))])), (o, .inl (cI, 40, .inl (upd fo L.length (nI 0)))), (y, .inl (cI, 40, .inl (upd fy L.length (nI 0)))), (n, .inl (cI, 40, .inl (upd fn L.length (nI 0)))), (k, .inl (cI, 40, .inl (upd fk L.length (nI 0))))] H := hP.sub [8, 0, 9, 1, 2, 3, 4, 5, 6, 7] rfl
  have hD : va_D A [(ru, .inr (3, [.ref rc, .ref ra, .ref rm, .ref rv, .int (nI cnt)])), (rc, .inl (cI, 8, .inl gc)), (ra, .inl (cI, 8, .inl ga)), (rm, .inl (cI, 8, .inl gm)), (rv, .inl (cI, 8, .inl gv)), (q, .inr (1, [.ref o, .ref y, .ref n, .ref k, .int (nI (L.length + 1))])), (o, .inl (cI, 40, .inl (upd fo L.length (nI 0)))), (y, .inl (cI, 40, .inl (upd fy L.length (nI 0)))), (n, .inl (cI, 40, .inl (upd fn L.length (nI 0)))), (k, .inl (cI, 40, .inl (upd fk L.length (nI 0))))] := hD.sub [8, 0, 9, 1, 2, 3, 4, 5, 6, 7] (by decide) rfl
  subst hp15
  refine fs_eqi (v := nI 3) (by rw [fx_len, if_pos hv]) ?_
  refine lv_iconst (v := nI 2) hx hb d_Ru_translateOne_18 (by decide) ?_
  refine lv_isub hx hb d_Ru_translateOne_19 ?_
  refine fs_eqi (pk_sub (by omega)) ?_
  refine fs_eqi (v := nI 1) rfl ?_
  refine lv_aload_n hx hb d_Ru_translateOne_20 rfl (lv_at hl 0 rfl) ?_
  refine va_get (D := (dC, dI)) (ci := 3) (v := .ref rc) (C := R_Ru) (T := T_Ru) (N := 5) hx hb hts uin_Ru hown hK hP 0 rfl rfl 0 (by decide) (hts _ wi_68) (fun _ h9 => h9) rfl d_Ru_translateOne_21 ?_
  refine lv_iload_n hx hb d_Ru_translateOne_24 rfl (lv_at hl 2 rfl) ?_
  refine fs_iald (v := gc r) hx hb hK hP 1 0 rfl rfl r rfl (by decide) (by omega) rfl d_Ru_translateOne_25 ?_
  refine fs_calli (wc := [(q, .inr (1, [.ref o, .ref y, .ref n, .ref k, .int (nI (L.length + 1))])), (o, .inl (cI, 40, .inl (upd fo L.length (nI 0)))), (y, .inl (cI, 40, .inl (upd fy L.length (nI 0)))), (n, .inl (cI, 40, .inl (upd fn L.length (nI 0)))), (k, .inl (cI, 40, .inl (upd fk L.length (nI 0))))]) (wr := [(ru, .inr (3, [.ref rc, .ref ra, .ref rm, .ref rv, .int (nI cnt)])), (rc, .inl (cI, 8, .inl gc)), (ra, .inl (cI, 8, .inl ga)), (rm, .inl (cI, 8, .inl gm)), (rv, .inl (cI, 8, .inl gv))]) [5, 6, 7, 8, 9] [0, 1, 2, 3, 4] hP hD hK hS hA rfl rfl rfl (by decide) (fun hPc hDc => va_runV (C := R_Fi) (As := [.int (nI 26), .int (nI 0), .int (nI 1), .int (gc r)]) (rest := []) ⟨hx, hb, hml, hown, hts⟩ (c_Fi_append q o y n k (L.length + 1) (upd fo L.length (nI 0)) (upd fy L.length (nI 0)) (upd fn L.length (nI 0)) (upd fk L.length (nI 0)) (nI 26) (nI 0) (nI 1) (gc r) _ (by omega)) (⟨callB_of 4 hts (fs_g kin_Fi_append) rfl rfl rfl (hts _ wi_2) (hts _ wi_267) (by decide +kernel) ⟨Nat.le_of_ble_eq_true rfl, Nat.le_of_ble_eq_true rfl⟩, hts _ wi_147, hts _ wi_148⟩) (fs_preV (q0 := 0) rfl rfl hPc hK hDc) rfl rfl hl.1 rfl (lv_room (Nat.le_of_ble_eq_true rfl)) d_Ru_translateOne_26 ⟨Nat.le_of_ble_eq_true rfl, Nat.le_of_ble_eq_true rfl⟩) rfl (fun r26 _ H locs hp26 hP hD hS => ?_)
  have hP : va_P (dC, dI) vwCl [(ru, .inr (3, [.ref rc, .ref ra, .ref rm, .ref rv, .int (nI cnt)])), (rc, .inl (cI, 8, .inl gc)), (ra, .inl (cI, 8, .inl ga)), (rm, .inl (cI, 8, .inl gm)), (rv, .inl (cI, 8, .inl gv)), (q, .inr (1, [.ref o, .ref y, .ref n, .ref k, .int (nI (L.length + 1 + 1))])), (o, .inl (cI, 40, .inl (upd (upd fo L.length (nI 0)) (L.length + 1) (nI 26)))), (y, .inl (cI, 40, .inl (upd (upd fy L.length (nI 0)) (L.length + 1) (nI 0)))), (n, .inl (cI, 40, .inl (upd (upd fn L.length (nI 0)) (L.length + 1) (nI 1)))), (k, .inl (cI, 40, .inl (upd (upd fk L.length (nI 0)) (L.length + 1) (gc r))))] H := hP
  have hD : va_D A [(ru, .inr (3, [.ref rc, .ref ra, .ref rm, .ref rv, .int (nI cnt)])), (rc, .inl (cI, 8, .inl gc)), (ra, .inl (cI, 8, .inl ga)), (rm, .inl (cI, 8, .inl gm)), (rv, .inl (cI, 8, .inl gv)), (q, .inr (1, [.ref o, .ref y, .ref n, .ref k, .int (nI (L.length + 1 + 1))])), (o, .inl (cI, 40, .inl (upd (upd fo L.length (nI 0)) (L.length + 1) (nI 26)))), (y, .inl (cI, 40, .inl (upd (upd fy L.length (nI 0)) (L.length + 1) (nI 0)))), (n, .inl (cI, 40, .inl (upd (upd fn L.length (nI 0)) (L.length + 1) (nI 1)))), (k, .inl (cI, 40, .inl (upd (upd fk L.length (nI 0)) (L.length + 1) (gc r))))] := hD
  subst hp26
  refine lv_pop hx hb d_Ru_translateOne_29 rfl ?_
  refine lv_aload_n hx hb d_Ru_translateOne_30 rfl (lv_at hl 0 rfl) ?_
  refine va_get (D := (dC, dI)) (ci := 3) (v := .ref ra) (C := R_Ru) (T := T_Ru) (N := 5) hx hb hts uin_Ru hown hK hP 0 rfl rfl 1 (by decide) (hts _ wi_69) (fun _ h9 => h9) rfl d_Ru_translateOne_31 ?_
  refine lv_iload_n hx hb d_Ru_translateOne_34 rfl (lv_at hl 2 rfl) ?_
  refine fs_iald (v := ga r) hx hb hK hP 2 0 rfl rfl r rfl (by decide) (by omega) rfl d_Ru_translateOne_35 ?_
  refine lv_iconst (v := (-1)) hx hb d_Ru_translateOne_36 (by decide) ?_
  refine lv_icmp_eq (tgt := 86) hx hb d_Ru_translateOne_37 (by decide) (fun hc37 => ?_) (fun hc37 => absurd hv hc37)
  refine lv_aload_n hx hb d_Ru_translateOne_86 rfl (lv_at hl 1 rfl) ?_
  refine lv_bipush (v := nI 31) hx hb d_Ru_translateOne_87 (by decide) ?_
  refine lv_iconst (v := nI 0) hx hb d_Ru_translateOne_89 (by decide) ?_
  refine lv_iconst (v := nI 0) hx hb d_Ru_translateOne_90 (by decide) ?_
  refine lv_ldc (v := nI 1006632960) hx hb hown (hts _ wi_268) d_Ru_translateOne_91 ?_
  refine fs_calli (wc := [(q, .inr (1, [.ref o, .ref y, .ref n, .ref k, .int (nI (L.length + 1 + 1))])), (o, .inl (cI, 40, .inl (upd (upd fo L.length (nI 0)) (L.length + 1) (nI 26)))), (y, .inl (cI, 40, .inl (upd (upd fy L.length (nI 0)) (L.length + 1) (nI 0)))), (n, .inl (cI, 40, .inl (upd (upd fn L.length (nI 0)) (L.length + 1) (nI 1)))), (k, .inl (cI, 40, .inl (upd (upd fk L.length (nI 0)) (L.length + 1) (gc r))))]) (wr := [(ru, .inr (3, [.ref rc, .ref ra, .ref rm, .ref rv, .int (nI cnt)])), (rc, .inl (cI, 8, .inl gc)), (ra, .inl (cI, 8, .inl ga)), (rm, .inl (cI, 8, .inl gm)), (rv, .inl (cI, 8, .inl gv))]) [5, 6, 7, 8, 9] [0, 1, 2, 3, 4] hP hD hK hS hA rfl rfl rfl (by decide) (fun hPc hDc => va_runV (C := R_Fi) (As := [.int (nI 31), .int (nI 0), .int (nI 0), .int (nI 1006632960)]) (rest := []) ⟨hx, hb, hml, hown, hts⟩ (c_Fi_append q o y n k (L.length + 1 + 1) (upd (upd fo L.length (nI 0)) (L.length + 1) (nI 26)) (upd (upd fy L.length (nI 0)) (L.length + 1) (nI 0)) (upd (upd fn L.length (nI 0)) (L.length + 1) (nI 1)) (upd (upd fk L.length (nI 0)) (L.length + 1) (gc r)) (nI 31) (nI 0) (nI 0) (nI 1006632960) _ (by omega)) (⟨callB_of 4 hts (fs_g kin_Fi_append) rfl rfl rfl (hts _ wi_2) (hts _ wi_267) (by decide +kernel) ⟨Nat.le_of_ble_eq_true rfl, Nat.le_of_ble_eq_true rfl⟩, hts _ wi_147, hts _ wi_148⟩) (fs_preV (q0 := 0) rfl rfl hPc hK hDc) rfl rfl hl.1 rfl (lv_room (Nat.le_of_ble_eq_true rfl)) d_Ru_translateOne_93 ⟨Nat.le_of_ble_eq_true rfl, Nat.le_of_ble_eq_true rfl⟩) rfl (fun r93 _ H locs hp93 hP hD hS => ?_)
  have hP : va_P (dC, dI) vwCl [(ru, .inr (3, [.ref rc, .ref ra, .ref rm, .ref rv, .int (nI cnt)])), (rc, .inl (cI, 8, .inl gc)), (ra, .inl (cI, 8, .inl ga)), (rm, .inl (cI, 8, .inl gm)), (rv, .inl (cI, 8, .inl gv)), (q, .inr (1, [.ref o, .ref y, .ref n, .ref k, .int (nI (L.length + 1 + 1 + 1))])), (o, .inl (cI, 40, .inl (upd (upd (upd fo L.length (nI 0)) (L.length + 1) (nI 26)) (L.length + 1 + 1) (nI 31)))), (y, .inl (cI, 40, .inl (upd (upd (upd fy L.length (nI 0)) (L.length + 1) (nI 0)) (L.length + 1 + 1) (nI 0)))), (n, .inl (cI, 40, .inl (upd (upd (upd fn L.length (nI 0)) (L.length + 1) (nI 1)) (L.length + 1 + 1) (nI 0)))), (k, .inl (cI, 40, .inl (upd (upd (upd fk L.length (nI 0)) (L.length + 1) (gc r)) (L.length + 1 + 1) (nI 1006632960))))] H := hP
  have hD : va_D A [(ru, .inr (3, [.ref rc, .ref ra, .ref rm, .ref rv, .int (nI cnt)])), (rc, .inl (cI, 8, .inl gc)), (ra, .inl (cI, 8, .inl ga)), (rm, .inl (cI, 8, .inl gm)), (rv, .inl (cI, 8, .inl gv)), (q, .inr (1, [.ref o, .ref y, .ref n, .ref k, .int (nI (L.length + 1 + 1 + 1))])), (o, .inl (cI, 40, .inl (upd (upd (upd fo L.length (nI 0)) (L.length + 1) (nI 26)) (L.length + 1 + 1) (nI 31)))), (y, .inl (cI, 40, .inl (upd (upd (upd fy L.length (nI 0)) (L.length + 1) (nI 0)) (L.length + 1 + 1) (nI 0)))), (n, .inl (cI, 40, .inl (upd (upd (upd fn L.length (nI 0)) (L.length + 1) (nI 1)) (L.length + 1 + 1) (nI 0)))), (k, .inl (cI, 40, .inl (upd (upd (upd fk L.length (nI 0)) (L.length + 1) (gc r)) (L.length + 1 + 1) (nI 1006632960))))] := hD
  subst hp93
  refine lv_pop hx hb d_Ru_translateOne_96 rfl ?_
  have hr0 := hrep
  have hr0 := fx_rep_app (m := L.length) (o := 0) (y := 0) (n := 0) (k := 0) (by simp) rfl rfl rfl hr0
  have hr0 := fx_rep_app (m := L.length + 1) (o := 26) (y := 0) (n := 1) (k := gc r) (by simp) rfl rfl rfl hr0
  have hr0 := fx_rep_app (m := L.length + 1 + 1) (o := 31) (y := 0) (n := 0) (k := 1006632960) (by simp) rfl rfl rfl hr0
  have hone : L ++ fx_one (gc r, ga r, gm r, gv r) = (((L ++ [(0, 0, 0, 0)]) ++ [(26, 0, 1, gc r)]) ++ [(31, 0, 0, 1006632960)]) := by rw [fx_one, if_pos hv]; simp
  have hln : L.length + 1 + 1 + 1 = (L ++ fx_one (gc r, ga r, gm r, gv r)).length := by rw [hone]; simp
  rw [hln] at hP hD
  rw [← hone] at hr0
  exact fs_vret hx hb hr hlocks hAe hK hS d_Ru_translateOne_97 (upd (upd (upd fo L.length (nI 0)) (L.length + 1) (nI 26)) (L.length + 1 + 1) (nI 31), upd (upd (upd fy L.length (nI 0)) (L.length + 1) (nI 0)) (L.length + 1 + 1) (nI 0), upd (upd (upd fn L.length (nI 0)) (L.length + 1) (nI 1)) (L.length + 1 + 1) (nI 0), upd (upd (upd fk L.length (nI 0)) (L.length + 1) (gc r)) (L.length + 1 + 1) (nI 1006632960)) (hr0) hP hD

set_option maxHeartbeats 4000000 in
set_option maxRecDepth 100000 in
theorem c_Ru_translateOneA (ru rc ra rm rv cnt : Nat) (gc ga gm gv : Nat → Int32) (q o y n k : Nat) (fo fy fn fk : Nat → Int32) (L : fx_Prg) (r : Nat) (sz : Nat) (hrep : fx_rep L fo fy fn fk) (hr8 : r < 8) (hv : ¬ ga r = -1) (hl0 : L.length + fx_len (ga r) ≤ 39) : fs_V l y_Ru_translateOne (k_Ru_translateOne :: fs_T) { frames := 1, cells := 0, slots := 0, locals := 24 } (dC, dI) vwCl (fs_tys cI cZ cJ cF) [.ref ru, .ref q, .int (nI r)] [(ru, .inr (3, [.ref rc, .ref ra, .ref rm, .ref rv, .int (nI cnt)])), (rc, .inl (cI, 8, .inl gc)), (ra, .inl (cI, 8, .inl ga)), (rm, .inl (cI, 8, .inl gm)), (rv, .inl (cI, 8, .inl gv)), (q, .inr (1, [.ref o, .ref y, .ref n, .ref k, .int (nI L.length)])), (o, .inl (cI, 40, .inl fo)), (y, .inl (cI, 40, .inl fy)), (n, .inl (cI, 40, .inl fn)), (k, .inl (cI, 40, .inl fk))] sz (S := (Nat → Int32) × (Nat → Int32) × (Nat → Int32) × (Nat → Int32)) (fun u => fx_rep (L ++ fx_one (gc r, ga r, gm r, gv r)) u.1 u.2.1 u.2.2.1 u.2.2.2) (fun u => [(ru, .inr (3, [.ref rc, .ref ra, .ref rm, .ref rv, .int (nI cnt)])), (rc, .inl (cI, 8, .inl gc)), (ra, .inl (cI, 8, .inl ga)), (rm, .inl (cI, 8, .inl gm)), (rv, .inl (cI, 8, .inl gv)), (q, .inr (1, [.ref o, .ref y, .ref n, .ref k, .int (nI ((L ++ fx_one (gc r, ga r, gm r, gv r)).length))])), (o, .inl (cI, 40, .inl u.1)), (y, .inl (cI, 40, .inl u.2.1)), (n, .inl (cI, 40, .inl u.2.2.1)), (k, .inl (cI, 40, .inl u.2.2.2))]) 0 0 := by
  refine fs_head (by decide) (Nat.le_of_ble_eq_true rfl) ?_
  intro p e s m below meth c A ls hx hb hr hts hown hlocks hin hml hK hP hD hS hA hAe hsz hl
  have hl : lv_has ls 3 [(0, .ref ru), (1, .ref q), (2, .int (nI r))] := hl
  have hown : s.vm.findClass R_Ru = some m.cls := hown
  have hl9 : L.length + 6 ≤ 39 := by rw [fx_len, if_neg hv] at hl0; exact hl0
  refine lv_aload_n hx hb d_Ru_translateOne_0 rfl (lv_at hl 1 rfl) ?_
  refine lv_iconst (v := nI 0) hx hb d_Ru_translateOne_1 (by decide) ?_
  refine lv_iconst (v := nI 0) hx hb d_Ru_translateOne_2 (by decide) ?_
  refine lv_iconst (v := nI 0) hx hb d_Ru_translateOne_3 (by decide) ?_
  refine lv_iconst (v := nI 0) hx hb d_Ru_translateOne_4 (by decide) ?_
  refine fs_calli (wc := [(q, .inr (1, [.ref o, .ref y, .ref n, .ref k, .int (nI L.length)])), (o, .inl (cI, 40, .inl fo)), (y, .inl (cI, 40, .inl fy)), (n, .inl (cI, 40, .inl fn)), (k, .inl (cI, 40, .inl fk))]) (wr := [(ru, .inr (3, [.ref rc, .ref ra, .ref rm, .ref rv, .int (nI cnt)])), (rc, .inl (cI, 8, .inl gc)), (ra, .inl (cI, 8, .inl ga)), (rm, .inl (cI, 8, .inl gm)), (rv, .inl (cI, 8, .inl gv))]) [5, 6, 7, 8, 9] [0, 1, 2, 3, 4] hP hD hK hS hA rfl rfl rfl (by decide) (fun hPc hDc => va_runV (C := R_Fi) (As := [.int (nI 0), .int (nI 0), .int (nI 0), .int (nI 0)]) (rest := []) ⟨hx, hb, hml, hown, hts⟩ (c_Fi_append q o y n k L.length fo fy fn fk (nI 0) (nI 0) (nI 0) (nI 0) _ (by omega)) (⟨callB_of 4 hts (fs_g kin_Fi_append) rfl rfl rfl (hts _ wi_2) (hts _ wi_267) (by decide +kernel) ⟨Nat.le_of_ble_eq_true rfl, Nat.le_of_ble_eq_true rfl⟩, hts _ wi_147, hts _ wi_148⟩) (fs_preV (q0 := 0) rfl rfl hPc hK hDc) rfl rfl hl.1 rfl (lv_room (Nat.le_of_ble_eq_true rfl)) d_Ru_translateOne_5 ⟨Nat.le_of_ble_eq_true rfl, Nat.le_of_ble_eq_true rfl⟩) rfl (fun r5 _ H locs hp5 hP hD hS => ?_)
  have hP : va_P (dC, dI) vwCl [(ru, .inr (3, [.ref rc, .ref ra, .ref rm, .ref rv, .int (nI cnt)])), (rc, .inl (cI, 8, .inl gc)), (ra, .inl (cI, 8, .inl ga)), (rm, .inl (cI, 8, .inl gm)), (rv, .inl (cI, 8, .inl gv)), (q, .inr (1, [.ref o, .ref y, .ref n, .ref k, .int (nI (L.length + 1))])), (o, .inl (cI, 40, .inl (upd fo L.length (nI 0)))), (y, .inl (cI, 40, .inl (upd fy L.length (nI 0)))), (n, .inl (cI, 40, .inl (upd fn L.length (nI 0)))), (k, .inl (cI, 40, .inl (upd fk L.length (nI 0))))] H := hP
  have hD : va_D A [(ru, .inr (3, [.ref rc, .ref ra, .ref rm, .ref rv, .int (nI cnt)])), (rc, .inl (cI, 8, .inl gc)), (ra, .inl (cI, 8, .inl ga)), (rm, .inl (cI, 8, .inl gm)), (rv, .inl (cI, 8, .inl gv)), (q, .inr (1, [.ref o, .ref y, .ref n, .ref k, .int (nI (L.length + 1))])), (o, .inl (cI, 40, .inl (upd fo L.length (nI 0)))), (y, .inl (cI, 40, .inl (upd fy L.length (nI 0)))), (n, .inl (cI, 40, .inl (upd fn L.length (nI 0)))), (k, .inl (cI, 40, .inl (upd fk L.length (nI 0))))] := hD
  subst hp5
  refine lv_pop hx hb d_Ru_translateOne_8 rfl ?_
  refine lv_aload_n hx hb d_Ru_translateOne_9 rfl (lv_at hl 1 rfl) ?_
  refine lv_bipush (v := nI 26) hx hb d_Ru_translateOne_10 (by decide) ?_
  refine lv_iconst (v := nI 0) hx hb d_Ru_translateOne_12 (by decide) ?_
  refine lv_aload_n hx hb d_Ru_translateOne_13 rfl (lv_at hl 0 rfl) ?_
  refine lv_iload_n hx hb d_Ru_translateOne_14 rfl (lv_at hl 2 rfl) ?_
  refine fs_calli (wc := [(ru, .inr (3, [.ref rc, .ref ra, .ref rm, .ref rv, .int (nI cnt)])), (ra, .inl (cI, 8, .inl ga))]) (wr := [(rc, .inl (cI, 8, .inl gc)), (rm, .inl (cI, 8, .inl gm)), (rv, .inl (cI, 8, .inl gv)), (q, .inr (1, [.ref o, .ref y, .ref n, .ref k, .int (nI (L.length + 1))])), (o, .inl (cI, 40, .inl (upd fo L.length (nI 0)))), (y, .inl (cI, 40, .inl (upd fy L.length (nI 0)))), (n, .inl (cI, 40, .inl (upd fn L.length (nI 0)))), (k, .inl (cI, 40, .inl (upd fk L.length (nI 0))))]) [0, 2] [1, 3, 4, 5, 6, 7, 8, 9] hP hD hK hS hA rfl rfl rfl (by decide) (fun hPc hDc => va_runV (C := R_Ru) (As := [.int (nI r)]) (rest := [.int (nI 0), .int (nI 26), .ref q]) ⟨hx, hb, hml, hown, hts⟩ (c_Ru_lengthOf ru rc ra rm rv cnt r ga _ (by omega)) (⟨callB_of 1 hts (fs_g kin_Ru_lengthOf) rfl rfl rfl (hts _ wi_3) (hts _ wi_254) (by decide +kernel) ⟨Nat.le_of_ble_eq_true rfl, Nat.le_of_ble_eq_true rfl⟩, hts _ wi_256, hts _ sel_Ru_lengthOf⟩) (fs_preV (q0 := 0) rfl rfl hPc hK hDc) rfl rfl hl.1 rfl (lv_room (Nat.le_of_ble_eq_true rfl)) d_Ru_translateOne_15 ⟨Nat.le_of_ble_eq_true rfl, Nat.le_of_ble_eq_true rfl⟩) rfl (fun r15 _ H locs hp15 hP hD hS => ?_)
  have hP : va_P (dC, dI) vwCl [(ru, .inr (3, [.ref rc, .ref ra, .ref rm, .ref rv, .int (nI cnt)])), (rc, .inl (cI, 8, .inl gc)), (ra, .inl (cI, 8, .inl ga)), (rm, .inl (cI, 8, .inl gm)), (rv, .inl (cI, 8, .inl gv)), (q, .inr (1, [.ref o, .ref y, .ref n, .ref k, .int (nI (L.length + 1))])), (o, .inl (cI, 40, .inl (upd fo L.length (nI 0)))), (y, .inl (cI, 40, .inl (upd fy L.length (nI 0)))), (n, .inl (cI, 40, .inl (upd fn L.length (nI 0)))), (k, .inl (cI, 40, .inl (upd fk L.length (nI 0))))] H := hP.sub [8, 0, 9, 1, 2, 3, 4, 5, 6, 7] rfl
  have hD : va_D A [(ru, .inr (3, [.ref rc, .ref ra, .ref rm, .ref rv, .int (nI cnt)])), (rc, .inl (cI, 8, .inl gc)), (ra, .inl (cI, 8, .inl ga)), (rm, .inl (cI, 8, .inl gm)), (rv, .inl (cI, 8, .inl gv)), (q, .inr (1, [.ref o, .ref y, .ref n, .ref k, .int (nI (L.length + 1))])), (o, .inl (cI, 40, .inl (upd fo L.length (nI 0)))), (y, .inl (cI, 40, .inl (upd fy L.length (nI 0)))), (n, .inl (cI, 40, .inl (upd fn L.length (nI 0)))), (k, .inl (cI, 40, .inl (upd fk L.length (nI 0))))] := hD.sub [8, 0, 9, 1, 2, 3, 4, 5, 6, 7] (by decide) rfl
  subst hp15
  refine fs_eqi (v := nI 6) (by rw [fx_len, if_neg hv]) ?_
  refine lv_iconst (v := nI 2) hx hb d_Ru_translateOne_18 (by decide) ?_
  refine lv_isub hx hb d_Ru_translateOne_19 ?_
  refine fs_eqi (pk_sub (by omega)) ?_
  refine fs_eqi (v := nI 4) rfl ?_
  refine lv_aload_n hx hb d_Ru_translateOne_20 rfl (lv_at hl 0 rfl) ?_
  refine va_get (D := (dC, dI)) (ci := 3) (v := .ref rc) (C := R_Ru) (T := T_Ru) (N := 5) hx hb hts uin_Ru hown hK hP 0 rfl rfl 0 (by decide) (hts _ wi_68) (fun _ h9 => h9) rfl d_Ru_translateOne_21 ?_
  refine lv_iload_n hx hb d_Ru_translateOne_24 rfl (lv_at hl 2 rfl) ?_
  refine fs_iald (v := gc r) hx hb hK hP 1 0 rfl rfl r rfl (by decide) (by omega) rfl d_Ru_translateOne_25 ?_
  refine fs_calli (wc := [(q, .inr (1, [.ref o, .ref y, .ref n, .ref k, .int (nI (L.length + 1))])), (o, .inl (cI, 40, .inl (upd fo L.length (nI 0)))), (y, .inl (cI, 40, .inl (upd fy L.length (nI 0)))), (n, .inl (cI, 40, .inl (upd fn L.length (nI 0)))), (k, .inl (cI, 40, .inl (upd fk L.length (nI 0))))]) (wr := [(ru, .inr (3, [.ref rc, .ref ra, .ref rm, .ref rv, .int (nI cnt)])), (rc, .inl (cI, 8, .inl gc)), (ra, .inl (cI, 8, .inl ga)), (rm, .inl (cI, 8, .inl gm)), (rv, .inl (cI, 8, .inl gv))]) [5, 6, 7, 8, 9] [0, 1, 2, 3, 4] hP hD hK hS hA rfl rfl rfl (by decide) (fun hPc hDc => va_runV (C := R_Fi) (As := [.int (nI 26), .int (nI 0), .int (nI 4), .int (gc r)]) (rest := []) ⟨hx, hb, hml, hown, hts⟩ (c_Fi_append q o y n k (L.length + 1) (upd fo L.length (nI 0)) (upd fy L.length (nI 0)) (upd fn L.length (nI 0)) (upd fk L.length (nI 0)) (nI 26) (nI 0) (nI 4) (gc r) _ (by omega)) (⟨callB_of 4 hts (fs_g kin_Fi_append) rfl rfl rfl (hts _ wi_2) (hts _ wi_267) (by decide +kernel) ⟨Nat.le_of_ble_eq_true rfl, Nat.le_of_ble_eq_true rfl⟩, hts _ wi_147, hts _ wi_148⟩) (fs_preV (q0 := 0) rfl rfl hPc hK hDc) rfl rfl hl.1 rfl (lv_room (Nat.le_of_ble_eq_true rfl)) d_Ru_translateOne_26 ⟨Nat.le_of_ble_eq_true rfl, Nat.le_of_ble_eq_true rfl⟩) rfl (fun r26 _ H locs hp26 hP hD hS => ?_)
  have hP : va_P (dC, dI) vwCl [(ru, .inr (3, [.ref rc, .ref ra, .ref rm, .ref rv, .int (nI cnt)])), (rc, .inl (cI, 8, .inl gc)), (ra, .inl (cI, 8, .inl ga)), (rm, .inl (cI, 8, .inl gm)), (rv, .inl (cI, 8, .inl gv)), (q, .inr (1, [.ref o, .ref y, .ref n, .ref k, .int (nI (L.length + 1 + 1))])), (o, .inl (cI, 40, .inl (upd (upd fo L.length (nI 0)) (L.length + 1) (nI 26)))), (y, .inl (cI, 40, .inl (upd (upd fy L.length (nI 0)) (L.length + 1) (nI 0)))), (n, .inl (cI, 40, .inl (upd (upd fn L.length (nI 0)) (L.length + 1) (nI 4)))), (k, .inl (cI, 40, .inl (upd (upd fk L.length (nI 0)) (L.length + 1) (gc r))))] H := hP
  have hD : va_D A [(ru, .inr (3, [.ref rc, .ref ra, .ref rm, .ref rv, .int (nI cnt)])), (rc, .inl (cI, 8, .inl gc)), (ra, .inl (cI, 8, .inl ga)), (rm, .inl (cI, 8, .inl gm)), (rv, .inl (cI, 8, .inl gv)), (q, .inr (1, [.ref o, .ref y, .ref n, .ref k, .int (nI (L.length + 1 + 1))])), (o, .inl (cI, 40, .inl (upd (upd fo L.length (nI 0)) (L.length + 1) (nI 26)))), (y, .inl (cI, 40, .inl (upd (upd fy L.length (nI 0)) (L.length + 1) (nI 0)))), (n, .inl (cI, 40, .inl (upd (upd fn L.length (nI 0)) (L.length + 1) (nI 4)))), (k, .inl (cI, 40, .inl (upd (upd fk L.length (nI 0)) (L.length + 1) (gc r))))] := hD
  subst hp26
  refine lv_pop hx hb d_Ru_translateOne_29 rfl ?_
  refine lv_aload_n hx hb d_Ru_translateOne_30 rfl (lv_at hl 0 rfl) ?_
  refine va_get (D := (dC, dI)) (ci := 3) (v := .ref ra) (C := R_Ru) (T := T_Ru) (N := 5) hx hb hts uin_Ru hown hK hP 0 rfl rfl 1 (by decide) (hts _ wi_69) (fun _ h9 => h9) rfl d_Ru_translateOne_31 ?_
  refine lv_iload_n hx hb d_Ru_translateOne_34 rfl (lv_at hl 2 rfl) ?_
  refine fs_iald (v := ga r) hx hb hK hP 2 0 rfl rfl r rfl (by decide) (by omega) rfl d_Ru_translateOne_35 ?_
  refine lv_iconst (v := (-1)) hx hb d_Ru_translateOne_36 (by decide) ?_
  refine lv_icmp_eq (tgt := 86) hx hb d_Ru_translateOne_37 (by decide) (fun hc37 => absurd hc37 hv) (fun hc37 => ?_)
  refine lv_aload_n hx hb d_Ru_translateOne_40 rfl (lv_at hl 1 rfl) ?_
  refine lv_iconst (v := nI 0) hx hb d_Ru_translateOne_41 (by decide) ?_
  refine lv_iconst (v := nI 0) hx hb d_Ru_translateOne_42 (by decide) ?_
  refine lv_iconst (v := nI 0) hx hb d_Ru_translateOne_43 (by decide) ?_
  refine lv_iconst (v := nI 4) hx hb d_Ru_translateOne_44 (by decide) ?_
  refine lv_aload_n hx hb d_Ru_translateOne_45 rfl (lv_at hl 0 rfl) ?_
  refine va_get (D := (dC, dI)) (ci := 3) (v := .ref ra) (C := R_Ru) (T := T_Ru) (N := 5) hx hb hts uin_Ru hown hK hP 0 rfl rfl 1 (by decide) (hts _ wi_69) (fun _ h9 => h9) rfl d_Ru_translateOne_46 ?_
  refine lv_iload_n hx hb d_Ru_translateOne_49 rfl (lv_at hl 2 rfl) ?_
  refine fs_iald (v := ga r) hx hb hK hP 2 0 rfl rfl r rfl (by decide) (by omega) rfl d_Ru_translateOne_50 ?_
  refine lv_iadd hx hb d_Ru_translateOne_51 ?_
  refine fs_calli (wc := [(q, .inr (1, [.ref o, .ref y, .ref n, .ref k, .int (nI (L.length + 1 + 1))])), (o, .inl (cI, 40, .inl (upd (upd fo L.length (nI 0)) (L.length + 1) (nI 26)))), (y, .inl (cI, 40, .inl (upd (upd fy L.length (nI 0)) (L.length + 1) (nI 0)))), (n, .inl (cI, 40, .inl (upd (upd fn L.length (nI 0)) (L.length + 1) (nI 4)))), (k, .inl (cI, 40, .inl (upd (upd fk L.length (nI 0)) (L.length + 1) (gc r))))]) (wr := [(ru, .inr (3, [.ref rc, .ref ra, .ref rm, .ref rv, .int (nI cnt)])), (rc, .inl (cI, 8, .inl gc)), (ra, .inl (cI, 8, .inl ga)), (rm, .inl (cI, 8, .inl gm)), (rv, .inl (cI, 8, .inl gv))]) [5, 6, 7, 8, 9] [0, 1, 2, 3, 4] hP hD hK hS hA rfl rfl rfl (by decide) (fun hPc hDc => va_runV (C := R_Fi) (As := [.int (nI 0), .int (nI 0), .int (nI 0), .int ((nI 4) + (ga r))]) (rest := []) ⟨hx, hb, hml, hown, hts⟩ (c_Fi_append q o y n k (L.length + 1 + 1) (upd (upd fo L.length (nI 0)) (L.length + 1) (nI 26)) (upd (upd fy L.length (nI 0)) (L.length + 1) (nI 0)) (upd (upd fn L.length (nI 0)) (L.length + 1) (nI 4)) (upd (upd fk L.length (nI 0)) (L.length + 1) (gc r)) (nI 0) (nI 0) (nI 0) ((nI 4) + (ga r)) _ (by omega)) (⟨callB_of 4 hts (fs_g kin_Fi_append) rfl rfl rfl (hts _ wi_2) (hts _ wi_267) (by decide +kernel) ⟨Nat.le_of_ble_eq_true rfl, Nat.le_of_ble_eq_true rfl⟩, hts _ wi_147, hts _ wi_148⟩) (fs_preV (q0 := 0) rfl rfl hPc hK hDc) rfl rfl hl.1 rfl (lv_room (Nat.le_of_ble_eq_true rfl)) d_Ru_translateOne_52 ⟨Nat.le_of_ble_eq_true rfl, Nat.le_of_ble_eq_true rfl⟩) rfl (fun r52 _ H locs hp52 hP hD hS => ?_)
  have hP : va_P (dC, dI) vwCl [(ru, .inr (3, [.ref rc, .ref ra, .ref rm, .ref rv, .int (nI cnt)])), (rc, .inl (cI, 8, .inl gc)), (ra, .inl (cI, 8, .inl ga)), (rm, .inl (cI, 8, .inl gm)), (rv, .inl (cI, 8, .inl gv)), (q, .inr (1, [.ref o, .ref y, .ref n, .ref k, .int (nI (L.length + 1 + 1 + 1))])), (o, .inl (cI, 40, .inl (upd (upd (upd fo L.length (nI 0)) (L.length + 1) (nI 26)) (L.length + 1 + 1) (nI 0)))), (y, .inl (cI, 40, .inl (upd (upd (upd fy L.length (nI 0)) (L.length + 1) (nI 0)) (L.length + 1 + 1) (nI 0)))), (n, .inl (cI, 40, .inl (upd (upd (upd fn L.length (nI 0)) (L.length + 1) (nI 4)) (L.length + 1 + 1) (nI 0)))), (k, .inl (cI, 40, .inl (upd (upd (upd fk L.length (nI 0)) (L.length + 1) (gc r)) (L.length + 1 + 1) ((nI 4) + (ga r)))))] H := hP
  have hD : va_D A [(ru, .inr (3, [.ref rc, .ref ra, .ref rm, .ref rv, .int (nI cnt)])), (rc, .inl (cI, 8, .inl gc)), (ra, .inl (cI, 8, .inl ga)), (rm, .inl (cI, 8, .inl gm)), (rv, .inl (cI, 8, .inl gv)), (q, .inr (1, [.ref o, .ref y, .ref n, .ref k, .int (nI (L.length + 1 + 1 + 1))])), (o, .inl (cI, 40, .inl (upd (upd (upd fo L.length (nI 0)) (L.length + 1) (nI 26)) (L.length + 1 + 1) (nI 0)))), (y, .inl (cI, 40, .inl (upd (upd (upd fy L.length (nI 0)) (L.length + 1) (nI 0)) (L.length + 1 + 1) (nI 0)))), (n, .inl (cI, 40, .inl (upd (upd (upd fn L.length (nI 0)) (L.length + 1) (nI 4)) (L.length + 1 + 1) (nI 0)))), (k, .inl (cI, 40, .inl (upd (upd (upd fk L.length (nI 0)) (L.length + 1) (gc r)) (L.length + 1 + 1) ((nI 4) + (ga r)))))] := hD
  subst hp52
  refine lv_pop hx hb d_Ru_translateOne_55 rfl ?_
  refine lv_aload_n hx hb d_Ru_translateOne_56 rfl (lv_at hl 1 rfl) ?_
  refine lv_bipush (v := nI 14) hx hb d_Ru_translateOne_57 (by decide) ?_
  refine lv_iconst (v := nI 0) hx hb d_Ru_translateOne_59 (by decide) ?_
  refine lv_iconst (v := nI 0) hx hb d_Ru_translateOne_60 (by decide) ?_
  refine lv_aload_n hx hb d_Ru_translateOne_61 rfl (lv_at hl 0 rfl) ?_
  refine va_get (D := (dC, dI)) (ci := 3) (v := .ref rm) (C := R_Ru) (T := T_Ru) (N := 5) hx hb hts uin_Ru hown hK hP 0 rfl rfl 2 (by decide) (hts _ wi_70) (fun _ h9 => h9) rfl d_Ru_translateOne_62 ?_
  refine lv_iload_n hx hb d_Ru_translateOne_65 rfl (lv_at hl 2 rfl) ?_
  refine fs_iald (v := gm r) hx hb hK hP 3 0 rfl rfl r rfl (by decide) (by omega) rfl d_Ru_translateOne_66 ?_
  refine fs_calli (wc := [(q, .inr (1, [.ref o, .ref y, .ref n, .ref k, .int (nI (L.length + 1 + 1 + 1))])), (o, .inl (cI, 40, .inl (upd (upd (upd fo L.length (nI 0)) (L.length + 1) (nI 26)) (L.length + 1 + 1) (nI 0)))), (y, .inl (cI, 40, .inl (upd (upd (upd fy L.length (nI 0)) (L.length + 1) (nI 0)) (L.length + 1 + 1) (nI 0)))), (n, .inl (cI, 40, .inl (upd (upd (upd fn L.length (nI 0)) (L.length + 1) (nI 4)) (L.length + 1 + 1) (nI 0)))), (k, .inl (cI, 40, .inl (upd (upd (upd fk L.length (nI 0)) (L.length + 1) (gc r)) (L.length + 1 + 1) ((nI 4) + (ga r)))))]) (wr := [(ru, .inr (3, [.ref rc, .ref ra, .ref rm, .ref rv, .int (nI cnt)])), (rc, .inl (cI, 8, .inl gc)), (ra, .inl (cI, 8, .inl ga)), (rm, .inl (cI, 8, .inl gm)), (rv, .inl (cI, 8, .inl gv))]) [5, 6, 7, 8, 9] [0, 1, 2, 3, 4] hP hD hK hS hA rfl rfl rfl (by decide) (fun hPc hDc => va_runV (C := R_Fi) (As := [.int (nI 14), .int (nI 0), .int (nI 0), .int (gm r)]) (rest := []) ⟨hx, hb, hml, hown, hts⟩ (c_Fi_append q o y n k (L.length + 1 + 1 + 1) (upd (upd (upd fo L.length (nI 0)) (L.length + 1) (nI 26)) (L.length + 1 + 1) (nI 0)) (upd (upd (upd fy L.length (nI 0)) (L.length + 1) (nI 0)) (L.length + 1 + 1) (nI 0)) (upd (upd (upd fn L.length (nI 0)) (L.length + 1) (nI 4)) (L.length + 1 + 1) (nI 0)) (upd (upd (upd fk L.length (nI 0)) (L.length + 1) (gc r)) (L.length + 1 + 1) ((nI 4) + (ga r))) (nI 14) (nI 0) (nI 0) (gm r) _ (by omega)) (⟨callB_of 4 hts (fs_g kin_Fi_append) rfl rfl rfl (hts _ wi_2) (hts _ wi_267) (by decide +kernel) ⟨Nat.le_of_ble_eq_true rfl, Nat.le_of_ble_eq_true rfl⟩, hts _ wi_147, hts _ wi_148⟩) (fs_preV (q0 := 0) rfl rfl hPc hK hDc) rfl rfl hl.1 rfl (lv_room (Nat.le_of_ble_eq_true rfl)) d_Ru_translateOne_67 ⟨Nat.le_of_ble_eq_true rfl, Nat.le_of_ble_eq_true rfl⟩) rfl (fun r67 _ H locs hp67 hP hD hS => ?_)
  have hP : va_P (dC, dI) vwCl [(ru, .inr (3, [.ref rc, .ref ra, .ref rm, .ref rv, .int (nI cnt)])), (rc, .inl (cI, 8, .inl gc)), (ra, .inl (cI, 8, .inl ga)), (rm, .inl (cI, 8, .inl gm)), (rv, .inl (cI, 8, .inl gv)), (q, .inr (1, [.ref o, .ref y, .ref n, .ref k, .int (nI (L.length + 1 + 1 + 1 + 1))])), (o, .inl (cI, 40, .inl (upd (upd (upd (upd fo L.length (nI 0)) (L.length + 1) (nI 26)) (L.length + 1 + 1) (nI 0)) (L.length + 1 + 1 + 1) (nI 14)))), (y, .inl (cI, 40, .inl (upd (upd (upd (upd fy L.length (nI 0)) (L.length + 1) (nI 0)) (L.length + 1 + 1) (nI 0)) (L.length + 1 + 1 + 1) (nI 0)))), (n, .inl (cI, 40, .inl (upd (upd (upd (upd fn L.length (nI 0)) (L.length + 1) (nI 4)) (L.length + 1 + 1) (nI 0)) (L.length + 1 + 1 + 1) (nI 0)))), (k, .inl (cI, 40, .inl (upd (upd (upd (upd fk L.length (nI 0)) (L.length + 1) (gc r)) (L.length + 1 + 1) ((nI 4) + (ga r))) (L.length + 1 + 1 + 1) (gm r))))] H := hP
  have hD : va_D A [(ru, .inr (3, [.ref rc, .ref ra, .ref rm, .ref rv, .int (nI cnt)])), (rc, .inl (cI, 8, .inl gc)), (ra, .inl (cI, 8, .inl ga)), (rm, .inl (cI, 8, .inl gm)), (rv, .inl (cI, 8, .inl gv)), (q, .inr (1, [.ref o, .ref y, .ref n, .ref k, .int (nI (L.length + 1 + 1 + 1 + 1))])), (o, .inl (cI, 40, .inl (upd (upd (upd (upd fo L.length (nI 0)) (L.length + 1) (nI 26)) (L.length + 1 + 1) (nI 0)) (L.length + 1 + 1 + 1) (nI 14)))), (y, .inl (cI, 40, .inl (upd (upd (upd (upd fy L.length (nI 0)) (L.length + 1) (nI 0)) (L.length + 1 + 1) (nI 0)) (L.length + 1 + 1 + 1) (nI 0)))), (n, .inl (cI, 40, .inl (upd (upd (upd (upd fn L.length (nI 0)) (L.length + 1) (nI 4)) (L.length + 1 + 1) (nI 0)) (L.length + 1 + 1 + 1) (nI 0)))), (k, .inl (cI, 40, .inl (upd (upd (upd (upd fk L.length (nI 0)) (L.length + 1) (gc r)) (L.length + 1 + 1) ((nI 4) + (ga r))) (L.length + 1 + 1 + 1) (gm r))))] := hD
  subst hp67
  refine lv_pop hx hb d_Ru_translateOne_70 rfl ?_
  refine lv_aload_n hx hb d_Ru_translateOne_71 rfl (lv_at hl 1 rfl) ?_
  refine lv_bipush (v := nI 26) hx hb d_Ru_translateOne_72 (by decide) ?_
  refine lv_iconst (v := nI 0) hx hb d_Ru_translateOne_74 (by decide) ?_
  refine lv_iconst (v := nI 1) hx hb d_Ru_translateOne_75 (by decide) ?_
  refine lv_aload_n hx hb d_Ru_translateOne_76 rfl (lv_at hl 0 rfl) ?_
  refine va_get (D := (dC, dI)) (ci := 3) (v := .ref rv) (C := R_Ru) (T := T_Ru) (N := 5) hx hb hts uin_Ru hown hK hP 0 rfl rfl 3 (by decide) (hts _ wi_71) (fun _ h9 => h9) rfl d_Ru_translateOne_77 ?_
  refine lv_iload_n hx hb d_Ru_translateOne_80 rfl (lv_at hl 2 rfl) ?_
  refine fs_iald (v := gv r) hx hb hK hP 4 0 rfl rfl r rfl (by decide) (by omega) rfl d_Ru_translateOne_81 ?_
  refine fs_calli (wc := [(q, .inr (1, [.ref o, .ref y, .ref n, .ref k, .int (nI (L.length + 1 + 1 + 1 + 1))])), (o, .inl (cI, 40, .inl (upd (upd (upd (upd fo L.length (nI 0)) (L.length + 1) (nI 26)) (L.length + 1 + 1) (nI 0)) (L.length + 1 + 1 + 1) (nI 14)))), (y, .inl (cI, 40, .inl (upd (upd (upd (upd fy L.length (nI 0)) (L.length + 1) (nI 0)) (L.length + 1 + 1) (nI 0)) (L.length + 1 + 1 + 1) (nI 0)))), (n, .inl (cI, 40, .inl (upd (upd (upd (upd fn L.length (nI 0)) (L.length + 1) (nI 4)) (L.length + 1 + 1) (nI 0)) (L.length + 1 + 1 + 1) (nI 0)))), (k, .inl (cI, 40, .inl (upd (upd (upd (upd fk L.length (nI 0)) (L.length + 1) (gc r)) (L.length + 1 + 1) ((nI 4) + (ga r))) (L.length + 1 + 1 + 1) (gm r))))]) (wr := [(ru, .inr (3, [.ref rc, .ref ra, .ref rm, .ref rv, .int (nI cnt)])), (rc, .inl (cI, 8, .inl gc)), (ra, .inl (cI, 8, .inl ga)), (rm, .inl (cI, 8, .inl gm)), (rv, .inl (cI, 8, .inl gv))]) [5, 6, 7, 8, 9] [0, 1, 2, 3, 4] hP hD hK hS hA rfl rfl rfl (by decide) (fun hPc hDc => va_runV (C := R_Fi) (As := [.int (nI 26), .int (nI 0), .int (nI 1), .int (gv r)]) (rest := []) ⟨hx, hb, hml, hown, hts⟩ (c_Fi_append q o y n k (L.length + 1 + 1 + 1 + 1) (upd (upd (upd (upd fo L.length (nI 0)) (L.length + 1) (nI 26)) (L.length + 1 + 1) (nI 0)) (L.length + 1 + 1 + 1) (nI 14)) (upd (upd (upd (upd fy L.length (nI 0)) (L.length + 1) (nI 0)) (L.length + 1 + 1) (nI 0)) (L.length + 1 + 1 + 1) (nI 0)) (upd (upd (upd (upd fn L.length (nI 0)) (L.length + 1) (nI 4)) (L.length + 1 + 1) (nI 0)) (L.length + 1 + 1 + 1) (nI 0)) (upd (upd (upd (upd fk L.length (nI 0)) (L.length + 1) (gc r)) (L.length + 1 + 1) ((nI 4) + (ga r))) (L.length + 1 + 1 + 1) (gm r)) (nI 26) (nI 0) (nI 1) (gv r) _ (by omega)) (⟨callB_of 4 hts (fs_g kin_Fi_append) rfl rfl rfl (hts _ wi_2) (hts _ wi_267) (by decide +kernel) ⟨Nat.le_of_ble_eq_true rfl, Nat.le_of_ble_eq_true rfl⟩, hts _ wi_147, hts _ wi_148⟩) (fs_preV (q0 := 0) rfl rfl hPc hK hDc) rfl rfl hl.1 rfl (lv_room (Nat.le_of_ble_eq_true rfl)) d_Ru_translateOne_82 ⟨Nat.le_of_ble_eq_true rfl, Nat.le_of_ble_eq_true rfl⟩) rfl (fun r82 _ H locs hp82 hP hD hS => ?_)
  have hP : va_P (dC, dI) vwCl [(ru, .inr (3, [.ref rc, .ref ra, .ref rm, .ref rv, .int (nI cnt)])), (rc, .inl (cI, 8, .inl gc)), (ra, .inl (cI, 8, .inl ga)), (rm, .inl (cI, 8, .inl gm)), (rv, .inl (cI, 8, .inl gv)), (q, .inr (1, [.ref o, .ref y, .ref n, .ref k, .int (nI (L.length + 1 + 1 + 1 + 1 + 1))])), (o, .inl (cI, 40, .inl (upd (upd (upd (upd (upd fo L.length (nI 0)) (L.length + 1) (nI 26)) (L.length + 1 + 1) (nI 0)) (L.length + 1 + 1 + 1) (nI 14)) (L.length + 1 + 1 + 1 + 1) (nI 26)))), (y, .inl (cI, 40, .inl (upd (upd (upd (upd (upd fy L.length (nI 0)) (L.length + 1) (nI 0)) (L.length + 1 + 1) (nI 0)) (L.length + 1 + 1 + 1) (nI 0)) (L.length + 1 + 1 + 1 + 1) (nI 0)))), (n, .inl (cI, 40, .inl (upd (upd (upd (upd (upd fn L.length (nI 0)) (L.length + 1) (nI 4)) (L.length + 1 + 1) (nI 0)) (L.length + 1 + 1 + 1) (nI 0)) (L.length + 1 + 1 + 1 + 1) (nI 1)))), (k, .inl (cI, 40, .inl (upd (upd (upd (upd (upd fk L.length (nI 0)) (L.length + 1) (gc r)) (L.length + 1 + 1) ((nI 4) + (ga r))) (L.length + 1 + 1 + 1) (gm r)) (L.length + 1 + 1 + 1 + 1) (gv r))))] H := hP
  have hD : va_D A [(ru, .inr (3, [.ref rc, .ref ra, .ref rm, .ref rv, .int (nI cnt)])), (rc, .inl (cI, 8, .inl gc)), (ra, .inl (cI, 8, .inl ga)), (rm, .inl (cI, 8, .inl gm)), (rv, .inl (cI, 8, .inl gv)), (q, .inr (1, [.ref o, .ref y, .ref n, .ref k, .int (nI (L.length + 1 + 1 + 1 + 1 + 1))])), (o, .inl (cI, 40, .inl (upd (upd (upd (upd (upd fo L.length (nI 0)) (L.length + 1) (nI 26)) (L.length + 1 + 1) (nI 0)) (L.length + 1 + 1 + 1) (nI 14)) (L.length + 1 + 1 + 1 + 1) (nI 26)))), (y, .inl (cI, 40, .inl (upd (upd (upd (upd (upd fy L.length (nI 0)) (L.length + 1) (nI 0)) (L.length + 1 + 1) (nI 0)) (L.length + 1 + 1 + 1) (nI 0)) (L.length + 1 + 1 + 1 + 1) (nI 0)))), (n, .inl (cI, 40, .inl (upd (upd (upd (upd (upd fn L.length (nI 0)) (L.length + 1) (nI 4)) (L.length + 1 + 1) (nI 0)) (L.length + 1 + 1 + 1) (nI 0)) (L.length + 1 + 1 + 1 + 1) (nI 1)))), (k, .inl (cI, 40, .inl (upd (upd (upd (upd (upd fk L.length (nI 0)) (L.length + 1) (gc r)) (L.length + 1 + 1) ((nI 4) + (ga r))) (L.length + 1 + 1 + 1) (gm r)) (L.length + 1 + 1 + 1 + 1) (gv r))))] := hD
  subst hp82
  refine lv_pop hx hb d_Ru_translateOne_85 rfl ?_
  refine lv_aload_n hx hb d_Ru_translateOne_86 rfl (lv_at hl 1 rfl) ?_
  refine lv_bipush (v := nI 31) hx hb d_Ru_translateOne_87 (by decide) ?_
  refine lv_iconst (v := nI 0) hx hb d_Ru_translateOne_89 (by decide) ?_
  refine lv_iconst (v := nI 0) hx hb d_Ru_translateOne_90 (by decide) ?_
  refine lv_ldc (v := nI 1006632960) hx hb hown (hts _ wi_268) d_Ru_translateOne_91 ?_
  refine fs_calli (wc := [(q, .inr (1, [.ref o, .ref y, .ref n, .ref k, .int (nI (L.length + 1 + 1 + 1 + 1 + 1))])), (o, .inl (cI, 40, .inl (upd (upd (upd (upd (upd fo L.length (nI 0)) (L.length + 1) (nI 26)) (L.length + 1 + 1) (nI 0)) (L.length + 1 + 1 + 1) (nI 14)) (L.length + 1 + 1 + 1 + 1) (nI 26)))), (y, .inl (cI, 40, .inl (upd (upd (upd (upd (upd fy L.length (nI 0)) (L.length + 1) (nI 0)) (L.length + 1 + 1) (nI 0)) (L.length + 1 + 1 + 1) (nI 0)) (L.length + 1 + 1 + 1 + 1) (nI 0)))), (n, .inl (cI, 40, .inl (upd (upd (upd (upd (upd fn L.length (nI 0)) (L.length + 1) (nI 4)) (L.length + 1 + 1) (nI 0)) (L.length + 1 + 1 + 1) (nI 0)) (L.length + 1 + 1 + 1 + 1) (nI 1)))), (k, .inl (cI, 40, .inl (upd (upd (upd (upd (upd fk L.length (nI 0)) (L.length + 1) (gc r)) (L.length + 1 + 1) ((nI 4) + (ga r))) (L.length + 1 + 1 + 1) (gm r)) (L.length + 1 + 1 + 1 + 1) (gv r))))]) (wr := [(ru, .inr (3, [.ref rc, .ref ra, .ref rm, .ref rv, .int (nI cnt)])), (rc, .inl (cI, 8, .inl gc)), (ra, .inl (cI, 8, .inl ga)), (rm, .inl (cI, 8, .inl gm)), (rv, .inl (cI, 8, .inl gv))]) [5, 6, 7, 8, 9] [0, 1, 2, 3, 4] hP hD hK hS hA rfl rfl rfl (by decide) (fun hPc hDc => va_runV (C := R_Fi) (As := [.int (nI 31), .int (nI 0), .int (nI 0), .int (nI 1006632960)]) (rest := []) ⟨hx, hb, hml, hown, hts⟩ (c_Fi_append q o y n k (L.length + 1 + 1 + 1 + 1 + 1) (upd (upd (upd (upd (upd fo L.length (nI 0)) (L.length + 1) (nI 26)) (L.length + 1 + 1) (nI 0)) (L.length + 1 + 1 + 1) (nI 14)) (L.length + 1 + 1 + 1 + 1) (nI 26)) (upd (upd (upd (upd (upd fy L.length (nI 0)) (L.length + 1) (nI 0)) (L.length + 1 + 1) (nI 0)) (L.length + 1 + 1 + 1) (nI 0)) (L.length + 1 + 1 + 1 + 1) (nI 0)) (upd (upd (upd (upd (upd fn L.length (nI 0)) (L.length + 1) (nI 4)) (L.length + 1 + 1) (nI 0)) (L.length + 1 + 1 + 1) (nI 0)) (L.length + 1 + 1 + 1 + 1) (nI 1)) (upd (upd (upd (upd (upd fk L.length (nI 0)) (L.length + 1) (gc r)) (L.length + 1 + 1) ((nI 4) + (ga r))) (L.length + 1 + 1 + 1) (gm r)) (L.length + 1 + 1 + 1 + 1) (gv r)) (nI 31) (nI 0) (nI 0) (nI 1006632960) _ (by omega)) (⟨callB_of 4 hts (fs_g kin_Fi_append) rfl rfl rfl (hts _ wi_2) (hts _ wi_267) (by decide +kernel) ⟨Nat.le_of_ble_eq_true rfl, Nat.le_of_ble_eq_true rfl⟩, hts _ wi_147, hts _ wi_148⟩) (fs_preV (q0 := 0) rfl rfl hPc hK hDc) rfl rfl hl.1 rfl (lv_room (Nat.le_of_ble_eq_true rfl)) d_Ru_translateOne_93 ⟨Nat.le_of_ble_eq_true rfl, Nat.le_of_ble_eq_true rfl⟩) rfl (fun r93 _ H locs hp93 hP hD hS => ?_)
  have hP : va_P (dC, dI) vwCl [(ru, .inr (3, [.ref rc, .ref ra, .ref rm, .ref rv, .int (nI cnt)])), (rc, .inl (cI, 8, .inl gc)), (ra, .inl (cI, 8, .inl ga)), (rm, .inl (cI, 8, .inl gm)), (rv, .inl (cI, 8, .inl gv)), (q, .inr (1, [.ref o, .ref y, .ref n, .ref k, .int (nI (L.length + 1 + 1 + 1 + 1 + 1 + 1))])), (o, .inl (cI, 40, .inl (upd (upd (upd (upd (upd (upd fo L.length (nI 0)) (L.length + 1) (nI 26)) (L.length + 1 + 1) (nI 0)) (L.length + 1 + 1 + 1) (nI 14)) (L.length + 1 + 1 + 1 + 1) (nI 26)) (L.length + 1 + 1 + 1 + 1 + 1) (nI 31)))), (y, .inl (cI, 40, .inl (upd (upd (upd (upd (upd (upd fy L.length (nI 0)) (L.length + 1) (nI 0)) (L.length + 1 + 1) (nI 0)) (L.length + 1 + 1 + 1) (nI 0)) (L.length + 1 + 1 + 1 + 1) (nI 0)) (L.length + 1 + 1 + 1 + 1 + 1) (nI 0)))), (n, .inl (cI, 40, .inl (upd (upd (upd (upd (upd (upd fn L.length (nI 0)) (L.length + 1) (nI 4)) (L.length + 1 + 1) (nI 0)) (L.length + 1 + 1 + 1) (nI 0)) (L.length + 1 + 1 + 1 + 1) (nI 1)) (L.length + 1 + 1 + 1 + 1 + 1) (nI 0)))), (k, .inl (cI, 40, .inl (upd (upd (upd (upd (upd (upd fk L.length (nI 0)) (L.length + 1) (gc r)) (L.length + 1 + 1) ((nI 4) + (ga r))) (L.length + 1 + 1 + 1) (gm r)) (L.length + 1 + 1 + 1 + 1) (gv r)) (L.length + 1 + 1 + 1 + 1 + 1) (nI 1006632960))))] H := hP
  have hD : va_D A [(ru, .inr (3, [.ref rc, .ref ra, .ref rm, .ref rv, .int (nI cnt)])), (rc, .inl (cI, 8, .inl gc)), (ra, .inl (cI, 8, .inl ga)), (rm, .inl (cI, 8, .inl gm)), (rv, .inl (cI, 8, .inl gv)), (q, .inr (1, [.ref o, .ref y, .ref n, .ref k, .int (nI (L.length + 1 + 1 + 1 + 1 + 1 + 1))])), (o, .inl (cI, 40, .inl (upd (upd (upd (upd (upd (upd fo L.length (nI 0)) (L.length + 1) (nI 26)) (L.length + 1 + 1) (nI 0)) (L.length + 1 + 1 + 1) (nI 14)) (L.length + 1 + 1 + 1 + 1) (nI 26)) (L.length + 1 + 1 + 1 + 1 + 1) (nI 31)))), (y, .inl (cI, 40, .inl (upd (upd (upd (upd (upd (upd fy L.length (nI 0)) (L.length + 1) (nI 0)) (L.length + 1 + 1) (nI 0)) (L.length + 1 + 1 + 1) (nI 0)) (L.length + 1 + 1 + 1 + 1) (nI 0)) (L.length + 1 + 1 + 1 + 1 + 1) (nI 0)))), (n, .inl (cI, 40, .inl (upd (upd (upd (upd (upd (upd fn L.length (nI 0)) (L.length + 1) (nI 4)) (L.length + 1 + 1) (nI 0)) (L.length + 1 + 1 + 1) (nI 0)) (L.length + 1 + 1 + 1 + 1) (nI 1)) (L.length + 1 + 1 + 1 + 1 + 1) (nI 0)))), (k, .inl (cI, 40, .inl (upd (upd (upd (upd (upd (upd fk L.length (nI 0)) (L.length + 1) (gc r)) (L.length + 1 + 1) ((nI 4) + (ga r))) (L.length + 1 + 1 + 1) (gm r)) (L.length + 1 + 1 + 1 + 1) (gv r)) (L.length + 1 + 1 + 1 + 1 + 1) (nI 1006632960))))] := hD
  subst hp93
  refine lv_pop hx hb d_Ru_translateOne_96 rfl ?_
  have hr0 := hrep
  have hr0 := fx_rep_app (m := L.length) (o := 0) (y := 0) (n := 0) (k := 0) (by simp) rfl rfl rfl hr0
  have hr0 := fx_rep_app (m := L.length + 1) (o := 26) (y := 0) (n := 4) (k := gc r) (by simp) rfl rfl rfl hr0
  have hr0 := fx_rep_app (m := L.length + 1 + 1) (o := 0) (y := 0) (n := 0) (k := 4 + ga r) (by simp) rfl rfl rfl hr0
  have hr0 := fx_rep_app (m := L.length + 1 + 1 + 1) (o := 14) (y := 0) (n := 0) (k := gm r) (by simp) rfl rfl rfl hr0
  have hr0 := fx_rep_app (m := L.length + 1 + 1 + 1 + 1) (o := 26) (y := 0) (n := 1) (k := gv r) (by simp) rfl rfl rfl hr0
  have hr0 := fx_rep_app (m := L.length + 1 + 1 + 1 + 1 + 1) (o := 31) (y := 0) (n := 0) (k := 1006632960) (by simp) rfl rfl rfl hr0
  have hone : L ++ fx_one (gc r, ga r, gm r, gv r) = ((((((L ++ [(0, 0, 0, 0)]) ++ [(26, 0, 4, gc r)]) ++ [(0, 0, 0, 4 + ga r)]) ++ [(14, 0, 0, gm r)]) ++ [(26, 0, 1, gv r)]) ++ [(31, 0, 0, 1006632960)]) := by rw [fx_one, if_neg hv]; simp
  have hln : L.length + 1 + 1 + 1 + 1 + 1 + 1 = (L ++ fx_one (gc r, ga r, gm r, gv r)).length := by rw [hone]; simp
  rw [hln] at hP hD
  rw [← hone] at hr0
  exact fs_vret hx hb hr hlocks hAe hK hS d_Ru_translateOne_97 (upd (upd (upd (upd (upd (upd fo L.length (nI 0)) (L.length + 1) (nI 26)) (L.length + 1 + 1) (nI 0)) (L.length + 1 + 1 + 1) (nI 14)) (L.length + 1 + 1 + 1 + 1) (nI 26)) (L.length + 1 + 1 + 1 + 1 + 1) (nI 31), upd (upd (upd (upd (upd (upd fy L.length (nI 0)) (L.length + 1) (nI 0)) (L.length + 1 + 1) (nI 0)) (L.length + 1 + 1 + 1) (nI 0)) (L.length + 1 + 1 + 1 + 1) (nI 0)) (L.length + 1 + 1 + 1 + 1 + 1) (nI 0), upd (upd (upd (upd (upd (upd fn L.length (nI 0)) (L.length + 1) (nI 4)) (L.length + 1 + 1) (nI 0)) (L.length + 1 + 1 + 1) (nI 0)) (L.length + 1 + 1 + 1 + 1) (nI 1)) (L.length + 1 + 1 + 1 + 1 + 1) (nI 0), upd (upd (upd (upd (upd (upd fk L.length (nI 0)) (L.length + 1) (gc r)) (L.length + 1 + 1) ((nI 4) + (ga r))) (L.length + 1 + 1 + 1) (gm r)) (L.length + 1 + 1 + 1 + 1) (gv r)) (L.length + 1 + 1 + 1 + 1 + 1) (nI 1006632960)) (hr0) hP hD

theorem c_Ru_translateOne (ru rc ra rm rv cnt : Nat) (gc ga gm gv : Nat → Int32) (q o y n k : Nat) (fo fy fn fk : Nat → Int32) (L : fx_Prg) (r : Nat) (sz : Nat) (hrep : fx_rep L fo fy fn fk) (hr8 : r < 8) (hl0 : L.length + fx_len (ga r) ≤ 39) : fs_V l y_Ru_translateOne (k_Ru_translateOne :: fs_T) { frames := 1, cells := 0, slots := 0, locals := 24 } (dC, dI) vwCl (fs_tys cI cZ cJ cF) [.ref ru, .ref q, .int (nI r)] [(ru, .inr (3, [.ref rc, .ref ra, .ref rm, .ref rv, .int (nI cnt)])), (rc, .inl (cI, 8, .inl gc)), (ra, .inl (cI, 8, .inl ga)), (rm, .inl (cI, 8, .inl gm)), (rv, .inl (cI, 8, .inl gv)), (q, .inr (1, [.ref o, .ref y, .ref n, .ref k, .int (nI L.length)])), (o, .inl (cI, 40, .inl fo)), (y, .inl (cI, 40, .inl fy)), (n, .inl (cI, 40, .inl fn)), (k, .inl (cI, 40, .inl fk))] sz (S := (Nat → Int32) × (Nat → Int32) × (Nat → Int32) × (Nat → Int32)) (fun u => fx_rep (L ++ fx_one (gc r, ga r, gm r, gv r)) u.1 u.2.1 u.2.2.1 u.2.2.2) (fun u => [(ru, .inr (3, [.ref rc, .ref ra, .ref rm, .ref rv, .int (nI cnt)])), (rc, .inl (cI, 8, .inl gc)), (ra, .inl (cI, 8, .inl ga)), (rm, .inl (cI, 8, .inl gm)), (rv, .inl (cI, 8, .inl gv)), (q, .inr (1, [.ref o, .ref y, .ref n, .ref k, .int (nI ((L ++ fx_one (gc r, ga r, gm r, gv r)).length))])), (o, .inl (cI, 40, .inl u.1)), (y, .inl (cI, 40, .inl u.2.1)), (n, .inl (cI, 40, .inl u.2.2.1)), (k, .inl (cI, 40, .inl u.2.2.2))]) 0 0 := by
  by_cases hv : ga r = -1
  · exact c_Ru_translateOneP ru rc ra rm rv cnt gc ga gm gv q o y n k fo fy fn fk L r sz hrep hr8 hv hl0
  · exact c_Ru_translateOneA ru rc ra rm rv cnt gc ga gm gv q o y n k fo fy fn fk L r sz hrep hr8 hv hl0
theorem d_Ru_translate_0 : decode b_Ru_translate 0 = .ok (.aload_n 1, 1) := by decide +kernel
theorem d_Ru_translate_1 : decode b_Ru_translate 1 = .ok (.invokevirtual 32, 3) := by decide +kernel
theorem d_Ru_translate_4 : decode b_Ru_translate 4 = .ok (.pop, 1) := by decide +kernel
theorem d_Ru_translate_5 : decode b_Ru_translate 5 = .ok (.iconst 0, 1) := by decide +kernel
theorem d_Ru_translate_6 : decode b_Ru_translate 6 = .ok (.istore_n 3, 1) := by decide +kernel
theorem d_Ru_translate_7 : decode b_Ru_translate 7 = .ok (.iload_n 3, 1) := by decide +kernel
theorem d_Ru_translate_8 : decode b_Ru_translate 8 = .ok (.aload_n 0, 1) := by decide +kernel
theorem d_Ru_translate_9 : decode b_Ru_translate 9 = .ok (.getfield 24, 3) := by decide +kernel
theorem d_Ru_translate_12 : decode b_Ru_translate 12 = .ok (.if_icmp .ge 15, 3) := by decide +kernel
theorem d_Ru_translate_15 : decode b_Ru_translate 15 = .ok (.aload_n 0, 1) := by decide +kernel
theorem d_Ru_translate_16 : decode b_Ru_translate 16 = .ok (.aload_n 1, 1) := by decide +kernel
theorem d_Ru_translate_17 : decode b_Ru_translate 17 = .ok (.iload_n 3, 1) := by decide +kernel
theorem d_Ru_translate_18 : decode b_Ru_translate 18 = .ok (.invokevirtual 38, 3) := by decide +kernel
theorem d_Ru_translate_21 : decode b_Ru_translate 21 = .ok (.iinc 3 1, 3) := by decide +kernel
theorem d_Ru_translate_24 : decode b_Ru_translate 24 = .ok (.goto (-17), 3) := by decide +kernel
theorem d_Ru_translate_27 : decode b_Ru_translate 27 = .ok (.aload_n 1, 1) := by decide +kernel
theorem d_Ru_translate_28 : decode b_Ru_translate 28 = .ok (.bipush 31, 2) := by decide +kernel
theorem d_Ru_translate_30 : decode b_Ru_translate 30 = .ok (.iconst 0, 1) := by decide +kernel
theorem d_Ru_translate_31 : decode b_Ru_translate 31 = .ok (.iconst 0, 1) := by decide +kernel
theorem d_Ru_translate_32 : decode b_Ru_translate 32 = .ok (.iload_n 2, 1) := by decide +kernel
theorem d_Ru_translate_33 : decode b_Ru_translate 33 = .ok (.invokevirtual 42, 3) := by decide +kernel
theorem d_Ru_translate_36 : decode b_Ru_translate 36 = .ok (.pop, 1) := by decide +kernel
theorem d_Ru_translate_37 : decode b_Ru_translate 37 = .ok (.return_, 1) := by decide +kernel
set_option maxHeartbeats 4000000 in
set_option maxRecDepth 100000 in
theorem c_Ru_translate (ru rc ra rm rv cnt : Nat) (gc ga gm gv : Nat → Int32) (q o y n k len : Nat) (fo fy fn fk : Nat → Int32) (rs : List fx_Rule) (v : Int32) (sz : Nat) (hcnt : cnt = rs.length) (hc8 : cnt ≤ 8) (hrr : fx_rrep rs gc ga gm gv) (htot : (rs.flatMap fx_one).length ≤ 39) : fs_V l y_Ru_translate (k_Ru_translate :: fs_T) { frames := 2, cells := 0, slots := 0, locals := 46 } (dC, dI) vwCl (fs_tys cI cZ cJ cF) [.ref ru, .ref q, .int v] [(ru, .inr (3, [.ref rc, .ref ra, .ref rm, .ref rv, .int (nI cnt)])), (rc, .inl (cI, 8, .inl gc)), (ra, .inl (cI, 8, .inl ga)), (rm, .inl (cI, 8, .inl gm)), (rv, .inl (cI, 8, .inl gv)), (q, .inr (1, [.ref o, .ref y, .ref n, .ref k, .int (nI len)])), (o, .inl (cI, 40, .inl fo)), (y, .inl (cI, 40, .inl fy)), (n, .inl (cI, 40, .inl fn)), (k, .inl (cI, 40, .inl fk))] sz (S := (Nat → Int32) × (Nat → Int32) × (Nat → Int32) × (Nat → Int32)) (fun u => fx_rep (fx_cmp rs v) u.1 u.2.1 u.2.2.1 u.2.2.2) (fun u => [(ru, .inr (3, [.ref rc, .ref ra, .ref rm, .ref rv, .int (nI cnt)])), (rc, .inl (cI, 8, .inl gc)), (ra, .inl (cI, 8, .inl ga)), (rm, .inl (cI, 8, .inl gm)), (rv, .inl (cI, 8, .inl gv)), (q, .inr (1, [.ref o, .ref y, .ref n, .ref k, .int (nI ((fx_cmp rs v).length))])), (o, .inl (cI, 40, .inl u.1)), (y, .inl (cI, 40, .inl u.2.1)), (n, .inl (cI, 40, .inl u.2.2.1)), (k, .inl (cI, 40, .inl u.2.2.2))]) 0 0 := by
  refine fs_head (by decide) (Nat.le_of_ble_eq_true rfl) ?_
  intro p e s m below meth c A ls hx hb hr hts hown hlocks hin hml hK hP hD hS hA hAe hsz hl
  have hl : lv_has ls 4 [(0, .ref ru), (1, .ref q), (2, .int v)] := hl
  have hown : s.vm.findClass R_Ru = some m.cls := hown
  refine lv_aload_n hx hb d_Ru_translate_0 rfl (lv_at hl 1 rfl) ?_
  refine fs_calli (wc := [(q, .inr (1, [.ref o, .ref y, .ref n, .ref k, .int (nI len)]))]) (wr := [(ru, .inr (3, [.ref rc, .ref ra, .ref rm, .ref rv, .int (nI cnt)])), (rc, .inl (cI, 8, .inl gc)), (ra, .inl (cI, 8, .inl ga)), (rm, .inl (cI, 8, .inl gm)), (rv, .inl (cI, 8, .inl gv)), (o, .inl (cI, 40, .inl fo)), (y, .inl (cI, 40, .inl fy)), (n, .inl (cI, 40, .inl fn)), (k, .inl (cI, 40, .inl fk))]) [5] [0, 1, 2, 3, 4, 6, 7, 8, 9] hP hD hK hS hA rfl rfl rfl (by decide) (fun hPc hDc => va_runV (C := R_Fi) (As := []) (rest := []) ⟨hx, hb, hml, hown, hts⟩ (c_Fi_empty q o y n k len _) (⟨callB_of 0 hts (fs_g kin_Fi_empty) rfl rfl rfl (hts _ wi_2) (hts _ wi_262) (by decide +kernel) ⟨Nat.le_of_ble_eq_true rfl, Nat.le_of_ble_eq_true rfl⟩, hts _ wi_155, hts _ wi_156⟩) (fs_preV (q0 := 0) rfl rfl hPc hK hDc) rfl rfl hl.1 rfl (lv_room (Nat.le_of_ble_eq_true rfl)) d_Ru_translate_1 ⟨Nat.le_of_ble_eq_true rfl, Nat.le_of_ble_eq_true rfl⟩) rfl (fun r1 _ H locs hp1 hP hD hS => ?_)
  have hP : va_P (dC, dI) vwCl [(ru, .inr (3, [.ref rc, .ref ra, .ref rm, .ref rv, .int (nI cnt)])), (rc, .inl (cI, 8, .inl gc)), (ra, .inl (cI, 8, .inl ga)), (rm, .inl (cI, 8, .inl gm)), (rv, .inl (cI, 8, .inl gv)), (q, .inr (1, [.ref o, .ref y, .ref n, .ref k, .int (nI 0)])), (o, .inl (cI, 40, .inl fo)), (y, .inl (cI, 40, .inl fy)), (n, .inl (cI, 40, .inl fn)), (k, .inl (cI, 40, .inl fk))] H := hP.sub [0, 1, 2, 3, 4, 9, 5, 6, 7, 8] rfl
  have hD : va_D A [(ru, .inr (3, [.ref rc, .ref ra, .ref rm, .ref rv, .int (nI cnt)])), (rc, .inl (cI, 8, .inl gc)), (ra, .inl (cI, 8, .inl ga)), (rm, .inl (cI, 8, .inl gm)), (rv, .inl (cI, 8, .inl gv)), (q, .inr (1, [.ref o, .ref y, .ref n, .ref k, .int (nI 0)])), (o, .inl (cI, 40, .inl fo)), (y, .inl (cI, 40, .inl fy)), (n, .inl (cI, 40, .inl fn)), (k, .inl (cI, 40, .inl fk))] := hD.sub [0, 1, 2, 3, 4, 9, 5, 6, 7, 8] (by decide) rfl
  subst hp1
  refine lv_pop hx hb d_Ru_translate_4 rfl ?_
  refine lv_iconst (v := nI 0) hx hb d_Ru_translate_5 (by decide) ?_
  refine lv_istore_n hx hb d_Ru_translate_6 rfl hl (by decide) (lv' := [(3, .int (nI 0)), (0, .ref ru), (1, .ref q), (2, .int v)]) rfl (fun ls hl => ?_)
  refine fs_loop5 (α1 := Nat) (α2 := Nat → Int32) (α3 := Nat → Int32) (α4 := Nat → Int32) (α5 := Nat → Int32) (fun r fo fy fn fk => cnt - r) (fun r fo fy fn fk H locs ls => (r ≤ cnt) ∧ (fx_rep ((rs.take r).flatMap fx_one) fo fy fn fk) ∧ va_P (dC, dI) vwCl [(ru, .inr (3, [.ref rc, .ref ra, .ref rm, .ref rv, .int (nI cnt)])), (rc, .inl (cI, 8, .inl gc)), (ra, .inl (cI, 8, .inl ga)), (rm, .inl (cI, 8, .inl gm)), (rv, .inl (cI, 8, .inl gv)), (q, .inr (1, [.ref o, .ref y, .ref n, .ref k, .int (nI (((rs.take r).flatMap fx_one).length))])), (o, .inl (cI, 40, .inl fo)), (y, .inl (cI, 40, .inl fy)), (n, .inl (cI, 40, .inl fn)), (k, .inl (cI, 40, .inl fk))] H ∧ va_D A [(ru, .inr (3, [.ref rc, .ref ra, .ref rm, .ref rv, .int (nI cnt)])), (rc, .inl (cI, 8, .inl gc)), (ra, .inl (cI, 8, .inl ga)), (rm, .inl (cI, 8, .inl gm)), (rv, .inl (cI, 8, .inl gv)), (q, .inr (1, [.ref o, .ref y, .ref n, .ref k, .int (nI (((rs.take r).flatMap fx_one).length))])), (o, .inl (cI, 40, .inl fo)), (y, .inl (cI, 40, .inl fy)), (n, .inl (cI, 40, .inl fn)), (k, .inl (cI, 40, .inl fk))] ∧ va_S A s.heap H locs ∧ lv_has ls 4 [(0, .ref ru), (1, .ref q), (2, .int v), (3, .int (nI r))]) ?_ 0 fo fy fn fk ⟨by omega, fx_rep_nil _ _ _ _, hP, hD, hS, lv_sub hl [1, 2, 3, 0] rfl⟩
  intro r fo fy fn fk H locs ls hI ih7
  obtain ⟨hrc, hrep, hP, hD, hS, hl⟩ := hI
  refine lv_iload_n hx hb d_Ru_translate_7 rfl (lv_at hl 3 rfl) ?_
  refine lv_aload_n hx hb d_Ru_translate_8 rfl (lv_at hl 0 rfl) ?_
  refine va_get (D := (dC, dI)) (ci := 3) (v := .int (nI cnt)) (C := R_Ru) (T := T_Ru) (N := 5) hx hb hts uin_Ru hown hK hP 0 rfl rfl 4 (by decide) (hts _ wi_72) (fun _ h9 => h9) rfl d_Ru_translate_9 ?_
  refine lv_icmp_ge (tgt := 27) hx hb d_Ru_translate_12 (by decide) (fun hc12 => ?_) (fun hc12 => ?_)
  · rw [nI_leI (by omega) (by omega)] at hc12
    refine lv_aload_n hx hb d_Ru_translate_27 rfl (lv_at hl 1 rfl) ?_
    refine lv_bipush (v := nI 31) hx hb d_Ru_translate_28 (by decide) ?_
    refine lv_iconst (v := nI 0) hx hb d_Ru_translate_30 (by decide) ?_
    refine lv_iconst (v := nI 0) hx hb d_Ru_translate_31 (by decide) ?_
    refine lv_iload_n hx hb d_Ru_translate_32 rfl (lv_at hl 2 rfl) ?_
    refine fs_calli (wc := [(q, .inr (1, [.ref o, .ref y, .ref n, .ref k, .int (nI (((rs.take r).flatMap fx_one).length))])), (o, .inl (cI, 40, .inl fo)), (y, .inl (cI, 40, .inl fy)), (n, .inl (cI, 40, .inl fn)), (k, .inl (cI, 40, .inl fk))]) (wr := [(ru, .inr (3, [.ref rc, .ref ra, .ref rm, .ref rv, .int (nI cnt)])), (rc, .inl (cI, 8, .inl gc)), (ra, .inl (cI, 8, .inl ga)), (rm, .inl (cI, 8, .inl gm)), (rv, .inl (cI, 8, .inl gv))]) [5, 6, 7, 8, 9] [0, 1, 2, 3, 4] hP hD hK hS hA rfl rfl rfl (by decide) (fun hPc hDc => va_runV (C := R_Fi) (As := [.int (nI 31), .int (nI 0), .int (nI 0), .int v]) (rest := []) ⟨hx, hb, hml, hown, hts⟩ (c_Fi_append q o y n k (((rs.take r).flatMap fx_one).length) fo fy fn fk (nI 31) (nI 0) (nI 0) v _ (by have h1 := fx_take_len rs r; omega)) (⟨callB_of 4 hts (fs_g kin_Fi_append) rfl rfl rfl (hts _ wi_2) (hts _ wi_267) (by decide +kernel) ⟨Nat.le_of_ble_eq_true rfl, Nat.le_of_ble_eq_true rfl⟩, hts _ wi_147, hts _ wi_148⟩) (fs_preV (q0 := 0) rfl rfl hPc hK hDc) rfl rfl hl.1 rfl (lv_room (Nat.le_of_ble_eq_true rfl)) d_Ru_translate_33 ⟨Nat.le_of_ble_eq_true rfl, Nat.le_of_ble_eq_true rfl⟩) rfl (fun r33 _ H locs hp33 hP hD hS => ?_)
    have hP : va_P (dC, dI) vwCl [(ru, .inr (3, [.ref rc, .ref ra, .ref rm, .ref rv, .int (nI cnt)])), (rc, .inl (cI, 8, .inl gc)), (ra, .inl (cI, 8, .inl ga)), (rm, .inl (cI, 8, .inl gm)), (rv, .inl (cI, 8, .inl gv)), (q, .inr (1, [.ref o, .ref y, .ref n, .ref k, .int (nI (((rs.take r).flatMap fx_one).length + 1))])), (o, .inl (cI, 40, .inl (upd fo (((rs.take r).flatMap fx_one).length) (nI 31)))), (y, .inl (cI, 40, .inl (upd fy (((rs.take r).flatMap fx_one).length) (nI 0)))), (n, .inl (cI, 40, .inl (upd fn (((rs.take r).flatMap fx_one).length) (nI 0)))), (k, .inl (cI, 40, .inl (upd fk (((rs.take r).flatMap fx_one).length) v)))] H := hP
    have hD : va_D A [(ru, .inr (3, [.ref rc, .ref ra, .ref rm, .ref rv, .int (nI cnt)])), (rc, .inl (cI, 8, .inl gc)), (ra, .inl (cI, 8, .inl ga)), (rm, .inl (cI, 8, .inl gm)), (rv, .inl (cI, 8, .inl gv)), (q, .inr (1, [.ref o, .ref y, .ref n, .ref k, .int (nI (((rs.take r).flatMap fx_one).length + 1))])), (o, .inl (cI, 40, .inl (upd fo (((rs.take r).flatMap fx_one).length) (nI 31)))), (y, .inl (cI, 40, .inl (upd fy (((rs.take r).flatMap fx_one).length) (nI 0)))), (n, .inl (cI, 40, .inl (upd fn (((rs.take r).flatMap fx_one).length) (nI 0)))), (k, .inl (cI, 40, .inl (upd fk (((rs.take r).flatMap fx_one).length) v)))] := hD
    subst hp33
    refine lv_pop hx hb d_Ru_translate_36 rfl ?_
    have hall : rs.take r = rs := List.take_of_length_le (by omega)
    have hr0 := fx_rep_app (m := ((rs.take r).flatMap fx_one).length) (o := 31) (y := 0) (n := 0) (k := v) rfl rfl rfl rfl hrep
    have hcm : fx_cmp rs v = ((rs.take r).flatMap fx_one) ++ [(31, 0, 0, v)] := by rw [hall]; rfl
    rw [← hcm] at hr0
    have hln : ((rs.take r).flatMap fx_one).length + 1 = (fx_cmp rs v).length := by rw [hcm, List.length_append]; rfl
    rw [hln] at hP hD
    exact fs_vret hx hb hr hlocks hAe hK hS d_Ru_translate_37 (upd fo (((rs.take r).flatMap fx_one).length) (nI 31), upd fy (((rs.take r).flatMap fx_one).length) (nI 0), upd fn (((rs.take r).flatMap fx_one).length) (nI 0), upd fk (((rs.take r).flatMap fx_one).length) v) (hr0) hP hD
  rw [nI_leI (by omega) (by omega)] at hc12
  refine lv_aload_n hx hb d_Ru_translate_15 rfl (lv_at hl 0 rfl) ?_
  refine lv_aload_n hx hb d_Ru_translate_16 rfl (lv_at hl 1 rfl) ?_
  refine lv_iload_n hx hb d_Ru_translate_17 rfl (lv_at hl 3 rfl) ?_
  refine fs_callv (wc := [(ru, .inr (3, [.ref rc, .ref ra, .ref rm, .ref rv, .int (nI cnt)])), (rc, .inl (cI, 8, .inl gc)), (ra, .inl (cI, 8, .inl ga)), (rm, .inl (cI, 8, .inl gm)), (rv, .inl (cI, 8, .inl gv)), (q, .inr (1, [.ref o, .ref y, .ref n, .ref k, .int (nI (((rs.take r).flatMap fx_one).length))])), (o, .inl (cI, 40, .inl fo)), (y, .inl (cI, 40, .inl fy)), (n, .inl (cI, 40, .inl fn)), (k, .inl (cI, 40, .inl fk))]) (wr := []) [0, 1, 2, 3, 4, 5, 6, 7, 8, 9] [] hP hD hK hS hA rfl rfl rfl (by decide) (fun hPc hDc => va_runV (C := R_Ru) (As := [.ref q, .int (nI r)]) (rest := []) ⟨hx, hb, hml, hown, hts⟩ (c_Ru_translateOne ru rc ra rm rv cnt gc ga gm gv q o y n k fo fy fn fk ((rs.take r).flatMap fx_one) r _ hrep (by omega) (by have h1 := fx_take_len rs (r + 1); rw [fx_take hrr (by omega), List.length_append, fx_one_len] at h1; dsimp only at h1; omega)) (⟨callB_of 2 hts (fs_g kin_Ru_translateOne) rfl rfl rfl (hts _ wi_3) (hts _ wi_263) (by decide +kernel) ⟨Nat.le_of_ble_eq_true rfl, Nat.le_of_ble_eq_true rfl⟩, hts _ wi_265, hts _ sel_Ru_translateOne⟩) (fs_preV (q0 := 0) rfl rfl hPc hK hDc) rfl rfl hl.1 rfl (lv_room (Nat.le_of_ble_eq_true rfl)) d_Ru_translate_18 ⟨Nat.le_of_ble_eq_true rfl, Nat.le_of_ble_eq_true rfl⟩) rfl (fun u H locs hp18 hP hD hS => ?_)
  have hP : va_P (dC, dI) vwCl [(ru, .inr (3, [.ref rc, .ref ra, .ref rm, .ref rv, .int (nI cnt)])), (rc, .inl (cI, 8, .inl gc)), (ra, .inl (cI, 8, .inl ga)), (rm, .inl (cI, 8, .inl gm)), (rv, .inl (cI, 8, .inl gv)), (q, .inr (1, [.ref o, .ref y, .ref n, .ref k, .int (nI (((rs.take r).flatMap fx_one ++ fx_one (gc r, ga r, gm r, gv r)).length))])), (o, .inl (cI, 40, .inl u.1)), (y, .inl (cI, 40, .inl u.2.1)), (n, .inl (cI, 40, .inl u.2.2.1)), (k, .inl (cI, 40, .inl u.2.2.2))] H := hP
  have hD : va_D A [(ru, .inr (3, [.ref rc, .ref ra, .ref rm, .ref rv, .int (nI cnt)])), (rc, .inl (cI, 8, .inl gc)), (ra, .inl (cI, 8, .inl ga)), (rm, .inl (cI, 8, .inl gm)), (rv, .inl (cI, 8, .inl gv)), (q, .inr (1, [.ref o, .ref y, .ref n, .ref k, .int (nI (((rs.take r).flatMap fx_one ++ fx_one (gc r, ga r, gm r, gv r)).length))])), (o, .inl (cI, 40, .inl u.1)), (y, .inl (cI, 40, .inl u.2.1)), (n, .inl (cI, 40, .inl u.2.2.1)), (k, .inl (cI, 40, .inl u.2.2.2))] := hD
  rw [← fx_take hrr (by omega)] at hP hD
  refine lv_iinc (v := nI (r + 1)) (k := 3) hx hb d_Ru_translate_21 hl rfl (fs_incN r 1) (by decide) (lv' := [(3, .int (nI (r + 1))), (0, .ref ru), (1, .ref q), (2, .int v)]) rfl (fun ls hl => ?_)
  refine lv_goto (tgt := 7) hx hb d_Ru_translate_24 (by decide) ?_
  exact ih7 (r + 1) u.1 u.2.1 u.2.2.1 u.2.2.2 _ _ _ (by omega) ⟨by omega, by rw [fx_take hrr (by omega)]; exact hp18, hP, hD, hS, lv_sub hl [1, 2, 3, 0] rfl⟩

end RU
end
section
section FS
variable {l : Launch} {dC : Nat → ClassId} {dI : Nat → Nat → Nat} {cI cZ cJ cF : ClassId}
section FSA
variable {p : Program} {l : Launch} {e : Env} {R : Room} {s : State} {m : MethodId} {args : Array Value} {below : List Frame} {meth : Method} {c : Code} {H : Heap} {locs : List Loc} {cells slots : Nat} {Q : State → Prop}
variable {cc : ByteArray} {pc : Nat} {ls : Array Slot} {rest : List Value} {D : va_G} {cl : List vw_C} {a : Nat} {tys : List (ClassId × FieldType)} {ws : va_W}
theorem fs_aald (hexec : p.tables.exec = Jvm.exec) (hb : c.code = cc) (hK : va_K D cl tys s) (hP : va_P D cl ws H) (q0 t0 : Nat) {cA : ClassId} {C : String} {n : Nat} {f : Nat → Option Nat} (ha : ws[q0]? = some (a, .inl (cA, n, .inr (.inr (.inr (.inr f)))))) (ht : tys[t0]? = some (cA, .object C)) {i : Int32} (j : Nat) (hi : i = nI j) (hn : n < 2 ^ 31) (hj : j < n) {b : Nat} (hv : f j = some b) (hdg : decode cc pc = .ok (.aaload, 1))
    (kk : W p l e R s m args below meth c H locs cells slots Q (F0 m (pc + 1) ls (.ref b :: rest))) : W p l e R s m args below meth c H locs cells slots Q (F0 m pc ls (.int i :: .ref a :: rest)) := by
  subst hi
  refine va_aldq hexec hb hK hP q0 t0 ha ht (vp_in_nI hj hn) hdg ?_
  rw [nI_clamp (Nat.lt_trans hj hn), hv]
  exact kk
end FSA
theorem d_Fi_become_0 : decode b_Fi_become 0 = .ok (.aload_n 1, 1) := by decide +kernel
theorem d_Fi_become_1 : decode b_Fi_become 1 = .ok (.getfield 9, 3) := by decide +kernel
theorem d_Fi_become_4 : decode b_Fi_become 4 = .ok (.iconst 0, 1) := by decide +kernel
theorem d_Fi_become_5 : decode b_Fi_become 5 = .ok (.aload_n 0, 1) := by decide +kernel
theorem d_Fi_become_6 : decode b_Fi_become 6 = .ok (.getfield 9, 3) := by decide +kernel
theorem d_Fi_become_9 : decode b_Fi_become 9 = .ok (.iconst 0, 1) := by decide +kernel
theorem d_Fi_become_10 : decode b_Fi_become 10 = .ok (.bipush 40, 2) := by decide +kernel
theorem d_Fi_become_12 : decode b_Fi_become 12 = .ok (.invokestatic 28, 3) := by decide +kernel
theorem d_Fi_become_15 : decode b_Fi_become 15 = .ok (.aload_n 1, 1) := by decide +kernel
theorem d_Fi_become_16 : decode b_Fi_become 16 = .ok (.getfield 15, 3) := by decide +kernel
theorem d_Fi_become_19 : decode b_Fi_become 19 = .ok (.iconst 0, 1) := by decide +kernel
theorem d_Fi_become_20 : decode b_Fi_become 20 = .ok (.aload_n 0, 1) := by decide +kernel
theorem d_Fi_become_21 : decode b_Fi_become 21 = .ok (.getfield 15, 3) := by decide +kernel
theorem d_Fi_become_24 : decode b_Fi_become 24 = .ok (.iconst 0, 1) := by decide +kernel
theorem d_Fi_become_25 : decode b_Fi_become 25 = .ok (.bipush 40, 2) := by decide +kernel
theorem d_Fi_become_27 : decode b_Fi_become 27 = .ok (.invokestatic 28, 3) := by decide +kernel
theorem d_Fi_become_30 : decode b_Fi_become 30 = .ok (.aload_n 1, 1) := by decide +kernel
theorem d_Fi_become_31 : decode b_Fi_become 31 = .ok (.getfield 18, 3) := by decide +kernel
theorem d_Fi_become_34 : decode b_Fi_become 34 = .ok (.iconst 0, 1) := by decide +kernel
theorem d_Fi_become_35 : decode b_Fi_become 35 = .ok (.aload_n 0, 1) := by decide +kernel
theorem d_Fi_become_36 : decode b_Fi_become 36 = .ok (.getfield 18, 3) := by decide +kernel
theorem d_Fi_become_39 : decode b_Fi_become 39 = .ok (.iconst 0, 1) := by decide +kernel
theorem d_Fi_become_40 : decode b_Fi_become 40 = .ok (.bipush 40, 2) := by decide +kernel
theorem d_Fi_become_42 : decode b_Fi_become 42 = .ok (.invokestatic 28, 3) := by decide +kernel
theorem d_Fi_become_45 : decode b_Fi_become 45 = .ok (.aload_n 1, 1) := by decide +kernel
theorem d_Fi_become_46 : decode b_Fi_become 46 = .ok (.getfield 21, 3) := by decide +kernel
theorem d_Fi_become_49 : decode b_Fi_become 49 = .ok (.iconst 0, 1) := by decide +kernel
theorem d_Fi_become_50 : decode b_Fi_become 50 = .ok (.aload_n 0, 1) := by decide +kernel
theorem d_Fi_become_51 : decode b_Fi_become 51 = .ok (.getfield 21, 3) := by decide +kernel
theorem d_Fi_become_54 : decode b_Fi_become 54 = .ok (.iconst 0, 1) := by decide +kernel
theorem d_Fi_become_55 : decode b_Fi_become 55 = .ok (.bipush 40, 2) := by decide +kernel
theorem d_Fi_become_57 : decode b_Fi_become 57 = .ok (.invokestatic 28, 3) := by decide +kernel
theorem d_Fi_become_60 : decode b_Fi_become 60 = .ok (.aload_n 0, 1) := by decide +kernel
theorem d_Fi_become_61 : decode b_Fi_become 61 = .ok (.aload_n 1, 1) := by decide +kernel
theorem d_Fi_become_62 : decode b_Fi_become 62 = .ok (.getfield 24, 3) := by decide +kernel
theorem d_Fi_become_65 : decode b_Fi_become 65 = .ok (.putfield 24, 3) := by decide +kernel
theorem d_Fi_become_68 : decode b_Fi_become 68 = .ok (.return_, 1) := by decide +kernel
set_option maxHeartbeats 4000000 in
set_option maxRecDepth 100000 in
theorem c_Fi_become (q o y n k len : Nat) (fo fy fn fk : Nat → Int32) (p po py pn pk plen : Nat) (go gy gn gk : Nat → Int32) (sz : Nat)  : fs_V l y_Fi_become (k_Fi_become :: fs_T) { frames := 1, cells := 0, slots := 0, locals := 40 } (dC, dI) vwCl (fs_tys cI cZ cJ cF) [.ref q, .ref p] [(q, .inr (1, [.ref o, .ref y, .ref n, .ref k, .int (nI len)])), (o, .inl (cI, 40, .inl fo)), (y, .inl (cI, 40, .inl fy)), (n, .inl (cI, 40, .inl fn)), (k, .inl (cI, 40, .inl fk)), (p, .inr (1, [.ref po, .ref py, .ref pn, .ref pk, .int (nI plen)])), (po, .inl (cI, 40, .inl go)), (py, .inl (cI, 40, .inl gy)), (pn, .inl (cI, 40, .inl gn)), (pk, .inl (cI, 40, .inl gk))] sz (S := Unit) (fun _ => True) (fun _ => [(q, .inr (1, [.ref o, .ref y, .ref n, .ref k, .int (nI plen)])), (o, .inl (cI, 40, .inl go)), (y, .inl (cI, 40, .inl gy)), (n, .inl (cI, 40, .inl gn)), (k, .inl (cI, 40, .inl gk)), (p, .inr (1, [.ref po, .ref py, .ref pn, .ref pk, .int (nI plen)])), (po, .inl (cI, 40, .inl go)), (py, .inl (cI, 40, .inl gy)), (pn, .inl (cI, 40, .inl gn)), (pk, .inl (cI, 40, .inl gk))]) 0 0 := by
  refine fs_head (by decide) (Nat.le_of_ble_eq_true rfl) ?_
  intro p9 e s m below meth c A ls hx hb hr hts hown hlocks hin hml hK hP hD hS hA hAe hsz hl
  have hl : lv_has ls 2 [(0, .ref q), (1, .ref p)] := hl
  have hown : s.vm.findClass R_Fi = some m.cls := hown
  refine lv_aload_n hx hb d_Fi_become_0 rfl (lv_at hl 1 rfl) ?_
  refine va_get (D := (dC, dI)) (ci := 1) (v := .ref po) (C := R_Fi) (T := T_Fi) (N := 5) hx hb hts uin_Fi hown hK hP 5 rfl rfl 0 (by decide) (hts _ wi_30) (fun _ h9 => h9) rfl d_Fi_become_1 ?_
  refine lv_iconst (v := nI 0) hx hb d_Fi_become_4 (by decide) ?_
  refine lv_aload_n hx hb d_Fi_become_5 rfl (lv_at hl 0 rfl) ?_
  refine va_get (D := (dC, dI)) (ci := 1) (v := .ref o) (C := R_Fi) (T := T_Fi) (N := 5) hx hb hts uin_Fi hown hK hP 0 rfl rfl 0 (by decide) (hts _ wi_30) (fun _ h9 => h9) rfl d_Fi_become_6 ?_
  refine lv_iconst (v := nI 0) hx hb d_Fi_become_9 (by decide) ?_
  refine lv_bipush (v := nI 40) hx hb d_Fi_become_10 (by decide) ?_
  refine va_copyi hx hb (hml.trans hl.1.symm) hown (hts _ wi_421) (hts _ wi_423) (hts _ wi_422) (hts _ wi_14) hK hP hD hS 6 1 0 0 rfl rfl rfl rfl rfl (by decide) (by decide) (by decide) (by decide) (by decide) (fun _ _ => rfl) (Nat.le_of_ble_eq_true rfl) (Nat.le_of_ble_eq_true rfl) d_Fi_become_12 (fun H locs hP hD hS => ?_)
  obtain ⟨hP, hD⟩ := fs_atc 1 (g := go) (fun j hj => by show va_cpy _ _ 0 0 40 j = _; rw [pk_cpy_in (by omega) (by omega)]; simp) rfl rfl hP hD
  have hP : va_P (dC, dI) vwCl [(q, .inr (1, [.ref o, .ref y, .ref n, .ref k, .int (nI len)])), (o, .inl (cI, 40, .inl go)), (y, .inl (cI, 40, .inl fy)), (n, .inl (cI, 40, .inl fn)), (k, .inl (cI, 40, .inl fk)), (p, .inr (1, [.ref po, .ref py, .ref pn, .ref pk, .int (nI plen)])), (po, .inl (cI, 40, .inl go)), (py, .inl (cI, 40, .inl gy)), (pn, .inl (cI, 40, .inl gn)), (pk, .inl (cI, 40, .inl gk))] H := hP
  have hD : va_D A [(q, .inr (1, [.ref o, .ref y, .ref n, .ref k, .int (nI len)])), (o, .inl (cI, 40, .inl go)), (y, .inl (cI, 40, .inl fy)), (n, .inl (cI, 40, .inl fn)), (k, .inl (cI, 40, .inl fk)), (p, .inr (1, [.ref po, .ref py, .ref pn, .ref pk, .int (nI plen)])), (po, .inl (cI, 40, .inl go)), (py, .inl (cI, 40, .inl gy)), (pn, .inl (cI, 40, .inl gn)), (pk, .inl (cI, 40, .inl gk))] := hD
  refine lv_aload_n hx hb d_Fi_become_15 rfl (lv_at hl 1 rfl) ?_
  refine va_get (D := (dC, dI)) (ci := 1) (v := .ref py) (C := R_Fi) (T := T_Fi) (N := 5) hx hb hts uin_Fi hown hK hP 5 rfl rfl 1 (by decide) (hts _ wi_34) (fun _ h9 => h9) rfl d_Fi_become_16 ?_
  refine lv_iconst (v := nI 0) hx hb d_Fi_become_19 (by decide) ?_
  refine lv_aload_n hx hb d_Fi_become_20 rfl (lv_at hl 0 rfl) ?_
  refine va_get (D := (dC, dI)) (ci := 1) (v := .ref y) (C := R_Fi) (T := T_Fi) (N := 5) hx hb hts uin_Fi hown hK hP 0 rfl rfl 1 (by decide) (hts _ wi_34) (fun _ h9 => h9) rfl d_Fi_become_21 ?_
  refine lv_iconst (v := nI 0) hx hb d_Fi_become_24 (by decide) ?_
  refine lv_bipush (v := nI 40) hx hb d_Fi_become_25 (by decide) ?_
  refine va_copyi hx hb (hml.trans hl.1.symm) hown (hts _ wi_421) (hts _ wi_423) (hts _ wi_422) (hts _ wi_14) hK hP hD hS 7 2 0 0 rfl rfl rfl rfl rfl (by decide) (by decide) (by decide) (by decide) (by decide) (fun _ _ => rfl) (Nat.le_of_ble_eq_true rfl) (Nat.le_of_ble_eq_true rfl) d_Fi_become_27 (fun H locs hP hD hS => ?_)
  obtain ⟨hP, hD⟩ := fs_atc 2 (g := gy) (fun j hj => by show va_cpy _ _ 0 0 40 j = _; rw [pk_cpy_in (by omega) (by omega)]; simp) rfl rfl hP hD
  have hP : va_P (dC, dI) vwCl [(q, .inr (1, [.ref o, .ref y, .ref n, .ref k, .int (nI len)])), (o, .inl (cI, 40, .inl go)), (y, .inl (cI, 40, .inl gy)), (n, .inl (cI, 40, .inl fn)), (k, .inl (cI, 40, .inl fk)), (p, .inr (1, [.ref po, .ref py, .ref pn, .ref pk, .int (nI plen)])), (po, .inl (cI, 40, .inl go)), (py, .inl (cI, 40, .inl gy)), (pn, .inl (cI, 40, .inl gn)), (pk, .inl (cI, 40, .inl gk))] H := hP
  have hD : va_D A [(q, .inr (1, [.ref o, .ref y, .ref n, .ref k, .int (nI len)])), (o, .inl (cI, 40, .inl go)), (y, .inl (cI, 40, .inl gy)), (n, .inl (cI, 40, .inl fn)), (k, .inl (cI, 40, .inl fk)), (p, .inr (1, [.ref po, .ref py, .ref pn, .ref pk, .int (nI plen)])), (po, .inl (cI, 40, .inl go)), (py, .inl (cI, 40, .inl gy)), (pn, .inl (cI, 40, .inl gn)), (pk, .inl (cI, 40, .inl gk))] := hD
  refine lv_aload_n hx hb d_Fi_become_30 rfl (lv_at hl 1 rfl) ?_
  refine va_get (D := (dC, dI)) (ci := 1) (v := .ref pn) (C := R_Fi) (T := T_Fi) (N := 5) hx hb hts uin_Fi hown hK hP 5 rfl rfl 2 (by decide) (hts _ wi_38) (fun _ h9 => h9) rfl d_Fi_become_31 ?_
  refine lv_iconst (v := nI 0) hx hb d_Fi_become_34 (by decide) ?_
  refine lv_aload_n hx hb d_Fi_become_35 rfl (lv_at hl 0 rfl) ?_
  refine va_get (D := (dC, dI)) (ci := 1) (v := .ref n) (C := R_Fi) (T := T_Fi) (N := 5) hx hb hts uin_Fi hown hK hP 0 rfl rfl 2 (by decide) (hts _ wi_38) (fun _ h9 => h9) rfl d_Fi_become_36 ?_
  refine lv_iconst (v := nI 0) hx hb d_Fi_become_39 (by decide) ?_
  refine lv_bipush (v := nI 40) hx hb d_Fi_become_40 (by decide) ?_
  refine va_copyi hx hb (hml.trans hl.1.symm) hown (hts _ wi_421) (hts _ wi_423) (hts _ wi_422) (hts _ wi_14) hK hP hD hS 8 3 0 0 rfl rfl rfl rfl rfl (by decide) (by decide) (by decide) (by decide) (by decide) (fun _ _ => rfl) (Nat.le_of_ble_eq_true rfl) (Nat.le_of_ble_eq_true rfl) d_Fi_become_42 (fun H locs hP hD hS => ?_)
  obtain ⟨hP, hD⟩ := fs_atc 3 (g := gn) (fun j hj => by show va_cpy _ _ 0 0 40 j = _; rw [pk_cpy_in (by omega) (by omega)]; simp) rfl rfl hP hD
  have hP : va_P (dC, dI) vwCl [(q, .inr (1, [.ref o, .ref y, .ref n, .ref k, .int (nI len)])), (o, .inl (cI, 40, .inl go)), (y, .inl (cI, 40, .inl gy)), (n, .inl (cI, 40, .inl gn)), (k, .inl (cI, 40, .inl fk)), (p, .inr (1, [.ref po, .ref py, .ref pn, .ref pk, .int (nI plen)])), (po, .inl (cI, 40, .inl go)), (py, .inl (cI, 40, .inl gy)), (pn, .inl (cI, 40, .inl gn)), (pk, .inl (cI, 40, .inl gk))] H := hP
  have hD : va_D A [(q, .inr (1, [.ref o, .ref y, .ref n, .ref k, .int (nI len)])), (o, .inl (cI, 40, .inl go)), (y, .inl (cI, 40, .inl gy)), (n, .inl (cI, 40, .inl gn)), (k, .inl (cI, 40, .inl fk)), (p, .inr (1, [.ref po, .ref py, .ref pn, .ref pk, .int (nI plen)])), (po, .inl (cI, 40, .inl go)), (py, .inl (cI, 40, .inl gy)), (pn, .inl (cI, 40, .inl gn)), (pk, .inl (cI, 40, .inl gk))] := hD
  refine lv_aload_n hx hb d_Fi_become_45 rfl (lv_at hl 1 rfl) ?_
  refine va_get (D := (dC, dI)) (ci := 1) (v := .ref pk) (C := R_Fi) (T := T_Fi) (N := 5) hx hb hts uin_Fi hown hK hP 5 rfl rfl 3 (by decide) (hts _ wi_42) (fun _ h9 => h9) rfl d_Fi_become_46 ?_
  refine lv_iconst (v := nI 0) hx hb d_Fi_become_49 (by decide) ?_
  refine lv_aload_n hx hb d_Fi_become_50 rfl (lv_at hl 0 rfl) ?_
  refine va_get (D := (dC, dI)) (ci := 1) (v := .ref k) (C := R_Fi) (T := T_Fi) (N := 5) hx hb hts uin_Fi hown hK hP 0 rfl rfl 3 (by decide) (hts _ wi_42) (fun _ h9 => h9) rfl d_Fi_become_51 ?_
  refine lv_iconst (v := nI 0) hx hb d_Fi_become_54 (by decide) ?_
  refine lv_bipush (v := nI 40) hx hb d_Fi_become_55 (by decide) ?_
  refine va_copyi hx hb (hml.trans hl.1.symm) hown (hts _ wi_421) (hts _ wi_423) (hts _ wi_422) (hts _ wi_14) hK hP hD hS 9 4 0 0 rfl rfl rfl rfl rfl (by decide) (by decide) (by decide) (by decide) (by decide) (fun _ _ => rfl) (Nat.le_of_ble_eq_true rfl) (Nat.le_of_ble_eq_true rfl) d_Fi_become_57 (fun H locs hP hD hS => ?_)
  obtain ⟨hP, hD⟩ := fs_atc 4 (g := gk) (fun j hj => by show va_cpy _ _ 0 0 40 j = _; rw [pk_cpy_in (by omega) (by omega)]; simp) rfl rfl hP hD
  have hP : va_P (dC, dI) vwCl [(q, .inr (1, [.ref o, .ref y, .ref n, .ref k, .int (nI len)])), (o, .inl (cI, 40, .inl go)), (y, .inl (cI, 40, .inl gy)), (n, .inl (cI, 40, .inl gn)), (k, .inl (cI, 40, .inl gk)), (p, .inr (1, [.ref po, .ref py, .ref pn, .ref pk, .int (nI plen)])), (po, .inl (cI, 40, .inl go)), (py, .inl (cI, 40, .inl gy)), (pn, .inl (cI, 40, .inl gn)), (pk, .inl (cI, 40, .inl gk))] H := hP
  have hD : va_D A [(q, .inr (1, [.ref o, .ref y, .ref n, .ref k, .int (nI len)])), (o, .inl (cI, 40, .inl go)), (y, .inl (cI, 40, .inl gy)), (n, .inl (cI, 40, .inl gn)), (k, .inl (cI, 40, .inl gk)), (p, .inr (1, [.ref po, .ref py, .ref pn, .ref pk, .int (nI plen)])), (po, .inl (cI, 40, .inl go)), (py, .inl (cI, 40, .inl gy)), (pn, .inl (cI, 40, .inl gn)), (pk, .inl (cI, 40, .inl gk))] := hD
  refine lv_aload_n hx hb d_Fi_become_60 rfl (lv_at hl 0 rfl) ?_
  refine lv_aload_n hx hb d_Fi_become_61 rfl (lv_at hl 1 rfl) ?_
  refine va_get (D := (dC, dI)) (ci := 1) (v := .int (nI plen)) (C := R_Fi) (T := T_Fi) (N := 5) hx hb hts uin_Fi hown hK hP 5 rfl rfl 4 (by decide) (hts _ wi_46) (fun _ h9 => h9) rfl d_Fi_become_62 ?_
  refine va_put (D := (dC, dI)) (ci := 1) (v := .int (nI plen)) (ty := (.int)) (C := R_Fi) (T := T_Fi) (N := 5) hx hb hts uin_Fi t_Fi ok_Fi n_Fi hown hK hP hD hS 0 rfl rfl 4 (by decide) (hts _ wi_46) (fun _ h9 => h9) rfl (by decide +kernel) rfl rfl (Nat.le_of_ble_eq_true rfl) d_Fi_become_65 (fun H locs hP hD hS => ?_)
  have hP : va_P (dC, dI) vwCl [(q, .inr (1, [.ref o, .ref y, .ref n, .ref k, .int (nI plen)])), (o, .inl (cI, 40, .inl go)), (y, .inl (cI, 40, .inl gy)), (n, .inl (cI, 40, .inl gn)), (k, .inl (cI, 40, .inl gk)), (p, .inr (1, [.ref po, .ref py, .ref pn, .ref pk, .int (nI plen)])), (po, .inl (cI, 40, .inl go)), (py, .inl (cI, 40, .inl gy)), (pn, .inl (cI, 40, .inl gn)), (pk, .inl (cI, 40, .inl gk))] H := hP
  have hD : va_D A [(q, .inr (1, [.ref o, .ref y, .ref n, .ref k, .int (nI plen)])), (o, .inl (cI, 40, .inl go)), (y, .inl (cI, 40, .inl gy)), (n, .inl (cI, 40, .inl gn)), (k, .inl (cI, 40, .inl gk)), (p, .inr (1, [.ref po, .ref py, .ref pn, .ref pk, .int (nI plen)])), (po, .inl (cI, 40, .inl go)), (py, .inl (cI, 40, .inl gy)), (pn, .inl (cI, 40, .inl gn)), (pk, .inl (cI, 40, .inl gk))] := hD
  exact fs_vret hx hb hr hlocks hAe hK hS d_Fi_become_68 () (trivial) hP hD

theorem d_Fs_isFilter_0 : decode b_Fs_isFilter 0 = .ok (.iload_n 0, 1) := by decide +kernel
theorem d_Fs_isFilter_1 : decode b_Fs_isFilter 1 = .ok (.ifCond .lt 12, 3) := by decide +kernel
theorem d_Fs_isFilter_4 : decode b_Fs_isFilter 4 = .ok (.iload_n 0, 1) := by decide +kernel
theorem d_Fs_isFilter_5 : decode b_Fs_isFilter 5 = .ok (.iconst 4, 1) := by decide +kernel
theorem d_Fs_isFilter_6 : decode b_Fs_isFilter 6 = .ok (.if_icmp .ge 7, 3) := by decide +kernel
theorem d_Fs_isFilter_9 : decode b_Fs_isFilter 9 = .ok (.iconst 1, 1) := by decide +kernel
theorem d_Fs_isFilter_10 : decode b_Fs_isFilter 10 = .ok (.goto 4, 3) := by decide +kernel
theorem d_Fs_isFilter_13 : decode b_Fs_isFilter 13 = .ok (.iconst 0, 1) := by decide +kernel
theorem d_Fs_isFilter_14 : decode b_Fs_isFilter 14 = .ok (.ireturn, 1) := by decide +kernel
set_option maxHeartbeats 4000000 in
set_option maxRecDepth 100000 in
theorem c_Fs_isFilter (f : Int32) (sz : Nat)  : fs_I l y_Fs_isFilter (k_Fs_isFilter :: fs_T) { frames := 0, cells := 0, slots := 0, locals := 0 } (dC, dI) vwCl (fs_tys cI cZ cJ cF) [.int f] [] sz (S := Unit) (fun r _ => ((∃ j, j < 4 ∧ f = nI j) ∧ r = nI 1) ∨ ((∀ j, j < 4 → f ≠ nI j) ∧ r = nI 0)) (fun _ => []) 0 0 := by
  refine fs_head (by decide) (Nat.le_of_ble_eq_true rfl) ?_
  intro p e s m below meth c A ls hx hb hr hts hown hlocks hin hml hK hP hD hS hA hAe hsz hl
  have hl : lv_has ls 1 [(0, .int f)] := hl
  have hown : s.vm.findClass R_Fs = some m.cls := hown
  refine lv_iload_n hx hb d_Fs_isFilter_0 rfl (lv_at hl 0 rfl) ?_
  refine lv_if_lt (tgt := 13) hx hb d_Fs_isFilter_1 (by decide) (fun hc1 => ?_) (fun hc1 => ?_)
  · rw [fs_lt0] at hc1
    refine lv_iconst (v := nI 0) hx hb d_Fs_isFilter_13 (by decide) ?_
    exact fs_zret hx hb hr hlocks hAe hK hS d_Fs_isFilter_14 (by decide) () (Or.inr ⟨fun j hj e => by rw [e, nI_toInt (by omega)] at hc1; omega, rfl⟩) hP hD
  rw [fs_lt0] at hc1
  refine lv_iload_n hx hb d_Fs_isFilter_4 rfl (lv_at hl 0 rfl) ?_
  refine lv_iconst (v := nI 4) hx hb d_Fs_isFilter_5 (by decide) ?_
  refine lv_icmp_ge (tgt := 13) hx hb d_Fs_isFilter_6 (by decide) (fun hc6 => ?_) (fun hc6 => ?_)
  · rw [fs_Nle (by omega)] at hc6
    refine lv_iconst (v := nI 0) hx hb d_Fs_isFilter_13 (by decide) ?_
    exact fs_zret hx hb hr hlocks hAe hK hS d_Fs_isFilter_14 (by decide) () (Or.inr ⟨fun j hj e => by rw [e, nI_toInt (by omega)] at hc6; omega, rfl⟩) hP hD
  rw [fs_Nle (by omega)] at hc6
  refine lv_iconst (v := nI 1) hx hb d_Fs_isFilter_9 (by decide) ?_
  refine lv_goto (tgt := 14) hx hb d_Fs_isFilter_10 (by decide) ?_
  exact fs_zret hx hb hr hlocks hAe hK hS d_Fs_isFilter_14 (by decide) () (Or.inl ⟨fs_of (by decide) (by omega) (by omega), rfl⟩) hP hD

set_option maxHeartbeats 4000000 in
set_option maxRecDepth 100000 in
theorem c_Fs_isFilterT (j : Nat) (sz : Nat) (hj : j < 4) : fs_I l y_Fs_isFilter (k_Fs_isFilter :: fs_T) { frames := 0, cells := 0, slots := 0, locals := 0 } (dC, dI) vwCl (fs_tys cI cZ cJ cF) [.int (nI j)] [] sz (S := Unit) (fun r _ => r = nI 1) (fun _ => []) 0 0 := by
  refine fs_head (by decide) (Nat.le_of_ble_eq_true rfl) ?_
  intro p e s m below meth c A ls hx hb hr hts hown hlocks hin hml hK hP hD hS hA hAe hsz hl
  have hl : lv_has ls 1 [(0, .int (nI j))] := hl
  have hown : s.vm.findClass R_Fs = some m.cls := hown
  refine lv_iload_n hx hb d_Fs_isFilter_0 rfl (lv_at hl 0 rfl) ?_
  refine lv_if_lt (tgt := 13) hx hb d_Fs_isFilter_1 (by decide) (fun hc => absurd hc (nI_pos (by omega))) (fun _ => ?_)
  refine lv_iload_n hx hb d_Fs_isFilter_4 rfl (lv_at hl 0 rfl) ?_
  refine lv_iconst (v := nI 4) hx hb d_Fs_isFilter_5 (by decide) ?_
  refine lv_icmp_ge (tgt := 13) hx hb d_Fs_isFilter_6 (by decide) (fun hc6 => absurd hc6 (by first | exact nI_ge (by omega) (by omega) | (rw [nI_ltI (by omega) (by omega)]; omega))) (fun hc6 => ?_)
  rw [nI_leI (by omega) (by omega)] at hc6
  refine lv_iconst (v := nI 1) hx hb d_Fs_isFilter_9 (by decide) ?_
  refine lv_goto (tgt := 14) hx hb d_Fs_isFilter_10 (by decide) ?_
  exact fs_zret hx hb hr hlocks hAe hK hS d_Fs_isFilter_14 (by decide) () (rfl) hP hD

theorem d_Fs_isDistance_0 : decode b_Fs_isDistance 0 = .ok (.iload_n 0, 1) := by decide +kernel
theorem d_Fs_isDistance_1 : decode b_Fs_isDistance 1 = .ok (.ifCond .lt 14, 3) := by decide +kernel
theorem d_Fs_isDistance_4 : decode b_Fs_isDistance 4 = .ok (.iload_n 0, 1) := by decide +kernel
theorem d_Fs_isDistance_5 : decode b_Fs_isDistance 5 = .ok (.sipush 255, 3) := by decide +kernel
theorem d_Fs_isDistance_8 : decode b_Fs_isDistance 8 = .ok (.if_icmp .gt 7, 3) := by decide +kernel
theorem d_Fs_isDistance_11 : decode b_Fs_isDistance 11 = .ok (.iconst 1, 1) := by decide +kernel
theorem d_Fs_isDistance_12 : decode b_Fs_isDistance 12 = .ok (.goto 4, 3) := by decide +kernel
theorem d_Fs_isDistance_15 : decode b_Fs_isDistance 15 = .ok (.iconst 0, 1) := by decide +kernel
theorem d_Fs_isDistance_16 : decode b_Fs_isDistance 16 = .ok (.ireturn, 1) := by decide +kernel
set_option maxHeartbeats 4000000 in
set_option maxRecDepth 100000 in
theorem c_Fs_isDistance (f : Int32) (sz : Nat)  : fs_I l y_Fs_isDistance (k_Fs_isDistance :: fs_T) { frames := 0, cells := 0, slots := 0, locals := 0 } (dC, dI) vwCl (fs_tys cI cZ cJ cF) [.int f] [] sz (S := Unit) (fun r _ => ((∃ j, j < 256 ∧ f = nI j) ∧ r = nI 1) ∨ ((∀ j, j < 256 → f ≠ nI j) ∧ r = nI 0)) (fun _ => []) 0 0 := by
  refine fs_head (by decide) (Nat.le_of_ble_eq_true rfl) ?_
  intro p e s m below meth c A ls hx hb hr hts hown hlocks hin hml hK hP hD hS hA hAe hsz hl
  have hl : lv_has ls 1 [(0, .int f)] := hl
  have hown : s.vm.findClass R_Fs = some m.cls := hown
  refine lv_iload_n hx hb d_Fs_isDistance_0 rfl (lv_at hl 0 rfl) ?_
  refine lv_if_lt (tgt := 15) hx hb d_Fs_isDistance_1 (by decide) (fun hc1 => ?_) (fun hc1 => ?_)
  · rw [fs_lt0] at hc1
    refine lv_iconst (v := nI 0) hx hb d_Fs_isDistance_15 (by decide) ?_
    exact fs_zret hx hb hr hlocks hAe hK hS d_Fs_isDistance_16 (by decide) () (Or.inr ⟨fun j hj e => by rw [e, nI_toInt (by omega)] at hc1; omega, rfl⟩) hP hD
  rw [fs_lt0] at hc1
  refine lv_iload_n hx hb d_Fs_isDistance_4 rfl (lv_at hl 0 rfl) ?_
  refine lv_sipush (v := nI 255) hx hb d_Fs_isDistance_5 (by decide) ?_
  refine lv_icmp_gt (tgt := 15) hx hb d_Fs_isDistance_8 (by decide) (fun hc8 => ?_) (fun hc8 => ?_)
  · rw [fs_Nlt (by omega)] at hc8
    refine lv_iconst (v := nI 0) hx hb d_Fs_isDistance_15 (by decide) ?_
    exact fs_zret hx hb hr hlocks hAe hK hS d_Fs_isDistance_16 (by decide) () (Or.inr ⟨fun j hj e => by rw [e, nI_toInt (by omega)] at hc8; omega, rfl⟩) hP hD
  rw [fs_Nlt (by omega)] at hc8
  refine lv_iconst (v := nI 1) hx hb d_Fs_isDistance_11 (by decide) ?_
  refine lv_goto (tgt := 16) hx hb d_Fs_isDistance_12 (by decide) ?_
  exact fs_zret hx hb hr hlocks hAe hK hS d_Fs_isDistance_16 (by decide) () (Or.inl ⟨fs_of (by decide) (by omega) (by omega), rfl⟩) hP hD

set_option maxHeartbeats 4000000 in
set_option maxRecDepth 100000 in
theorem c_Fs_isDistanceT (j : Nat) (sz : Nat) (hj : j < 256) : fs_I l y_Fs_isDistance (k_Fs_isDistance :: fs_T) { frames := 0, cells := 0, slots := 0, locals := 0 } (dC, dI) vwCl (fs_tys cI cZ cJ cF) [.int (nI j)] [] sz (S := Unit) (fun r _ => r = nI 1) (fun _ => []) 0 0 := by
  refine fs_head (by decide) (Nat.le_of_ble_eq_true rfl) ?_
  intro p e s m below meth c A ls hx hb hr hts hown hlocks hin hml hK hP hD hS hA hAe hsz hl
  have hl : lv_has ls 1 [(0, .int (nI j))] := hl
  have hown : s.vm.findClass R_Fs = some m.cls := hown
  refine lv_iload_n hx hb d_Fs_isDistance_0 rfl (lv_at hl 0 rfl) ?_
  refine lv_if_lt (tgt := 15) hx hb d_Fs_isDistance_1 (by decide) (fun hc => absurd hc (nI_pos (by omega))) (fun _ => ?_)
  refine lv_iload_n hx hb d_Fs_isDistance_4 rfl (lv_at hl 0 rfl) ?_
  refine lv_sipush (v := nI 255) hx hb d_Fs_isDistance_5 (by decide) ?_
  refine lv_icmp_gt (tgt := 15) hx hb d_Fs_isDistance_8 (by decide) (fun hc8 => absurd hc8 (by first | exact nI_ge (by omega) (by omega) | (rw [nI_ltI (by omega) (by omega)]; omega))) (fun hc8 => ?_)
  rw [nI_ltI (by omega) (by omega)] at hc8
  refine lv_iconst (v := nI 1) hx hb d_Fs_isDistance_11 (by decide) ?_
  refine lv_goto (tgt := 16) hx hb d_Fs_isDistance_12 (by decide) ?_
  exact fs_zret hx hb hr hlocks hAe hK hS d_Fs_isDistance_16 (by decide) () (rfl) hP hD

theorem d_Fs_add_0 : decode b_Fs_add 0 = .ok (.iload_n 1, 1) := by decide +kernel
theorem d_Fs_add_1 : decode b_Fs_add 1 = .ok (.invokestatic 48, 3) := by decide +kernel
theorem d_Fs_add_4 : decode b_Fs_add 4 = .ok (.ifCond .eq 28, 3) := by decide +kernel
theorem d_Fs_add_7 : decode b_Fs_add 7 = .ok (.iload_n 2, 1) := by decide +kernel
theorem d_Fs_add_8 : decode b_Fs_add 8 = .ok (.ifCond .lt 24, 3) := by decide +kernel
theorem d_Fs_add_11 : decode b_Fs_add 11 = .ok (.iload_n 2, 1) := by decide +kernel
theorem d_Fs_add_12 : decode b_Fs_add 12 = .ok (.bipush 31, 2) := by decide +kernel
theorem d_Fs_add_14 : decode b_Fs_add 14 = .ok (.if_icmp .gt 18, 3) := by decide +kernel
theorem d_Fs_add_17 : decode b_Fs_add 17 = .ok (.iload_n 3, 1) := by decide +kernel
theorem d_Fs_add_18 : decode b_Fs_add 18 = .ok (.invokestatic 52, 3) := by decide +kernel
theorem d_Fs_add_21 : decode b_Fs_add 21 = .ok (.ifCond .eq 11, 3) := by decide +kernel
theorem d_Fs_add_24 : decode b_Fs_add 24 = .ok (.iload 4, 2) := by decide +kernel
theorem d_Fs_add_26 : decode b_Fs_add 26 = .ok (.invokestatic 52, 3) := by decide +kernel
theorem d_Fs_add_29 : decode b_Fs_add 29 = .ok (.ifCond .ne 5, 3) := by decide +kernel
theorem d_Fs_add_32 : decode b_Fs_add 32 = .ok (.iconst (-1), 1) := by decide +kernel
theorem d_Fs_add_33 : decode b_Fs_add 33 = .ok (.ireturn, 1) := by decide +kernel
theorem d_Fs_add_34 : decode b_Fs_add 34 = .ok (.aload_n 0, 1) := by decide +kernel
theorem d_Fs_add_35 : decode b_Fs_add 35 = .ok (.getfield 11, 3) := by decide +kernel
theorem d_Fs_add_38 : decode b_Fs_add 38 = .ok (.iload_n 1, 1) := by decide +kernel
theorem d_Fs_add_39 : decode b_Fs_add 39 = .ok (.aaload, 1) := by decide +kernel
theorem d_Fs_add_40 : decode b_Fs_add 40 = .ok (.iload_n 2, 1) := by decide +kernel
theorem d_Fs_add_41 : decode b_Fs_add 41 = .ok (.iload_n 3, 1) := by decide +kernel
theorem d_Fs_add_42 : decode b_Fs_add 42 = .ok (.iload 4, 2) := by decide +kernel
theorem d_Fs_add_44 : decode b_Fs_add 44 = .ok (.iload 5, 2) := by decide +kernel
theorem d_Fs_add_46 : decode b_Fs_add 46 = .ok (.invokevirtual 55, 3) := by decide +kernel
theorem d_Fs_add_49 : decode b_Fs_add 49 = .ok (.ireturn, 1) := by decide +kernel
set_option maxHeartbeats 4000000 in
set_option maxRecDepth 100000 in
theorem c_Fs_add (fs fa sa stk wd ru ck mc : Nat) (ff : Nat → Option Nat) (q o y n k len : Nat) (fo fy fn fk : Nat → Int32) (j : Nat) (vo vy vn : Nat) (vk : Int32) (sz : Nat) (hj : j < 4) (hff : ff j = some q) (hvo : vo < 32) (hvy : vy < 256) (hvn : vn < 256) (hlen : len < 40) : fs_I l y_Fs_add (k_Fs_add :: fs_T) { frames := 1, cells := 0, slots := 0, locals := 24 } (dC, dI) vwCl (fs_tys cI cZ cJ cF) [.ref fs, .int (nI j), .int (nI vo), .int (nI vy), .int (nI vn), .int vk] [(fs, .inr (4, [.ref fa, .ref sa, .int (nI stk), .ref wd, .ref ru, .ref ck, .ref mc])), (fa, .inl (cF, 4, .inr (.inr (.inr (.inr ff))))), (q, .inr (1, [.ref o, .ref y, .ref n, .ref k, .int (nI len)])), (o, .inl (cI, 40, .inl fo)), (y, .inl (cI, 40, .inl fy)), (n, .inl (cI, 40, .inl fn)), (k, .inl (cI, 40, .inl fk))] sz (S := Unit) (fun r _ => r = nI len) (fun _ => [(fs, .inr (4, [.ref fa, .ref sa, .int (nI stk), .ref wd, .ref ru, .ref ck, .ref mc])), (fa, .inl (cF, 4, .inr (.inr (.inr (.inr ff))))), (q, .inr (1, [.ref o, .ref y, .ref n, .ref k, .int (nI (len + 1))])), (o, .inl (cI, 40, .inl (upd fo len (nI vo)))), (y, .inl (cI, 40, .inl (upd fy len (nI vy)))), (n, .inl (cI, 40, .inl (upd fn len (nI vn)))), (k, .inl (cI, 40, .inl (upd fk len vk)))]) 0 0 := by
  refine fs_head (by decide) (Nat.le_of_ble_eq_true rfl) ?_
  intro p e s m below meth c A ls hx hb hr hts hown hlocks hin hml hK hP hD hS hA hAe hsz hl
  have hl : lv_has ls 6 [(0, .ref fs), (1, .int (nI j)), (2, .int (nI vo)), (3, .int (nI vy)), (4, .int (nI vn)), (5, .int vk)] := hl
  have hown : s.vm.findClass R_Fs = some m.cls := hown
  refine lv_iload_n hx hb d_Fs_add_0 rfl (lv_at hl 1 rfl) ?_
  refine fs_calli (wc := []) (wr := [(fs, .inr (4, [.ref fa, .ref sa, .int (nI stk), .ref wd, .ref ru, .ref ck, .ref mc])), (fa, .inl (cF, 4, .inr (.inr (.inr (.inr ff))))), (q, .inr (1, [.ref o, .ref y, .ref n, .ref k, .int (nI len)])), (o, .inl (cI, 40, .inl fo)), (y, .inl (cI, 40, .inl fy)), (n, .inl (cI, 40, .inl fn)), (k, .inl (cI, 40, .inl fk))]) [] [0, 1, 2, 3, 4, 5, 6] hP hD hK hS hA rfl rfl rfl (by decide) (fun hPc hDc => va_runS (As := [.int (nI j)]) (rest := []) ⟨hx, hb, hml, hown, hts⟩ (c_Fs_isFilterT j _ (by omega)) (⟨callB_of 1 hts (fs_g kin_Fs_isFilter) rfl rfl rfl (hts _ wi_1) (hts _ wi_140) (by decide +kernel) ⟨Nat.le_of_ble_eq_true rfl, Nat.le_of_ble_eq_true rfl⟩, hts _ wi_141⟩) (fs_preS hPc hK hDc) rfl rfl hl.1 rfl (lv_room (Nat.le_of_ble_eq_true rfl)) d_Fs_add_1 ⟨Nat.le_of_ble_eq_true rfl, Nat.le_of_ble_eq_true rfl⟩) rfl (fun r1 _ H locs hp1 hP hD hS => ?_)
  have hP : va_P (dC, dI) vwCl [(fs, .inr (4, [.ref fa, .ref sa, .int (nI stk), .ref wd, .ref ru, .ref ck, .ref mc])), (fa, .inl (cF, 4, .inr (.inr (.inr (.inr ff))))), (q, .inr (1, [.ref o, .ref y, .ref n, .ref k, .int (nI len)])), (o, .inl (cI, 40, .inl fo)), (y, .inl (cI, 40, .inl fy)), (n, .inl (cI, 40, .inl fn)), (k, .inl (cI, 40, .inl fk))] H := hP
  have hD : va_D A [(fs, .inr (4, [.ref fa, .ref sa, .int (nI stk), .ref wd, .ref ru, .ref ck, .ref mc])), (fa, .inl (cF, 4, .inr (.inr (.inr (.inr ff))))), (q, .inr (1, [.ref o, .ref y, .ref n, .ref k, .int (nI len)])), (o, .inl (cI, 40, .inl fo)), (y, .inl (cI, 40, .inl fy)), (n, .inl (cI, 40, .inl fn)), (k, .inl (cI, 40, .inl fk))] := hD
  subst hp1
  refine lv_if_eq (tgt := 32) hx hb d_Fs_add_4 (by decide) (fun hc => absurd hc (by decide)) (fun _ => ?_)
  refine lv_iload_n hx hb d_Fs_add_7 rfl (lv_at hl 2 rfl) ?_
  refine lv_if_lt (tgt := 32) hx hb d_Fs_add_8 (by decide) (fun hc => absurd hc (nI_pos (by omega))) (fun _ => ?_)
  refine lv_iload_n hx hb d_Fs_add_11 rfl (lv_at hl 2 rfl) ?_
  refine lv_bipush (v := nI 31) hx hb d_Fs_add_12 (by decide) ?_
  refine lv_icmp_gt (tgt := 32) hx hb d_Fs_add_14 (by decide) (fun hc14 => absurd hc14 (by rw [nI_ltI (by omega) (by omega)]; omega)) (fun hc14 => ?_)
  rw [nI_ltI (by omega) (by omega)] at hc14
  refine lv_iload_n hx hb d_Fs_add_17 rfl (lv_at hl 3 rfl) ?_
  refine fs_calli (wc := []) (wr := [(fs, .inr (4, [.ref fa, .ref sa, .int (nI stk), .ref wd, .ref ru, .ref ck, .ref mc])), (fa, .inl (cF, 4, .inr (.inr (.inr (.inr ff))))), (q, .inr (1, [.ref o, .ref y, .ref n, .ref k, .int (nI len)])), (o, .inl (cI, 40, .inl fo)), (y, .inl (cI, 40, .inl fy)), (n, .inl (cI, 40, .inl fn)), (k, .inl (cI, 40, .inl fk))]) [] [0, 1, 2, 3, 4, 5, 6] hP hD hK hS hA rfl rfl rfl (by decide) (fun hPc hDc => va_runS (As := [.int (nI vy)]) (rest := []) ⟨hx, hb, hml, hown, hts⟩ (c_Fs_isDistanceT vy _ (by omega)) (⟨callB_of 1 hts (fs_g kin_Fs_isDistance) rfl rfl rfl (hts _ wi_1) (hts _ wi_143) (by decide +kernel) ⟨Nat.le_of_ble_eq_true rfl, Nat.le_of_ble_eq_true rfl⟩, hts _ wi_144⟩) (fs_preS hPc hK hDc) rfl rfl hl.1 rfl (lv_room (Nat.le_of_ble_eq_true rfl)) d_Fs_add_18 ⟨Nat.le_of_ble_eq_true rfl, Nat.le_of_ble_eq_true rfl⟩) rfl (fun r18 _ H locs hp18 hP hD hS => ?_)
  have hP : va_P (dC, dI) vwCl [(fs, .inr (4, [.ref fa, .ref sa, .int (nI stk), .ref wd, .ref ru, .ref ck, .ref mc])), (fa, .inl (cF, 4, .inr (.inr (.inr (.inr ff))))), (q, .inr (1, [.ref o, .ref y, .ref n, .ref k, .int (nI len)])), (o, .inl (cI, 40, .inl fo)), (y, .inl (cI, 40, .inl fy)), (n, .inl (cI, 40, .inl fn)), (k, .inl (cI, 40, .inl fk))] H := hP
  have hD : va_D A [(fs, .inr (4, [.ref fa, .ref sa, .int (nI stk), .ref wd, .ref ru, .ref ck, .ref mc])), (fa, .inl (cF, 4, .inr (.inr (.inr (.inr ff))))), (q, .inr (1, [.ref o, .ref y, .ref n, .ref k, .int (nI len)])), (o, .inl (cI, 40, .inl fo)), (y, .inl (cI, 40, .inl fy)), (n, .inl (cI, 40, .inl fn)), (k, .inl (cI, 40, .inl fk))] := hD
  subst hp18
  refine lv_if_eq (tgt := 32) hx hb d_Fs_add_21 (by decide) (fun hc => absurd hc (by decide)) (fun _ => ?_)
  refine lv_iload hx hb d_Fs_add_24 (lv_at hl 4 rfl) ?_
  refine fs_calli (wc := []) (wr := [(fs, .inr (4, [.ref fa, .ref sa, .int (nI stk), .ref wd, .ref ru, .ref ck, .ref mc])), (fa, .inl (cF, 4, .inr (.inr (.inr (.inr ff))))), (q, .inr (1, [.ref o, .ref y, .ref n, .ref k, .int (nI len)])), (o, .inl (cI, 40, .inl fo)), (y, .inl (cI, 40, .inl fy)), (n, .inl (cI, 40, .inl fn)), (k, .inl (cI, 40, .inl fk))]) [] [0, 1, 2, 3, 4, 5, 6] hP hD hK hS hA rfl rfl rfl (by decide) (fun hPc hDc => va_runS (As := [.int (nI vn)]) (rest := []) ⟨hx, hb, hml, hown, hts⟩ (c_Fs_isDistanceT vn _ (by omega)) (⟨callB_of 1 hts (fs_g kin_Fs_isDistance) rfl rfl rfl (hts _ wi_1) (hts _ wi_143) (by decide +kernel) ⟨Nat.le_of_ble_eq_true rfl, Nat.le_of_ble_eq_true rfl⟩, hts _ wi_144⟩) (fs_preS hPc hK hDc) rfl rfl hl.1 rfl (lv_room (Nat.le_of_ble_eq_true rfl)) d_Fs_add_26 ⟨Nat.le_of_ble_eq_true rfl, Nat.le_of_ble_eq_true rfl⟩) rfl (fun r26 _ H locs hp26 hP hD hS => ?_)
  have hP : va_P (dC, dI) vwCl [(fs, .inr (4, [.ref fa, .ref sa, .int (nI stk), .ref wd, .ref ru, .ref ck, .ref mc])), (fa, .inl (cF, 4, .inr (.inr (.inr (.inr ff))))), (q, .inr (1, [.ref o, .ref y, .ref n, .ref k, .int (nI len)])), (o, .inl (cI, 40, .inl fo)), (y, .inl (cI, 40, .inl fy)), (n, .inl (cI, 40, .inl fn)), (k, .inl (cI, 40, .inl fk))] H := hP
  have hD : va_D A [(fs, .inr (4, [.ref fa, .ref sa, .int (nI stk), .ref wd, .ref ru, .ref ck, .ref mc])), (fa, .inl (cF, 4, .inr (.inr (.inr (.inr ff))))), (q, .inr (1, [.ref o, .ref y, .ref n, .ref k, .int (nI len)])), (o, .inl (cI, 40, .inl fo)), (y, .inl (cI, 40, .inl fy)), (n, .inl (cI, 40, .inl fn)), (k, .inl (cI, 40, .inl fk))] := hD
  subst hp26
  refine lv_if_ne (tgt := 34) hx hb d_Fs_add_29 (by decide) (fun _ => ?_) (fun hc => absurd hc (by decide))
  refine lv_aload_n hx hb d_Fs_add_34 rfl (lv_at hl 0 rfl) ?_
  refine va_get (D := (dC, dI)) (ci := 4) (v := .ref fa) (C := R_Fs) (T := T_Fs) (N := 7) hx hb hts uin_Fs hown hK hP 0 rfl rfl 0 (by decide) (hts _ wi_114) (fun _ h9 => h9) rfl d_Fs_add_35 ?_
  refine lv_iload_n hx hb d_Fs_add_38 rfl (lv_at hl 1 rfl) ?_
  refine fs_aald (b := q) hx hb hK hP 1 3 rfl rfl j rfl (by decide) (by omega) hff d_Fs_add_39 ?_
  refine lv_iload_n hx hb d_Fs_add_40 rfl (lv_at hl 2 rfl) ?_
  refine lv_iload_n hx hb d_Fs_add_41 rfl (lv_at hl 3 rfl) ?_
  refine lv_iload hx hb d_Fs_add_42 (lv_at hl 4 rfl) ?_
  refine lv_iload hx hb d_Fs_add_44 (lv_at hl 5 rfl) ?_
  refine fs_calli (wc := [(q, .inr (1, [.ref o, .ref y, .ref n, .ref k, .int (nI len)])), (o, .inl (cI, 40, .inl fo)), (y, .inl (cI, 40, .inl fy)), (n, .inl (cI, 40, .inl fn)), (k, .inl (cI, 40, .inl fk))]) (wr := [(fs, .inr (4, [.ref fa, .ref sa, .int (nI stk), .ref wd, .ref ru, .ref ck, .ref mc])), (fa, .inl (cF, 4, .inr (.inr (.inr (.inr ff)))))]) [2, 3, 4, 5, 6] [0, 1] hP hD hK hS hA rfl rfl rfl (by decide) (fun hPc hDc => va_runV (C := R_Fi) (As := [.int (nI vo), .int (nI vy), .int (nI vn), .int vk]) (rest := []) ⟨hx, hb, hml, hown, hts⟩ (c_Fi_append q o y n k len fo fy fn fk (nI vo) (nI vy) (nI vn) vk _ (by omega)) (⟨callB_of 4 hts (fs_g kin_Fi_append) rfl rfl rfl (hts _ wi_2) (hts _ wi_146) (by decide +kernel) ⟨Nat.le_of_ble_eq_true rfl, Nat.le_of_ble_eq_true rfl⟩, hts _ wi_147, hts _ wi_148⟩) (fs_preV (q0 := 0) rfl rfl hPc hK hDc) rfl rfl hl.1 rfl (lv_room (Nat.le_of_ble_eq_true rfl)) d_Fs_add_46 ⟨Nat.le_of_ble_eq_true rfl, Nat.le_of_ble_eq_true rfl⟩) rfl (fun r46 _ H locs hp46 hP hD hS => ?_)
  have hP : va_P (dC, dI) vwCl [(fs, .inr (4, [.ref fa, .ref sa, .int (nI stk), .ref wd, .ref ru, .ref ck, .ref mc])), (fa, .inl (cF, 4, .inr (.inr (.inr (.inr ff))))), (q, .inr (1, [.ref o, .ref y, .ref n, .ref k, .int (nI (len + 1))])), (o, .inl (cI, 40, .inl (upd fo len (nI vo)))), (y, .inl (cI, 40, .inl (upd fy len (nI vy)))), (n, .inl (cI, 40, .inl (upd fn len (nI vn)))), (k, .inl (cI, 40, .inl (upd fk len vk)))] H := hP
  have hD : va_D A [(fs, .inr (4, [.ref fa, .ref sa, .int (nI stk), .ref wd, .ref ru, .ref ck, .ref mc])), (fa, .inl (cF, 4, .inr (.inr (.inr (.inr ff))))), (q, .inr (1, [.ref o, .ref y, .ref n, .ref k, .int (nI (len + 1))])), (o, .inl (cI, 40, .inl (upd fo len (nI vo)))), (y, .inl (cI, 40, .inl (upd fy len (nI vy)))), (n, .inl (cI, 40, .inl (upd fn len (nI vn)))), (k, .inl (cI, 40, .inl (upd fk len vk)))] := hD
  subst hp46
  exact fs_iret hx hb hr hlocks hAe hK hS d_Fs_add_49 () (rfl) hP hD

set_option maxHeartbeats 4000000 in
set_option maxRecDepth 100000 in
theorem c_Fs_addF (fs fa sa stk wd ru ck mc : Nat) (ff : Nat → Option Nat) (q o y n k : Nat) (fo fy fn fk : Nat → Int32) (j : Nat) (vo vy vn : Nat) (vk : Int32) (sz : Nat) (hj : j < 4) (hff : ff j = some q) (hvo : vo < 32) (hvy : vy < 256) (hvn : vn < 256) : fs_I l y_Fs_add (k_Fs_add :: fs_T) { frames := 1, cells := 0, slots := 0, locals := 24 } (dC, dI) vwCl (fs_tys cI cZ cJ cF) [.ref fs, .int (nI j), .int (nI vo), .int (nI vy), .int (nI vn), .int vk] [(fs, .inr (4, [.ref fa, .ref sa, .int (nI stk), .ref wd, .ref ru, .ref ck, .ref mc])), (fa, .inl (cF, 4, .inr (.inr (.inr (.inr ff))))), (q, .inr (1, [.ref o, .ref y, .ref n, .ref k, .int (nI 40)])), (o, .inl (cI, 40, .inl fo)), (y, .inl (cI, 40, .inl fy)), (n, .inl (cI, 40, .inl fn)), (k, .inl (cI, 40, .inl fk))] sz (S := Unit) (fun r _ => r = (-2)) (fun _ => [(fs, .inr (4, [.ref fa, .ref sa, .int (nI stk), .ref wd, .ref ru, .ref ck, .ref mc])), (fa, .inl (cF, 4, .inr (.inr (.inr (.inr ff))))), (q, .inr (1, [.ref o, .ref y, .ref n, .ref k, .int (nI 40)])), (o, .inl (cI, 40, .inl fo)), (y, .inl (cI, 40, .inl fy)), (n, .inl (cI, 40, .inl fn)), (k, .inl (cI, 40, .inl fk))]) 0 0 := by
  refine fs_head (by decide) (Nat.le_of_ble_eq_true rfl) ?_
  intro p e s m below meth c A ls hx hb hr hts hown hlocks hin hml hK hP hD hS hA hAe hsz hl
  have hl : lv_has ls 6 [(0, .ref fs), (1, .int (nI j)), (2, .int (nI vo)), (3, .int (nI vy)), (4, .int (nI vn)), (5, .int vk)] := hl
  have hown : s.vm.findClass R_Fs = some m.cls := hown
  refine lv_iload_n hx hb d_Fs_add_0 rfl (lv_at hl 1 rfl) ?_
  refine fs_calli (wc := []) (wr := [(fs, .inr (4, [.ref fa, .ref sa, .int (nI stk), .ref wd, .ref ru, .ref ck, .ref mc])), (fa, .inl (cF, 4, .inr (.inr (.inr (.inr ff))))), (q, .inr (1, [.ref o, .ref y, .ref n, .ref k, .int (nI 40)])), (o, .inl (cI, 40, .inl fo)), (y, .inl (cI, 40, .inl fy)), (n, .inl (cI, 40, .inl fn)), (k, .inl (cI, 40, .inl fk))]) [] [0, 1, 2, 3, 4, 5, 6] hP hD hK hS hA rfl rfl rfl (by decide) (fun hPc hDc => va_runS (As := [.int (nI j)]) (rest := []) ⟨hx, hb, hml, hown, hts⟩ (c_Fs_isFilterT j _ (by omega)) (⟨callB_of 1 hts (fs_g kin_Fs_isFilter) rfl rfl rfl (hts _ wi_1) (hts _ wi_140) (by decide +kernel) ⟨Nat.le_of_ble_eq_true rfl, Nat.le_of_ble_eq_true rfl⟩, hts _ wi_141⟩) (fs_preS hPc hK hDc) rfl rfl hl.1 rfl (lv_room (Nat.le_of_ble_eq_true rfl)) d_Fs_add_1 ⟨Nat.le_of_ble_eq_true rfl, Nat.le_of_ble_eq_true rfl⟩) rfl (fun r1 _ H locs hp1 hP hD hS => ?_)
  have hP : va_P (dC, dI) vwCl [(fs, .inr (4, [.ref fa, .ref sa, .int (nI stk), .ref wd, .ref ru, .ref ck, .ref mc])), (fa, .inl (cF, 4, .inr (.inr (.inr (.inr ff))))), (q, .inr (1, [.ref o, .ref y, .ref n, .ref k, .int (nI 40)])), (o, .inl (cI, 40, .inl fo)), (y, .inl (cI, 40, .inl fy)), (n, .inl (cI, 40, .inl fn)), (k, .inl (cI, 40, .inl fk))] H := hP
  have hD : va_D A [(fs, .inr (4, [.ref fa, .ref sa, .int (nI stk), .ref wd, .ref ru, .ref ck, .ref mc])), (fa, .inl (cF, 4, .inr (.inr (.inr (.inr ff))))), (q, .inr (1, [.ref o, .ref y, .ref n, .ref k, .int (nI 40)])), (o, .inl (cI, 40, .inl fo)), (y, .inl (cI, 40, .inl fy)), (n, .inl (cI, 40, .inl fn)), (k, .inl (cI, 40, .inl fk))] := hD
  subst hp1
  refine lv_if_eq (tgt := 32) hx hb d_Fs_add_4 (by decide) (fun hc => absurd hc (by decide)) (fun _ => ?_)
  refine lv_iload_n hx hb d_Fs_add_7 rfl (lv_at hl 2 rfl) ?_
  refine lv_if_lt (tgt := 32) hx hb d_Fs_add_8 (by decide) (fun hc => absurd hc (nI_pos (by omega))) (fun _ => ?_)
  refine lv_iload_n hx hb d_Fs_add_11 rfl (lv_at hl 2 rfl) ?_
  refine lv_bipush (v := nI 31) hx hb d_Fs_add_12 (by decide) ?_
  refine lv_icmp_gt (tgt := 32) hx hb d_Fs_add_14 (by decide) (fun hc14 => absurd hc14 (by rw [nI_ltI (by omega) (by omega)]; omega)) (fun hc14 => ?_)
  rw [nI_ltI (by omega) (by omega)] at hc14
  refine lv_iload_n hx hb d_Fs_add_17 rfl (lv_at hl 3 rfl) ?_
  refine fs_calli (wc := []) (wr := [(fs, .inr (4, [.ref fa, .ref sa, .int (nI stk), .ref wd, .ref ru, .ref ck, .ref mc])), (fa, .inl (cF, 4, .inr (.inr (.inr (.inr ff))))), (q, .inr (1, [.ref o, .ref y, .ref n, .ref k, .int (nI 40)])), (o, .inl (cI, 40, .inl fo)), (y, .inl (cI, 40, .inl fy)), (n, .inl (cI, 40, .inl fn)), (k, .inl (cI, 40, .inl fk))]) [] [0, 1, 2, 3, 4, 5, 6] hP hD hK hS hA rfl rfl rfl (by decide) (fun hPc hDc => va_runS (As := [.int (nI vy)]) (rest := []) ⟨hx, hb, hml, hown, hts⟩ (c_Fs_isDistanceT vy _ (by omega)) (⟨callB_of 1 hts (fs_g kin_Fs_isDistance) rfl rfl rfl (hts _ wi_1) (hts _ wi_143) (by decide +kernel) ⟨Nat.le_of_ble_eq_true rfl, Nat.le_of_ble_eq_true rfl⟩, hts _ wi_144⟩) (fs_preS hPc hK hDc) rfl rfl hl.1 rfl (lv_room (Nat.le_of_ble_eq_true rfl)) d_Fs_add_18 ⟨Nat.le_of_ble_eq_true rfl, Nat.le_of_ble_eq_true rfl⟩) rfl (fun r18 _ H locs hp18 hP hD hS => ?_)
  have hP : va_P (dC, dI) vwCl [(fs, .inr (4, [.ref fa, .ref sa, .int (nI stk), .ref wd, .ref ru, .ref ck, .ref mc])), (fa, .inl (cF, 4, .inr (.inr (.inr (.inr ff))))), (q, .inr (1, [.ref o, .ref y, .ref n, .ref k, .int (nI 40)])), (o, .inl (cI, 40, .inl fo)), (y, .inl (cI, 40, .inl fy)), (n, .inl (cI, 40, .inl fn)), (k, .inl (cI, 40, .inl fk))] H := hP
  have hD : va_D A [(fs, .inr (4, [.ref fa, .ref sa, .int (nI stk), .ref wd, .ref ru, .ref ck, .ref mc])), (fa, .inl (cF, 4, .inr (.inr (.inr (.inr ff))))), (q, .inr (1, [.ref o, .ref y, .ref n, .ref k, .int (nI 40)])), (o, .inl (cI, 40, .inl fo)), (y, .inl (cI, 40, .inl fy)), (n, .inl (cI, 40, .inl fn)), (k, .inl (cI, 40, .inl fk))] := hD
  subst hp18
  refine lv_if_eq (tgt := 32) hx hb d_Fs_add_21 (by decide) (fun hc => absurd hc (by decide)) (fun _ => ?_)
  refine lv_iload hx hb d_Fs_add_24 (lv_at hl 4 rfl) ?_
  refine fs_calli (wc := []) (wr := [(fs, .inr (4, [.ref fa, .ref sa, .int (nI stk), .ref wd, .ref ru, .ref ck, .ref mc])), (fa, .inl (cF, 4, .inr (.inr (.inr (.inr ff))))), (q, .inr (1, [.ref o, .ref y, .ref n, .ref k, .int (nI 40)])), (o, .inl (cI, 40, .inl fo)), (y, .inl (cI, 40, .inl fy)), (n, .inl (cI, 40, .inl fn)), (k, .inl (cI, 40, .inl fk))]) [] [0, 1, 2, 3, 4, 5, 6] hP hD hK hS hA rfl rfl rfl (by decide) (fun hPc hDc => va_runS (As := [.int (nI vn)]) (rest := []) ⟨hx, hb, hml, hown, hts⟩ (c_Fs_isDistanceT vn _ (by omega)) (⟨callB_of 1 hts (fs_g kin_Fs_isDistance) rfl rfl rfl (hts _ wi_1) (hts _ wi_143) (by decide +kernel) ⟨Nat.le_of_ble_eq_true rfl, Nat.le_of_ble_eq_true rfl⟩, hts _ wi_144⟩) (fs_preS hPc hK hDc) rfl rfl hl.1 rfl (lv_room (Nat.le_of_ble_eq_true rfl)) d_Fs_add_26 ⟨Nat.le_of_ble_eq_true rfl, Nat.le_of_ble_eq_true rfl⟩) rfl (fun r26 _ H locs hp26 hP hD hS => ?_)
  have hP : va_P (dC, dI) vwCl [(fs, .inr (4, [.ref fa, .ref sa, .int (nI stk), .ref wd, .ref ru, .ref ck, .ref mc])), (fa, .inl (cF, 4, .inr (.inr (.inr (.inr ff))))), (q, .inr (1, [.ref o, .ref y, .ref n, .ref k, .int (nI 40)])), (o, .inl (cI, 40, .inl fo)), (y, .inl (cI, 40, .inl fy)), (n, .inl (cI, 40, .inl fn)), (k, .inl (cI, 40, .inl fk))] H := hP
  have hD : va_D A [(fs, .inr (4, [.ref fa, .ref sa, .int (nI stk), .ref wd, .ref ru, .ref ck, .ref mc])), (fa, .inl (cF, 4, .inr (.inr (.inr (.inr ff))))), (q, .inr (1, [.ref o, .ref y, .ref n, .ref k, .int (nI 40)])), (o, .inl (cI, 40, .inl fo)), (y, .inl (cI, 40, .inl fy)), (n, .inl (cI, 40, .inl fn)), (k, .inl (cI, 40, .inl fk))] := hD
  subst hp26
  refine lv_if_ne (tgt := 34) hx hb d_Fs_add_29 (by decide) (fun _ => ?_) (fun hc => absurd hc (by decide))
  refine lv_aload_n hx hb d_Fs_add_34 rfl (lv_at hl 0 rfl) ?_
  refine va_get (D := (dC, dI)) (ci := 4) (v := .ref fa) (C := R_Fs) (T := T_Fs) (N := 7) hx hb hts uin_Fs hown hK hP 0 rfl rfl 0 (by decide) (hts _ wi_114) (fun _ h9 => h9) rfl d_Fs_add_35 ?_
  refine lv_iload_n hx hb d_Fs_add_38 rfl (lv_at hl 1 rfl) ?_
  refine fs_aald (b := q) hx hb hK hP 1 3 rfl rfl j rfl (by decide) (by omega) hff d_Fs_add_39 ?_
  refine lv_iload_n hx hb d_Fs_add_40 rfl (lv_at hl 2 rfl) ?_
  refine lv_iload_n hx hb d_Fs_add_41 rfl (lv_at hl 3 rfl) ?_
  refine lv_iload hx hb d_Fs_add_42 (lv_at hl 4 rfl) ?_
  refine lv_iload hx hb d_Fs_add_44 (lv_at hl 5 rfl) ?_
  refine fs_calli (wc := [(q, .inr (1, [.ref o, .ref y, .ref n, .ref k, .int (nI 40)])), (o, .inl (cI, 40, .inl fo)), (y, .inl (cI, 40, .inl fy)), (n, .inl (cI, 40, .inl fn)), (k, .inl (cI, 40, .inl fk))]) (wr := [(fs, .inr (4, [.ref fa, .ref sa, .int (nI stk), .ref wd, .ref ru, .ref ck, .ref mc])), (fa, .inl (cF, 4, .inr (.inr (.inr (.inr ff)))))]) [2, 3, 4, 5, 6] [0, 1] hP hD hK hS hA rfl rfl rfl (by decide) (fun hPc hDc => va_runV (C := R_Fi) (As := [.int (nI vo), .int (nI vy), .int (nI vn), .int vk]) (rest := []) ⟨hx, hb, hml, hown, hts⟩ (c_Fi_appendF q o y n k fo fy fn fk (nI vo) (nI vy) (nI vn) vk _) (⟨callB_of 4 hts (fs_g kin_Fi_append) rfl rfl rfl (hts _ wi_2) (hts _ wi_146) (by decide +kernel) ⟨Nat.le_of_ble_eq_true rfl, Nat.le_of_ble_eq_true rfl⟩, hts _ wi_147, hts _ wi_148⟩) (fs_preV (q0 := 0) rfl rfl hPc hK hDc) rfl rfl hl.1 rfl (lv_room (Nat.le_of_ble_eq_true rfl)) d_Fs_add_46 ⟨Nat.le_of_ble_eq_true rfl, Nat.le_of_ble_eq_true rfl⟩) rfl (fun r46 _ H locs hp46 hP hD hS => ?_)
  have hP : va_P (dC, dI) vwCl [(fs, .inr (4, [.ref fa, .ref sa, .int (nI stk), .ref wd, .ref ru, .ref ck, .ref mc])), (fa, .inl (cF, 4, .inr (.inr (.inr (.inr ff))))), (q, .inr (1, [.ref o, .ref y, .ref n, .ref k, .int (nI 40)])), (o, .inl (cI, 40, .inl fo)), (y, .inl (cI, 40, .inl fy)), (n, .inl (cI, 40, .inl fn)), (k, .inl (cI, 40, .inl fk))] H := hP
  have hD : va_D A [(fs, .inr (4, [.ref fa, .ref sa, .int (nI stk), .ref wd, .ref ru, .ref ck, .ref mc])), (fa, .inl (cF, 4, .inr (.inr (.inr (.inr ff))))), (q, .inr (1, [.ref o, .ref y, .ref n, .ref k, .int (nI 40)])), (o, .inl (cI, 40, .inl fo)), (y, .inl (cI, 40, .inl fy)), (n, .inl (cI, 40, .inl fn)), (k, .inl (cI, 40, .inl fk))] := hD
  subst hp46
  exact fs_iret hx hb hr hlocks hAe hK hS d_Fs_add_49 () (rfl) hP hD

set_option maxHeartbeats 4000000 in
set_option maxRecDepth 100000 in
theorem c_Fs_addX (fs fa sa stk wd ru ck mc : Nat) (f vo vy vn vk : Int32) (sz : Nat) (hbad : ¬ ((∃ j, j < 4 ∧ f = nI j) ∧ 0 ≤ vo.toInt ∧ vo.toInt ≤ 31 ∧ (∃ j, j < 256 ∧ vy = nI j) ∧ (∃ j, j < 256 ∧ vn = nI j))) : fs_I l y_Fs_add (k_Fs_add :: fs_T) { frames := 1, cells := 0, slots := 0, locals := 24 } (dC, dI) vwCl (fs_tys cI cZ cJ cF) [.ref fs, .int f, .int vo, .int vy, .int vn, .int vk] [(fs, .inr (4, [.ref fa, .ref sa, .int (nI stk), .ref wd, .ref ru, .ref ck, .ref mc]))] sz (S := Unit) (fun r _ => r = (-1)) (fun _ => [(fs, .inr (4, [.ref fa, .ref sa, .int (nI stk), .ref wd, .ref ru, .ref ck, .ref mc]))]) 0 0 := by
  refine fs_head (by decide) (Nat.le_of_ble_eq_true rfl) ?_
  intro p e s m below meth c A ls hx hb hr hts hown hlocks hin hml hK hP hD hS hA hAe hsz hl
  have hl : lv_has ls 6 [(0, .ref fs), (1, .int f), (2, .int vo), (3, .int vy), (4, .int vn), (5, .int vk)] := hl
  have hown : s.vm.findClass R_Fs = some m.cls := hown
  refine lv_iload_n hx hb d_Fs_add_0 rfl (lv_at hl 1 rfl) ?_
  refine fs_calli (wc := []) (wr := [(fs, .inr (4, [.ref fa, .ref sa, .int (nI stk), .ref wd, .ref ru, .ref ck, .ref mc]))]) [] [0] hP hD hK hS hA rfl rfl rfl (by decide) (fun hPc hDc => va_runS (As := [.int f]) (rest := []) ⟨hx, hb, hml, hown, hts⟩ (c_Fs_isFilter f _) (⟨callB_of 1 hts (fs_g kin_Fs_isFilter) rfl rfl rfl (hts _ wi_1) (hts _ wi_140) (by decide +kernel) ⟨Nat.le_of_ble_eq_true rfl, Nat.le_of_ble_eq_true rfl⟩, hts _ wi_141⟩) (fs_preS hPc hK hDc) rfl rfl hl.1 rfl (lv_room (Nat.le_of_ble_eq_true rfl)) d_Fs_add_1 ⟨Nat.le_of_ble_eq_true rfl, Nat.le_of_ble_eq_true rfl⟩) rfl (fun r1 _ H locs hp1 hP hD hS => ?_)
  have hP : va_P (dC, dI) vwCl [(fs, .inr (4, [.ref fa, .ref sa, .int (nI stk), .ref wd, .ref ru, .ref ck, .ref mc]))] H := hP
  have hD : va_D A [(fs, .inr (4, [.ref fa, .ref sa, .int (nI stk), .ref wd, .ref ru, .ref ck, .ref mc]))] := hD
  rcases hp1 with ⟨hc1, rfl⟩ | ⟨hc1, rfl⟩
  · refine lv_if_eq (tgt := 32) hx hb d_Fs_add_4 (by decide) (fun hc => absurd hc (by decide)) (fun _ => ?_)
    refine lv_iload_n hx hb d_Fs_add_7 rfl (lv_at hl 2 rfl) ?_
    refine lv_if_lt (tgt := 32) hx hb d_Fs_add_8 (by decide) (fun hc8 => ?_) (fun hc8 => ?_)
    · rw [fs_lt0] at hc8
      refine lv_iconst (v := (-1)) hx hb d_Fs_add_32 (by decide) ?_
      exact fs_iret hx hb hr hlocks hAe hK hS d_Fs_add_33 () (rfl) hP hD
    rw [fs_lt0] at hc8
    refine lv_iload_n hx hb d_Fs_add_11 rfl (lv_at hl 2 rfl) ?_
    refine lv_bipush (v := nI 31) hx hb d_Fs_add_12 (by decide) ?_
    refine lv_icmp_gt (tgt := 32) hx hb d_Fs_add_14 (by decide) (fun hc14 => ?_) (fun hc14 => ?_)
    · rw [fs_Nlt (by omega)] at hc14
      refine lv_iconst (v := (-1)) hx hb d_Fs_add_32 (by decide) ?_
      exact fs_iret hx hb hr hlocks hAe hK hS d_Fs_add_33 () (rfl) hP hD
    rw [fs_Nlt (by omega)] at hc14
    refine lv_iload_n hx hb d_Fs_add_17 rfl (lv_at hl 3 rfl) ?_
    refine fs_calli (wc := []) (wr := [(fs, .inr (4, [.ref fa, .ref sa, .int (nI stk), .ref wd, .ref ru, .ref ck, .ref mc]))]) [] [0] hP hD hK hS hA rfl rfl rfl (by decide) (fun hPc hDc => va_runS (As := [.int vy]) (rest := []) ⟨hx, hb, hml, hown, hts⟩ (c_Fs_isDistance vy _) (⟨callB_of 1 hts (fs_g kin_Fs_isDistance) rfl rfl rfl (hts _ wi_1) (hts _ wi_143) (by decide +kernel) ⟨Nat.le_of_ble_eq_true rfl, Nat.le_of_ble_eq_true rfl⟩, hts _ wi_144⟩) (fs_preS hPc hK hDc) rfl rfl hl.1 rfl (lv_room (Nat.le_of_ble_eq_true rfl)) d_Fs_add_18 ⟨Nat.le_of_ble_eq_true rfl, Nat.le_of_ble_eq_true rfl⟩) rfl (fun r18 _ H locs hp18 hP hD hS => ?_)
    have hP : va_P (dC, dI) vwCl [(fs, .inr (4, [.ref fa, .ref sa, .int (nI stk), .ref wd, .ref ru, .ref ck, .ref mc]))] H := hP
    have hD : va_D A [(fs, .inr (4, [.ref fa, .ref sa, .int (nI stk), .ref wd, .ref ru, .ref ck, .ref mc]))] := hD
    rcases hp18 with ⟨hc18, rfl⟩ | ⟨hc18, rfl⟩
    · refine lv_if_eq (tgt := 32) hx hb d_Fs_add_21 (by decide) (fun hc => absurd hc (by decide)) (fun _ => ?_)
      refine lv_iload hx hb d_Fs_add_24 (lv_at hl 4 rfl) ?_
      refine fs_calli (wc := []) (wr := [(fs, .inr (4, [.ref fa, .ref sa, .int (nI stk), .ref wd, .ref ru, .ref ck, .ref mc]))]) [] [0] hP hD hK hS hA rfl rfl rfl (by decide) (fun hPc hDc => va_runS (As := [.int vn]) (rest := []) ⟨hx, hb, hml, hown, hts⟩ (c_Fs_isDistance vn _) (⟨callB_of 1 hts (fs_g kin_Fs_isDistance) rfl rfl rfl (hts _ wi_1) (hts _ wi_143) (by decide +kernel) ⟨Nat.le_of_ble_eq_true rfl, Nat.le_of_ble_eq_true rfl⟩, hts _ wi_144⟩) (fs_preS hPc hK hDc) rfl rfl hl.1 rfl (lv_room (Nat.le_of_ble_eq_true rfl)) d_Fs_add_26 ⟨Nat.le_of_ble_eq_true rfl, Nat.le_of_ble_eq_true rfl⟩) rfl (fun r26 _ H locs hp26 hP hD hS => ?_)
      have hP : va_P (dC, dI) vwCl [(fs, .inr (4, [.ref fa, .ref sa, .int (nI stk), .ref wd, .ref ru, .ref ck, .ref mc]))] H := hP
      have hD : va_D A [(fs, .inr (4, [.ref fa, .ref sa, .int (nI stk), .ref wd, .ref ru, .ref ck, .ref mc]))] := hD
      rcases hp26 with ⟨hc26, rfl⟩ | ⟨hc26, rfl⟩
      · refine lv_if_ne (tgt := 34) hx hb d_Fs_add_29 (by decide) (fun _ => ?_) (fun hc => absurd hc (by decide))
        exact absurd ⟨hc1, by omega, by omega, hc18, hc26⟩ hbad
      refine lv_if_ne (tgt := 34) hx hb d_Fs_add_29 (by decide) (fun hc => absurd (by decide) hc) (fun _ => ?_)
      refine lv_iconst (v := (-1)) hx hb d_Fs_add_32 (by decide) ?_
      exact fs_iret hx hb hr hlocks hAe hK hS d_Fs_add_33 () (rfl) hP hD
    refine lv_if_eq (tgt := 32) hx hb d_Fs_add_21 (by decide) (fun _ => ?_) (fun hc => absurd (by decide) hc)
    refine lv_iconst (v := (-1)) hx hb d_Fs_add_32 (by decide) ?_
    exact fs_iret hx hb hr hlocks hAe hK hS d_Fs_add_33 () (rfl) hP hD
  refine lv_if_eq (tgt := 32) hx hb d_Fs_add_4 (by decide) (fun _ => ?_) (fun hc => absurd (by decide) hc)
  refine lv_iconst (v := (-1)) hx hb d_Fs_add_32 (by decide) ?_
  exact fs_iret hx hb hr hlocks hAe hK hS d_Fs_add_33 () (rfl) hP hD

theorem d_Fs_clear_0 : decode b_Fs_clear 0 = .ok (.iload_n 1, 1) := by decide +kernel
theorem d_Fs_clear_1 : decode b_Fs_clear 1 = .ok (.invokestatic 48, 3) := by decide +kernel
theorem d_Fs_clear_4 : decode b_Fs_clear 4 = .ok (.ifCond .eq 15, 3) := by decide +kernel
theorem d_Fs_clear_7 : decode b_Fs_clear 7 = .ok (.aload_n 0, 1) := by decide +kernel
theorem d_Fs_clear_8 : decode b_Fs_clear 8 = .ok (.getfield 11, 3) := by decide +kernel
theorem d_Fs_clear_11 : decode b_Fs_clear 11 = .ok (.iload_n 1, 1) := by decide +kernel
theorem d_Fs_clear_12 : decode b_Fs_clear 12 = .ok (.aaload, 1) := by decide +kernel
theorem d_Fs_clear_13 : decode b_Fs_clear 13 = .ok (.invokevirtual 59, 3) := by decide +kernel
theorem d_Fs_clear_16 : decode b_Fs_clear 16 = .ok (.goto 4, 3) := by decide +kernel
theorem d_Fs_clear_19 : decode b_Fs_clear 19 = .ok (.iconst (-1), 1) := by decide +kernel
theorem d_Fs_clear_20 : decode b_Fs_clear 20 = .ok (.ireturn, 1) := by decide +kernel
set_option maxHeartbeats 4000000 in
set_option maxRecDepth 100000 in
theorem c_Fs_clear (fs fa sa stk wd ru ck mc : Nat) (ff : Nat → Option Nat) (q o y n k len : Nat) (j : Nat) (sz : Nat) (hj : j < 4) (hff : ff j = some q) : fs_I l y_Fs_clear (k_Fs_clear :: fs_T) { frames := 1, cells := 0, slots := 0, locals := 21 } (dC, dI) vwCl (fs_tys cI cZ cJ cF) [.ref fs, .int (nI j)] [(fs, .inr (4, [.ref fa, .ref sa, .int (nI stk), .ref wd, .ref ru, .ref ck, .ref mc])), (fa, .inl (cF, 4, .inr (.inr (.inr (.inr ff))))), (q, .inr (1, [.ref o, .ref y, .ref n, .ref k, .int (nI len)]))] sz (S := Unit) (fun r _ => r = nI len) (fun _ => [(fs, .inr (4, [.ref fa, .ref sa, .int (nI stk), .ref wd, .ref ru, .ref ck, .ref mc])), (fa, .inl (cF, 4, .inr (.inr (.inr (.inr ff))))), (q, .inr (1, [.ref o, .ref y, .ref n, .ref k, .int (nI 0)]))]) 0 0 := by
  refine fs_head (by decide) (Nat.le_of_ble_eq_true rfl) ?_
  intro p e s m below meth c A ls hx hb hr hts hown hlocks hin hml hK hP hD hS hA hAe hsz hl
  have hl : lv_has ls 2 [(0, .ref fs), (1, .int (nI j))] := hl
  have hown : s.vm.findClass R_Fs = some m.cls := hown
  refine lv_iload_n hx hb d_Fs_clear_0 rfl (lv_at hl 1 rfl) ?_
  refine fs_calli (wc := []) (wr := [(fs, .inr (4, [.ref fa, .ref sa, .int (nI stk), .ref wd, .ref ru, .ref ck, .ref mc])), (fa, .inl (cF, 4, .inr (.inr (.inr (.inr ff))))), (q, .inr (1, [.ref o, .ref y, .ref n, .ref k, .int (nI len)]))]) [] [0, 1, 2] hP hD hK hS hA rfl rfl rfl (by decide) (fun hPc hDc => va_runS (As := [.int (nI j)]) (rest := []) ⟨hx, hb, hml, hown, hts⟩ (c_Fs_isFilterT j _ (by omega)) (⟨callB_of 1 hts (fs_g kin_Fs_isFilter) rfl rfl rfl (hts _ wi_1) (hts _ wi_140) (by decide +kernel) ⟨Nat.le_of_ble_eq_true rfl, Nat.le_of_ble_eq_true rfl⟩, hts _ wi_141⟩) (fs_preS hPc hK hDc) rfl rfl hl.1 rfl (lv_room (Nat.le_of_ble_eq_true rfl)) d_Fs_clear_1 ⟨Nat.le_of_ble_eq_true rfl, Nat.le_of_ble_eq_true rfl⟩) rfl (fun r1 _ H locs hp1 hP hD hS => ?_)
  have hP : va_P (dC, dI) vwCl [(fs, .inr (4, [.ref fa, .ref sa, .int (nI stk), .ref wd, .ref ru, .ref ck, .ref mc])), (fa, .inl (cF, 4, .inr (.inr (.inr (.inr ff))))), (q, .inr (1, [.ref o, .ref y, .ref n, .ref k, .int (nI len)]))] H := hP
  have hD : va_D A [(fs, .inr (4, [.ref fa, .ref sa, .int (nI stk), .ref wd, .ref ru, .ref ck, .ref mc])), (fa, .inl (cF, 4, .inr (.inr (.inr (.inr ff))))), (q, .inr (1, [.ref o, .ref y, .ref n, .ref k, .int (nI len)]))] := hD
  subst hp1
  refine lv_if_eq (tgt := 19) hx hb d_Fs_clear_4 (by decide) (fun hc => absurd hc (by decide)) (fun _ => ?_)
  refine lv_aload_n hx hb d_Fs_clear_7 rfl (lv_at hl 0 rfl) ?_
  refine va_get (D := (dC, dI)) (ci := 4) (v := .ref fa) (C := R_Fs) (T := T_Fs) (N := 7) hx hb hts uin_Fs hown hK hP 0 rfl rfl 0 (by decide) (hts _ wi_114) (fun _ h9 => h9) rfl d_Fs_clear_8 ?_
  refine lv_iload_n hx hb d_Fs_clear_11 rfl (lv_at hl 1 rfl) ?_
  refine fs_aald (b := q) hx hb hK hP 1 3 rfl rfl j rfl (by decide) (by omega) hff d_Fs_clear_12 ?_
  refine fs_calli (wc := [(q, .inr (1, [.ref o, .ref y, .ref n, .ref k, .int (nI len)]))]) (wr := [(fs, .inr (4, [.ref fa, .ref sa, .int (nI stk), .ref wd, .ref ru, .ref ck, .ref mc])), (fa, .inl (cF, 4, .inr (.inr (.inr (.inr ff)))))]) [2] [0, 1] hP hD hK hS hA rfl rfl rfl (by decide) (fun hPc hDc => va_runV (C := R_Fi) (As := []) (rest := []) ⟨hx, hb, hml, hown, hts⟩ (c_Fi_empty q o y n k len _) (⟨callB_of 0 hts (fs_g kin_Fi_empty) rfl rfl rfl (hts _ wi_2) (hts _ wi_154) (by decide +kernel) ⟨Nat.le_of_ble_eq_true rfl, Nat.le_of_ble_eq_true rfl⟩, hts _ wi_155, hts _ wi_156⟩) (fs_preV (q0 := 0) rfl rfl hPc hK hDc) rfl rfl hl.1 rfl (lv_room (Nat.le_of_ble_eq_true rfl)) d_Fs_clear_13 ⟨Nat.le_of_ble_eq_true rfl, Nat.le_of_ble_eq_true rfl⟩) rfl (fun r13 _ H locs hp13 hP hD hS => ?_)
  have hP : va_P (dC, dI) vwCl [(fs, .inr (4, [.ref fa, .ref sa, .int (nI stk), .ref wd, .ref ru, .ref ck, .ref mc])), (fa, .inl (cF, 4, .inr (.inr (.inr (.inr ff))))), (q, .inr (1, [.ref o, .ref y, .ref n, .ref k, .int (nI 0)]))] H := hP
  have hD : va_D A [(fs, .inr (4, [.ref fa, .ref sa, .int (nI stk), .ref wd, .ref ru, .ref ck, .ref mc])), (fa, .inl (cF, 4, .inr (.inr (.inr (.inr ff))))), (q, .inr (1, [.ref o, .ref y, .ref n, .ref k, .int (nI 0)]))] := hD
  subst hp13
  refine lv_goto (tgt := 20) hx hb d_Fs_clear_16 (by decide) ?_
  exact fs_iret hx hb hr hlocks hAe hK hS d_Fs_clear_20 () (rfl) hP hD

theorem d_Fs_size_0 : decode b_Fs_size 0 = .ok (.iload_n 1, 1) := by decide +kernel
theorem d_Fs_size_1 : decode b_Fs_size 1 = .ok (.invokestatic 48, 3) := by decide +kernel
theorem d_Fs_size_4 : decode b_Fs_size 4 = .ok (.ifCond .eq 15, 3) := by decide +kernel
theorem d_Fs_size_7 : decode b_Fs_size 7 = .ok (.aload_n 0, 1) := by decide +kernel
theorem d_Fs_size_8 : decode b_Fs_size 8 = .ok (.getfield 11, 3) := by decide +kernel
theorem d_Fs_size_11 : decode b_Fs_size 11 = .ok (.iload_n 1, 1) := by decide +kernel
theorem d_Fs_size_12 : decode b_Fs_size 12 = .ok (.aaload, 1) := by decide +kernel
theorem d_Fs_size_13 : decode b_Fs_size 13 = .ok (.getfield 63, 3) := by decide +kernel
theorem d_Fs_size_16 : decode b_Fs_size 16 = .ok (.goto 4, 3) := by decide +kernel
theorem d_Fs_size_19 : decode b_Fs_size 19 = .ok (.iconst (-1), 1) := by decide +kernel
theorem d_Fs_size_20 : decode b_Fs_size 20 = .ok (.ireturn, 1) := by decide +kernel
set_option maxHeartbeats 4000000 in
set_option maxRecDepth 100000 in
theorem c_Fs_size (fs fa sa stk wd ru ck mc : Nat) (ff : Nat → Option Nat) (q o y n k len : Nat) (j : Nat) (sz : Nat) (hj : j < 4) (hff : ff j = some q) : fs_I l y_Fs_size (k_Fs_size :: fs_T) { frames := 1, cells := 0, slots := 0, locals := 20 } (dC, dI) vwCl (fs_tys cI cZ cJ cF) [.ref fs, .int (nI j)] [(fs, .inr (4, [.ref fa, .ref sa, .int (nI stk), .ref wd, .ref ru, .ref ck, .ref mc])), (fa, .inl (cF, 4, .inr (.inr (.inr (.inr ff))))), (q, .inr (1, [.ref o, .ref y, .ref n, .ref k, .int (nI len)]))] sz (S := Unit) (fun r _ => r = nI len) (fun _ => [(fs, .inr (4, [.ref fa, .ref sa, .int (nI stk), .ref wd, .ref ru, .ref ck, .ref mc])), (fa, .inl (cF, 4, .inr (.inr (.inr (.inr ff))))), (q, .inr (1, [.ref o, .ref y, .ref n, .ref k, .int (nI len)]))]) 0 0 := by
  refine fs_head (by decide) (Nat.le_of_ble_eq_true rfl) ?_
  intro p e s m below meth c A ls hx hb hr hts hown hlocks hin hml hK hP hD hS hA hAe hsz hl
  have hl : lv_has ls 2 [(0, .ref fs), (1, .int (nI j))] := hl
  have hown : s.vm.findClass R_Fs = some m.cls := hown
  refine lv_iload_n hx hb d_Fs_size_0 rfl (lv_at hl 1 rfl) ?_
  refine fs_calli (wc := []) (wr := [(fs, .inr (4, [.ref fa, .ref sa, .int (nI stk), .ref wd, .ref ru, .ref ck, .ref mc])), (fa, .inl (cF, 4, .inr (.inr (.inr (.inr ff))))), (q, .inr (1, [.ref o, .ref y, .ref n, .ref k, .int (nI len)]))]) [] [0, 1, 2] hP hD hK hS hA rfl rfl rfl (by decide) (fun hPc hDc => va_runS (As := [.int (nI j)]) (rest := []) ⟨hx, hb, hml, hown, hts⟩ (c_Fs_isFilterT j _ (by omega)) (⟨callB_of 1 hts (fs_g kin_Fs_isFilter) rfl rfl rfl (hts _ wi_1) (hts _ wi_140) (by decide +kernel) ⟨Nat.le_of_ble_eq_true rfl, Nat.le_of_ble_eq_true rfl⟩, hts _ wi_141⟩) (fs_preS hPc hK hDc) rfl rfl hl.1 rfl (lv_room (Nat.le_of_ble_eq_true rfl)) d_Fs_size_1 ⟨Nat.le_of_ble_eq_true rfl, Nat.le_of_ble_eq_true rfl⟩) rfl (fun r1 _ H locs hp1 hP hD hS => ?_)
  have hP : va_P (dC, dI) vwCl [(fs, .inr (4, [.ref fa, .ref sa, .int (nI stk), .ref wd, .ref ru, .ref ck, .ref mc])), (fa, .inl (cF, 4, .inr (.inr (.inr (.inr ff))))), (q, .inr (1, [.ref o, .ref y, .ref n, .ref k, .int (nI len)]))] H := hP
  have hD : va_D A [(fs, .inr (4, [.ref fa, .ref sa, .int (nI stk), .ref wd, .ref ru, .ref ck, .ref mc])), (fa, .inl (cF, 4, .inr (.inr (.inr (.inr ff))))), (q, .inr (1, [.ref o, .ref y, .ref n, .ref k, .int (nI len)]))] := hD
  subst hp1
  refine lv_if_eq (tgt := 19) hx hb d_Fs_size_4 (by decide) (fun hc => absurd hc (by decide)) (fun _ => ?_)
  refine lv_aload_n hx hb d_Fs_size_7 rfl (lv_at hl 0 rfl) ?_
  refine va_get (D := (dC, dI)) (ci := 4) (v := .ref fa) (C := R_Fs) (T := T_Fs) (N := 7) hx hb hts uin_Fs hown hK hP 0 rfl rfl 0 (by decide) (hts _ wi_114) (fun _ h9 => h9) rfl d_Fs_size_8 ?_
  refine lv_iload_n hx hb d_Fs_size_11 rfl (lv_at hl 1 rfl) ?_
  refine fs_aald (b := q) hx hb hK hP 1 3 rfl rfl j rfl (by decide) (by omega) hff d_Fs_size_12 ?_
  refine va_get (D := (dC, dI)) (ci := 1) (v := .int (nI len)) (C := R_Fi) (T := T_Fi) (N := 5) hx hb hts uin_Fi hown hK hP 2 rfl rfl 4 (by decide) (hts _ wi_49) (fun _ h9 => h9) rfl d_Fs_size_13 ?_
  refine lv_goto (tgt := 20) hx hb d_Fs_size_16 (by decide) ?_
  exact fs_iret hx hb hr hlocks hAe hK hS d_Fs_size_20 () (rfl) hP hD

set_option maxHeartbeats 4000000 in
set_option maxRecDepth 100000 in
theorem c_Fs_clearX (fs fa sa stk wd ru ck mc : Nat) (f : Int32) (sz : Nat) (hf : ∀ j, j < 4 → f ≠ nI j) : fs_I l y_Fs_clear (k_Fs_clear :: fs_T) { frames := 1, cells := 0, slots := 0, locals := 21 } (dC, dI) vwCl (fs_tys cI cZ cJ cF) [.ref fs, .int f] [(fs, .inr (4, [.ref fa, .ref sa, .int (nI stk), .ref wd, .ref ru, .ref ck, .ref mc]))] sz (S := Unit) (fun r _ => r = (-1)) (fun _ => [(fs, .inr (4, [.ref fa, .ref sa, .int (nI stk), .ref wd, .ref ru, .ref ck, .ref mc]))]) 0 0 := by
  refine fs_head (by decide) (Nat.le_of_ble_eq_true rfl) ?_
  intro p e s m below meth c A ls hx hb hr hts hown hlocks hin hml hK hP hD hS hA hAe hsz hl
  have hl : lv_has ls 2 [(0, .ref fs), (1, .int f)] := hl
  have hown : s.vm.findClass R_Fs = some m.cls := hown
  refine lv_iload_n hx hb d_Fs_clear_0 rfl (lv_at hl 1 rfl) ?_
  refine fs_calli (wc := []) (wr := [(fs, .inr (4, [.ref fa, .ref sa, .int (nI stk), .ref wd, .ref ru, .ref ck, .ref mc]))]) [] [0] hP hD hK hS hA rfl rfl rfl (by decide) (fun hPc hDc => va_runS (As := [.int f]) (rest := []) ⟨hx, hb, hml, hown, hts⟩ (c_Fs_isFilter f _) (⟨callB_of 1 hts (fs_g kin_Fs_isFilter) rfl rfl rfl (hts _ wi_1) (hts _ wi_140) (by decide +kernel) ⟨Nat.le_of_ble_eq_true rfl, Nat.le_of_ble_eq_true rfl⟩, hts _ wi_141⟩) (fs_preS hPc hK hDc) rfl rfl hl.1 rfl (lv_room (Nat.le_of_ble_eq_true rfl)) d_Fs_clear_1 ⟨Nat.le_of_ble_eq_true rfl, Nat.le_of_ble_eq_true rfl⟩) rfl (fun r1 _ H locs hp1 hP hD hS => ?_)
  have hP : va_P (dC, dI) vwCl [(fs, .inr (4, [.ref fa, .ref sa, .int (nI stk), .ref wd, .ref ru, .ref ck, .ref mc]))] H := hP
  have hD : va_D A [(fs, .inr (4, [.ref fa, .ref sa, .int (nI stk), .ref wd, .ref ru, .ref ck, .ref mc]))] := hD
  rcases hp1 with ⟨⟨j, hj, e⟩, _⟩ | ⟨_, rfl⟩
  · exact absurd e (hf j hj)
  refine lv_if_eq (tgt := 19) hx hb d_Fs_clear_4 (by decide) (fun _ => ?_) (fun hc => absurd (by decide) hc)
  refine lv_iconst (v := (-1)) hx hb d_Fs_clear_19 (by decide) ?_
  exact fs_iret hx hb hr hlocks hAe hK hS d_Fs_clear_20 () (rfl) hP hD

set_option maxHeartbeats 4000000 in
set_option maxRecDepth 100000 in
theorem c_Fs_sizeX (fs fa sa stk wd ru ck mc : Nat) (f : Int32) (sz : Nat) (hf : ∀ j, j < 4 → f ≠ nI j) : fs_I l y_Fs_size (k_Fs_size :: fs_T) { frames := 1, cells := 0, slots := 0, locals := 20 } (dC, dI) vwCl (fs_tys cI cZ cJ cF) [.ref fs, .int f] [(fs, .inr (4, [.ref fa, .ref sa, .int (nI stk), .ref wd, .ref ru, .ref ck, .ref mc]))] sz (S := Unit) (fun r _ => r = (-1)) (fun _ => [(fs, .inr (4, [.ref fa, .ref sa, .int (nI stk), .ref wd, .ref ru, .ref ck, .ref mc]))]) 0 0 := by
  refine fs_head (by decide) (Nat.le_of_ble_eq_true rfl) ?_
  intro p e s m below meth c A ls hx hb hr hts hown hlocks hin hml hK hP hD hS hA hAe hsz hl
  have hl : lv_has ls 2 [(0, .ref fs), (1, .int f)] := hl
  have hown : s.vm.findClass R_Fs = some m.cls := hown
  refine lv_iload_n hx hb d_Fs_size_0 rfl (lv_at hl 1 rfl) ?_
  refine fs_calli (wc := []) (wr := [(fs, .inr (4, [.ref fa, .ref sa, .int (nI stk), .ref wd, .ref ru, .ref ck, .ref mc]))]) [] [0] hP hD hK hS hA rfl rfl rfl (by decide) (fun hPc hDc => va_runS (As := [.int f]) (rest := []) ⟨hx, hb, hml, hown, hts⟩ (c_Fs_isFilter f _) (⟨callB_of 1 hts (fs_g kin_Fs_isFilter) rfl rfl rfl (hts _ wi_1) (hts _ wi_140) (by decide +kernel) ⟨Nat.le_of_ble_eq_true rfl, Nat.le_of_ble_eq_true rfl⟩, hts _ wi_141⟩) (fs_preS hPc hK hDc) rfl rfl hl.1 rfl (lv_room (Nat.le_of_ble_eq_true rfl)) d_Fs_size_1 ⟨Nat.le_of_ble_eq_true rfl, Nat.le_of_ble_eq_true rfl⟩) rfl (fun r1 _ H locs hp1 hP hD hS => ?_)
  have hP : va_P (dC, dI) vwCl [(fs, .inr (4, [.ref fa, .ref sa, .int (nI stk), .ref wd, .ref ru, .ref ck, .ref mc]))] H := hP
  have hD : va_D A [(fs, .inr (4, [.ref fa, .ref sa, .int (nI stk), .ref wd, .ref ru, .ref ck, .ref mc]))] := hD
  rcases hp1 with ⟨⟨j, hj, e⟩, _⟩ | ⟨_, rfl⟩
  · exact absurd e (hf j hj)
  refine lv_if_eq (tgt := 19) hx hb d_Fs_size_4 (by decide) (fun _ => ?_) (fun hc => absurd (by decide) hc)
  refine lv_iconst (v := (-1)) hx hb d_Fs_size_19 (by decide) ?_
  exact fs_iret hx hb hr hlocks hAe hK hS d_Fs_size_20 () (rfl) hP hD

theorem d_Fs_fault_0 : decode b_Fs_fault 0 = .ok (.iload_n 1, 1) := by decide +kernel
theorem d_Fs_fault_1 : decode b_Fs_fault 1 = .ok (.invokestatic 48, 3) := by decide +kernel
theorem d_Fs_fault_4 : decode b_Fs_fault 4 = .ok (.ifCond .eq 19, 3) := by decide +kernel
theorem d_Fs_fault_7 : decode b_Fs_fault 7 = .ok (.aload_n 0, 1) := by decide +kernel
theorem d_Fs_fault_8 : decode b_Fs_fault 8 = .ok (.getfield 37, 3) := by decide +kernel
theorem d_Fs_fault_11 : decode b_Fs_fault 11 = .ok (.aload_n 0, 1) := by decide +kernel
theorem d_Fs_fault_12 : decode b_Fs_fault 12 = .ok (.getfield 11, 3) := by decide +kernel
theorem d_Fs_fault_15 : decode b_Fs_fault 15 = .ok (.iload_n 1, 1) := by decide +kernel
theorem d_Fs_fault_16 : decode b_Fs_fault 16 = .ok (.aaload, 1) := by decide +kernel
theorem d_Fs_fault_17 : decode b_Fs_fault 17 = .ok (.invokevirtual 81, 3) := by decide +kernel
theorem d_Fs_fault_20 : decode b_Fs_fault 20 = .ok (.goto 4, 3) := by decide +kernel
theorem d_Fs_fault_23 : decode b_Fs_fault 23 = .ok (.iconst (-1), 1) := by decide +kernel
theorem d_Fs_fault_24 : decode b_Fs_fault 24 = .ok (.ireturn, 1) := by decide +kernel
set_option maxHeartbeats 4000000 in
set_option maxRecDepth 100000 in
theorem c_Fs_faultX (fs fa sa stk wd ru ck mc : Nat) (f : Int32) (sz : Nat) (hf : ∀ j, j < 4 → f ≠ nI j) : fs_I l y_Fs_fault (k_Fs_fault :: fs_T) { frames := 5, cells := 0, slots := 0, locals := 115 } (dC, dI) vwCl (fs_tys cI cZ cJ cF) [.ref fs, .int f] [(fs, .inr (4, [.ref fa, .ref sa, .int (nI stk), .ref wd, .ref ru, .ref ck, .ref mc]))] sz (S := Unit) (fun r _ => r = (-1)) (fun _ => [(fs, .inr (4, [.ref fa, .ref sa, .int (nI stk), .ref wd, .ref ru, .ref ck, .ref mc]))]) 0 0 := by
  refine fs_head (by decide) (Nat.le_of_ble_eq_true rfl) ?_
  intro p e s m below meth c A ls hx hb hr hts hown hlocks hin hml hK hP hD hS hA hAe hsz hl
  have hl : lv_has ls 2 [(0, .ref fs), (1, .int f)] := hl
  have hown : s.vm.findClass R_Fs = some m.cls := hown
  refine lv_iload_n hx hb d_Fs_fault_0 rfl (lv_at hl 1 rfl) ?_
  refine fs_calli (wc := []) (wr := [(fs, .inr (4, [.ref fa, .ref sa, .int (nI stk), .ref wd, .ref ru, .ref ck, .ref mc]))]) [] [0] hP hD hK hS hA rfl rfl rfl (by decide) (fun hPc hDc => va_runS (As := [.int f]) (rest := []) ⟨hx, hb, hml, hown, hts⟩ (c_Fs_isFilter f _) (⟨callB_of 1 hts (fs_g kin_Fs_isFilter) rfl rfl rfl (hts _ wi_1) (hts _ wi_140) (by decide +kernel) ⟨Nat.le_of_ble_eq_true rfl, Nat.le_of_ble_eq_true rfl⟩, hts _ wi_141⟩) (fs_preS hPc hK hDc) rfl rfl hl.1 rfl (lv_room (Nat.le_of_ble_eq_true rfl)) d_Fs_fault_1 ⟨Nat.le_of_ble_eq_true rfl, Nat.le_of_ble_eq_true rfl⟩) rfl (fun r1 _ H locs hp1 hP hD hS => ?_)
  have hP : va_P (dC, dI) vwCl [(fs, .inr (4, [.ref fa, .ref sa, .int (nI stk), .ref wd, .ref ru, .ref ck, .ref mc]))] H := hP
  have hD : va_D A [(fs, .inr (4, [.ref fa, .ref sa, .int (nI stk), .ref wd, .ref ru, .ref ck, .ref mc]))] := hD
  rcases hp1 with ⟨⟨j, hj, e⟩, _⟩ | ⟨_, rfl⟩
  · exact absurd e (hf j hj)
  refine lv_if_eq (tgt := 23) hx hb d_Fs_fault_4 (by decide) (fun _ => ?_) (fun hc => absurd (by decide) hc)
  refine lv_iconst (v := (-1)) hx hb d_Fs_fault_23 (by decide) ?_
  exact fs_iret hx hb hr hlocks hAe hK hS d_Fs_fault_24 () (rfl) hP hD

theorem d_Fs_place_0 : decode b_Fs_place 0 = .ok (.iload_n 1, 1) := by decide +kernel
theorem d_Fs_place_1 : decode b_Fs_place 1 = .ok (.invokestatic 48, 3) := by decide +kernel
theorem d_Fs_place_4 : decode b_Fs_place 4 = .ok (.ifCond .ne 5, 3) := by decide +kernel
theorem d_Fs_place_7 : decode b_Fs_place 7 = .ok (.iconst (-1), 1) := by decide +kernel
theorem d_Fs_place_8 : decode b_Fs_place 8 = .ok (.ireturn, 1) := by decide +kernel
theorem d_Fs_place_9 : decode b_Fs_place 9 = .ok (.aload_n 0, 1) := by decide +kernel
theorem d_Fs_place_10 : decode b_Fs_place 10 = .ok (.getfield 37, 3) := by decide +kernel
theorem d_Fs_place_13 : decode b_Fs_place 13 = .ok (.aload_n 0, 1) := by decide +kernel
theorem d_Fs_place_14 : decode b_Fs_place 14 = .ok (.getfield 11, 3) := by decide +kernel
theorem d_Fs_place_17 : decode b_Fs_place 17 = .ok (.iload_n 1, 1) := by decide +kernel
theorem d_Fs_place_18 : decode b_Fs_place 18 = .ok (.aaload, 1) := by decide +kernel
theorem d_Fs_place_19 : decode b_Fs_place 19 = .ok (.aload_n 0, 1) := by decide +kernel
theorem d_Fs_place_20 : decode b_Fs_place 20 = .ok (.getfield 37, 3) := by decide +kernel
theorem d_Fs_place_23 : decode b_Fs_place 23 = .ok (.aload_n 0, 1) := by decide +kernel
theorem d_Fs_place_24 : decode b_Fs_place 24 = .ok (.getfield 11, 3) := by decide +kernel
theorem d_Fs_place_27 : decode b_Fs_place 27 = .ok (.iload_n 1, 1) := by decide +kernel
theorem d_Fs_place_28 : decode b_Fs_place 28 = .ok (.aaload, 1) := by decide +kernel
theorem d_Fs_place_29 : decode b_Fs_place 29 = .ok (.invokevirtual 81, 3) := by decide +kernel
theorem d_Fs_place_32 : decode b_Fs_place 32 = .ok (.invokevirtual 85, 3) := by decide +kernel
theorem d_Fs_place_35 : decode b_Fs_place 35 = .ok (.ireturn, 1) := by decide +kernel
set_option maxHeartbeats 4000000 in
set_option maxRecDepth 100000 in
theorem c_Fs_placeX (fs fa sa stk wd ru ck mc : Nat) (f : Int32) (sz : Nat) (hf : ∀ j, j < 4 → f ≠ nI j) : fs_I l y_Fs_place (k_Fs_place :: fs_T) { frames := 5, cells := 0, slots := 0, locals := 115 } (dC, dI) vwCl (fs_tys cI cZ cJ cF) [.ref fs, .int f] [(fs, .inr (4, [.ref fa, .ref sa, .int (nI stk), .ref wd, .ref ru, .ref ck, .ref mc]))] sz (S := Unit) (fun r _ => r = (-1)) (fun _ => [(fs, .inr (4, [.ref fa, .ref sa, .int (nI stk), .ref wd, .ref ru, .ref ck, .ref mc]))]) 0 0 := by
  refine fs_head (by decide) (Nat.le_of_ble_eq_true rfl) ?_
  intro p e s m below meth c A ls hx hb hr hts hown hlocks hin hml hK hP hD hS hA hAe hsz hl
  have hl : lv_has ls 2 [(0, .ref fs), (1, .int f)] := hl
  have hown : s.vm.findClass R_Fs = some m.cls := hown
  refine lv_iload_n hx hb d_Fs_place_0 rfl (lv_at hl 1 rfl) ?_
  refine fs_calli (wc := []) (wr := [(fs, .inr (4, [.ref fa, .ref sa, .int (nI stk), .ref wd, .ref ru, .ref ck, .ref mc]))]) [] [0] hP hD hK hS hA rfl rfl rfl (by decide) (fun hPc hDc => va_runS (As := [.int f]) (rest := []) ⟨hx, hb, hml, hown, hts⟩ (c_Fs_isFilter f _) (⟨callB_of 1 hts (fs_g kin_Fs_isFilter) rfl rfl rfl (hts _ wi_1) (hts _ wi_140) (by decide +kernel) ⟨Nat.le_of_ble_eq_true rfl, Nat.le_of_ble_eq_true rfl⟩, hts _ wi_141⟩) (fs_preS hPc hK hDc) rfl rfl hl.1 rfl (lv_room (Nat.le_of_ble_eq_true rfl)) d_Fs_place_1 ⟨Nat.le_of_ble_eq_true rfl, Nat.le_of_ble_eq_true rfl⟩) rfl (fun r1 _ H locs hp1 hP hD hS => ?_)
  have hP : va_P (dC, dI) vwCl [(fs, .inr (4, [.ref fa, .ref sa, .int (nI stk), .ref wd, .ref ru, .ref ck, .ref mc]))] H := hP
  have hD : va_D A [(fs, .inr (4, [.ref fa, .ref sa, .int (nI stk), .ref wd, .ref ru, .ref ck, .ref mc]))] := hD
  rcases hp1 with ⟨⟨j, hj, e⟩, _⟩ | ⟨_, rfl⟩
  · exact absurd e (hf j hj)
  refine lv_if_ne (tgt := 9) hx hb d_Fs_place_4 (by decide) (fun hc => absurd (by decide) hc) (fun _ => ?_)
  refine lv_iconst (v := (-1)) hx hb d_Fs_place_7 (by decide) ?_
  exact fs_iret hx hb hr hlocks hAe hK hS d_Fs_place_8 () (rfl) hP hD

theorem d_Fs_shape_0 : decode b_Fs_shape 0 = .ok (.iload_n 1, 1) := by decide +kernel
theorem d_Fs_shape_1 : decode b_Fs_shape 1 = .ok (.invokestatic 48, 3) := by decide +kernel
theorem d_Fs_shape_4 : decode b_Fs_shape 4 = .ok (.ifCond .eq 16, 3) := by decide +kernel
theorem d_Fs_shape_7 : decode b_Fs_shape 7 = .ok (.aload_n 0, 1) := by decide +kernel
theorem d_Fs_shape_8 : decode b_Fs_shape 8 = .ok (.getfield 11, 3) := by decide +kernel
theorem d_Fs_shape_11 : decode b_Fs_shape 11 = .ok (.iload_n 1, 1) := by decide +kernel
theorem d_Fs_shape_12 : decode b_Fs_shape 12 = .ok (.aaload, 1) := by decide +kernel
theorem d_Fs_shape_13 : decode b_Fs_shape 13 = .ok (.iload_n 2, 1) := by decide +kernel
theorem d_Fs_shape_14 : decode b_Fs_shape 14 = .ok (.invokevirtual 66, 3) := by decide +kernel
theorem d_Fs_shape_17 : decode b_Fs_shape 17 = .ok (.ifCond .ne 5, 3) := by decide +kernel
theorem d_Fs_shape_20 : decode b_Fs_shape 20 = .ok (.iconst (-1), 1) := by decide +kernel
theorem d_Fs_shape_21 : decode b_Fs_shape 21 = .ok (.ireturn, 1) := by decide +kernel
theorem d_Fs_shape_22 : decode b_Fs_shape 22 = .ok (.aload_n 0, 1) := by decide +kernel
theorem d_Fs_shape_23 : decode b_Fs_shape 23 = .ok (.getfield 11, 3) := by decide +kernel
theorem d_Fs_shape_26 : decode b_Fs_shape 26 = .ok (.iload_n 1, 1) := by decide +kernel
theorem d_Fs_shape_27 : decode b_Fs_shape 27 = .ok (.aaload, 1) := by decide +kernel
theorem d_Fs_shape_28 : decode b_Fs_shape 28 = .ok (.astore_n 3, 1) := by decide +kernel
theorem d_Fs_shape_29 : decode b_Fs_shape 29 = .ok (.aload_n 3, 1) := by decide +kernel
theorem d_Fs_shape_30 : decode b_Fs_shape 30 = .ok (.getfield 69, 3) := by decide +kernel
theorem d_Fs_shape_33 : decode b_Fs_shape 33 = .ok (.iload_n 2, 1) := by decide +kernel
theorem d_Fs_shape_34 : decode b_Fs_shape 34 = .ok (.iaload, 1) := by decide +kernel
theorem d_Fs_shape_35 : decode b_Fs_shape 35 = .ok (.bipush 32, 2) := by decide +kernel
theorem d_Fs_shape_37 : decode b_Fs_shape 37 = .ok (.aload_n 3, 1) := by decide +kernel
theorem d_Fs_shape_38 : decode b_Fs_shape 38 = .ok (.getfield 72, 3) := by decide +kernel
theorem d_Fs_shape_41 : decode b_Fs_shape 41 = .ok (.iload_n 2, 1) := by decide +kernel
theorem d_Fs_shape_42 : decode b_Fs_shape 42 = .ok (.iaload, 1) := by decide +kernel
theorem d_Fs_shape_43 : decode b_Fs_shape 43 = .ok (.imul, 1) := by decide +kernel
theorem d_Fs_shape_44 : decode b_Fs_shape 44 = .ok (.iadd, 1) := by decide +kernel
theorem d_Fs_shape_45 : decode b_Fs_shape 45 = .ok (.sipush 8192, 3) := by decide +kernel
theorem d_Fs_shape_48 : decode b_Fs_shape 48 = .ok (.aload_n 3, 1) := by decide +kernel
theorem d_Fs_shape_49 : decode b_Fs_shape 49 = .ok (.getfield 75, 3) := by decide +kernel
theorem d_Fs_shape_52 : decode b_Fs_shape 52 = .ok (.iload_n 2, 1) := by decide +kernel
theorem d_Fs_shape_53 : decode b_Fs_shape 53 = .ok (.iaload, 1) := by decide +kernel
theorem d_Fs_shape_54 : decode b_Fs_shape 54 = .ok (.imul, 1) := by decide +kernel
theorem d_Fs_shape_55 : decode b_Fs_shape 55 = .ok (.iadd, 1) := by decide +kernel
theorem d_Fs_shape_56 : decode b_Fs_shape 56 = .ok (.ireturn, 1) := by decide +kernel
set_option maxHeartbeats 4000000 in
set_option maxRecDepth 100000 in
theorem c_Fs_shape (fs fa sa stk wd ru ck mc : Nat) (ff : Nat → Option Nat) (q o y n k : Nat) (fo fy fn fk : Nat → Int32) (L : fx_Prg) (j : Nat) (t : Nat) (sz : Nat) (hj : j < 4) (hff : ff j = some q) (hrep : fx_rep L fo fy fn fk) (hok : fx_ok L) (ht : t < L.length) : fs_I l y_Fs_shape (k_Fs_shape :: fs_T) { frames := 1, cells := 0, slots := 0, locals := 21 } (dC, dI) vwCl (fs_tys cI cZ cJ cF) [.ref fs, .int (nI j), .int (nI t)] [(fs, .inr (4, [.ref fa, .ref sa, .int (nI stk), .ref wd, .ref ru, .ref ck, .ref mc])), (fa, .inl (cF, 4, .inr (.inr (.inr (.inr ff))))), (q, .inr (1, [.ref o, .ref y, .ref n, .ref k, .int (nI L.length)])), (o, .inl (cI, 40, .inl fo)), (y, .inl (cI, 40, .inl fy)), (n, .inl (cI, 40, .inl fn)), (k, .inl (cI, 40, .inl fk))] sz (S := Unit) (fun r _ => r = nI (fx_O L t + 32 * (fx_Y L t) + 8192 * (fx_N L t))) (fun _ => [(fs, .inr (4, [.ref fa, .ref sa, .int (nI stk), .ref wd, .ref ru, .ref ck, .ref mc])), (fa, .inl (cF, 4, .inr (.inr (.inr (.inr ff))))), (q, .inr (1, [.ref o, .ref y, .ref n, .ref k, .int (nI L.length)])), (o, .inl (cI, 40, .inl fo)), (y, .inl (cI, 40, .inl fy)), (n, .inl (cI, 40, .inl fn)), (k, .inl (cI, 40, .inl fk))]) 0 0 := by
  refine fs_head (by decide) (Nat.le_of_ble_eq_true rfl) ?_
  intro p e s m below meth c A ls hx hb hr hts hown hlocks hin hml hK hP hD hS hA hAe hsz hl
  have hl : lv_has ls 4 [(0, .ref fs), (1, .int (nI j)), (2, .int (nI t))] := hl
  have hown : s.vm.findClass R_Fs = some m.cls := hown
  have hlen := hok.1
  have hO := (hok.2 t ht).1
  have hY := (hok.2 t ht).2.1
  have hN := (hok.2 t ht).2.2
  refine lv_iload_n hx hb d_Fs_shape_0 rfl (lv_at hl 1 rfl) ?_
  refine fs_calli (wc := []) (wr := [(fs, .inr (4, [.ref fa, .ref sa, .int (nI stk), .ref wd, .ref ru, .ref ck, .ref mc])), (fa, .inl (cF, 4, .inr (.inr (.inr (.inr ff))))), (q, .inr (1, [.ref o, .ref y, .ref n, .ref k, .int (nI L.length)])), (o, .inl (cI, 40, .inl fo)), (y, .inl (cI, 40, .inl fy)), (n, .inl (cI, 40, .inl fn)), (k, .inl (cI, 40, .inl fk))]) [] [0, 1, 2, 3, 4, 5, 6] hP hD hK hS hA rfl rfl rfl (by decide) (fun hPc hDc => va_runS (As := [.int (nI j)]) (rest := []) ⟨hx, hb, hml, hown, hts⟩ (c_Fs_isFilterT j _ (by omega)) (⟨callB_of 1 hts (fs_g kin_Fs_isFilter) rfl rfl rfl (hts _ wi_1) (hts _ wi_140) (by decide +kernel) ⟨Nat.le_of_ble_eq_true rfl, Nat.le_of_ble_eq_true rfl⟩, hts _ wi_141⟩) (fs_preS hPc hK hDc) rfl rfl hl.1 rfl (lv_room (Nat.le_of_ble_eq_true rfl)) d_Fs_shape_1 ⟨Nat.le_of_ble_eq_true rfl, Nat.le_of_ble_eq_true rfl⟩) rfl (fun r1 _ H locs hp1 hP hD hS => ?_)
  have hP : va_P (dC, dI) vwCl [(fs, .inr (4, [.ref fa, .ref sa, .int (nI stk), .ref wd, .ref ru, .ref ck, .ref mc])), (fa, .inl (cF, 4, .inr (.inr (.inr (.inr ff))))), (q, .inr (1, [.ref o, .ref y, .ref n, .ref k, .int (nI L.length)])), (o, .inl (cI, 40, .inl fo)), (y, .inl (cI, 40, .inl fy)), (n, .inl (cI, 40, .inl fn)), (k, .inl (cI, 40, .inl fk))] H := hP
  have hD : va_D A [(fs, .inr (4, [.ref fa, .ref sa, .int (nI stk), .ref wd, .ref ru, .ref ck, .ref mc])), (fa, .inl (cF, 4, .inr (.inr (.inr (.inr ff))))), (q, .inr (1, [.ref o, .ref y, .ref n, .ref k, .int (nI L.length)])), (o, .inl (cI, 40, .inl fo)), (y, .inl (cI, 40, .inl fy)), (n, .inl (cI, 40, .inl fn)), (k, .inl (cI, 40, .inl fk))] := hD
  subst hp1
  refine lv_if_eq (tgt := 20) hx hb d_Fs_shape_4 (by decide) (fun hc => absurd hc (by decide)) (fun _ => ?_)
  refine lv_aload_n hx hb d_Fs_shape_7 rfl (lv_at hl 0 rfl) ?_
  refine va_get (D := (dC, dI)) (ci := 4) (v := .ref fa) (C := R_Fs) (T := T_Fs) (N := 7) hx hb hts uin_Fs hown hK hP 0 rfl rfl 0 (by decide) (hts _ wi_114) (fun _ h9 => h9) rfl d_Fs_shape_8 ?_
  refine lv_iload_n hx hb d_Fs_shape_11 rfl (lv_at hl 1 rfl) ?_
  refine fs_aald (b := q) hx hb hK hP 1 3 rfl rfl j rfl (by decide) (by omega) hff d_Fs_shape_12 ?_
  refine lv_iload_n hx hb d_Fs_shape_13 rfl (lv_at hl 2 rfl) ?_
  refine fs_calli (wc := [(q, .inr (1, [.ref o, .ref y, .ref n, .ref k, .int (nI L.length)]))]) (wr := [(fs, .inr (4, [.ref fa, .ref sa, .int (nI stk), .ref wd, .ref ru, .ref ck, .ref mc])), (fa, .inl (cF, 4, .inr (.inr (.inr (.inr ff))))), (o, .inl (cI, 40, .inl fo)), (y, .inl (cI, 40, .inl fy)), (n, .inl (cI, 40, .inl fn)), (k, .inl (cI, 40, .inl fk))]) [2] [0, 1, 3, 4, 5, 6] hP hD hK hS hA rfl rfl rfl (by decide) (fun hPc hDc => va_runV (C := R_Fi) (As := [.int (nI t)]) (rest := []) ⟨hx, hb, hml, hown, hts⟩ (c_Fi_has q o y n k L.length (nI t) _ (by omega)) (⟨callB_of 1 hts (fs_g kin_Fi_has) rfl rfl rfl (hts _ wi_2) (hts _ wi_166) (by decide +kernel) ⟨Nat.le_of_ble_eq_true rfl, Nat.le_of_ble_eq_true rfl⟩, hts _ wi_167, hts _ wi_168⟩) (fs_preV (q0 := 0) rfl rfl hPc hK hDc) rfl rfl hl.1 rfl (lv_room (Nat.le_of_ble_eq_true rfl)) d_Fs_shape_14 ⟨Nat.le_of_ble_eq_true rfl, Nat.le_of_ble_eq_true rfl⟩) rfl (fun r14 _ H locs hp14 hP hD hS => ?_)
  have hP : va_P (dC, dI) vwCl [(fs, .inr (4, [.ref fa, .ref sa, .int (nI stk), .ref wd, .ref ru, .ref ck, .ref mc])), (fa, .inl (cF, 4, .inr (.inr (.inr (.inr ff))))), (q, .inr (1, [.ref o, .ref y, .ref n, .ref k, .int (nI L.length)])), (o, .inl (cI, 40, .inl fo)), (y, .inl (cI, 40, .inl fy)), (n, .inl (cI, 40, .inl fn)), (k, .inl (cI, 40, .inl fk))] H := hP.sub [0, 1, 6, 2, 3, 4, 5] rfl
  have hD : va_D A [(fs, .inr (4, [.ref fa, .ref sa, .int (nI stk), .ref wd, .ref ru, .ref ck, .ref mc])), (fa, .inl (cF, 4, .inr (.inr (.inr (.inr ff))))), (q, .inr (1, [.ref o, .ref y, .ref n, .ref k, .int (nI L.length)])), (o, .inl (cI, 40, .inl fo)), (y, .inl (cI, 40, .inl fy)), (n, .inl (cI, 40, .inl fn)), (k, .inl (cI, 40, .inl fk))] := hD.sub [0, 1, 6, 2, 3, 4, 5] (by decide) rfl
  rcases hp14 with ⟨_, rfl⟩ | ⟨hno, _⟩
  rotate_left
  · exact absurd rfl (hno t ht)
  refine lv_if_ne (tgt := 22) hx hb d_Fs_shape_17 (by decide) (fun _ => ?_) (fun hc => absurd hc (by decide))
  refine lv_aload_n hx hb d_Fs_shape_22 rfl (lv_at hl 0 rfl) ?_
  refine va_get (D := (dC, dI)) (ci := 4) (v := .ref fa) (C := R_Fs) (T := T_Fs) (N := 7) hx hb hts uin_Fs hown hK hP 0 rfl rfl 0 (by decide) (hts _ wi_114) (fun _ h9 => h9) rfl d_Fs_shape_23 ?_
  refine lv_iload_n hx hb d_Fs_shape_26 rfl (lv_at hl 1 rfl) ?_
  refine fs_aald (b := q) hx hb hK hP 1 3 rfl rfl j rfl (by decide) (by omega) hff d_Fs_shape_27 ?_
  refine lv_astore_n hx hb d_Fs_shape_28 rfl hl (by decide) (lv' := [(3, .ref q), (0, .ref fs), (1, .int (nI j)), (2, .int (nI t))]) rfl (fun ls hl => ?_)
  refine lv_aload_n hx hb d_Fs_shape_29 rfl (lv_at hl 0 rfl) ?_
  refine va_get (D := (dC, dI)) (ci := 1) (v := .ref o) (C := R_Fi) (T := T_Fi) (N := 5) hx hb hts uin_Fi hown hK hP 2 rfl rfl 0 (by decide) (hts _ wi_33) (fun _ h9 => h9) rfl d_Fs_shape_30 ?_
  refine lv_iload_n hx hb d_Fs_shape_33 rfl (lv_at hl 3 rfl) ?_
  refine fs_iald (v := nI (fx_O L t)) hx hb hK hP 3 0 rfl rfl t rfl (by decide) (by omega) ((hrep t (by omega)).1) d_Fs_shape_34 ?_
  refine lv_bipush (v := nI 32) hx hb d_Fs_shape_35 (by decide) ?_
  refine lv_aload_n hx hb d_Fs_shape_37 rfl (lv_at hl 0 rfl) ?_
  refine va_get (D := (dC, dI)) (ci := 1) (v := .ref y) (C := R_Fi) (T := T_Fi) (N := 5) hx hb hts uin_Fi hown hK hP 2 rfl rfl 1 (by decide) (hts _ wi_36) (fun _ h9 => h9) rfl d_Fs_shape_38 ?_
  refine lv_iload_n hx hb d_Fs_shape_41 rfl (lv_at hl 3 rfl) ?_
  refine fs_iald (v := nI (fx_Y L t)) hx hb hK hP 4 0 rfl rfl t rfl (by decide) (by omega) ((hrep t (by omega)).2.1) d_Fs_shape_42 ?_
  refine lv_imul hx hb d_Fs_shape_43 ?_
  refine fs_eqi (pk_mul _ _) ?_
  refine lv_iadd hx hb d_Fs_shape_44 ?_
  refine fs_eqi (nI_add _ _) ?_
  refine lv_sipush (v := nI 8192) hx hb d_Fs_shape_45 (by decide) ?_
  refine lv_aload_n hx hb d_Fs_shape_48 rfl (lv_at hl 0 rfl) ?_
  refine va_get (D := (dC, dI)) (ci := 1) (v := .ref n) (C := R_Fi) (T := T_Fi) (N := 5) hx hb hts uin_Fi hown hK hP 2 rfl rfl 2 (by decide) (hts _ wi_39) (fun _ h9 => h9) rfl d_Fs_shape_49 ?_
  refine lv_iload_n hx hb d_Fs_shape_52 rfl (lv_at hl 3 rfl) ?_
  refine fs_iald (v := nI (fx_N L t)) hx hb hK hP 5 0 rfl rfl t rfl (by decide) (by omega) ((hrep t (by omega)).2.2.1) d_Fs_shape_53 ?_
  refine lv_imul hx hb d_Fs_shape_54 ?_
  refine fs_eqi (pk_mul _ _) ?_
  refine lv_iadd hx hb d_Fs_shape_55 ?_
  refine fs_eqi (nI_add _ _) ?_
  exact fs_iret hx hb hr hlocks hAe hK hS d_Fs_shape_56 () (rfl) hP hD

theorem d_Fs_number_0 : decode b_Fs_number 0 = .ok (.iload_n 1, 1) := by decide +kernel
theorem d_Fs_number_1 : decode b_Fs_number 1 = .ok (.invokestatic 48, 3) := by decide +kernel
theorem d_Fs_number_4 : decode b_Fs_number 4 = .ok (.ifCond .eq 30, 3) := by decide +kernel
theorem d_Fs_number_7 : decode b_Fs_number 7 = .ok (.aload_n 0, 1) := by decide +kernel
theorem d_Fs_number_8 : decode b_Fs_number 8 = .ok (.getfield 11, 3) := by decide +kernel
theorem d_Fs_number_11 : decode b_Fs_number 11 = .ok (.iload_n 1, 1) := by decide +kernel
theorem d_Fs_number_12 : decode b_Fs_number 12 = .ok (.aaload, 1) := by decide +kernel
theorem d_Fs_number_13 : decode b_Fs_number 13 = .ok (.iload_n 2, 1) := by decide +kernel
theorem d_Fs_number_14 : decode b_Fs_number 14 = .ok (.invokevirtual 66, 3) := by decide +kernel
theorem d_Fs_number_17 : decode b_Fs_number 17 = .ok (.ifCond .eq 17, 3) := by decide +kernel
theorem d_Fs_number_20 : decode b_Fs_number 20 = .ok (.aload_n 0, 1) := by decide +kernel
theorem d_Fs_number_21 : decode b_Fs_number 21 = .ok (.getfield 11, 3) := by decide +kernel
theorem d_Fs_number_24 : decode b_Fs_number 24 = .ok (.iload_n 1, 1) := by decide +kernel
theorem d_Fs_number_25 : decode b_Fs_number 25 = .ok (.aaload, 1) := by decide +kernel
theorem d_Fs_number_26 : decode b_Fs_number 26 = .ok (.getfield 78, 3) := by decide +kernel
theorem d_Fs_number_29 : decode b_Fs_number 29 = .ok (.iload_n 2, 1) := by decide +kernel
theorem d_Fs_number_30 : decode b_Fs_number 30 = .ok (.iaload, 1) := by decide +kernel
theorem d_Fs_number_31 : decode b_Fs_number 31 = .ok (.goto 4, 3) := by decide +kernel
theorem d_Fs_number_34 : decode b_Fs_number 34 = .ok (.iconst 0, 1) := by decide +kernel
theorem d_Fs_number_35 : decode b_Fs_number 35 = .ok (.ireturn, 1) := by decide +kernel
set_option maxHeartbeats 4000000 in
set_option maxRecDepth 100000 in
theorem c_Fs_number (fs fa sa stk wd ru ck mc : Nat) (ff : Nat → Option Nat) (q o y n k : Nat) (fo fy fn fk : Nat → Int32) (L : fx_Prg) (j : Nat) (t : Nat) (sz : Nat) (hj : j < 4) (hff : ff j = some q) (hrep : fx_rep L fo fy fn fk) (hok : fx_ok L) (ht : t < L.length) : fs_I l y_Fs_number (k_Fs_number :: fs_T) { frames := 1, cells := 0, slots := 0, locals := 21 } (dC, dI) vwCl (fs_tys cI cZ cJ cF) [.ref fs, .int (nI j), .int (nI t)] [(fs, .inr (4, [.ref fa, .ref sa, .int (nI stk), .ref wd, .ref ru, .ref ck, .ref mc])), (fa, .inl (cF, 4, .inr (.inr (.inr (.inr ff))))), (q, .inr (1, [.ref o, .ref y, .ref n, .ref k, .int (nI L.length)])), (o, .inl (cI, 40, .inl fo)), (y, .inl (cI, 40, .inl fy)), (n, .inl (cI, 40, .inl fn)), (k, .inl (cI, 40, .inl fk))] sz (S := Unit) (fun r _ => r = fx_K L t) (fun _ => [(fs, .inr (4, [.ref fa, .ref sa, .int (nI stk), .ref wd, .ref ru, .ref ck, .ref mc])), (fa, .inl (cF, 4, .inr (.inr (.inr (.inr ff))))), (q, .inr (1, [.ref o, .ref y, .ref n, .ref k, .int (nI L.length)])), (o, .inl (cI, 40, .inl fo)), (y, .inl (cI, 40, .inl fy)), (n, .inl (cI, 40, .inl fn)), (k, .inl (cI, 40, .inl fk))]) 0 0 := by
  refine fs_head (by decide) (Nat.le_of_ble_eq_true rfl) ?_
  intro p e s m below meth c A ls hx hb hr hts hown hlocks hin hml hK hP hD hS hA hAe hsz hl
  have hl : lv_has ls 3 [(0, .ref fs), (1, .int (nI j)), (2, .int (nI t))] := hl
  have hown : s.vm.findClass R_Fs = some m.cls := hown
  have hlen := hok.1
  have hO := (hok.2 t ht).1
  have hY := (hok.2 t ht).2.1
  have hN := (hok.2 t ht).2.2
  refine lv_iload_n hx hb d_Fs_number_0 rfl (lv_at hl 1 rfl) ?_
  refine fs_calli (wc := []) (wr := [(fs, .inr (4, [.ref fa, .ref sa, .int (nI stk), .ref wd, .ref ru, .ref ck, .ref mc])), (fa, .inl (cF, 4, .inr (.inr (.inr (.inr ff))))), (q, .inr (1, [.ref o, .ref y, .ref n, .ref k, .int (nI L.length)])), (o, .inl (cI, 40, .inl fo)), (y, .inl (cI, 40, .inl fy)), (n, .inl (cI, 40, .inl fn)), (k, .inl (cI, 40, .inl fk))]) [] [0, 1, 2, 3, 4, 5, 6] hP hD hK hS hA rfl rfl rfl (by decide) (fun hPc hDc => va_runS (As := [.int (nI j)]) (rest := []) ⟨hx, hb, hml, hown, hts⟩ (c_Fs_isFilterT j _ (by omega)) (⟨callB_of 1 hts (fs_g kin_Fs_isFilter) rfl rfl rfl (hts _ wi_1) (hts _ wi_140) (by decide +kernel) ⟨Nat.le_of_ble_eq_true rfl, Nat.le_of_ble_eq_true rfl⟩, hts _ wi_141⟩) (fs_preS hPc hK hDc) rfl rfl hl.1 rfl (lv_room (Nat.le_of_ble_eq_true rfl)) d_Fs_number_1 ⟨Nat.le_of_ble_eq_true rfl, Nat.le_of_ble_eq_true rfl⟩) rfl (fun r1 _ H locs hp1 hP hD hS => ?_)
  have hP : va_P (dC, dI) vwCl [(fs, .inr (4, [.ref fa, .ref sa, .int (nI stk), .ref wd, .ref ru, .ref ck, .ref mc])), (fa, .inl (cF, 4, .inr (.inr (.inr (.inr ff))))), (q, .inr (1, [.ref o, .ref y, .ref n, .ref k, .int (nI L.length)])), (o, .inl (cI, 40, .inl fo)), (y, .inl (cI, 40, .inl fy)), (n, .inl (cI, 40, .inl fn)), (k, .inl (cI, 40, .inl fk))] H := hP
  have hD : va_D A [(fs, .inr (4, [.ref fa, .ref sa, .int (nI stk), .ref wd, .ref ru, .ref ck, .ref mc])), (fa, .inl (cF, 4, .inr (.inr (.inr (.inr ff))))), (q, .inr (1, [.ref o, .ref y, .ref n, .ref k, .int (nI L.length)])), (o, .inl (cI, 40, .inl fo)), (y, .inl (cI, 40, .inl fy)), (n, .inl (cI, 40, .inl fn)), (k, .inl (cI, 40, .inl fk))] := hD
  subst hp1
  refine lv_if_eq (tgt := 34) hx hb d_Fs_number_4 (by decide) (fun hc => absurd hc (by decide)) (fun _ => ?_)
  refine lv_aload_n hx hb d_Fs_number_7 rfl (lv_at hl 0 rfl) ?_
  refine va_get (D := (dC, dI)) (ci := 4) (v := .ref fa) (C := R_Fs) (T := T_Fs) (N := 7) hx hb hts uin_Fs hown hK hP 0 rfl rfl 0 (by decide) (hts _ wi_114) (fun _ h9 => h9) rfl d_Fs_number_8 ?_
  refine lv_iload_n hx hb d_Fs_number_11 rfl (lv_at hl 1 rfl) ?_
  refine fs_aald (b := q) hx hb hK hP 1 3 rfl rfl j rfl (by decide) (by omega) hff d_Fs_number_12 ?_
  refine lv_iload_n hx hb d_Fs_number_13 rfl (lv_at hl 2 rfl) ?_
  refine fs_calli (wc := [(q, .inr (1, [.ref o, .ref y, .ref n, .ref k, .int (nI L.length)]))]) (wr := [(fs, .inr (4, [.ref fa, .ref sa, .int (nI stk), .ref wd, .ref ru, .ref ck, .ref mc])), (fa, .inl (cF, 4, .inr (.inr (.inr (.inr ff))))), (o, .inl (cI, 40, .inl fo)), (y, .inl (cI, 40, .inl fy)), (n, .inl (cI, 40, .inl fn)), (k, .inl (cI, 40, .inl fk))]) [2] [0, 1, 3, 4, 5, 6] hP hD hK hS hA rfl rfl rfl (by decide) (fun hPc hDc => va_runV (C := R_Fi) (As := [.int (nI t)]) (rest := []) ⟨hx, hb, hml, hown, hts⟩ (c_Fi_has q o y n k L.length (nI t) _ (by omega)) (⟨callB_of 1 hts (fs_g kin_Fi_has) rfl rfl rfl (hts _ wi_2) (hts _ wi_166) (by decide +kernel) ⟨Nat.le_of_ble_eq_true rfl, Nat.le_of_ble_eq_true rfl⟩, hts _ wi_167, hts _ wi_168⟩) (fs_preV (q0 := 0) rfl rfl hPc hK hDc) rfl rfl hl.1 rfl (lv_room (Nat.le_of_ble_eq_true rfl)) d_Fs_number_14 ⟨Nat.le_of_ble_eq_true rfl, Nat.le_of_ble_eq_true rfl⟩) rfl (fun r14 _ H locs hp14 hP hD hS => ?_)
  have hP : va_P (dC, dI) vwCl [(fs, .inr (4, [.ref fa, .ref sa, .int (nI stk), .ref wd, .ref ru, .ref ck, .ref mc])), (fa, .inl (cF, 4, .inr (.inr (.inr (.inr ff))))), (q, .inr (1, [.ref o, .ref y, .ref n, .ref k, .int (nI L.length)])), (o, .inl (cI, 40, .inl fo)), (y, .inl (cI, 40, .inl fy)), (n, .inl (cI, 40, .inl fn)), (k, .inl (cI, 40, .inl fk))] H := hP.sub [0, 1, 6, 2, 3, 4, 5] rfl
  have hD : va_D A [(fs, .inr (4, [.ref fa, .ref sa, .int (nI stk), .ref wd, .ref ru, .ref ck, .ref mc])), (fa, .inl (cF, 4, .inr (.inr (.inr (.inr ff))))), (q, .inr (1, [.ref o, .ref y, .ref n, .ref k, .int (nI L.length)])), (o, .inl (cI, 40, .inl fo)), (y, .inl (cI, 40, .inl fy)), (n, .inl (cI, 40, .inl fn)), (k, .inl (cI, 40, .inl fk))] := hD.sub [0, 1, 6, 2, 3, 4, 5] (by decide) rfl
  rcases hp14 with ⟨_, rfl⟩ | ⟨hno, _⟩
  rotate_left
  · exact absurd rfl (hno t ht)
  refine lv_if_eq (tgt := 34) hx hb d_Fs_number_17 (by decide) (fun hc => absurd hc (by decide)) (fun _ => ?_)
  refine lv_aload_n hx hb d_Fs_number_20 rfl (lv_at hl 0 rfl) ?_
  refine va_get (D := (dC, dI)) (ci := 4) (v := .ref fa) (C := R_Fs) (T := T_Fs) (N := 7) hx hb hts uin_Fs hown hK hP 0 rfl rfl 0 (by decide) (hts _ wi_114) (fun _ h9 => h9) rfl d_Fs_number_21 ?_
  refine lv_iload_n hx hb d_Fs_number_24 rfl (lv_at hl 1 rfl) ?_
  refine fs_aald (b := q) hx hb hK hP 1 3 rfl rfl j rfl (by decide) (by omega) hff d_Fs_number_25 ?_
  refine va_get (D := (dC, dI)) (ci := 1) (v := .ref k) (C := R_Fi) (T := T_Fi) (N := 5) hx hb hts uin_Fi hown hK hP 2 rfl rfl 3 (by decide) (hts _ wi_45) (fun _ h9 => h9) rfl d_Fs_number_26 ?_
  refine lv_iload_n hx hb d_Fs_number_29 rfl (lv_at hl 2 rfl) ?_
  refine fs_iald (v := fx_K L t) hx hb hK hP 6 0 rfl rfl t rfl (by decide) (by omega) ((hrep t (by omega)).2.2.2) d_Fs_number_30 ?_
  refine lv_goto (tgt := 35) hx hb d_Fs_number_31 (by decide) ?_
  exact fs_iret hx hb hr hlocks hAe hK hS d_Fs_number_35 () (rfl) hP hD

set_option maxHeartbeats 4000000 in
set_option maxRecDepth 100000 in
theorem c_Fs_shapeY (fs fa sa stk wd ru ck mc : Nat) (ff : Nat → Option Nat) (q o y n k len : Nat) (j : Nat) (i : Int32) (sz : Nat) (hj : j < 4) (hff : ff j = some q) (hlen : len ≤ 40) (hi : ∀ t, t < len → i ≠ nI t) : fs_I l y_Fs_shape (k_Fs_shape :: fs_T) { frames := 1, cells := 0, slots := 0, locals := 21 } (dC, dI) vwCl (fs_tys cI cZ cJ cF) [.ref fs, .int (nI j), .int i] [(fs, .inr (4, [.ref fa, .ref sa, .int (nI stk), .ref wd, .ref ru, .ref ck, .ref mc])), (fa, .inl (cF, 4, .inr (.inr (.inr (.inr ff))))), (q, .inr (1, [.ref o, .ref y, .ref n, .ref k, .int (nI len)]))] sz (S := Unit) (fun r _ => r = (-1)) (fun _ => [(fs, .inr (4, [.ref fa, .ref sa, .int (nI stk), .ref wd, .ref ru, .ref ck, .ref mc])), (fa, .inl (cF, 4, .inr (.inr (.inr (.inr ff))))), (q, .inr (1, [.ref o, .ref y, .ref n, .ref k, .int (nI len)]))]) 0 0 := by
  refine fs_head (by decide) (Nat.le_of_ble_eq_true rfl) ?_
  intro p e s m below meth c A ls hx hb hr hts hown hlocks hin hml hK hP hD hS hA hAe hsz hl
  have hl : lv_has ls 4 [(0, .ref fs), (1, .int (nI j)), (2, .int i)] := hl
  have hown : s.vm.findClass R_Fs = some m.cls := hown
  refine lv_iload_n hx hb d_Fs_shape_0 rfl (lv_at hl 1 rfl) ?_
  refine fs_calli (wc := []) (wr := [(fs, .inr (4, [.ref fa, .ref sa, .int (nI stk), .ref wd, .ref ru, .ref ck, .ref mc])), (fa, .inl (cF, 4, .inr (.inr (.inr (.inr ff))))), (q, .inr (1, [.ref o, .ref y, .ref n, .ref k, .int (nI len)]))]) [] [0, 1, 2] hP hD hK hS hA rfl rfl rfl (by decide) (fun hPc hDc => va_runS (As := [.int (nI j)]) (rest := []) ⟨hx, hb, hml, hown, hts⟩ (c_Fs_isFilterT j _ (by omega)) (⟨callB_of 1 hts (fs_g kin_Fs_isFilter) rfl rfl rfl (hts _ wi_1) (hts _ wi_140) (by decide +kernel) ⟨Nat.le_of_ble_eq_true rfl, Nat.le_of_ble_eq_true rfl⟩, hts _ wi_141⟩) (fs_preS hPc hK hDc) rfl rfl hl.1 rfl (lv_room (Nat.le_of_ble_eq_true rfl)) d_Fs_shape_1 ⟨Nat.le_of_ble_eq_true rfl, Nat.le_of_ble_eq_true rfl⟩) rfl (fun r1 _ H locs hp1 hP hD hS => ?_)
  have hP : va_P (dC, dI) vwCl [(fs, .inr (4, [.ref fa, .ref sa, .int (nI stk), .ref wd, .ref ru, .ref ck, .ref mc])), (fa, .inl (cF, 4, .inr (.inr (.inr (.inr ff))))), (q, .inr (1, [.ref o, .ref y, .ref n, .ref k, .int (nI len)]))] H := hP
  have hD : va_D A [(fs, .inr (4, [.ref fa, .ref sa, .int (nI stk), .ref wd, .ref ru, .ref ck, .ref mc])), (fa, .inl (cF, 4, .inr (.inr (.inr (.inr ff))))), (q, .inr (1, [.ref o, .ref y, .ref n, .ref k, .int (nI len)]))] := hD
  subst hp1
  refine lv_if_eq (tgt := 20) hx hb d_Fs_shape_4 (by decide) (fun hc => absurd hc (by decide)) (fun _ => ?_)
  refine lv_aload_n hx hb d_Fs_shape_7 rfl (lv_at hl 0 rfl) ?_
  refine va_get (D := (dC, dI)) (ci := 4) (v := .ref fa) (C := R_Fs) (T := T_Fs) (N := 7) hx hb hts uin_Fs hown hK hP 0 rfl rfl 0 (by decide) (hts _ wi_114) (fun _ h9 => h9) rfl d_Fs_shape_8 ?_
  refine lv_iload_n hx hb d_Fs_shape_11 rfl (lv_at hl 1 rfl) ?_
  refine fs_aald (b := q) hx hb hK hP 1 3 rfl rfl j rfl (by decide) (by omega) hff d_Fs_shape_12 ?_
  refine lv_iload_n hx hb d_Fs_shape_13 rfl (lv_at hl 2 rfl) ?_
  refine fs_calli (wc := [(q, .inr (1, [.ref o, .ref y, .ref n, .ref k, .int (nI len)]))]) (wr := [(fs, .inr (4, [.ref fa, .ref sa, .int (nI stk), .ref wd, .ref ru, .ref ck, .ref mc])), (fa, .inl (cF, 4, .inr (.inr (.inr (.inr ff)))))]) [2] [0, 1] hP hD hK hS hA rfl rfl rfl (by decide) (fun hPc hDc => va_runV (C := R_Fi) (As := [.int i]) (rest := []) ⟨hx, hb, hml, hown, hts⟩ (c_Fi_has q o y n k len i _ (by omega)) (⟨callB_of 1 hts (fs_g kin_Fi_has) rfl rfl rfl (hts _ wi_2) (hts _ wi_166) (by decide +kernel) ⟨Nat.le_of_ble_eq_true rfl, Nat.le_of_ble_eq_true rfl⟩, hts _ wi_167, hts _ wi_168⟩) (fs_preV (q0 := 0) rfl rfl hPc hK hDc) rfl rfl hl.1 rfl (lv_room (Nat.le_of_ble_eq_true rfl)) d_Fs_shape_14 ⟨Nat.le_of_ble_eq_true rfl, Nat.le_of_ble_eq_true rfl⟩) rfl (fun r14 _ H locs hp14 hP hD hS => ?_)
  have hP : va_P (dC, dI) vwCl [(fs, .inr (4, [.ref fa, .ref sa, .int (nI stk), .ref wd, .ref ru, .ref ck, .ref mc])), (fa, .inl (cF, 4, .inr (.inr (.inr (.inr ff))))), (q, .inr (1, [.ref o, .ref y, .ref n, .ref k, .int (nI len)]))] H := hP
  have hD : va_D A [(fs, .inr (4, [.ref fa, .ref sa, .int (nI stk), .ref wd, .ref ru, .ref ck, .ref mc])), (fa, .inl (cF, 4, .inr (.inr (.inr (.inr ff))))), (q, .inr (1, [.ref o, .ref y, .ref n, .ref k, .int (nI len)]))] := hD
  rcases hp14 with ⟨⟨t, ht, e⟩, _⟩ | ⟨_, rfl⟩
  · exact absurd e (hi t ht)
  refine lv_if_ne (tgt := 22) hx hb d_Fs_shape_17 (by decide) (fun hc => absurd (by decide) hc) (fun _ => ?_)
  refine lv_iconst (v := (-1)) hx hb d_Fs_shape_20 (by decide) ?_
  exact fs_iret hx hb hr hlocks hAe hK hS d_Fs_shape_21 () (rfl) hP hD

set_option maxHeartbeats 4000000 in
set_option maxRecDepth 100000 in
theorem c_Fs_shapeX (fs fa sa stk wd ru ck mc : Nat) (f i : Int32) (sz : Nat) (hf : ∀ j, j < 4 → f ≠ nI j) : fs_I l y_Fs_shape (k_Fs_shape :: fs_T) { frames := 1, cells := 0, slots := 0, locals := 21 } (dC, dI) vwCl (fs_tys cI cZ cJ cF) [.ref fs, .int f, .int i] [(fs, .inr (4, [.ref fa, .ref sa, .int (nI stk), .ref wd, .ref ru, .ref ck, .ref mc]))] sz (S := Unit) (fun r _ => r = (-1)) (fun _ => [(fs, .inr (4, [.ref fa, .ref sa, .int (nI stk), .ref wd, .ref ru, .ref ck, .ref mc]))]) 0 0 := by
  refine fs_head (by decide) (Nat.le_of_ble_eq_true rfl) ?_
  intro p e s m below meth c A ls hx hb hr hts hown hlocks hin hml hK hP hD hS hA hAe hsz hl
  have hl : lv_has ls 4 [(0, .ref fs), (1, .int f), (2, .int i)] := hl
  have hown : s.vm.findClass R_Fs = some m.cls := hown
  refine lv_iload_n hx hb d_Fs_shape_0 rfl (lv_at hl 1 rfl) ?_
  refine fs_calli (wc := []) (wr := [(fs, .inr (4, [.ref fa, .ref sa, .int (nI stk), .ref wd, .ref ru, .ref ck, .ref mc]))]) [] [0] hP hD hK hS hA rfl rfl rfl (by decide) (fun hPc hDc => va_runS (As := [.int f]) (rest := []) ⟨hx, hb, hml, hown, hts⟩ (c_Fs_isFilter f _) (⟨callB_of 1 hts (fs_g kin_Fs_isFilter) rfl rfl rfl (hts _ wi_1) (hts _ wi_140) (by decide +kernel) ⟨Nat.le_of_ble_eq_true rfl, Nat.le_of_ble_eq_true rfl⟩, hts _ wi_141⟩) (fs_preS hPc hK hDc) rfl rfl hl.1 rfl (lv_room (Nat.le_of_ble_eq_true rfl)) d_Fs_shape_1 ⟨Nat.le_of_ble_eq_true rfl, Nat.le_of_ble_eq_true rfl⟩) rfl (fun r1 _ H locs hp1 hP hD hS => ?_)
  have hP : va_P (dC, dI) vwCl [(fs, .inr (4, [.ref fa, .ref sa, .int (nI stk), .ref wd, .ref ru, .ref ck, .ref mc]))] H := hP
  have hD : va_D A [(fs, .inr (4, [.ref fa, .ref sa, .int (nI stk), .ref wd, .ref ru, .ref ck, .ref mc]))] := hD
  rcases hp1 with ⟨⟨j, hj, e⟩, _⟩ | ⟨_, rfl⟩
  · exact absurd e (hf j hj)
  refine lv_if_eq (tgt := 20) hx hb d_Fs_shape_4 (by decide) (fun _ => ?_) (fun hc => absurd (by decide) hc)
  refine lv_iconst (v := (-1)) hx hb d_Fs_shape_20 (by decide) ?_
  exact fs_iret hx hb hr hlocks hAe hK hS d_Fs_shape_21 () (rfl) hP hD

set_option maxHeartbeats 4000000 in
set_option maxRecDepth 100000 in
theorem c_Fs_numberY (fs fa sa stk wd ru ck mc : Nat) (ff : Nat → Option Nat) (q o y n k len : Nat) (j : Nat) (i : Int32) (sz : Nat) (hj : j < 4) (hff : ff j = some q) (hlen : len ≤ 40) (hi : ∀ t, t < len → i ≠ nI t) : fs_I l y_Fs_number (k_Fs_number :: fs_T) { frames := 1, cells := 0, slots := 0, locals := 21 } (dC, dI) vwCl (fs_tys cI cZ cJ cF) [.ref fs, .int (nI j), .int i] [(fs, .inr (4, [.ref fa, .ref sa, .int (nI stk), .ref wd, .ref ru, .ref ck, .ref mc])), (fa, .inl (cF, 4, .inr (.inr (.inr (.inr ff))))), (q, .inr (1, [.ref o, .ref y, .ref n, .ref k, .int (nI len)]))] sz (S := Unit) (fun r _ => r = nI 0) (fun _ => [(fs, .inr (4, [.ref fa, .ref sa, .int (nI stk), .ref wd, .ref ru, .ref ck, .ref mc])), (fa, .inl (cF, 4, .inr (.inr (.inr (.inr ff))))), (q, .inr (1, [.ref o, .ref y, .ref n, .ref k, .int (nI len)]))]) 0 0 := by
  refine fs_head (by decide) (Nat.le_of_ble_eq_true rfl) ?_
  intro p e s m below meth c A ls hx hb hr hts hown hlocks hin hml hK hP hD hS hA hAe hsz hl
  have hl : lv_has ls 3 [(0, .ref fs), (1, .int (nI j)), (2, .int i)] := hl
  have hown : s.vm.findClass R_Fs = some m.cls := hown
  refine lv_iload_n hx hb d_Fs_number_0 rfl (lv_at hl 1 rfl) ?_
  refine fs_calli (wc := []) (wr := [(fs, .inr (4, [.ref fa, .ref sa, .int (nI stk), .ref wd, .ref ru, .ref ck, .ref mc])), (fa, .inl (cF, 4, .inr (.inr (.inr (.inr ff))))), (q, .inr (1, [.ref o, .ref y, .ref n, .ref k, .int (nI len)]))]) [] [0, 1, 2] hP hD hK hS hA rfl rfl rfl (by decide) (fun hPc hDc => va_runS (As := [.int (nI j)]) (rest := []) ⟨hx, hb, hml, hown, hts⟩ (c_Fs_isFilterT j _ (by omega)) (⟨callB_of 1 hts (fs_g kin_Fs_isFilter) rfl rfl rfl (hts _ wi_1) (hts _ wi_140) (by decide +kernel) ⟨Nat.le_of_ble_eq_true rfl, Nat.le_of_ble_eq_true rfl⟩, hts _ wi_141⟩) (fs_preS hPc hK hDc) rfl rfl hl.1 rfl (lv_room (Nat.le_of_ble_eq_true rfl)) d_Fs_number_1 ⟨Nat.le_of_ble_eq_true rfl, Nat.le_of_ble_eq_true rfl⟩) rfl (fun r1 _ H locs hp1 hP hD hS => ?_)
  have hP : va_P (dC, dI) vwCl [(fs, .inr (4, [.ref fa, .ref sa, .int (nI stk), .ref wd, .ref ru, .ref ck, .ref mc])), (fa, .inl (cF, 4, .inr (.inr (.inr (.inr ff))))), (q, .inr (1, [.ref o, .ref y, .ref n, .ref k, .int (nI len)]))] H := hP
  have hD : va_D A [(fs, .inr (4, [.ref fa, .ref sa, .int (nI stk), .ref wd, .ref ru, .ref ck, .ref mc])), (fa, .inl (cF, 4, .inr (.inr (.inr (.inr ff))))), (q, .inr (1, [.ref o, .ref y, .ref n, .ref k, .int (nI len)]))] := hD
  subst hp1
  refine lv_if_eq (tgt := 34) hx hb d_Fs_number_4 (by decide) (fun hc => absurd hc (by decide)) (fun _ => ?_)
  refine lv_aload_n hx hb d_Fs_number_7 rfl (lv_at hl 0 rfl) ?_
  refine va_get (D := (dC, dI)) (ci := 4) (v := .ref fa) (C := R_Fs) (T := T_Fs) (N := 7) hx hb hts uin_Fs hown hK hP 0 rfl rfl 0 (by decide) (hts _ wi_114) (fun _ h9 => h9) rfl d_Fs_number_8 ?_
  refine lv_iload_n hx hb d_Fs_number_11 rfl (lv_at hl 1 rfl) ?_
  refine fs_aald (b := q) hx hb hK hP 1 3 rfl rfl j rfl (by decide) (by omega) hff d_Fs_number_12 ?_
  refine lv_iload_n hx hb d_Fs_number_13 rfl (lv_at hl 2 rfl) ?_
  refine fs_calli (wc := [(q, .inr (1, [.ref o, .ref y, .ref n, .ref k, .int (nI len)]))]) (wr := [(fs, .inr (4, [.ref fa, .ref sa, .int (nI stk), .ref wd, .ref ru, .ref ck, .ref mc])), (fa, .inl (cF, 4, .inr (.inr (.inr (.inr ff)))))]) [2] [0, 1] hP hD hK hS hA rfl rfl rfl (by decide) (fun hPc hDc => va_runV (C := R_Fi) (As := [.int i]) (rest := []) ⟨hx, hb, hml, hown, hts⟩ (c_Fi_has q o y n k len i _ (by omega)) (⟨callB_of 1 hts (fs_g kin_Fi_has) rfl rfl rfl (hts _ wi_2) (hts _ wi_166) (by decide +kernel) ⟨Nat.le_of_ble_eq_true rfl, Nat.le_of_ble_eq_true rfl⟩, hts _ wi_167, hts _ wi_168⟩) (fs_preV (q0 := 0) rfl rfl hPc hK hDc) rfl rfl hl.1 rfl (lv_room (Nat.le_of_ble_eq_true rfl)) d_Fs_number_14 ⟨Nat.le_of_ble_eq_true rfl, Nat.le_of_ble_eq_true rfl⟩) rfl (fun r14 _ H locs hp14 hP hD hS => ?_)
  have hP : va_P (dC, dI) vwCl [(fs, .inr (4, [.ref fa, .ref sa, .int (nI stk), .ref wd, .ref ru, .ref ck, .ref mc])), (fa, .inl (cF, 4, .inr (.inr (.inr (.inr ff))))), (q, .inr (1, [.ref o, .ref y, .ref n, .ref k, .int (nI len)]))] H := hP
  have hD : va_D A [(fs, .inr (4, [.ref fa, .ref sa, .int (nI stk), .ref wd, .ref ru, .ref ck, .ref mc])), (fa, .inl (cF, 4, .inr (.inr (.inr (.inr ff))))), (q, .inr (1, [.ref o, .ref y, .ref n, .ref k, .int (nI len)]))] := hD
  rcases hp14 with ⟨⟨t, ht, e⟩, _⟩ | ⟨_, rfl⟩
  · exact absurd e (hi t ht)
  refine lv_if_eq (tgt := 34) hx hb d_Fs_number_17 (by decide) (fun _ => ?_) (fun hc => absurd (by decide) hc)
  refine lv_iconst (v := nI 0) hx hb d_Fs_number_34 (by decide) ?_
  exact fs_iret hx hb hr hlocks hAe hK hS d_Fs_number_35 () (rfl) hP hD

set_option maxHeartbeats 4000000 in
set_option maxRecDepth 100000 in
theorem c_Fs_numberX (fs fa sa stk wd ru ck mc : Nat) (f i : Int32) (sz : Nat) (hf : ∀ j, j < 4 → f ≠ nI j) : fs_I l y_Fs_number (k_Fs_number :: fs_T) { frames := 1, cells := 0, slots := 0, locals := 21 } (dC, dI) vwCl (fs_tys cI cZ cJ cF) [.ref fs, .int f, .int i] [(fs, .inr (4, [.ref fa, .ref sa, .int (nI stk), .ref wd, .ref ru, .ref ck, .ref mc]))] sz (S := Unit) (fun r _ => r = nI 0) (fun _ => [(fs, .inr (4, [.ref fa, .ref sa, .int (nI stk), .ref wd, .ref ru, .ref ck, .ref mc]))]) 0 0 := by
  refine fs_head (by decide) (Nat.le_of_ble_eq_true rfl) ?_
  intro p e s m below meth c A ls hx hb hr hts hown hlocks hin hml hK hP hD hS hA hAe hsz hl
  have hl : lv_has ls 3 [(0, .ref fs), (1, .int f), (2, .int i)] := hl
  have hown : s.vm.findClass R_Fs = some m.cls := hown
  refine lv_iload_n hx hb d_Fs_number_0 rfl (lv_at hl 1 rfl) ?_
  refine fs_calli (wc := []) (wr := [(fs, .inr (4, [.ref fa, .ref sa, .int (nI stk), .ref wd, .ref ru, .ref ck, .ref mc]))]) [] [0] hP hD hK hS hA rfl rfl rfl (by decide) (fun hPc hDc => va_runS (As := [.int f]) (rest := []) ⟨hx, hb, hml, hown, hts⟩ (c_Fs_isFilter f _) (⟨callB_of 1 hts (fs_g kin_Fs_isFilter) rfl rfl rfl (hts _ wi_1) (hts _ wi_140) (by decide +kernel) ⟨Nat.le_of_ble_eq_true rfl, Nat.le_of_ble_eq_true rfl⟩, hts _ wi_141⟩) (fs_preS hPc hK hDc) rfl rfl hl.1 rfl (lv_room (Nat.le_of_ble_eq_true rfl)) d_Fs_number_1 ⟨Nat.le_of_ble_eq_true rfl, Nat.le_of_ble_eq_true rfl⟩) rfl (fun r1 _ H locs hp1 hP hD hS => ?_)
  have hP : va_P (dC, dI) vwCl [(fs, .inr (4, [.ref fa, .ref sa, .int (nI stk), .ref wd, .ref ru, .ref ck, .ref mc]))] H := hP
  have hD : va_D A [(fs, .inr (4, [.ref fa, .ref sa, .int (nI stk), .ref wd, .ref ru, .ref ck, .ref mc]))] := hD
  rcases hp1 with ⟨⟨j, hj, e⟩, _⟩ | ⟨_, rfl⟩
  · exact absurd e (hf j hj)
  refine lv_if_eq (tgt := 34) hx hb d_Fs_number_4 (by decide) (fun _ => ?_) (fun hc => absurd (by decide) hc)
  refine lv_iconst (v := nI 0) hx hb d_Fs_number_34 (by decide) ?_
  exact fs_iret hx hb hr hlocks hAe hK hS d_Fs_number_35 () (rfl) hP hD

set_option maxHeartbeats 4000000 in
set_option maxRecDepth 100000 in
theorem c_Fs_fault (fs fa sa stk wd ru ck mc : Nat) (ff : Nat → Option Nat) (st : Nat) (g : Nat → Int32) (q o y n k : Nat) (fo fy fn fk : Nat → Int32) (L : fx_Prg) (j : Nat) (sz : Nat) (hj : j < 4) (hff : ff j = some q) (hrep : fx_rep L fo fy fn fk) (hok : fx_ok L) : fs_I l y_Fs_fault (k_Fs_fault :: fs_T) { frames := 5, cells := 0, slots := 0, locals := 115 } (dC, dI) vwCl (fs_tys cI cZ cJ cF) [.ref fs, .int (nI j)] [(fs, .inr (4, [.ref fa, .ref sa, .int (nI stk), .ref wd, .ref ru, .ref ck, .ref mc])), (fa, .inl (cF, 4, .inr (.inr (.inr (.inr ff))))), (ck, .inr (0, [.ref st])), (st, .inl (cI, 40, .inl g)), (q, .inr (1, [.ref o, .ref y, .ref n, .ref k, .int (nI L.length)])), (o, .inl (cI, 40, .inl fo)), (y, .inl (cI, 40, .inl fy)), (n, .inl (cI, 40, .inl fn)), (k, .inl (cI, 40, .inl fk))] sz (S := Nat → Int32) (fun r _ => r = nI (fx_chk L % 8)) (fun u => [(fs, .inr (4, [.ref fa, .ref sa, .int (nI stk), .ref wd, .ref ru, .ref ck, .ref mc])), (fa, .inl (cF, 4, .inr (.inr (.inr (.inr ff))))), (ck, .inr (0, [.ref st])), (st, .inl (cI, 40, .inl u)), (q, .inr (1, [.ref o, .ref y, .ref n, .ref k, .int (nI L.length)])), (o, .inl (cI, 40, .inl fo)), (y, .inl (cI, 40, .inl fy)), (n, .inl (cI, 40, .inl fn)), (k, .inl (cI, 40, .inl fk))]) 0 0 := by
  refine fs_head (by decide) (Nat.le_of_ble_eq_true rfl) ?_
  intro p e s m below meth c A ls hx hb hr hts hown hlocks hin hml hK hP hD hS hA hAe hsz hl
  have hl : lv_has ls 2 [(0, .ref fs), (1, .int (nI j))] := hl
  have hown : s.vm.findClass R_Fs = some m.cls := hown
  refine lv_iload_n hx hb d_Fs_fault_0 rfl (lv_at hl 1 rfl) ?_
  refine fs_calli (wc := []) (wr := [(fs, .inr (4, [.ref fa, .ref sa, .int (nI stk), .ref wd, .ref ru, .ref ck, .ref mc])), (fa, .inl (cF, 4, .inr (.inr (.inr (.inr ff))))), (ck, .inr (0, [.ref st])), (st, .inl (cI, 40, .inl g)), (q, .inr (1, [.ref o, .ref y, .ref n, .ref k, .int (nI L.length)])), (o, .inl (cI, 40, .inl fo)), (y, .inl (cI, 40, .inl fy)), (n, .inl (cI, 40, .inl fn)), (k, .inl (cI, 40, .inl fk))]) [] [0, 1, 2, 3, 4, 5, 6, 7, 8] hP hD hK hS hA rfl rfl rfl (by decide) (fun hPc hDc => va_runS (As := [.int (nI j)]) (rest := []) ⟨hx, hb, hml, hown, hts⟩ (c_Fs_isFilterT j _ (by omega)) (⟨callB_of 1 hts (fs_g kin_Fs_isFilter) rfl rfl rfl (hts _ wi_1) (hts _ wi_140) (by decide +kernel) ⟨Nat.le_of_ble_eq_true rfl, Nat.le_of_ble_eq_true rfl⟩, hts _ wi_141⟩) (fs_preS hPc hK hDc) rfl rfl hl.1 rfl (lv_room (Nat.le_of_ble_eq_true rfl)) d_Fs_fault_1 ⟨Nat.le_of_ble_eq_true rfl, Nat.le_of_ble_eq_true rfl⟩) rfl (fun r1 _ H locs hp1 hP hD hS => ?_)
  have hP : va_P (dC, dI) vwCl [(fs, .inr (4, [.ref fa, .ref sa, .int (nI stk), .ref wd, .ref ru, .ref ck, .ref mc])), (fa, .inl (cF, 4, .inr (.inr (.inr (.inr ff))))), (ck, .inr (0, [.ref st])), (st, .inl (cI, 40, .inl g)), (q, .inr (1, [.ref o, .ref y, .ref n, .ref k, .int (nI L.length)])), (o, .inl (cI, 40, .inl fo)), (y, .inl (cI, 40, .inl fy)), (n, .inl (cI, 40, .inl fn)), (k, .inl (cI, 40, .inl fk))] H := hP
  have hD : va_D A [(fs, .inr (4, [.ref fa, .ref sa, .int (nI stk), .ref wd, .ref ru, .ref ck, .ref mc])), (fa, .inl (cF, 4, .inr (.inr (.inr (.inr ff))))), (ck, .inr (0, [.ref st])), (st, .inl (cI, 40, .inl g)), (q, .inr (1, [.ref o, .ref y, .ref n, .ref k, .int (nI L.length)])), (o, .inl (cI, 40, .inl fo)), (y, .inl (cI, 40, .inl fy)), (n, .inl (cI, 40, .inl fn)), (k, .inl (cI, 40, .inl fk))] := hD
  subst hp1
  refine lv_if_eq (tgt := 23) hx hb d_Fs_fault_4 (by decide) (fun hc => absurd hc (by decide)) (fun _ => ?_)
  refine lv_aload_n hx hb d_Fs_fault_7 rfl (lv_at hl 0 rfl) ?_
  refine va_get (D := (dC, dI)) (ci := 4) (v := .ref ck) (C := R_Fs) (T := T_Fs) (N := 7) hx hb hts uin_Fs hown hK hP 0 rfl rfl 5 (by decide) (hts _ wi_119) (fun _ h9 => h9) rfl d_Fs_fault_8 ?_
  refine lv_aload_n hx hb d_Fs_fault_11 rfl (lv_at hl 0 rfl) ?_
  refine va_get (D := (dC, dI)) (ci := 4) (v := .ref fa) (C := R_Fs) (T := T_Fs) (N := 7) hx hb hts uin_Fs hown hK hP 0 rfl rfl 0 (by decide) (hts _ wi_114) (fun _ h9 => h9) rfl d_Fs_fault_12 ?_
  refine lv_iload_n hx hb d_Fs_fault_15 rfl (lv_at hl 1 rfl) ?_
  refine fs_aald (b := q) hx hb hK hP 1 3 rfl rfl j rfl (by decide) (by omega) hff d_Fs_fault_16 ?_
  refine fs_calli (wc := [(ck, .inr (0, [.ref st])), (st, .inl (cI, 40, .inl g)), (q, .inr (1, [.ref o, .ref y, .ref n, .ref k, .int (nI L.length)])), (o, .inl (cI, 40, .inl fo)), (y, .inl (cI, 40, .inl fy)), (n, .inl (cI, 40, .inl fn)), (k, .inl (cI, 40, .inl fk))]) (wr := [(fs, .inr (4, [.ref fa, .ref sa, .int (nI stk), .ref wd, .ref ru, .ref ck, .ref mc])), (fa, .inl (cF, 4, .inr (.inr (.inr (.inr ff)))))]) [2, 3, 4, 5, 6, 7, 8] [0, 1] hP hD hK hS hA rfl rfl rfl (by decide) (fun hPc hDc => va_runV (C := R_Ck) (As := [.ref q]) (rest := []) ⟨hx, hb, hml, hown, hts⟩ (c_Ck_faultOf ck st g q o y n k fo fy fn fk L _ hrep hok) (⟨callB_of 1 hts (fs_g kin_Ck_faultOf) rfl rfl rfl (hts _ wi_4) (hts _ wi_178) (by decide +kernel) ⟨Nat.le_of_ble_eq_true rfl, Nat.le_of_ble_eq_true rfl⟩, hts _ wi_179, hts _ wi_180⟩) (fs_preV (q0 := 0) rfl rfl hPc hK hDc) rfl rfl hl.1 rfl (lv_room (Nat.le_of_ble_eq_true rfl)) d_Fs_fault_17 ⟨Nat.le_of_ble_eq_true rfl, Nat.le_of_ble_eq_true rfl⟩) rfl (fun r17 u17 H locs hp17 hP hD hS => ?_)
  have hP : va_P (dC, dI) vwCl [(fs, .inr (4, [.ref fa, .ref sa, .int (nI stk), .ref wd, .ref ru, .ref ck, .ref mc])), (fa, .inl (cF, 4, .inr (.inr (.inr (.inr ff))))), (ck, .inr (0, [.ref st])), (st, .inl (cI, 40, .inl u17)), (q, .inr (1, [.ref o, .ref y, .ref n, .ref k, .int (nI L.length)])), (o, .inl (cI, 40, .inl fo)), (y, .inl (cI, 40, .inl fy)), (n, .inl (cI, 40, .inl fn)), (k, .inl (cI, 40, .inl fk))] H := hP
  have hD : va_D A [(fs, .inr (4, [.ref fa, .ref sa, .int (nI stk), .ref wd, .ref ru, .ref ck, .ref mc])), (fa, .inl (cF, 4, .inr (.inr (.inr (.inr ff))))), (ck, .inr (0, [.ref st])), (st, .inl (cI, 40, .inl u17)), (q, .inr (1, [.ref o, .ref y, .ref n, .ref k, .int (nI L.length)])), (o, .inl (cI, 40, .inl fo)), (y, .inl (cI, 40, .inl fy)), (n, .inl (cI, 40, .inl fn)), (k, .inl (cI, 40, .inl fk))] := hD
  subst hp17
  refine lv_goto (tgt := 24) hx hb d_Fs_fault_20 (by decide) ?_
  exact fs_iret hx hb hr hlocks hAe hK hS d_Fs_fault_24 u17 (rfl) hP hD

/-- where the filter is at fault, as an int -/
noncomputable def fx_plc (L : fx_Prg) : Int32 := if fx_chk L = 0 then (-1) else nI (fx_chk L / 8)
theorem fx_good_of7 {L : fx_Prg} (h : fx_chk L % 8 = 7) : fx_good L := by
  rcases fx_chk_cases L with ⟨h0, -⟩ | ⟨r, i, h1, h7, hs, hn, hc⟩
  · omega
  · exact fun t h2 h6 => fx_at_no h2 h6 (hn t (by omega) (by omega))
theorem fx_good_of0 {L : fx_Prg} (h : fx_chk L = 0) : fx_good L := by
  rcases fx_chk_cases L with ⟨h0, hn⟩ | ⟨r, i, h1, h7, hs, hn, hc⟩
  · exact fun t h2 h6 => fx_at_no h2 h6 (hn t (by omega) (by omega))
  · omega
theorem fx_pos_of0 {L : fx_Prg} (h : fx_chk L = 0) : 0 < L.length := by
  rcases fx_chk_cases L with ⟨h0, hn⟩ | ⟨r, i, h1, h7, hs, hn, hc⟩
  · have h1 := hn 1 (by decide) (by decide)
    unfold fx_at at h1
    rw [if_pos rfl] at h1
    by_cases e : L.length = 0
    · rw [if_pos e] at h1; cases h1
    · omega
  · omega
theorem fx_at0 (L : fx_Prg) : fx_at L 0 = none := by
  unfold fx_at
  rw [if_neg (by decide), if_neg (by decide)]
  exact fx_fst_none (fun j hj => fx_br_f.mpr (by simp [fx_brP]))
theorem fx_plc_of {L : fx_Prg} {z : Int32} (h : (fx_at L (fx_chk L % 8) = none ∧ z = (-1)) ∨ ∃ i, fx_at L (fx_chk L % 8) = some i ∧ z = nI i) : z = fx_plc L := by
  unfold fx_plc
  rcases fx_chk_cases L with ⟨h0, -⟩ | ⟨r, i, h1, h7, hs, hn, hc⟩
  · rw [if_pos h0]
    rw [h0, fx_at0] at h
    rcases h with ⟨-, h⟩ | ⟨i, h, -⟩
    · exact h
    · cases h
  · rw [if_neg (by omega)]
    rw [show fx_chk L % 8 = r from by omega, hs] at h
    rcases h with ⟨h, -⟩ | ⟨k, h, h2⟩
    · cases h
    · cases h
      rw [h2, show fx_chk L / 8 = i from by omega]
set_option maxHeartbeats 4000000 in
set_option maxRecDepth 100000 in
theorem c_Fs_place (fs fa sa stk wd ru ck mc : Nat) (ff : Nat → Option Nat) (st : Nat) (g : Nat → Int32) (q o y n k : Nat) (fo fy fn fk : Nat → Int32) (L : fx_Prg) (j : Nat) (sz : Nat) (hj : j < 4) (hff : ff j = some q) (hrep : fx_rep L fo fy fn fk) (hok : fx_ok L) : fs_I l y_Fs_place (k_Fs_place :: fs_T) { frames := 5, cells := 0, slots := 0, locals := 115 } (dC, dI) vwCl (fs_tys cI cZ cJ cF) [.ref fs, .int (nI j)] [(fs, .inr (4, [.ref fa, .ref sa, .int (nI stk), .ref wd, .ref ru, .ref ck, .ref mc])), (fa, .inl (cF, 4, .inr (.inr (.inr (.inr ff))))), (ck, .inr (0, [.ref st])), (st, .inl (cI, 40, .inl g)), (q, .inr (1, [.ref o, .ref y, .ref n, .ref k, .int (nI L.length)])), (o, .inl (cI, 40, .inl fo)), (y, .inl (cI, 40, .inl fy)), (n, .inl (cI, 40, .inl fn)), (k, .inl (cI, 40, .inl fk))] sz (S := Nat → Int32) (fun r _ => r = fx_plc L) (fun u => [(fs, .inr (4, [.ref fa, .ref sa, .int (nI stk), .ref wd, .ref ru, .ref ck, .ref mc])), (fa, .inl (cF, 4, .inr (.inr (.inr (.inr ff))))), (ck, .inr (0, [.ref st])), (st, .inl (cI, 40, .inl u)), (q, .inr (1, [.ref o, .ref y, .ref n, .ref k, .int (nI L.length)])), (o, .inl (cI, 40, .inl fo)), (y, .inl (cI, 40, .inl fy)), (n, .inl (cI, 40, .inl fn)), (k, .inl (cI, 40, .inl fk))]) 0 0 := by
  refine fs_head (by decide) (Nat.le_of_ble_eq_true rfl) ?_
  intro p e s m below meth c A ls hx hb hr hts hown hlocks hin hml hK hP hD hS hA hAe hsz hl
  have hl : lv_has ls 2 [(0, .ref fs), (1, .int (nI j))] := hl
  have hown : s.vm.findClass R_Fs = some m.cls := hown
  refine lv_iload_n hx hb d_Fs_place_0 rfl (lv_at hl 1 rfl) ?_
  refine fs_calli (wc := []) (wr := [(fs, .inr (4, [.ref fa, .ref sa, .int (nI stk), .ref wd, .ref ru, .ref ck, .ref mc])), (fa, .inl (cF, 4, .inr (.inr (.inr (.inr ff))))), (ck, .inr (0, [.ref st])), (st, .inl (cI, 40, .inl g)), (q, .inr (1, [.ref o, .ref y, .ref n, .ref k, .int (nI L.length)])), (o, .inl (cI, 40, .inl fo)), (y, .inl (cI, 40, .inl fy)), (n, .inl (cI, 40, .inl fn)), (k, .inl (cI, 40, .inl fk))]) [] [0, 1, 2, 3, 4, 5, 6, 7, 8] hP hD hK hS hA rfl rfl rfl (by decide) (fun hPc hDc => va_runS (As := [.int (nI j)]) (rest := []) ⟨hx, hb, hml, hown, hts⟩ (c_Fs_isFilterT j _ (by omega)) (⟨callB_of 1 hts (fs_g kin_Fs_isFilter) rfl rfl rfl (hts _ wi_1) (hts _ wi_140) (by decide +kernel) ⟨Nat.le_of_ble_eq_true rfl, Nat.le_of_ble_eq_true rfl⟩, hts _ wi_141⟩) (fs_preS hPc hK hDc) rfl rfl hl.1 rfl (lv_room (Nat.le_of_ble_eq_true rfl)) d_Fs_place_1 ⟨Nat.le_of_ble_eq_true rfl, Nat.le_of_ble_eq_true rfl⟩) rfl (fun r1 _ H locs hp1 hP hD hS => ?_)
  have hP : va_P (dC, dI) vwCl [(fs, .inr (4, [.ref fa, .ref sa, .int (nI stk), .ref wd, .ref ru, .ref ck, .ref mc])), (fa, .inl (cF, 4, .inr (.inr (.inr (.inr ff))))), (ck, .inr (0, [.ref st])), (st, .inl (cI, 40, .inl g)), (q, .inr (1, [.ref o, .ref y, .ref n, .ref k, .int (nI L.length)])), (o, .inl (cI, 40, .inl fo)), (y, .inl (cI, 40, .inl fy)), (n, .inl (cI, 40, .inl fn)), (k, .inl (cI, 40, .inl fk))] H := hP
  have hD : va_D A [(fs, .inr (4, [.ref fa, .ref sa, .int (nI stk), .ref wd, .ref ru, .ref ck, .ref mc])), (fa, .inl (cF, 4, .inr (.inr (.inr (.inr ff))))), (ck, .inr (0, [.ref st])), (st, .inl (cI, 40, .inl g)), (q, .inr (1, [.ref o, .ref y, .ref n, .ref k, .int (nI L.length)])), (o, .inl (cI, 40, .inl fo)), (y, .inl (cI, 40, .inl fy)), (n, .inl (cI, 40, .inl fn)), (k, .inl (cI, 40, .inl fk))] := hD
  subst hp1
  refine lv_if_ne (tgt := 9) hx hb d_Fs_place_4 (by decide) (fun _ => ?_) (fun hc => absurd hc (by decide))
  refine lv_aload_n hx hb d_Fs_place_9 rfl (lv_at hl 0 rfl) ?_
  refine va_get (D := (dC, dI)) (ci := 4) (v := .ref ck) (C := R_Fs) (T := T_Fs) (N := 7) hx hb hts uin_Fs hown hK hP 0 rfl rfl 5 (by decide) (hts _ wi_119) (fun _ h9 => h9) rfl d_Fs_place_10 ?_
  refine lv_aload_n hx hb d_Fs_place_13 rfl (lv_at hl 0 rfl) ?_
  refine va_get (D := (dC, dI)) (ci := 4) (v := .ref fa) (C := R_Fs) (T := T_Fs) (N := 7) hx hb hts uin_Fs hown hK hP 0 rfl rfl 0 (by decide) (hts _ wi_114) (fun _ h9 => h9) rfl d_Fs_place_14 ?_
  refine lv_iload_n hx hb d_Fs_place_17 rfl (lv_at hl 1 rfl) ?_
  refine fs_aald (b := q) hx hb hK hP 1 3 rfl rfl j rfl (by decide) (by omega) hff d_Fs_place_18 ?_
  refine lv_aload_n hx hb d_Fs_place_19 rfl (lv_at hl 0 rfl) ?_
  refine va_get (D := (dC, dI)) (ci := 4) (v := .ref ck) (C := R_Fs) (T := T_Fs) (N := 7) hx hb hts uin_Fs hown hK hP 0 rfl rfl 5 (by decide) (hts _ wi_119) (fun _ h9 => h9) rfl d_Fs_place_20 ?_
  refine lv_aload_n hx hb d_Fs_place_23 rfl (lv_at hl 0 rfl) ?_
  refine va_get (D := (dC, dI)) (ci := 4) (v := .ref fa) (C := R_Fs) (T := T_Fs) (N := 7) hx hb hts uin_Fs hown hK hP 0 rfl rfl 0 (by decide) (hts _ wi_114) (fun _ h9 => h9) rfl d_Fs_place_24 ?_
  refine lv_iload_n hx hb d_Fs_place_27 rfl (lv_at hl 1 rfl) ?_
  refine fs_aald (b := q) hx hb hK hP 1 3 rfl rfl j rfl (by decide) (by omega) hff d_Fs_place_28 ?_
  refine fs_calli (wc := [(ck, .inr (0, [.ref st])), (st, .inl (cI, 40, .inl g)), (q, .inr (1, [.ref o, .ref y, .ref n, .ref k, .int (nI L.length)])), (o, .inl (cI, 40, .inl fo)), (y, .inl (cI, 40, .inl fy)), (n, .inl (cI, 40, .inl fn)), (k, .inl (cI, 40, .inl fk))]) (wr := [(fs, .inr (4, [.ref fa, .ref sa, .int (nI stk), .ref wd, .ref ru, .ref ck, .ref mc])), (fa, .inl (cF, 4, .inr (.inr (.inr (.inr ff)))))]) [2, 3, 4, 5, 6, 7, 8] [0, 1] hP hD hK hS hA rfl rfl rfl (by decide) (fun hPc hDc => va_runV (C := R_Ck) (As := [.ref q]) (rest := [.ref q, .ref ck]) ⟨hx, hb, hml, hown, hts⟩ (c_Ck_faultOf ck st g q o y n k fo fy fn fk L _ hrep hok) (⟨callB_of 1 hts (fs_g kin_Ck_faultOf) rfl rfl rfl (hts _ wi_4) (hts _ wi_178) (by decide +kernel) ⟨Nat.le_of_ble_eq_true rfl, Nat.le_of_ble_eq_true rfl⟩, hts _ wi_179, hts _ wi_180⟩) (fs_preV (q0 := 0) rfl rfl hPc hK hDc) rfl rfl hl.1 rfl (lv_room (Nat.le_of_ble_eq_true rfl)) d_Fs_place_29 ⟨Nat.le_of_ble_eq_true rfl, Nat.le_of_ble_eq_true rfl⟩) rfl (fun r29 u29 H locs hp29 hP hD hS => ?_)
  have hP : va_P (dC, dI) vwCl [(fs, .inr (4, [.ref fa, .ref sa, .int (nI stk), .ref wd, .ref ru, .ref ck, .ref mc])), (fa, .inl (cF, 4, .inr (.inr (.inr (.inr ff))))), (ck, .inr (0, [.ref st])), (st, .inl (cI, 40, .inl u29)), (q, .inr (1, [.ref o, .ref y, .ref n, .ref k, .int (nI L.length)])), (o, .inl (cI, 40, .inl fo)), (y, .inl (cI, 40, .inl fy)), (n, .inl (cI, 40, .inl fn)), (k, .inl (cI, 40, .inl fk))] H := hP
  have hD : va_D A [(fs, .inr (4, [.ref fa, .ref sa, .int (nI stk), .ref wd, .ref ru, .ref ck, .ref mc])), (fa, .inl (cF, 4, .inr (.inr (.inr (.inr ff))))), (ck, .inr (0, [.ref st])), (st, .inl (cI, 40, .inl u29)), (q, .inr (1, [.ref o, .ref y, .ref n, .ref k, .int (nI L.length)])), (o, .inl (cI, 40, .inl fo)), (y, .inl (cI, 40, .inl fy)), (n, .inl (cI, 40, .inl fn)), (k, .inl (cI, 40, .inl fk))] := hD
  subst hp29
  refine fs_calli (wc := [(ck, .inr (0, [.ref st])), (st, .inl (cI, 40, .inl u29)), (q, .inr (1, [.ref o, .ref y, .ref n, .ref k, .int (nI L.length)])), (o, .inl (cI, 40, .inl fo)), (y, .inl (cI, 40, .inl fy)), (n, .inl (cI, 40, .inl fn)), (k, .inl (cI, 40, .inl fk))]) (wr := [(fs, .inr (4, [.ref fa, .ref sa, .int (nI stk), .ref wd, .ref ru, .ref ck, .ref mc])), (fa, .inl (cF, 4, .inr (.inr (.inr (.inr ff)))))]) [2, 3, 4, 5, 6, 7, 8] [0, 1] hP hD hK hS hA rfl rfl rfl (by decide) (fun hPc hDc => va_runV (C := R_Ck) (As := [.ref q, .int (nI (fx_chk L % 8))]) (rest := []) ⟨hx, hb, hml, hown, hts⟩ (c_Ck_firstBreach ck st u29 q o y n k fo fy fn fk L (fx_chk L % 8) _ hrep hok (by omega) (fun h => fx_good_of7 h)) (⟨callB_of 2 hts (fs_g kin_Ck_firstBreach) rfl rfl rfl (hts _ wi_4) (hts _ wi_221) (by decide +kernel) ⟨Nat.le_of_ble_eq_true rfl, Nat.le_of_ble_eq_true rfl⟩, hts _ wi_183, hts _ wi_184⟩) (fs_preV (q0 := 0) rfl rfl hPc hK hDc) rfl rfl hl.1 rfl (lv_room (Nat.le_of_ble_eq_true rfl)) d_Fs_place_32 ⟨Nat.le_of_ble_eq_true rfl, Nat.le_of_ble_eq_true rfl⟩) rfl (fun r32 u H locs hp32 hP hD hS => ?_)
  have hP : va_P (dC, dI) vwCl [(fs, .inr (4, [.ref fa, .ref sa, .int (nI stk), .ref wd, .ref ru, .ref ck, .ref mc])), (fa, .inl (cF, 4, .inr (.inr (.inr (.inr ff))))), (ck, .inr (0, [.ref st])), (st, .inl (cI, 40, .inl u)), (q, .inr (1, [.ref o, .ref y, .ref n, .ref k, .int (nI L.length)])), (o, .inl (cI, 40, .inl fo)), (y, .inl (cI, 40, .inl fy)), (n, .inl (cI, 40, .inl fn)), (k, .inl (cI, 40, .inl fk))] H := hP
  have hD : va_D A [(fs, .inr (4, [.ref fa, .ref sa, .int (nI stk), .ref wd, .ref ru, .ref ck, .ref mc])), (fa, .inl (cF, 4, .inr (.inr (.inr (.inr ff))))), (ck, .inr (0, [.ref st])), (st, .inl (cI, 40, .inl u)), (q, .inr (1, [.ref o, .ref y, .ref n, .ref k, .int (nI L.length)])), (o, .inl (cI, 40, .inl fo)), (y, .inl (cI, 40, .inl fy)), (n, .inl (cI, 40, .inl fn)), (k, .inl (cI, 40, .inl fk))] := hD
  exact fs_iret hx hb hr hlocks hAe hK hS d_Fs_place_35 u (fx_plc_of hp32) hP hD

theorem d_Fs_set_0 : decode b_Fs_set 0 = .ok (.iload_n 1, 1) := by decide +kernel
theorem d_Fs_set_1 : decode b_Fs_set 1 = .ok (.ifCond .lt 9, 3) := by decide +kernel
theorem d_Fs_set_4 : decode b_Fs_set 4 = .ok (.iload_n 1, 1) := by decide +kernel
theorem d_Fs_set_5 : decode b_Fs_set 5 = .ok (.bipush 16, 2) := by decide +kernel
theorem d_Fs_set_7 : decode b_Fs_set 7 = .ok (.if_icmp .lt 5, 3) := by decide +kernel
theorem d_Fs_set_10 : decode b_Fs_set 10 = .ok (.iconst 0, 1) := by decide +kernel
theorem d_Fs_set_11 : decode b_Fs_set 11 = .ok (.ireturn, 1) := by decide +kernel
theorem d_Fs_set_12 : decode b_Fs_set 12 = .ok (.aload_n 0, 1) := by decide +kernel
theorem d_Fs_set_13 : decode b_Fs_set 13 = .ok (.getfield 23, 3) := by decide +kernel
theorem d_Fs_set_16 : decode b_Fs_set 16 = .ok (.iload_n 1, 1) := by decide +kernel
theorem d_Fs_set_17 : decode b_Fs_set 17 = .ok (.iaload, 1) := by decide +kernel
theorem d_Fs_set_18 : decode b_Fs_set 18 = .ok (.istore_n 3, 1) := by decide +kernel
theorem d_Fs_set_19 : decode b_Fs_set 19 = .ok (.aload_n 0, 1) := by decide +kernel
theorem d_Fs_set_20 : decode b_Fs_set 20 = .ok (.getfield 23, 3) := by decide +kernel
theorem d_Fs_set_23 : decode b_Fs_set 23 = .ok (.iload_n 1, 1) := by decide +kernel
theorem d_Fs_set_24 : decode b_Fs_set 24 = .ok (.iload_n 2, 1) := by decide +kernel
theorem d_Fs_set_25 : decode b_Fs_set 25 = .ok (.iastore, 1) := by decide +kernel
theorem d_Fs_set_26 : decode b_Fs_set 26 = .ok (.iload_n 3, 1) := by decide +kernel
theorem d_Fs_set_27 : decode b_Fs_set 27 = .ok (.ireturn, 1) := by decide +kernel
set_option maxHeartbeats 4000000 in
set_option maxRecDepth 100000 in
theorem c_Fs_set (fs fa sa stk wd ru ck mc : Nat) (w : Nat → Int32) (i : Nat) (v : Int32) (sz : Nat) (hi : i < 16) : fs_I l y_Fs_set (k_Fs_set :: fs_T) { frames := 0, cells := 0, slots := 0, locals := 0 } (dC, dI) vwCl (fs_tys cI cZ cJ cF) [.ref fs, .int (nI i), .int v] [(fs, .inr (4, [.ref fa, .ref sa, .int (nI stk), .ref wd, .ref ru, .ref ck, .ref mc])), (wd, .inl (cI, 16, .inl w))] sz (S := Unit) (fun r _ => r = w i) (fun _ => [(fs, .inr (4, [.ref fa, .ref sa, .int (nI stk), .ref wd, .ref ru, .ref ck, .ref mc])), (wd, .inl (cI, 16, .inl (upd w i v)))]) 0 0 := by
  refine fs_head (by decide) (Nat.le_of_ble_eq_true rfl) ?_
  intro p e s m below meth c A ls hx hb hr hts hown hlocks hin hml hK hP hD hS hA hAe hsz hl
  have hl : lv_has ls 4 [(0, .ref fs), (1, .int (nI i)), (2, .int v)] := hl
  have hown : s.vm.findClass R_Fs = some m.cls := hown
  refine lv_iload_n hx hb d_Fs_set_0 rfl (lv_at hl 1 rfl) ?_
  refine lv_if_lt (tgt := 10) hx hb d_Fs_set_1 (by decide) (fun hc => absurd hc (nI_pos (by omega))) (fun _ => ?_)
  refine lv_iload_n hx hb d_Fs_set_4 rfl (lv_at hl 1 rfl) ?_
  refine lv_bipush (v := nI 16) hx hb d_Fs_set_5 (by decide) ?_
  refine lv_icmp_lt (tgt := 12) hx hb d_Fs_set_7 (by decide) (fun hc7 => ?_) (fun hc7 => absurd (nI_lt hi (by decide)) hc7)
  rw [nI_ltI (by omega) (by omega)] at hc7
  refine lv_aload_n hx hb d_Fs_set_12 rfl (lv_at hl 0 rfl) ?_
  refine va_get (D := (dC, dI)) (ci := 4) (v := .ref wd) (C := R_Fs) (T := T_Fs) (N := 7) hx hb hts uin_Fs hown hK hP 0 rfl rfl 3 (by decide) (hts _ wi_117) (fun _ h9 => h9) rfl d_Fs_set_13 ?_
  refine lv_iload_n hx hb d_Fs_set_16 rfl (lv_at hl 1 rfl) ?_
  refine fs_iald (v := w i) hx hb hK hP 1 0 rfl rfl i rfl (by decide) (by omega) rfl d_Fs_set_17 ?_
  refine lv_istore_n hx hb d_Fs_set_18 rfl hl (by decide) (lv' := [(3, .int (w i)), (0, .ref fs), (1, .int (nI i)), (2, .int v)]) rfl (fun ls hl => ?_)
  refine lv_aload_n hx hb d_Fs_set_19 rfl (lv_at hl 1 rfl) ?_
  refine va_get (D := (dC, dI)) (ci := 4) (v := .ref wd) (C := R_Fs) (T := T_Fs) (N := 7) hx hb hts uin_Fs hown hK hP 0 rfl rfl 3 (by decide) (hts _ wi_117) (fun _ h9 => h9) rfl d_Fs_set_20 ?_
  refine lv_iload_n hx hb d_Fs_set_23 rfl (lv_at hl 2 rfl) ?_
  refine lv_iload_n hx hb d_Fs_set_24 rfl (lv_at hl 3 rfl) ?_
  refine fs_iast hx hb hK hP hD hS 1 0 rfl rfl i rfl (by decide) (by omega) d_Fs_set_25 (fun H locs hP hD hS => ?_)
  have hP : va_P (dC, dI) vwCl [(fs, .inr (4, [.ref fa, .ref sa, .int (nI stk), .ref wd, .ref ru, .ref ck, .ref mc])), (wd, .inl (cI, 16, .inl (upd w i v)))] H := hP
  have hD : va_D A [(fs, .inr (4, [.ref fa, .ref sa, .int (nI stk), .ref wd, .ref ru, .ref ck, .ref mc])), (wd, .inl (cI, 16, .inl (upd w i v)))] := hD
  refine lv_iload_n hx hb d_Fs_set_26 rfl (lv_at hl 0 rfl) ?_
  exact fs_iret hx hb hr hlocks hAe hK hS d_Fs_set_27 () (rfl) hP hD

set_option maxHeartbeats 4000000 in
set_option maxRecDepth 100000 in
theorem c_Fs_setX (fs fa sa stk wd ru ck mc : Nat) (i v : Int32) (sz : Nat) (hi : ∀ t, t < 16 → i ≠ nI t) : fs_I l y_Fs_set (k_Fs_set :: fs_T) { frames := 0, cells := 0, slots := 0, locals := 0 } (dC, dI) vwCl (fs_tys cI cZ cJ cF) [.ref fs, .int i, .int v] [(fs, .inr (4, [.ref fa, .ref sa, .int (nI stk), .ref wd, .ref ru, .ref ck, .ref mc]))] sz (S := Unit) (fun r _ => r = nI 0) (fun _ => [(fs, .inr (4, [.ref fa, .ref sa, .int (nI stk), .ref wd, .ref ru, .ref ck, .ref mc]))]) 0 0 := by
  refine fs_head (by decide) (Nat.le_of_ble_eq_true rfl) ?_
  intro p e s m below meth c A ls hx hb hr hts hown hlocks hin hml hK hP hD hS hA hAe hsz hl
  have hl : lv_has ls 4 [(0, .ref fs), (1, .int i), (2, .int v)] := hl
  have hown : s.vm.findClass R_Fs = some m.cls := hown
  refine lv_iload_n hx hb d_Fs_set_0 rfl (lv_at hl 1 rfl) ?_
  refine lv_if_lt (tgt := 10) hx hb d_Fs_set_1 (by decide) (fun hc1 => ?_) (fun hc1 => ?_)
  · rw [fs_lt0] at hc1
    refine lv_iconst (v := nI 0) hx hb d_Fs_set_10 (by decide) ?_
    exact fs_iret hx hb hr hlocks hAe hK hS d_Fs_set_11 () (rfl) hP hD
  rw [fs_lt0] at hc1
  refine lv_iload_n hx hb d_Fs_set_4 rfl (lv_at hl 1 rfl) ?_
  refine lv_bipush (v := nI 16) hx hb d_Fs_set_5 (by decide) ?_
  refine lv_icmp_lt (tgt := 12) hx hb d_Fs_set_7 (by decide) (fun hc7 => ?_) (fun hc7 => ?_)
  · rw [fs_ltN (by omega)] at hc7
    obtain ⟨t, ht, e⟩ := fs_of (x := i) (n := 16) (by decide) (by omega) (by omega)
    exact absurd e (hi t ht)
  rw [fs_ltN (by omega)] at hc7
  refine lv_iconst (v := nI 0) hx hb d_Fs_set_10 (by decide) ?_
  exact fs_iret hx hb hr hlocks hAe hK hS d_Fs_set_11 () (rfl) hP hD

theorem d_Fs_steps_0 : decode b_Fs_steps 0 = .ok (.aload_n 0, 1) := by decide +kernel
theorem d_Fs_steps_1 : decode b_Fs_steps 1 = .ok (.getfield 44, 3) := by decide +kernel
theorem d_Fs_steps_4 : decode b_Fs_steps 4 = .ok (.getfield 97, 3) := by decide +kernel
theorem d_Fs_steps_7 : decode b_Fs_steps 7 = .ok (.ireturn, 1) := by decide +kernel
set_option maxHeartbeats 4000000 in
set_option maxRecDepth 100000 in
theorem c_Fs_steps (fs fa sa stk wd ru ck mc : Nat) (cl : Nat) (ma mx dn : Int32) (sz : Nat)  : fs_I l y_Fs_steps (k_Fs_steps :: fs_T) { frames := 0, cells := 0, slots := 0, locals := 0 } (dC, dI) vwCl (fs_tys cI cZ cJ cF) [.ref fs] [(fs, .inr (4, [.ref fa, .ref sa, .int (nI stk), .ref wd, .ref ru, .ref ck, .ref mc])), (mc, .inr (2, [.ref cl, .int ma, .int mx, .int dn]))] sz (S := Unit) (fun r _ => r = dn) (fun _ => [(fs, .inr (4, [.ref fa, .ref sa, .int (nI stk), .ref wd, .ref ru, .ref ck, .ref mc])), (mc, .inr (2, [.ref cl, .int ma, .int mx, .int dn]))]) 0 0 := by
  refine fs_head (by decide) (Nat.le_of_ble_eq_true rfl) ?_
  intro p e s m below meth c A ls hx hb hr hts hown hlocks hin hml hK hP hD hS hA hAe hsz hl
  have hl : lv_has ls 1 [(0, .ref fs)] := hl
  have hown : s.vm.findClass R_Fs = some m.cls := hown
  refine lv_aload_n hx hb d_Fs_steps_0 rfl (lv_at hl 0 rfl) ?_
  refine va_get (D := (dC, dI)) (ci := 4) (v := .ref mc) (C := R_Fs) (T := T_Fs) (N := 7) hx hb hts uin_Fs hown hK hP 0 rfl rfl 6 (by decide) (hts _ wi_120) (fun _ h9 => h9) rfl d_Fs_steps_1 ?_
  refine va_get (D := (dC, dI)) (ci := 2) (v := .int dn) (C := R_Mc) (T := T_Mc) (N := 4) hx hb hts uin_Mc hown hK hP 1 rfl rfl 3 (by decide) (hts _ wi_104) (fun _ h9 => h9) rfl d_Fs_steps_4 ?_
  exact fs_iret hx hb hr hlocks hAe hK hS d_Fs_steps_7 () (rfl) hP hD

theorem d_Fs_rule_0 : decode b_Fs_rule 0 = .ok (.iload_n 2, 1) := by decide +kernel
theorem d_Fs_rule_1 : decode b_Fs_rule 1 = .ok (.iconst (-1), 1) := by decide +kernel
theorem d_Fs_rule_2 : decode b_Fs_rule 2 = .ok (.if_icmp .eq 15, 3) := by decide +kernel
theorem d_Fs_rule_5 : decode b_Fs_rule 5 = .ok (.iload_n 2, 1) := by decide +kernel
theorem d_Fs_rule_6 : decode b_Fs_rule 6 = .ok (.ifCond .lt 9, 3) := by decide +kernel
theorem d_Fs_rule_9 : decode b_Fs_rule 9 = .ok (.iload_n 2, 1) := by decide +kernel
theorem d_Fs_rule_10 : decode b_Fs_rule 10 = .ok (.bipush 12, 2) := by decide +kernel
theorem d_Fs_rule_12 : decode b_Fs_rule 12 = .ok (.if_icmp .lt 5, 3) := by decide +kernel
theorem d_Fs_rule_15 : decode b_Fs_rule 15 = .ok (.iconst (-1), 1) := by decide +kernel
theorem d_Fs_rule_16 : decode b_Fs_rule 16 = .ok (.ireturn, 1) := by decide +kernel
theorem d_Fs_rule_17 : decode b_Fs_rule 17 = .ok (.aload_n 0, 1) := by decide +kernel
theorem d_Fs_rule_18 : decode b_Fs_rule 18 = .ok (.getfield 30, 3) := by decide +kernel
theorem d_Fs_rule_21 : decode b_Fs_rule 21 = .ok (.iload_n 1, 1) := by decide +kernel
theorem d_Fs_rule_22 : decode b_Fs_rule 22 = .ok (.iload_n 2, 1) := by decide +kernel
theorem d_Fs_rule_23 : decode b_Fs_rule 23 = .ok (.iload_n 3, 1) := by decide +kernel
theorem d_Fs_rule_24 : decode b_Fs_rule 24 = .ok (.iload 4, 2) := by decide +kernel
theorem d_Fs_rule_26 : decode b_Fs_rule 26 = .ok (.invokevirtual 100, 3) := by decide +kernel
theorem d_Fs_rule_29 : decode b_Fs_rule 29 = .ok (.ireturn, 1) := by decide +kernel
set_option maxHeartbeats 4000000 in
set_option maxRecDepth 100000 in
theorem c_Fs_rule (fs fa sa stk wd ck mc : Nat) (ru rc ra rm rv cnt : Nat) (gc ga gm gv : Nat → Int32) (v1 v2 v3 v4 : Int32) (sz : Nat) (harg : -1 ≤ v2.toInt ∧ v2.toInt < 12) (hcnt : cnt < 8) : fs_I l y_Fs_rule (k_Fs_rule :: fs_T) { frames := 1, cells := 0, slots := 0, locals := 24 } (dC, dI) vwCl (fs_tys cI cZ cJ cF) [.ref fs, .int v1, .int v2, .int v3, .int v4] [(fs, .inr (4, [.ref fa, .ref sa, .int (nI stk), .ref wd, .ref ru, .ref ck, .ref mc])), (ru, .inr (3, [.ref rc, .ref ra, .ref rm, .ref rv, .int (nI cnt)])), (rc, .inl (cI, 8, .inl gc)), (ra, .inl (cI, 8, .inl ga)), (rm, .inl (cI, 8, .inl gm)), (rv, .inl (cI, 8, .inl gv))] sz (S := Unit) (fun r _ => r = nI (cnt + 1)) (fun _ => [(fs, .inr (4, [.ref fa, .ref sa, .int (nI stk), .ref wd, .ref ru, .ref ck, .ref mc])), (ru, .inr (3, [.ref rc, .ref ra, .ref rm, .ref rv, .int (nI (cnt + 1))])), (rc, .inl (cI, 8, .inl (upd gc cnt v1))), (ra, .inl (cI, 8, .inl (upd ga cnt v2))), (rm, .inl (cI, 8, .inl (upd gm cnt v3))), (rv, .inl (cI, 8, .inl (upd gv cnt v4)))]) 0 0 := by
  refine fs_head (by decide) (Nat.le_of_ble_eq_true rfl) ?_
  intro p e s m below meth c A ls hx hb hr hts hown hlocks hin hml hK hP hD hS hA hAe hsz hl
  have hl : lv_has ls 5 [(0, .ref fs), (1, .int v1), (2, .int v2), (3, .int v3), (4, .int v4)] := hl
  have hown : s.vm.findClass R_Fs = some m.cls := hown
  refine lv_iload_n hx hb d_Fs_rule_0 rfl (lv_at hl 2 rfl) ?_
  refine lv_iconst (v := (-1)) hx hb d_Fs_rule_1 (by decide) ?_
  refine lv_icmp_eq (tgt := 17) hx hb d_Fs_rule_2 (by decide) (fun hc2 => ?_) (fun hc2 => ?_)
  · refine lv_aload_n hx hb d_Fs_rule_17 rfl (lv_at hl 0 rfl) ?_
    refine va_get (D := (dC, dI)) (ci := 4) (v := .ref ru) (C := R_Fs) (T := T_Fs) (N := 7) hx hb hts uin_Fs hown hK hP 0 rfl rfl 4 (by decide) (hts _ wi_118) (fun _ h9 => h9) rfl d_Fs_rule_18 ?_
    refine lv_iload_n hx hb d_Fs_rule_21 rfl (lv_at hl 1 rfl) ?_
    refine lv_iload_n hx hb d_Fs_rule_22 rfl (lv_at hl 2 rfl) ?_
    refine lv_iload_n hx hb d_Fs_rule_23 rfl (lv_at hl 3 rfl) ?_
    refine lv_iload hx hb d_Fs_rule_24 (lv_at hl 4 rfl) ?_
    refine fs_calli (wc := [(ru, .inr (3, [.ref rc, .ref ra, .ref rm, .ref rv, .int (nI cnt)])), (rc, .inl (cI, 8, .inl gc)), (ra, .inl (cI, 8, .inl ga)), (rm, .inl (cI, 8, .inl gm)), (rv, .inl (cI, 8, .inl gv))]) (wr := [(fs, .inr (4, [.ref fa, .ref sa, .int (nI stk), .ref wd, .ref ru, .ref ck, .ref mc]))]) [1, 2, 3, 4, 5] [0] hP hD hK hS hA rfl rfl rfl (by decide) (fun hPc hDc => va_runV (C := R_Ru) (As := [.int v1, .int v2, .int v3, .int v4]) (rest := []) ⟨hx, hb, hml, hown, hts⟩ (c_Ru_append ru rc ra rm rv cnt gc ga gm gv v1 v2 v3 v4 _ (by omega)) (⟨callB_of 4 hts (fs_g kin_Ru_append) rfl rfl rfl (hts _ wi_3) (hts _ wi_234) (by decide +kernel) ⟨Nat.le_of_ble_eq_true rfl, Nat.le_of_ble_eq_true rfl⟩, hts _ wi_235, hts _ wi_236⟩) (fs_preV (q0 := 0) rfl rfl hPc hK hDc) rfl rfl hl.1 rfl (lv_room (Nat.le_of_ble_eq_true rfl)) d_Fs_rule_26 ⟨Nat.le_of_ble_eq_true rfl, Nat.le_of_ble_eq_true rfl⟩) rfl (fun r26 _ H locs hp26 hP hD hS => ?_)
    have hP : va_P (dC, dI) vwCl [(fs, .inr (4, [.ref fa, .ref sa, .int (nI stk), .ref wd, .ref ru, .ref ck, .ref mc])), (ru, .inr (3, [.ref rc, .ref ra, .ref rm, .ref rv, .int (nI (cnt + 1))])), (rc, .inl (cI, 8, .inl (upd gc cnt v1))), (ra, .inl (cI, 8, .inl (upd ga cnt v2))), (rm, .inl (cI, 8, .inl (upd gm cnt v3))), (rv, .inl (cI, 8, .inl (upd gv cnt v4)))] H := hP
    have hD : va_D A [(fs, .inr (4, [.ref fa, .ref sa, .int (nI stk), .ref wd, .ref ru, .ref ck, .ref mc])), (ru, .inr (3, [.ref rc, .ref ra, .ref rm, .ref rv, .int (nI (cnt + 1))])), (rc, .inl (cI, 8, .inl (upd gc cnt v1))), (ra, .inl (cI, 8, .inl (upd ga cnt v2))), (rm, .inl (cI, 8, .inl (upd gm cnt v3))), (rv, .inl (cI, 8, .inl (upd gv cnt v4)))] := hD
    subst hp26
    exact fs_iret hx hb hr hlocks hAe hK hS d_Fs_rule_29 () (rfl) hP hD
  rw [← Int32.toInt_inj, show ((-1) : Int32).toInt = -1 from by decide] at hc2
  refine lv_iload_n hx hb d_Fs_rule_5 rfl (lv_at hl 2 rfl) ?_
  refine lv_if_lt (tgt := 15) hx hb d_Fs_rule_6 (by decide) (fun hc6 => ?_) (fun hc6 => ?_)
  · rw [fs_lt0] at hc6
    exact absurd harg (by omega)
  rw [fs_lt0] at hc6
  refine lv_iload_n hx hb d_Fs_rule_9 rfl (lv_at hl 2 rfl) ?_
  refine lv_bipush (v := nI 12) hx hb d_Fs_rule_10 (by decide) ?_
  refine lv_icmp_lt (tgt := 17) hx hb d_Fs_rule_12 (by decide) (fun hc12 => ?_) (fun hc12 => ?_)
  · rw [fs_ltN (by omega)] at hc12
    refine lv_aload_n hx hb d_Fs_rule_17 rfl (lv_at hl 0 rfl) ?_
    refine va_get (D := (dC, dI)) (ci := 4) (v := .ref ru) (C := R_Fs) (T := T_Fs) (N := 7) hx hb hts uin_Fs hown hK hP 0 rfl rfl 4 (by decide) (hts _ wi_118) (fun _ h9 => h9) rfl d_Fs_rule_18 ?_
    refine lv_iload_n hx hb d_Fs_rule_21 rfl (lv_at hl 1 rfl) ?_
    refine lv_iload_n hx hb d_Fs_rule_22 rfl (lv_at hl 2 rfl) ?_
    refine lv_iload_n hx hb d_Fs_rule_23 rfl (lv_at hl 3 rfl) ?_
    refine lv_iload hx hb d_Fs_rule_24 (lv_at hl 4 rfl) ?_
    refine fs_calli (wc := [(ru, .inr (3, [.ref rc, .ref ra, .ref rm, .ref rv, .int (nI cnt)])), (rc, .inl (cI, 8, .inl gc)), (ra, .inl (cI, 8, .inl ga)), (rm, .inl (cI, 8, .inl gm)), (rv, .inl (cI, 8, .inl gv))]) (wr := [(fs, .inr (4, [.ref fa, .ref sa, .int (nI stk), .ref wd, .ref ru, .ref ck, .ref mc]))]) [1, 2, 3, 4, 5] [0] hP hD hK hS hA rfl rfl rfl (by decide) (fun hPc hDc => va_runV (C := R_Ru) (As := [.int v1, .int v2, .int v3, .int v4]) (rest := []) ⟨hx, hb, hml, hown, hts⟩ (c_Ru_append ru rc ra rm rv cnt gc ga gm gv v1 v2 v3 v4 _ (by omega)) (⟨callB_of 4 hts (fs_g kin_Ru_append) rfl rfl rfl (hts _ wi_3) (hts _ wi_234) (by decide +kernel) ⟨Nat.le_of_ble_eq_true rfl, Nat.le_of_ble_eq_true rfl⟩, hts _ wi_235, hts _ wi_236⟩) (fs_preV (q0 := 0) rfl rfl hPc hK hDc) rfl rfl hl.1 rfl (lv_room (Nat.le_of_ble_eq_true rfl)) d_Fs_rule_26 ⟨Nat.le_of_ble_eq_true rfl, Nat.le_of_ble_eq_true rfl⟩) rfl (fun r26 _ H locs hp26 hP hD hS => ?_)
    have hP : va_P (dC, dI) vwCl [(fs, .inr (4, [.ref fa, .ref sa, .int (nI stk), .ref wd, .ref ru, .ref ck, .ref mc])), (ru, .inr (3, [.ref rc, .ref ra, .ref rm, .ref rv, .int (nI (cnt + 1))])), (rc, .inl (cI, 8, .inl (upd gc cnt v1))), (ra, .inl (cI, 8, .inl (upd ga cnt v2))), (rm, .inl (cI, 8, .inl (upd gm cnt v3))), (rv, .inl (cI, 8, .inl (upd gv cnt v4)))] H := hP
    have hD : va_D A [(fs, .inr (4, [.ref fa, .ref sa, .int (nI stk), .ref wd, .ref ru, .ref ck, .ref mc])), (ru, .inr (3, [.ref rc, .ref ra, .ref rm, .ref rv, .int (nI (cnt + 1))])), (rc, .inl (cI, 8, .inl (upd gc cnt v1))), (ra, .inl (cI, 8, .inl (upd ga cnt v2))), (rm, .inl (cI, 8, .inl (upd gm cnt v3))), (rv, .inl (cI, 8, .inl (upd gv cnt v4)))] := hD
    subst hp26
    exact fs_iret hx hb hr hlocks hAe hK hS d_Fs_rule_29 () (rfl) hP hD
  rw [fs_ltN (by omega)] at hc12
  exact absurd harg (by omega)

set_option maxHeartbeats 4000000 in
set_option maxRecDepth 100000 in
theorem c_Fs_ruleF (fs fa sa stk wd ck mc : Nat) (ru rc ra rm rv : Nat) (gc ga gm gv : Nat → Int32) (v1 v2 v3 v4 : Int32) (sz : Nat) (harg : -1 ≤ v2.toInt ∧ v2.toInt < 12) : fs_I l y_Fs_rule (k_Fs_rule :: fs_T) { frames := 1, cells := 0, slots := 0, locals := 24 } (dC, dI) vwCl (fs_tys cI cZ cJ cF) [.ref fs, .int v1, .int v2, .int v3, .int v4] [(fs, .inr (4, [.ref fa, .ref sa, .int (nI stk), .ref wd, .ref ru, .ref ck, .ref mc])), (ru, .inr (3, [.ref rc, .ref ra, .ref rm, .ref rv, .int (nI 8)])), (rc, .inl (cI, 8, .inl gc)), (ra, .inl (cI, 8, .inl ga)), (rm, .inl (cI, 8, .inl gm)), (rv, .inl (cI, 8, .inl gv))] sz (S := Unit) (fun r _ => r = (-2)) (fun _ => [(fs, .inr (4, [.ref fa, .ref sa, .int (nI stk), .ref wd, .ref ru, .ref ck, .ref mc])), (ru, .inr (3, [.ref rc, .ref ra, .ref rm, .ref rv, .int (nI 8)])), (rc, .inl (cI, 8, .inl gc)), (ra, .inl (cI, 8, .inl ga)), (rm, .inl (cI, 8, .inl gm)), (rv, .inl (cI, 8, .inl gv))]) 0 0 := by
  refine fs_head (by decide) (Nat.le_of_ble_eq_true rfl) ?_
  intro p e s m below meth c A ls hx hb hr hts hown hlocks hin hml hK hP hD hS hA hAe hsz hl
  have hl : lv_has ls 5 [(0, .ref fs), (1, .int v1), (2, .int v2), (3, .int v3), (4, .int v4)] := hl
  have hown : s.vm.findClass R_Fs = some m.cls := hown
  refine lv_iload_n hx hb d_Fs_rule_0 rfl (lv_at hl 2 rfl) ?_
  refine lv_iconst (v := (-1)) hx hb d_Fs_rule_1 (by decide) ?_
  refine lv_icmp_eq (tgt := 17) hx hb d_Fs_rule_2 (by decide) (fun hc2 => ?_) (fun hc2 => ?_)
  · refine lv_aload_n hx hb d_Fs_rule_17 rfl (lv_at hl 0 rfl) ?_
    refine va_get (D := (dC, dI)) (ci := 4) (v := .ref ru) (C := R_Fs) (T := T_Fs) (N := 7) hx hb hts uin_Fs hown hK hP 0 rfl rfl 4 (by decide) (hts _ wi_118) (fun _ h9 => h9) rfl d_Fs_rule_18 ?_
    refine lv_iload_n hx hb d_Fs_rule_21 rfl (lv_at hl 1 rfl) ?_
    refine lv_iload_n hx hb d_Fs_rule_22 rfl (lv_at hl 2 rfl) ?_
    refine lv_iload_n hx hb d_Fs_rule_23 rfl (lv_at hl 3 rfl) ?_
    refine lv_iload hx hb d_Fs_rule_24 (lv_at hl 4 rfl) ?_
    refine fs_calli (wc := [(ru, .inr (3, [.ref rc, .ref ra, .ref rm, .ref rv, .int (nI 8)])), (rc, .inl (cI, 8, .inl gc)), (ra, .inl (cI, 8, .inl ga)), (rm, .inl (cI, 8, .inl gm)), (rv, .inl (cI, 8, .inl gv))]) (wr := [(fs, .inr (4, [.ref fa, .ref sa, .int (nI stk), .ref wd, .ref ru, .ref ck, .ref mc]))]) [1, 2, 3, 4, 5] [0] hP hD hK hS hA rfl rfl rfl (by decide) (fun hPc hDc => va_runV (C := R_Ru) (As := [.int v1, .int v2, .int v3, .int v4]) (rest := []) ⟨hx, hb, hml, hown, hts⟩ (c_Ru_appendF ru rc ra rm rv gc ga gm gv v1 v2 v3 v4 _) (⟨callB_of 4 hts (fs_g kin_Ru_append) rfl rfl rfl (hts _ wi_3) (hts _ wi_234) (by decide +kernel) ⟨Nat.le_of_ble_eq_true rfl, Nat.le_of_ble_eq_true rfl⟩, hts _ wi_235, hts _ wi_236⟩) (fs_preV (q0 := 0) rfl rfl hPc hK hDc) rfl rfl hl.1 rfl (lv_room (Nat.le_of_ble_eq_true rfl)) d_Fs_rule_26 ⟨Nat.le_of_ble_eq_true rfl, Nat.le_of_ble_eq_true rfl⟩) rfl (fun r26 _ H locs hp26 hP hD hS => ?_)
    have hP : va_P (dC, dI) vwCl [(fs, .inr (4, [.ref fa, .ref sa, .int (nI stk), .ref wd, .ref ru, .ref ck, .ref mc])), (ru, .inr (3, [.ref rc, .ref ra, .ref rm, .ref rv, .int (nI 8)])), (rc, .inl (cI, 8, .inl gc)), (ra, .inl (cI, 8, .inl ga)), (rm, .inl (cI, 8, .inl gm)), (rv, .inl (cI, 8, .inl gv))] H := hP
    have hD : va_D A [(fs, .inr (4, [.ref fa, .ref sa, .int (nI stk), .ref wd, .ref ru, .ref ck, .ref mc])), (ru, .inr (3, [.ref rc, .ref ra, .ref rm, .ref rv, .int (nI 8)])), (rc, .inl (cI, 8, .inl gc)), (ra, .inl (cI, 8, .inl ga)), (rm, .inl (cI, 8, .inl gm)), (rv, .inl (cI, 8, .inl gv))] := hD
    subst hp26
    exact fs_iret hx hb hr hlocks hAe hK hS d_Fs_rule_29 () (rfl) hP hD
  rw [← Int32.toInt_inj, show ((-1) : Int32).toInt = -1 from by decide] at hc2
  refine lv_iload_n hx hb d_Fs_rule_5 rfl (lv_at hl 2 rfl) ?_
  refine lv_if_lt (tgt := 15) hx hb d_Fs_rule_6 (by decide) (fun hc6 => ?_) (fun hc6 => ?_)
  · rw [fs_lt0] at hc6
    exact absurd harg (by omega)
  rw [fs_lt0] at hc6
  refine lv_iload_n hx hb d_Fs_rule_9 rfl (lv_at hl 2 rfl) ?_
  refine lv_bipush (v := nI 12) hx hb d_Fs_rule_10 (by decide) ?_
  refine lv_icmp_lt (tgt := 17) hx hb d_Fs_rule_12 (by decide) (fun hc12 => ?_) (fun hc12 => ?_)
  · rw [fs_ltN (by omega)] at hc12
    refine lv_aload_n hx hb d_Fs_rule_17 rfl (lv_at hl 0 rfl) ?_
    refine va_get (D := (dC, dI)) (ci := 4) (v := .ref ru) (C := R_Fs) (T := T_Fs) (N := 7) hx hb hts uin_Fs hown hK hP 0 rfl rfl 4 (by decide) (hts _ wi_118) (fun _ h9 => h9) rfl d_Fs_rule_18 ?_
    refine lv_iload_n hx hb d_Fs_rule_21 rfl (lv_at hl 1 rfl) ?_
    refine lv_iload_n hx hb d_Fs_rule_22 rfl (lv_at hl 2 rfl) ?_
    refine lv_iload_n hx hb d_Fs_rule_23 rfl (lv_at hl 3 rfl) ?_
    refine lv_iload hx hb d_Fs_rule_24 (lv_at hl 4 rfl) ?_
    refine fs_calli (wc := [(ru, .inr (3, [.ref rc, .ref ra, .ref rm, .ref rv, .int (nI 8)])), (rc, .inl (cI, 8, .inl gc)), (ra, .inl (cI, 8, .inl ga)), (rm, .inl (cI, 8, .inl gm)), (rv, .inl (cI, 8, .inl gv))]) (wr := [(fs, .inr (4, [.ref fa, .ref sa, .int (nI stk), .ref wd, .ref ru, .ref ck, .ref mc]))]) [1, 2, 3, 4, 5] [0] hP hD hK hS hA rfl rfl rfl (by decide) (fun hPc hDc => va_runV (C := R_Ru) (As := [.int v1, .int v2, .int v3, .int v4]) (rest := []) ⟨hx, hb, hml, hown, hts⟩ (c_Ru_appendF ru rc ra rm rv gc ga gm gv v1 v2 v3 v4 _) (⟨callB_of 4 hts (fs_g kin_Ru_append) rfl rfl rfl (hts _ wi_3) (hts _ wi_234) (by decide +kernel) ⟨Nat.le_of_ble_eq_true rfl, Nat.le_of_ble_eq_true rfl⟩, hts _ wi_235, hts _ wi_236⟩) (fs_preV (q0 := 0) rfl rfl hPc hK hDc) rfl rfl hl.1 rfl (lv_room (Nat.le_of_ble_eq_true rfl)) d_Fs_rule_26 ⟨Nat.le_of_ble_eq_true rfl, Nat.le_of_ble_eq_true rfl⟩) rfl (fun r26 _ H locs hp26 hP hD hS => ?_)
    have hP : va_P (dC, dI) vwCl [(fs, .inr (4, [.ref fa, .ref sa, .int (nI stk), .ref wd, .ref ru, .ref ck, .ref mc])), (ru, .inr (3, [.ref rc, .ref ra, .ref rm, .ref rv, .int (nI 8)])), (rc, .inl (cI, 8, .inl gc)), (ra, .inl (cI, 8, .inl ga)), (rm, .inl (cI, 8, .inl gm)), (rv, .inl (cI, 8, .inl gv))] H := hP
    have hD : va_D A [(fs, .inr (4, [.ref fa, .ref sa, .int (nI stk), .ref wd, .ref ru, .ref ck, .ref mc])), (ru, .inr (3, [.ref rc, .ref ra, .ref rm, .ref rv, .int (nI 8)])), (rc, .inl (cI, 8, .inl gc)), (ra, .inl (cI, 8, .inl ga)), (rm, .inl (cI, 8, .inl gm)), (rv, .inl (cI, 8, .inl gv))] := hD
    subst hp26
    exact fs_iret hx hb hr hlocks hAe hK hS d_Fs_rule_29 () (rfl) hP hD
  rw [fs_ltN (by omega)] at hc12
  exact absurd harg (by omega)

set_option maxHeartbeats 4000000 in
set_option maxRecDepth 100000 in
theorem c_Fs_ruleX (fs fa sa stk wd ru ck mc : Nat) (v1 v2 v3 v4 : Int32) (sz : Nat) (harg : ¬ (-1 ≤ v2.toInt ∧ v2.toInt < 12)) : fs_I l y_Fs_rule (k_Fs_rule :: fs_T) { frames := 1, cells := 0, slots := 0, locals := 24 } (dC, dI) vwCl (fs_tys cI cZ cJ cF) [.ref fs, .int v1, .int v2, .int v3, .int v4] [(fs, .inr (4, [.ref fa, .ref sa, .int (nI stk), .ref wd, .ref ru, .ref ck, .ref mc]))] sz (S := Unit) (fun r _ => r = (-1)) (fun _ => [(fs, .inr (4, [.ref fa, .ref sa, .int (nI stk), .ref wd, .ref ru, .ref ck, .ref mc]))]) 0 0 := by
  refine fs_head (by decide) (Nat.le_of_ble_eq_true rfl) ?_
  intro p e s m below meth c A ls hx hb hr hts hown hlocks hin hml hK hP hD hS hA hAe hsz hl
  have hl : lv_has ls 5 [(0, .ref fs), (1, .int v1), (2, .int v2), (3, .int v3), (4, .int v4)] := hl
  have hown : s.vm.findClass R_Fs = some m.cls := hown
  refine lv_iload_n hx hb d_Fs_rule_0 rfl (lv_at hl 2 rfl) ?_
  refine lv_iconst (v := (-1)) hx hb d_Fs_rule_1 (by decide) ?_
  refine lv_icmp_eq (tgt := 17) hx hb d_Fs_rule_2 (by decide) (fun hc2 => ?_) (fun hc2 => ?_)
  · rw [← Int32.toInt_inj, show ((-1) : Int32).toInt = -1 from by decide] at hc2
    exact absurd harg (by omega)
  rw [← Int32.toInt_inj, show ((-1) : Int32).toInt = -1 from by decide] at hc2
  refine lv_iload_n hx hb d_Fs_rule_5 rfl (lv_at hl 2 rfl) ?_
  refine lv_if_lt (tgt := 15) hx hb d_Fs_rule_6 (by decide) (fun hc6 => ?_) (fun hc6 => ?_)
  · rw [fs_lt0] at hc6
    refine lv_iconst (v := (-1)) hx hb d_Fs_rule_15 (by decide) ?_
    exact fs_iret hx hb hr hlocks hAe hK hS d_Fs_rule_16 () (rfl) hP hD
  rw [fs_lt0] at hc6
  refine lv_iload_n hx hb d_Fs_rule_9 rfl (lv_at hl 2 rfl) ?_
  refine lv_bipush (v := nI 12) hx hb d_Fs_rule_10 (by decide) ?_
  refine lv_icmp_lt (tgt := 17) hx hb d_Fs_rule_12 (by decide) (fun hc12 => ?_) (fun hc12 => ?_)
  · rw [fs_ltN (by omega)] at hc12
    exact absurd harg (by omega)
  rw [fs_ltN (by omega)] at hc12
  refine lv_iconst (v := (-1)) hx hb d_Fs_rule_15 (by decide) ?_
  exact fs_iret hx hb hr hlocks hAe hK hS d_Fs_rule_16 () (rfl) hP hD

theorem d_Fs_forget_0 : decode b_Fs_forget 0 = .ok (.aload_n 0, 1) := by decide +kernel
theorem d_Fs_forget_1 : decode b_Fs_forget 1 = .ok (.getfield 30, 3) := by decide +kernel
theorem d_Fs_forget_4 : decode b_Fs_forget 4 = .ok (.invokevirtual 101, 3) := by decide +kernel
theorem d_Fs_forget_7 : decode b_Fs_forget 7 = .ok (.ireturn, 1) := by decide +kernel
set_option maxHeartbeats 4000000 in
set_option maxRecDepth 100000 in
theorem c_Fs_forget (fs fa sa stk wd ru ck mc rc ra rm rv cnt : Nat) (sz : Nat)  : fs_I l y_Fs_forget (k_Fs_forget :: fs_T) { frames := 1, cells := 0, slots := 0, locals := 21 } (dC, dI) vwCl (fs_tys cI cZ cJ cF) [.ref fs] [(fs, .inr (4, [.ref fa, .ref sa, .int (nI stk), .ref wd, .ref ru, .ref ck, .ref mc])), (ru, .inr (3, [.ref rc, .ref ra, .ref rm, .ref rv, .int (nI cnt)]))] sz (S := Unit) (fun r _ => r = nI cnt) (fun _ => [(fs, .inr (4, [.ref fa, .ref sa, .int (nI stk), .ref wd, .ref ru, .ref ck, .ref mc])), (ru, .inr (3, [.ref rc, .ref ra, .ref rm, .ref rv, .int (nI 0)]))]) 0 0 := by
  refine fs_head (by decide) (Nat.le_of_ble_eq_true rfl) ?_
  intro p e s m below meth c A ls hx hb hr hts hown hlocks hin hml hK hP hD hS hA hAe hsz hl
  have hl : lv_has ls 1 [(0, .ref fs)] := hl
  have hown : s.vm.findClass R_Fs = some m.cls := hown
  refine lv_aload_n hx hb d_Fs_forget_0 rfl (lv_at hl 0 rfl) ?_
  refine va_get (D := (dC, dI)) (ci := 4) (v := .ref ru) (C := R_Fs) (T := T_Fs) (N := 7) hx hb hts uin_Fs hown hK hP 0 rfl rfl 4 (by decide) (hts _ wi_118) (fun _ h9 => h9) rfl d_Fs_forget_1 ?_
  refine fs_calli (wc := [(ru, .inr (3, [.ref rc, .ref ra, .ref rm, .ref rv, .int (nI cnt)]))]) (wr := [(fs, .inr (4, [.ref fa, .ref sa, .int (nI stk), .ref wd, .ref ru, .ref ck, .ref mc]))]) [1] [0] hP hD hK hS hA rfl rfl rfl (by decide) (fun hPc hDc => va_runV (C := R_Ru) (As := []) (rest := []) ⟨hx, hb, hml, hown, hts⟩ (c_Ru_empty ru rc ra rm rv cnt _) (⟨callB_of 0 hts (fs_g kin_Ru_empty) rfl rfl rfl (hts _ wi_3) (hts _ wi_242) (by decide +kernel) ⟨Nat.le_of_ble_eq_true rfl, Nat.le_of_ble_eq_true rfl⟩, hts _ wi_243, hts _ wi_244⟩) (fs_preV (q0 := 0) rfl rfl hPc hK hDc) rfl rfl hl.1 rfl (lv_room (Nat.le_of_ble_eq_true rfl)) d_Fs_forget_4 ⟨Nat.le_of_ble_eq_true rfl, Nat.le_of_ble_eq_true rfl⟩) rfl (fun r4 _ H locs hp4 hP hD hS => ?_)
  have hP : va_P (dC, dI) vwCl [(fs, .inr (4, [.ref fa, .ref sa, .int (nI stk), .ref wd, .ref ru, .ref ck, .ref mc])), (ru, .inr (3, [.ref rc, .ref ra, .ref rm, .ref rv, .int (nI 0)]))] H := hP
  have hD : va_D A [(fs, .inr (4, [.ref fa, .ref sa, .int (nI stk), .ref wd, .ref ru, .ref ck, .ref mc])), (ru, .inr (3, [.ref rc, .ref ra, .ref rm, .ref rv, .int (nI 0)]))] := hD
  subst hp4
  exact fs_iret hx hb hr hlocks hAe hK hS d_Fs_forget_7 () (rfl) hP hD

theorem d_Fs_compile_0 : decode b_Fs_compile 0 = .ok (.iload_n 1, 1) := by decide +kernel
theorem d_Fs_compile_1 : decode b_Fs_compile 1 = .ok (.invokestatic 48, 3) := by decide +kernel
theorem d_Fs_compile_4 : decode b_Fs_compile 4 = .ok (.ifCond .ne 5, 3) := by decide +kernel
theorem d_Fs_compile_7 : decode b_Fs_compile 7 = .ok (.iconst (-1), 1) := by decide +kernel
theorem d_Fs_compile_8 : decode b_Fs_compile 8 = .ok (.ireturn, 1) := by decide +kernel
theorem d_Fs_compile_9 : decode b_Fs_compile 9 = .ok (.aload_n 0, 1) := by decide +kernel
theorem d_Fs_compile_10 : decode b_Fs_compile 10 = .ok (.getfield 30, 3) := by decide +kernel
theorem d_Fs_compile_13 : decode b_Fs_compile 13 = .ok (.invokevirtual 102, 3) := by decide +kernel
theorem d_Fs_compile_16 : decode b_Fs_compile 16 = .ok (.bipush 40, 2) := by decide +kernel
theorem d_Fs_compile_18 : decode b_Fs_compile 18 = .ok (.if_icmp .le 6, 3) := by decide +kernel
theorem d_Fs_compile_21 : decode b_Fs_compile 21 = .ok (.bipush (-2), 2) := by decide +kernel
theorem d_Fs_compile_23 : decode b_Fs_compile 23 = .ok (.ireturn, 1) := by decide +kernel
theorem d_Fs_compile_24 : decode b_Fs_compile 24 = .ok (.aload_n 0, 1) := by decide +kernel
theorem d_Fs_compile_25 : decode b_Fs_compile 25 = .ok (.getfield 30, 3) := by decide +kernel
theorem d_Fs_compile_28 : decode b_Fs_compile 28 = .ok (.aload_n 0, 1) := by decide +kernel
theorem d_Fs_compile_29 : decode b_Fs_compile 29 = .ok (.getfield 11, 3) := by decide +kernel
theorem d_Fs_compile_32 : decode b_Fs_compile 32 = .ok (.iload_n 1, 1) := by decide +kernel
theorem d_Fs_compile_33 : decode b_Fs_compile 33 = .ok (.aaload, 1) := by decide +kernel
theorem d_Fs_compile_34 : decode b_Fs_compile 34 = .ok (.iload_n 2, 1) := by decide +kernel
theorem d_Fs_compile_35 : decode b_Fs_compile 35 = .ok (.invokevirtual 105, 3) := by decide +kernel
theorem d_Fs_compile_38 : decode b_Fs_compile 38 = .ok (.aload_n 0, 1) := by decide +kernel
theorem d_Fs_compile_39 : decode b_Fs_compile 39 = .ok (.getfield 11, 3) := by decide +kernel
theorem d_Fs_compile_42 : decode b_Fs_compile 42 = .ok (.iload_n 1, 1) := by decide +kernel
theorem d_Fs_compile_43 : decode b_Fs_compile 43 = .ok (.aaload, 1) := by decide +kernel
theorem d_Fs_compile_44 : decode b_Fs_compile 44 = .ok (.getfield 63, 3) := by decide +kernel
theorem d_Fs_compile_47 : decode b_Fs_compile 47 = .ok (.ireturn, 1) := by decide +kernel
set_option maxHeartbeats 4000000 in
set_option maxRecDepth 100000 in
theorem c_Fs_compile (fs fa sa stk wd ck mc : Nat) (ff : Nat → Option Nat) (ru rc ra rm rv cnt : Nat) (gc ga gm gv : Nat → Int32) (q o y n k len : Nat) (fo fy fn fk : Nat → Int32) (rs : List fx_Rule) (v : Int32) (j : Nat) (sz : Nat) (hj : j < 4) (hff : ff j = some q) (hcnt : cnt = rs.length) (hc8 : cnt ≤ 8) (hrr : fx_rrep rs gc ga gm gv) (htot : (rs.flatMap fx_one).length ≤ 39) : fs_I l y_Fs_compile (k_Fs_compile :: fs_T) { frames := 3, cells := 0, slots := 0, locals := 69 } (dC, dI) vwCl (fs_tys cI cZ cJ cF) [.ref fs, .int (nI j), .int v] [(fs, .inr (4, [.ref fa, .ref sa, .int (nI stk), .ref wd, .ref ru, .ref ck, .ref mc])), (fa, .inl (cF, 4, .inr (.inr (.inr (.inr ff))))), (ru, .inr (3, [.ref rc, .ref ra, .ref rm, .ref rv, .int (nI cnt)])), (rc, .inl (cI, 8, .inl gc)), (ra, .inl (cI, 8, .inl ga)), (rm, .inl (cI, 8, .inl gm)), (rv, .inl (cI, 8, .inl gv)), (q, .inr (1, [.ref o, .ref y, .ref n, .ref k, .int (nI len)])), (o, .inl (cI, 40, .inl fo)), (y, .inl (cI, 40, .inl fy)), (n, .inl (cI, 40, .inl fn)), (k, .inl (cI, 40, .inl fk))] sz (S := (Nat → Int32) × (Nat → Int32) × (Nat → Int32) × (Nat → Int32)) (fun r u => r = nI (fx_cmp rs v).length ∧ fx_rep (fx_cmp rs v) u.1 u.2.1 u.2.2.1 u.2.2.2) (fun u => [(fs, .inr (4, [.ref fa, .ref sa, .int (nI stk), .ref wd, .ref ru, .ref ck, .ref mc])), (fa, .inl (cF, 4, .inr (.inr (.inr (.inr ff))))), (ru, .inr (3, [.ref rc, .ref ra, .ref rm, .ref rv, .int (nI cnt)])), (rc, .inl (cI, 8, .inl gc)), (ra, .inl (cI, 8, .inl ga)), (rm, .inl (cI, 8, .inl gm)), (rv, .inl (cI, 8, .inl gv)), (q, .inr (1, [.ref o, .ref y, .ref n, .ref k, .int (nI ((fx_cmp rs v).length))])), (o, .inl (cI, 40, .inl u.1)), (y, .inl (cI, 40, .inl u.2.1)), (n, .inl (cI, 40, .inl u.2.2.1)), (k, .inl (cI, 40, .inl u.2.2.2))]) 0 0 := by
  refine fs_head (by decide) (Nat.le_of_ble_eq_true rfl) ?_
  intro p e s m below meth c A ls hx hb hr hts hown hlocks hin hml hK hP hD hS hA hAe hsz hl
  have hl : lv_has ls 3 [(0, .ref fs), (1, .int (nI j)), (2, .int v)] := hl
  have hown : s.vm.findClass R_Fs = some m.cls := hown
  refine lv_iload_n hx hb d_Fs_compile_0 rfl (lv_at hl 1 rfl) ?_
  refine fs_calli (wc := []) (wr := [(fs, .inr (4, [.ref fa, .ref sa, .int (nI stk), .ref wd, .ref ru, .ref ck, .ref mc])), (fa, .inl (cF, 4, .inr (.inr (.inr (.inr ff))))), (ru, .inr (3, [.ref rc, .ref ra, .ref rm, .ref rv, .int (nI cnt)])), (rc, .inl (cI, 8, .inl gc)), (ra, .inl (cI, 8, .inl ga)), (rm, .inl (cI, 8, .inl gm)), (rv, .inl (cI, 8, .inl gv)), (q, .inr (1, [.ref o, .ref y, .ref n, .ref k, .int (nI len)])), (o, .inl (cI, 40, .inl fo)), (y, .inl (cI, 40, .inl fy)), (n, .inl (cI, 40, .inl fn)), (k, .inl (cI, 40, .inl fk))]) [] [0, 1, 2, 3, 4, 5, 6, 7, 8, 9, 10, 11] hP hD hK hS hA rfl rfl rfl (by decide) (fun hPc hDc => va_runS (As := [.int (nI j)]) (rest := []) ⟨hx, hb, hml, hown, hts⟩ (c_Fs_isFilterT j _ (by omega)) (⟨callB_of 1 hts (fs_g kin_Fs_isFilter) rfl rfl rfl (hts _ wi_1) (hts _ wi_140) (by decide +kernel) ⟨Nat.le_of_ble_eq_true rfl, Nat.le_of_ble_eq_true rfl⟩, hts _ wi_141⟩) (fs_preS hPc hK hDc) rfl rfl hl.1 rfl (lv_room (Nat.le_of_ble_eq_true rfl)) d_Fs_compile_1 ⟨Nat.le_of_ble_eq_true rfl, Nat.le_of_ble_eq_true rfl⟩) rfl (fun r1 _ H locs hp1 hP hD hS => ?_)
  have hP : va_P (dC, dI) vwCl [(fs, .inr (4, [.ref fa, .ref sa, .int (nI stk), .ref wd, .ref ru, .ref ck, .ref mc])), (fa, .inl (cF, 4, .inr (.inr (.inr (.inr ff))))), (ru, .inr (3, [.ref rc, .ref ra, .ref rm, .ref rv, .int (nI cnt)])), (rc, .inl (cI, 8, .inl gc)), (ra, .inl (cI, 8, .inl ga)), (rm, .inl (cI, 8, .inl gm)), (rv, .inl (cI, 8, .inl gv)), (q, .inr (1, [.ref o, .ref y, .ref n, .ref k, .int (nI len)])), (o, .inl (cI, 40, .inl fo)), (y, .inl (cI, 40, .inl fy)), (n, .inl (cI, 40, .inl fn)), (k, .inl (cI, 40, .inl fk))] H := hP
  have hD : va_D A [(fs, .inr (4, [.ref fa, .ref sa, .int (nI stk), .ref wd, .ref ru, .ref ck, .ref mc])), (fa, .inl (cF, 4, .inr (.inr (.inr (.inr ff))))), (ru, .inr (3, [.ref rc, .ref ra, .ref rm, .ref rv, .int (nI cnt)])), (rc, .inl (cI, 8, .inl gc)), (ra, .inl (cI, 8, .inl ga)), (rm, .inl (cI, 8, .inl gm)), (rv, .inl (cI, 8, .inl gv)), (q, .inr (1, [.ref o, .ref y, .ref n, .ref k, .int (nI len)])), (o, .inl (cI, 40, .inl fo)), (y, .inl (cI, 40, .inl fy)), (n, .inl (cI, 40, .inl fn)), (k, .inl (cI, 40, .inl fk))] := hD
  subst hp1
  refine lv_if_ne (tgt := 9) hx hb d_Fs_compile_4 (by decide) (fun _ => ?_) (fun hc => absurd hc (by decide))
  refine lv_aload_n hx hb d_Fs_compile_9 rfl (lv_at hl 0 rfl) ?_
  refine va_get (D := (dC, dI)) (ci := 4) (v := .ref ru) (C := R_Fs) (T := T_Fs) (N := 7) hx hb hts uin_Fs hown hK hP 0 rfl rfl 4 (by decide) (hts _ wi_118) (fun _ h9 => h9) rfl d_Fs_compile_10 ?_
  refine fs_calli (wc := [(ru, .inr (3, [.ref rc, .ref ra, .ref rm, .ref rv, .int (nI cnt)])), (rc, .inl (cI, 8, .inl gc)), (ra, .inl (cI, 8, .inl ga)), (rm, .inl (cI, 8, .inl gm)), (rv, .inl (cI, 8, .inl gv))]) (wr := [(fs, .inr (4, [.ref fa, .ref sa, .int (nI stk), .ref wd, .ref ru, .ref ck, .ref mc])), (fa, .inl (cF, 4, .inr (.inr (.inr (.inr ff))))), (q, .inr (1, [.ref o, .ref y, .ref n, .ref k, .int (nI len)])), (o, .inl (cI, 40, .inl fo)), (y, .inl (cI, 40, .inl fy)), (n, .inl (cI, 40, .inl fn)), (k, .inl (cI, 40, .inl fk))]) [2, 3, 4, 5, 6] [0, 1, 7, 8, 9, 10, 11] hP hD hK hS hA rfl rfl rfl (by decide) (fun hPc hDc => va_runV (C := R_Ru) (As := []) (rest := []) ⟨hx, hb, hml, hown, hts⟩ (c_Ru_translatedLength ru rc ra rm rv cnt gc ga gm gv rs _ hcnt hc8 hrr) (⟨callB_of 0 hts (fs_g kin_Ru_translatedLength) rfl rfl rfl (hts _ wi_3) (hts _ wi_250) (by decide +kernel) ⟨Nat.le_of_ble_eq_true rfl, Nat.le_of_ble_eq_true rfl⟩, hts _ wi_251, hts _ wi_252⟩) (fs_preV (q0 := 0) rfl rfl hPc hK hDc) rfl rfl hl.1 rfl (lv_room (Nat.le_of_ble_eq_true rfl)) d_Fs_compile_13 ⟨Nat.le_of_ble_eq_true rfl, Nat.le_of_ble_eq_true rfl⟩) rfl (fun r13 _ H locs hp13 hP hD hS => ?_)
  have hP : va_P (dC, dI) vwCl [(fs, .inr (4, [.ref fa, .ref sa, .int (nI stk), .ref wd, .ref ru, .ref ck, .ref mc])), (fa, .inl (cF, 4, .inr (.inr (.inr (.inr ff))))), (ru, .inr (3, [.ref rc, .ref ra, .ref rm, .ref rv, .int (nI cnt)])), (rc, .inl (cI, 8, .inl gc)), (ra, .inl (cI, 8, .inl ga)), (rm, .inl (cI, 8, .inl gm)), (rv, .inl (cI, 8, .inl gv)), (q, .inr (1, [.ref o, .ref y, .ref n, .ref k, .int (nI len)])), (o, .inl (cI, 40, .inl fo)), (y, .inl (cI, 40, .inl fy)), (n, .inl (cI, 40, .inl fn)), (k, .inl (cI, 40, .inl fk))] H := hP.sub [0, 1, 7, 8, 9, 10, 11, 2, 3, 4, 5, 6] rfl
  have hD : va_D A [(fs, .inr (4, [.ref fa, .ref sa, .int (nI stk), .ref wd, .ref ru, .ref ck, .ref mc])), (fa, .inl (cF, 4, .inr (.inr (.inr (.inr ff))))), (ru, .inr (3, [.ref rc, .ref ra, .ref rm, .ref rv, .int (nI cnt)])), (rc, .inl (cI, 8, .inl gc)), (ra, .inl (cI, 8, .inl ga)), (rm, .inl (cI, 8, .inl gm)), (rv, .inl (cI, 8, .inl gv)), (q, .inr (1, [.ref o, .ref y, .ref n, .ref k, .int (nI len)])), (o, .inl (cI, 40, .inl fo)), (y, .inl (cI, 40, .inl fy)), (n, .inl (cI, 40, .inl fn)), (k, .inl (cI, 40, .inl fk))] := hD.sub [0, 1, 7, 8, 9, 10, 11, 2, 3, 4, 5, 6] (by decide) rfl
  subst hp13
  have hfl := fx_flat_le rs
  refine lv_bipush (v := nI 40) hx hb d_Fs_compile_16 (by decide) ?_
  refine lv_icmp_le (tgt := 24) hx hb d_Fs_compile_18 (by decide) (fun hc18 => ?_) (fun hc18 => absurd (by have hfl := fx_flat_le rs; rw [nI_leI (by omega) (by omega)]; omega) hc18)
  rw [nI_leI (by omega) (by omega)] at hc18
  refine lv_aload_n hx hb d_Fs_compile_24 rfl (lv_at hl 0 rfl) ?_
  refine va_get (D := (dC, dI)) (ci := 4) (v := .ref ru) (C := R_Fs) (T := T_Fs) (N := 7) hx hb hts uin_Fs hown hK hP 0 rfl rfl 4 (by decide) (hts _ wi_118) (fun _ h9 => h9) rfl d_Fs_compile_25 ?_
  refine lv_aload_n hx hb d_Fs_compile_28 rfl (lv_at hl 0 rfl) ?_
  refine va_get (D := (dC, dI)) (ci := 4) (v := .ref fa) (C := R_Fs) (T := T_Fs) (N := 7) hx hb hts uin_Fs hown hK hP 0 rfl rfl 0 (by decide) (hts _ wi_114) (fun _ h9 => h9) rfl d_Fs_compile_29 ?_
  refine lv_iload_n hx hb d_Fs_compile_32 rfl (lv_at hl 1 rfl) ?_
  refine fs_aald (b := q) hx hb hK hP 1 3 rfl rfl j rfl (by decide) (by omega) hff d_Fs_compile_33 ?_
  refine lv_iload_n hx hb d_Fs_compile_34 rfl (lv_at hl 2 rfl) ?_
  refine fs_callv (wc := [(ru, .inr (3, [.ref rc, .ref ra, .ref rm, .ref rv, .int (nI cnt)])), (rc, .inl (cI, 8, .inl gc)), (ra, .inl (cI, 8, .inl ga)), (rm, .inl (cI, 8, .inl gm)), (rv, .inl (cI, 8, .inl gv)), (q, .inr (1, [.ref o, .ref y, .ref n, .ref k, .int (nI len)])), (o, .inl (cI, 40, .inl fo)), (y, .inl (cI, 40, .inl fy)), (n, .inl (cI, 40, .inl fn)), (k, .inl (cI, 40, .inl fk))]) (wr := [(fs, .inr (4, [.ref fa, .ref sa, .int (nI stk), .ref wd, .ref ru, .ref ck, .ref mc])), (fa, .inl (cF, 4, .inr (.inr (.inr (.inr ff)))))]) [2, 3, 4, 5, 6, 7, 8, 9, 10, 11] [0, 1] hP hD hK hS hA rfl rfl rfl (by decide) (fun hPc hDc => va_runV (C := R_Ru) (As := [.ref q, .int v]) (rest := []) ⟨hx, hb, hml, hown, hts⟩ (c_Ru_translate ru rc ra rm rv cnt gc ga gm gv q o y n k len fo fy fn fk rs v _ hcnt hc8 hrr (by omega)) (⟨callB_of 2 hts (fs_g kin_Ru_translate) rfl rfl rfl (hts _ wi_3) (hts _ wi_258) (by decide +kernel) ⟨Nat.le_of_ble_eq_true rfl, Nat.le_of_ble_eq_true rfl⟩, hts _ wi_259, hts _ wi_260⟩) (fs_preV (q0 := 0) rfl rfl hPc hK hDc) rfl rfl hl.1 rfl (lv_room (Nat.le_of_ble_eq_true rfl)) d_Fs_compile_35 ⟨Nat.le_of_ble_eq_true rfl, Nat.le_of_ble_eq_true rfl⟩) rfl (fun u H locs hp35 hP hD hS => ?_)
  have hP : va_P (dC, dI) vwCl [(fs, .inr (4, [.ref fa, .ref sa, .int (nI stk), .ref wd, .ref ru, .ref ck, .ref mc])), (fa, .inl (cF, 4, .inr (.inr (.inr (.inr ff))))), (ru, .inr (3, [.ref rc, .ref ra, .ref rm, .ref rv, .int (nI cnt)])), (rc, .inl (cI, 8, .inl gc)), (ra, .inl (cI, 8, .inl ga)), (rm, .inl (cI, 8, .inl gm)), (rv, .inl (cI, 8, .inl gv)), (q, .inr (1, [.ref o, .ref y, .ref n, .ref k, .int (nI ((fx_cmp rs v).length))])), (o, .inl (cI, 40, .inl u.1)), (y, .inl (cI, 40, .inl u.2.1)), (n, .inl (cI, 40, .inl u.2.2.1)), (k, .inl (cI, 40, .inl u.2.2.2))] H := hP
  have hD : va_D A [(fs, .inr (4, [.ref fa, .ref sa, .int (nI stk), .ref wd, .ref ru, .ref ck, .ref mc])), (fa, .inl (cF, 4, .inr (.inr (.inr (.inr ff))))), (ru, .inr (3, [.ref rc, .ref ra, .ref rm, .ref rv, .int (nI cnt)])), (rc, .inl (cI, 8, .inl gc)), (ra, .inl (cI, 8, .inl ga)), (rm, .inl (cI, 8, .inl gm)), (rv, .inl (cI, 8, .inl gv)), (q, .inr (1, [.ref o, .ref y, .ref n, .ref k, .int (nI ((fx_cmp rs v).length))])), (o, .inl (cI, 40, .inl u.1)), (y, .inl (cI, 40, .inl u.2.1)), (n, .inl (cI, 40, .inl u.2.2.1)), (k, .inl (cI, 40, .inl u.2.2.2))] := hD
  refine lv_aload_n hx hb d_Fs_compile_38 rfl (lv_at hl 0 rfl) ?_
  refine va_get (D := (dC, dI)) (ci := 4) (v := .ref fa) (C := R_Fs) (T := T_Fs) (N := 7) hx hb hts uin_Fs hown hK hP 0 rfl rfl 0 (by decide) (hts _ wi_114) (fun _ h9 => h9) rfl d_Fs_compile_39 ?_
  refine lv_iload_n hx hb d_Fs_compile_42 rfl (lv_at hl 1 rfl) ?_
  refine fs_aald (b := q) hx hb hK hP 1 3 rfl rfl j rfl (by decide) (by omega) hff d_Fs_compile_43 ?_
  refine va_get (D := (dC, dI)) (ci := 1) (v := .int (nI ((fx_cmp rs v).length))) (C := R_Fi) (T := T_Fi) (N := 5) hx hb hts uin_Fi hown hK hP 7 rfl rfl 4 (by decide) (hts _ wi_49) (fun _ h9 => h9) rfl d_Fs_compile_44 ?_
  exact fs_iret hx hb hr hlocks hAe hK hS d_Fs_compile_47 u (⟨rfl, hp35⟩) hP hD

set_option maxHeartbeats 4000000 in
set_option maxRecDepth 100000 in
theorem c_Fs_compileF (fs fa sa stk wd ck mc : Nat) (ru rc ra rm rv cnt : Nat) (gc ga gm gv : Nat → Int32) (rs : List fx_Rule) (v : Int32) (j : Nat) (sz : Nat) (hj : j < 4) (hcnt : cnt = rs.length) (hc8 : cnt ≤ 8) (hrr : fx_rrep rs gc ga gm gv) (htot : ¬ (rs.flatMap fx_one).length ≤ 39) : fs_I l y_Fs_compile (k_Fs_compile :: fs_T) { frames := 3, cells := 0, slots := 0, locals := 69 } (dC, dI) vwCl (fs_tys cI cZ cJ cF) [.ref fs, .int (nI j), .int v] [(fs, .inr (4, [.ref fa, .ref sa, .int (nI stk), .ref wd, .ref ru, .ref ck, .ref mc])), (ru, .inr (3, [.ref rc, .ref ra, .ref rm, .ref rv, .int (nI cnt)])), (rc, .inl (cI, 8, .inl gc)), (ra, .inl (cI, 8, .inl ga)), (rm, .inl (cI, 8, .inl gm)), (rv, .inl (cI, 8, .inl gv))] sz (S := Unit) (fun r _ => r = (-2)) (fun _ => [(fs, .inr (4, [.ref fa, .ref sa, .int (nI stk), .ref wd, .ref ru, .ref ck, .ref mc])), (ru, .inr (3, [.ref rc, .ref ra, .ref rm, .ref rv, .int (nI cnt)])), (rc, .inl (cI, 8, .inl gc)), (ra, .inl (cI, 8, .inl ga)), (rm, .inl (cI, 8, .inl gm)), (rv, .inl (cI, 8, .inl gv))]) 0 0 := by
  refine fs_head (by decide) (Nat.le_of_ble_eq_true rfl) ?_
  intro p e s m below meth c A ls hx hb hr hts hown hlocks hin hml hK hP hD hS hA hAe hsz hl
  have hl : lv_has ls 3 [(0, .ref fs), (1, .int (nI j)), (2, .int v)] := hl
  have hown : s.vm.findClass R_Fs = some m.cls := hown
  refine lv_iload_n hx hb d_Fs_compile_0 rfl (lv_at hl 1 rfl) ?_
  refine fs_calli (wc := []) (wr := [(fs, .inr (4, [.ref fa, .ref sa, .int (nI stk), .ref wd, .ref ru, .ref ck, .ref mc])), (ru, .inr (3, [.ref rc, .ref ra, .ref rm, .ref rv, .int (nI cnt)])), (rc, .inl (cI, 8, .inl gc)), (ra, .inl (cI, 8, .inl ga)), (rm, .inl (cI, 8, .inl gm)), (rv, .inl (cI, 8, .inl gv))]) [] [0, 1, 2, 3, 4, 5] hP hD hK hS hA rfl rfl rfl (by decide) (fun hPc hDc => va_runS (As := [.int (nI j)]) (rest := []) ⟨hx, hb, hml, hown, hts⟩ (c_Fs_isFilterT j _ (by omega)) (⟨callB_of 1 hts (fs_g kin_Fs_isFilter) rfl rfl rfl (hts _ wi_1) (hts _ wi_140) (by decide +kernel) ⟨Nat.le_of_ble_eq_true rfl, Nat.le_of_ble_eq_true rfl⟩, hts _ wi_141⟩) (fs_preS hPc hK hDc) rfl rfl hl.1 rfl (lv_room (Nat.le_of_ble_eq_true rfl)) d_Fs_compile_1 ⟨Nat.le_of_ble_eq_true rfl, Nat.le_of_ble_eq_true rfl⟩) rfl (fun r1 _ H locs hp1 hP hD hS => ?_)
  have hP : va_P (dC, dI) vwCl [(fs, .inr (4, [.ref fa, .ref sa, .int (nI stk), .ref wd, .ref ru, .ref ck, .ref mc])), (ru, .inr (3, [.ref rc, .ref ra, .ref rm, .ref rv, .int (nI cnt)])), (rc, .inl (cI, 8, .inl gc)), (ra, .inl (cI, 8, .inl ga)), (rm, .inl (cI, 8, .inl gm)), (rv, .inl (cI, 8, .inl gv))] H := hP
  have hD : va_D A [(fs, .inr (4, [.ref fa, .ref sa, .int (nI stk), .ref wd, .ref ru, .ref ck, .ref mc])), (ru, .inr (3, [.ref rc, .ref ra, .ref rm, .ref rv, .int (nI cnt)])), (rc, .inl (cI, 8, .inl gc)), (ra, .inl (cI, 8, .inl ga)), (rm, .inl (cI, 8, .inl gm)), (rv, .inl (cI, 8, .inl gv))] := hD
  subst hp1
  refine lv_if_ne (tgt := 9) hx hb d_Fs_compile_4 (by decide) (fun _ => ?_) (fun hc => absurd hc (by decide))
  refine lv_aload_n hx hb d_Fs_compile_9 rfl (lv_at hl 0 rfl) ?_
  refine va_get (D := (dC, dI)) (ci := 4) (v := .ref ru) (C := R_Fs) (T := T_Fs) (N := 7) hx hb hts uin_Fs hown hK hP 0 rfl rfl 4 (by decide) (hts _ wi_118) (fun _ h9 => h9) rfl d_Fs_compile_10 ?_
  refine fs_calli (wc := [(ru, .inr (3, [.ref rc, .ref ra, .ref rm, .ref rv, .int (nI cnt)])), (rc, .inl (cI, 8, .inl gc)), (ra, .inl (cI, 8, .inl ga)), (rm, .inl (cI, 8, .inl gm)), (rv, .inl (cI, 8, .inl gv))]) (wr := [(fs, .inr (4, [.ref fa, .ref sa, .int (nI stk), .ref wd, .ref ru, .ref ck, .ref mc]))]) [1, 2, 3, 4, 5] [0] hP hD hK hS hA rfl rfl rfl (by decide) (fun hPc hDc => va_runV (C := R_Ru) (As := []) (rest := []) ⟨hx, hb, hml, hown, hts⟩ (c_Ru_translatedLength ru rc ra rm rv cnt gc ga gm gv rs _ hcnt hc8 hrr) (⟨callB_of 0 hts (fs_g kin_Ru_translatedLength) rfl rfl rfl (hts _ wi_3) (hts _ wi_250) (by decide +kernel) ⟨Nat.le_of_ble_eq_true rfl, Nat.le_of_ble_eq_true rfl⟩, hts _ wi_251, hts _ wi_252⟩) (fs_preV (q0 := 0) rfl rfl hPc hK hDc) rfl rfl hl.1 rfl (lv_room (Nat.le_of_ble_eq_true rfl)) d_Fs_compile_13 ⟨Nat.le_of_ble_eq_true rfl, Nat.le_of_ble_eq_true rfl⟩) rfl (fun r13 _ H locs hp13 hP hD hS => ?_)
  have hP : va_P (dC, dI) vwCl [(fs, .inr (4, [.ref fa, .ref sa, .int (nI stk), .ref wd, .ref ru, .ref ck, .ref mc])), (ru, .inr (3, [.ref rc, .ref ra, .ref rm, .ref rv, .int (nI cnt)])), (rc, .inl (cI, 8, .inl gc)), (ra, .inl (cI, 8, .inl ga)), (rm, .inl (cI, 8, .inl gm)), (rv, .inl (cI, 8, .inl gv))] H := hP
  have hD : va_D A [(fs, .inr (4, [.ref fa, .ref sa, .int (nI stk), .ref wd, .ref ru, .ref ck, .ref mc])), (ru, .inr (3, [.ref rc, .ref ra, .ref rm, .ref rv, .int (nI cnt)])), (rc, .inl (cI, 8, .inl gc)), (ra, .inl (cI, 8, .inl ga)), (rm, .inl (cI, 8, .inl gm)), (rv, .inl (cI, 8, .inl gv))] := hD
  subst hp13
  have hfl := fx_flat_le rs
  refine lv_bipush (v := nI 40) hx hb d_Fs_compile_16 (by decide) ?_
  refine lv_icmp_le (tgt := 24) hx hb d_Fs_compile_18 (by decide) (fun hc18 => absurd hc18 (by have hfl := fx_flat_le rs; rw [nI_leI (by omega) (by omega)]; omega)) (fun hc18 => ?_)
  rw [nI_leI (by omega) (by omega)] at hc18
  refine lv_bipush (v := (-2)) hx hb d_Fs_compile_21 (by decide) ?_
  exact fs_iret hx hb hr hlocks hAe hK hS d_Fs_compile_23 () (rfl) hP hD

set_option maxHeartbeats 4000000 in
set_option maxRecDepth 100000 in
theorem c_Fs_compileX (fs fa sa stk wd ru ck mc : Nat) (f v : Int32) (sz : Nat) (hf : ∀ j, j < 4 → f ≠ nI j) : fs_I l y_Fs_compile (k_Fs_compile :: fs_T) { frames := 3, cells := 0, slots := 0, locals := 69 } (dC, dI) vwCl (fs_tys cI cZ cJ cF) [.ref fs, .int f, .int v] [(fs, .inr (4, [.ref fa, .ref sa, .int (nI stk), .ref wd, .ref ru, .ref ck, .ref mc]))] sz (S := Unit) (fun r _ => r = (-1)) (fun _ => [(fs, .inr (4, [.ref fa, .ref sa, .int (nI stk), .ref wd, .ref ru, .ref ck, .ref mc]))]) 0 0 := by
  refine fs_head (by decide) (Nat.le_of_ble_eq_true rfl) ?_
  intro p e s m below meth c A ls hx hb hr hts hown hlocks hin hml hK hP hD hS hA hAe hsz hl
  have hl : lv_has ls 3 [(0, .ref fs), (1, .int f), (2, .int v)] := hl
  have hown : s.vm.findClass R_Fs = some m.cls := hown
  refine lv_iload_n hx hb d_Fs_compile_0 rfl (lv_at hl 1 rfl) ?_
  refine fs_calli (wc := []) (wr := [(fs, .inr (4, [.ref fa, .ref sa, .int (nI stk), .ref wd, .ref ru, .ref ck, .ref mc]))]) [] [0] hP hD hK hS hA rfl rfl rfl (by decide) (fun hPc hDc => va_runS (As := [.int f]) (rest := []) ⟨hx, hb, hml, hown, hts⟩ (c_Fs_isFilter f _) (⟨callB_of 1 hts (fs_g kin_Fs_isFilter) rfl rfl rfl (hts _ wi_1) (hts _ wi_140) (by decide +kernel) ⟨Nat.le_of_ble_eq_true rfl, Nat.le_of_ble_eq_true rfl⟩, hts _ wi_141⟩) (fs_preS hPc hK hDc) rfl rfl hl.1 rfl (lv_room (Nat.le_of_ble_eq_true rfl)) d_Fs_compile_1 ⟨Nat.le_of_ble_eq_true rfl, Nat.le_of_ble_eq_true rfl⟩) rfl (fun r1 _ H locs hp1 hP hD hS => ?_)
  have hP : va_P (dC, dI) vwCl [(fs, .inr (4, [.ref fa, .ref sa, .int (nI stk), .ref wd, .ref ru, .ref ck, .ref mc]))] H := hP
  have hD : va_D A [(fs, .inr (4, [.ref fa, .ref sa, .int (nI stk), .ref wd, .ref ru, .ref ck, .ref mc]))] := hD
  rcases hp1 with ⟨⟨j, hj, e⟩, _⟩ | ⟨_, rfl⟩
  · exact absurd e (hf j hj)
  refine lv_if_ne (tgt := 9) hx hb d_Fs_compile_4 (by decide) (fun hc => absurd (by decide) hc) (fun _ => ?_)
  refine lv_iconst (v := (-1)) hx hb d_Fs_compile_7 (by decide) ?_
  exact fs_iret hx hb hr hlocks hAe hK hS d_Fs_compile_8 () (rfl) hP hD

theorem d_Fs_strictness_0 : decode b_Fs_strictness 0 = .ok (.iload_n 0, 1) := by decide +kernel
theorem d_Fs_strictness_1 : decode b_Fs_strictness 1 = .ok (.bipush 8, 2) := by decide +kernel
theorem d_Fs_strictness_3 : decode b_Fs_strictness 3 = .ok (.ishr, 1) := by decide +kernel
theorem d_Fs_strictness_4 : decode b_Fs_strictness 4 = .ok (.ireturn, 1) := by decide +kernel
set_option maxHeartbeats 4000000 in
set_option maxRecDepth 100000 in
theorem c_Fs_strictness (v : Int32) (sz : Nat)  : fs_I l y_Fs_strictness (k_Fs_strictness :: fs_T) { frames := 0, cells := 0, slots := 0, locals := 0 } (dC, dI) vwCl (fs_tys cI cZ cJ cF) [.int v] [] sz (S := Unit) (fun r _ => r = v >>> (nI 8 &&& 31)) (fun _ => []) 0 0 := by
  refine fs_head (by decide) (Nat.le_of_ble_eq_true rfl) ?_
  intro p e s m below meth c A ls hx hb hr hts hown hlocks hin hml hK hP hD hS hA hAe hsz hl
  have hl : lv_has ls 1 [(0, .int v)] := hl
  have hown : s.vm.findClass R_Fs = some m.cls := hown
  refine lv_iload_n hx hb d_Fs_strictness_0 rfl (lv_at hl 0 rfl) ?_
  refine lv_bipush (v := nI 8) hx hb d_Fs_strictness_1 (by decide) ?_
  refine lv_ishr hx hb d_Fs_strictness_3 ?_
  exact fs_iret hx hb hr hlocks hAe hK hS d_Fs_strictness_4 () (rfl) hP hD

end FS
end
section
section MO
variable {l : Launch} {dC : Nat → ClassId} {dI : Nat → Nat → Nat} {cI cZ cJ cF : ClassId}
theorem d_Mo_within_0 : decode b_Mo_within 0 = .ok (.iload_n 0, 1) := by decide +kernel
theorem d_Mo_within_1 : decode b_Mo_within 1 = .ok (.iload_n 1, 1) := by decide +kernel
theorem d_Mo_within_2 : decode b_Mo_within 2 = .ok (.if_icmp .lt 12, 3) := by decide +kernel
theorem d_Mo_within_5 : decode b_Mo_within 5 = .ok (.iload_n 0, 1) := by decide +kernel
theorem d_Mo_within_6 : decode b_Mo_within 6 = .ok (.iload_n 2, 1) := by decide +kernel
theorem d_Mo_within_7 : decode b_Mo_within 7 = .ok (.if_icmp .gt 7, 3) := by decide +kernel
theorem d_Mo_within_10 : decode b_Mo_within 10 = .ok (.iconst 1, 1) := by decide +kernel
theorem d_Mo_within_11 : decode b_Mo_within 11 = .ok (.goto 4, 3) := by decide +kernel
theorem d_Mo_within_14 : decode b_Mo_within 14 = .ok (.iconst 0, 1) := by decide +kernel
theorem d_Mo_within_15 : decode b_Mo_within 15 = .ok (.ireturn, 1) := by decide +kernel
set_option maxHeartbeats 4000000 in
set_option maxRecDepth 100000 in
theorem c_Mo_within (x lo hi : Int32) (zx zl zh : Int) (sz : Nat) (hzx : x.toInt = zx) (hzl : lo.toInt = zl) (hzh : hi.toInt = zh) : fs_I l y_Mo_within (k_Mo_within :: fs_T) { frames := 0, cells := 0, slots := 0, locals := 0 } (dC, dI) vwCl (fs_tys cI cZ cJ cF) [.int x, .int lo, .int hi] [] sz (S := Unit) (fun r _ => ((zl ≤ zx ∧ zx ≤ zh) ∧ r = nI 1) ∨ (¬ (zl ≤ zx ∧ zx ≤ zh) ∧ r = nI 0)) (fun _ => []) 0 0 := by
  refine fs_head (by decide) (Nat.le_of_ble_eq_true rfl) ?_
  intro p e s m below meth c A ls hx hb hr hts hown hlocks hin hml hK hP hD hS hA hAe hsz hl
  have hl : lv_has ls 3 [(0, .int x), (1, .int lo), (2, .int hi)] := hl
  have hown : s.vm.findClass R_Mo = some m.cls := hown
  refine lv_iload_n hx hb d_Mo_within_0 rfl (lv_at hl 0 rfl) ?_
  refine lv_iload_n hx hb d_Mo_within_1 rfl (lv_at hl 1 rfl) ?_
  refine lv_icmp_lt (tgt := 14) hx hb d_Mo_within_2 (by decide) (fun hc2 => ?_) (fun hc2 => ?_)
  · rw [Int32.lt_iff_toInt_lt] at hc2
    refine lv_iconst (v := nI 0) hx hb d_Mo_within_14 (by decide) ?_
    exact fs_zret hx hb hr hlocks hAe hK hS d_Mo_within_15 (by decide) () (by first | exact Or.inl ⟨by omega, rfl⟩ | exact Or.inr ⟨by omega, rfl⟩) hP hD
  rw [Int32.lt_iff_toInt_lt] at hc2
  refine lv_iload_n hx hb d_Mo_within_5 rfl (lv_at hl 0 rfl) ?_
  refine lv_iload_n hx hb d_Mo_within_6 rfl (lv_at hl 2 rfl) ?_
  refine lv_icmp_gt (tgt := 14) hx hb d_Mo_within_7 (by decide) (fun hc7 => ?_) (fun hc7 => ?_)
  · rw [Int32.lt_iff_toInt_lt] at hc7
    refine lv_iconst (v := nI 0) hx hb d_Mo_within_14 (by decide) ?_
    exact fs_zret hx hb hr hlocks hAe hK hS d_Mo_within_15 (by decide) () (by first | exact Or.inl ⟨by omega, rfl⟩ | exact Or.inr ⟨by omega, rfl⟩) hP hD
  rw [Int32.lt_iff_toInt_lt] at hc7
  refine lv_iconst (v := nI 1) hx hb d_Mo_within_10 (by decide) ?_
  refine lv_goto (tgt := 15) hx hb d_Mo_within_11 (by decide) ?_
  exact fs_zret hx hb hr hlocks hAe hK hS d_Mo_within_15 (by decide) () (by first | exact Or.inl ⟨by omega, rfl⟩ | exact Or.inr ⟨by omega, rfl⟩) hP hD

theorem d_Mo_thrown_0 : decode b_Mo_thrown 0 = .ok (.aload_n 0, 1) := by decide +kernel
theorem d_Mo_thrown_1 : decode b_Mo_thrown 1 = .ok (.getfield 47, 3) := by decide +kernel
theorem d_Mo_thrown_4 : decode b_Mo_thrown 4 = .ok (.ireturn, 1) := by decide +kernel
set_option maxHeartbeats 4000000 in
set_option maxRecDepth 100000 in
theorem c_Mo_thrown (mo mop mye mno mnu msz stk mre mce mco xc xa xm xv cnt : Nat) (stp thr : Int32) (sz : Nat)  : fs_I l y_Mo_thrown (k_Mo_thrown :: fs_T) { frames := 0, cells := 0, slots := 0, locals := 0 } (dC, dI) vwCl (fs_tys cI cZ cJ cF) [.ref mo] [(mo, .inr (5, [.ref mop, .ref mye, .ref mno, .ref mnu, .ref msz, .int (nI stk), .ref mre, .ref mce, .ref mco, .ref xc, .ref xa, .ref xm, .ref xv, .int (nI cnt), .int stp, .int thr]))] sz (S := Unit) (fun r _ => r = thr) (fun _ => [(mo, .inr (5, [.ref mop, .ref mye, .ref mno, .ref mnu, .ref msz, .int (nI stk), .ref mre, .ref mce, .ref mco, .ref xc, .ref xa, .ref xm, .ref xv, .int (nI cnt), .int stp, .int thr]))]) 0 0 := by
  refine fs_head (by decide) (Nat.le_of_ble_eq_true rfl) ?_
  intro p e s m below meth c A ls hx hb hr hts hown hlocks hin hml hK hP hD hS hA hAe hsz hl
  have hl : lv_has ls 1 [(0, .ref mo)] := hl
  have hown : s.vm.findClass R_Mo = some m.cls := hown
  refine lv_aload_n hx hb d_Mo_thrown_0 rfl (lv_at hl 0 rfl) ?_
  refine va_get (D := (dC, dI)) (ci := 5) (v := .int thr) (C := R_Mo) (T := T_Mo) (N := 16) hx hb hts uin_Mo hown hK hP 0 rfl rfl 15 (by decide) (hts _ wi_445) (fun _ h9 => h9) rfl d_Mo_thrown_1 ?_
  exact fs_iret hx hb hr hlocks hAe hK hS d_Mo_thrown_4 () (rfl) hP hD

theorem d_Mo_put_0 : decode b_Mo_put 0 = .ok (.bipush 40, 2) := by decide +kernel
theorem d_Mo_put_2 : decode b_Mo_put 2 = .ok (.iload_n 1, 1) := by decide +kernel
theorem d_Mo_put_3 : decode b_Mo_put 3 = .ok (.imul, 1) := by decide +kernel
theorem d_Mo_put_4 : decode b_Mo_put 4 = .ok (.aload_n 0, 1) := by decide +kernel
theorem d_Mo_put_5 : decode b_Mo_put 5 = .ok (.getfield 22, 3) := by decide +kernel
theorem d_Mo_put_8 : decode b_Mo_put 8 = .ok (.iload_n 1, 1) := by decide +kernel
theorem d_Mo_put_9 : decode b_Mo_put 9 = .ok (.iaload, 1) := by decide +kernel
theorem d_Mo_put_10 : decode b_Mo_put 10 = .ok (.iadd, 1) := by decide +kernel
theorem d_Mo_put_11 : decode b_Mo_put 11 = .ok (.istore 6, 2) := by decide +kernel
theorem d_Mo_put_13 : decode b_Mo_put 13 = .ok (.aload_n 0, 1) := by decide +kernel
theorem d_Mo_put_14 : decode b_Mo_put 14 = .ok (.getfield 7, 3) := by decide +kernel
theorem d_Mo_put_17 : decode b_Mo_put 17 = .ok (.iload 6, 2) := by decide +kernel
theorem d_Mo_put_19 : decode b_Mo_put 19 = .ok (.iload_n 2, 1) := by decide +kernel
theorem d_Mo_put_20 : decode b_Mo_put 20 = .ok (.iastore, 1) := by decide +kernel
theorem d_Mo_put_21 : decode b_Mo_put 21 = .ok (.aload_n 0, 1) := by decide +kernel
theorem d_Mo_put_22 : decode b_Mo_put 22 = .ok (.getfield 13, 3) := by decide +kernel
theorem d_Mo_put_25 : decode b_Mo_put 25 = .ok (.iload 6, 2) := by decide +kernel
theorem d_Mo_put_27 : decode b_Mo_put 27 = .ok (.iload_n 3, 1) := by decide +kernel
theorem d_Mo_put_28 : decode b_Mo_put 28 = .ok (.iastore, 1) := by decide +kernel
theorem d_Mo_put_29 : decode b_Mo_put 29 = .ok (.aload_n 0, 1) := by decide +kernel
theorem d_Mo_put_30 : decode b_Mo_put 30 = .ok (.getfield 16, 3) := by decide +kernel
theorem d_Mo_put_33 : decode b_Mo_put 33 = .ok (.iload 6, 2) := by decide +kernel
theorem d_Mo_put_35 : decode b_Mo_put 35 = .ok (.iload 4, 2) := by decide +kernel
theorem d_Mo_put_37 : decode b_Mo_put 37 = .ok (.iastore, 1) := by decide +kernel
theorem d_Mo_put_38 : decode b_Mo_put 38 = .ok (.aload_n 0, 1) := by decide +kernel
theorem d_Mo_put_39 : decode b_Mo_put 39 = .ok (.getfield 19, 3) := by decide +kernel
theorem d_Mo_put_42 : decode b_Mo_put 42 = .ok (.iload 6, 2) := by decide +kernel
theorem d_Mo_put_44 : decode b_Mo_put 44 = .ok (.iload 5, 2) := by decide +kernel
theorem d_Mo_put_46 : decode b_Mo_put 46 = .ok (.iastore, 1) := by decide +kernel
theorem d_Mo_put_47 : decode b_Mo_put 47 = .ok (.aload_n 0, 1) := by decide +kernel
theorem d_Mo_put_48 : decode b_Mo_put 48 = .ok (.getfield 22, 3) := by decide +kernel
theorem d_Mo_put_51 : decode b_Mo_put 51 = .ok (.iload_n 1, 1) := by decide +kernel
theorem d_Mo_put_52 : decode b_Mo_put 52 = .ok (.dup2, 1) := by decide +kernel
theorem d_Mo_put_53 : decode b_Mo_put 53 = .ok (.iaload, 1) := by decide +kernel
theorem d_Mo_put_54 : decode b_Mo_put 54 = .ok (.iconst 1, 1) := by decide +kernel
theorem d_Mo_put_55 : decode b_Mo_put 55 = .ok (.iadd, 1) := by decide +kernel
theorem d_Mo_put_56 : decode b_Mo_put 56 = .ok (.iastore, 1) := by decide +kernel
theorem d_Mo_put_57 : decode b_Mo_put 57 = .ok (.return_, 1) := by decide +kernel
set_option maxHeartbeats 4000000 in
set_option maxRecDepth 100000 in
theorem c_Mo_put (mo mop mye mno mnu msz stk mre mce mco xc xa xm xv cnt : Nat) (stp thr : Int32) (fo fy fn fk zs : Nat → Int32) (f n : Nat) (v1 v2 v3 v4 : Int32) (sz : Nat) (hf : f < 8) (hn : n < 40) (hzs : zs f = nI n) : fs_V l y_Mo_put (k_Mo_put :: fs_T) { frames := 0, cells := 0, slots := 0, locals := 0 } (dC, dI) vwCl (fs_tys cI cZ cJ cF) [.ref mo, .int (nI f), .int v1, .int v2, .int v3, .int v4] [(mo, .inr (5, [.ref mop, .ref mye, .ref mno, .ref mnu, .ref msz, .int (nI stk), .ref mre, .ref mce, .ref mco, .ref xc, .ref xa, .ref xm, .ref xv, .int (nI cnt), .int stp, .int thr])), (mop, .inl (cI, 320, .inl fo)), (mye, .inl (cI, 320, .inl fy)), (mno, .inl (cI, 320, .inl fn)), (mnu, .inl (cI, 320, .inl fk)), (msz, .inl (cI, 8, .inl zs))] sz (S := Unit) (fun _ => True) (fun _ => [(mo, .inr (5, [.ref mop, .ref mye, .ref mno, .ref mnu, .ref msz, .int (nI stk), .ref mre, .ref mce, .ref mco, .ref xc, .ref xa, .ref xm, .ref xv, .int (nI cnt), .int stp, .int thr])), (mop, .inl (cI, 320, .inl (upd fo (40 * f + n) v1))), (mye, .inl (cI, 320, .inl (upd fy (40 * f + n) v2))), (mno, .inl (cI, 320, .inl (upd fn (40 * f + n) v3))), (mnu, .inl (cI, 320, .inl (upd fk (40 * f + n) v4))), (msz, .inl (cI, 8, .inl (upd zs f (nI (n + 1)))))]) 0 0 := by
  refine fs_head (by decide) (Nat.le_of_ble_eq_true rfl) ?_
  intro p e s m below meth c A ls hx hb hr hts hown hlocks hin hml hK hP hD hS hA hAe hsz hl
  have hl : lv_has ls 7 [(0, .ref mo), (1, .int (nI f)), (2, .int v1), (3, .int v2), (4, .int v3), (5, .int v4)] := hl
  have hown : s.vm.findClass R_Mo = some m.cls := hown
  refine lv_bipush (v := nI 40) hx hb d_Mo_put_0 (by decide) ?_
  refine lv_iload_n hx hb d_Mo_put_2 rfl (lv_at hl 1 rfl) ?_
  refine lv_imul hx hb d_Mo_put_3 ?_
  refine fs_eqi (pk_mul _ _) ?_
  refine lv_aload_n hx hb d_Mo_put_4 rfl (lv_at hl 0 rfl) ?_
  refine va_get (D := (dC, dI)) (ci := 5) (v := .ref msz) (C := R_Mo) (T := T_Mo) (N := 16) hx hb hts uin_Mo hown hK hP 0 rfl rfl 4 (by decide) (hts _ wi_434) (fun _ h9 => h9) rfl d_Mo_put_5 ?_
  refine lv_iload_n hx hb d_Mo_put_8 rfl (lv_at hl 1 rfl) ?_
  refine fs_iald (v := nI n) hx hb hK hP 5 0 rfl rfl f rfl (by decide) (by omega) hzs d_Mo_put_9 ?_
  refine lv_iadd hx hb d_Mo_put_10 ?_
  refine fs_eqi (nI_add _ _) ?_
  refine lv_istore hx hb d_Mo_put_11 hl (by decide) (lv' := [(6, .int (nI (40 * f + n))), (0, .ref mo), (1, .int (nI f)), (2, .int v1), (3, .int v2), (4, .int v3), (5, .int v4)]) rfl (fun ls hl => ?_)
  refine lv_aload_n hx hb d_Mo_put_13 rfl (lv_at hl 1 rfl) ?_
  refine va_get (D := (dC, dI)) (ci := 5) (v := .ref mop) (C := R_Mo) (T := T_Mo) (N := 16) hx hb hts uin_Mo hown hK hP 0 rfl rfl 0 (by decide) (hts _ wi_430) (fun _ h9 => h9) rfl d_Mo_put_14 ?_
  refine lv_iload hx hb d_Mo_put_17 (lv_at hl 0 rfl) ?_
  refine lv_iload_n hx hb d_Mo_put_19 rfl (lv_at hl 3 rfl) ?_
  refine fs_iast hx hb hK hP hD hS 1 0 rfl rfl (40 * f + n) rfl (by decide) (by omega) d_Mo_put_20 (fun H locs hP hD hS => ?_)
  have hP : va_P (dC, dI) vwCl [(mo, .inr (5, [.ref mop, .ref mye, .ref mno, .ref mnu, .ref msz, .int (nI stk), .ref mre, .ref mce, .ref mco, .ref xc, .ref xa, .ref xm, .ref xv, .int (nI cnt), .int stp, .int thr])), (mop, .inl (cI, 320, .inl (upd fo (40 * f + n) v1))), (mye, .inl (cI, 320, .inl fy)), (mno, .inl (cI, 320, .inl fn)), (mnu, .inl (cI, 320, .inl fk)), (msz, .inl (cI, 8, .inl zs))] H := hP
  have hD : va_D A [(mo, .inr (5, [.ref mop, .ref mye, .ref mno, .ref mnu, .ref msz, .int (nI stk), .ref mre, .ref mce, .ref mco, .ref xc, .ref xa, .ref xm, .ref xv, .int (nI cnt), .int stp, .int thr])), (mop, .inl (cI, 320, .inl (upd fo (40 * f + n) v1))), (mye, .inl (cI, 320, .inl fy)), (mno, .inl (cI, 320, .inl fn)), (mnu, .inl (cI, 320, .inl fk)), (msz, .inl (cI, 8, .inl zs))] := hD
  refine lv_aload_n hx hb d_Mo_put_21 rfl (lv_at hl 1 rfl) ?_
  refine va_get (D := (dC, dI)) (ci := 5) (v := .ref mye) (C := R_Mo) (T := T_Mo) (N := 16) hx hb hts uin_Mo hown hK hP 0 rfl rfl 1 (by decide) (hts _ wi_431) (fun _ h9 => h9) rfl d_Mo_put_22 ?_
  refine lv_iload hx hb d_Mo_put_25 (lv_at hl 0 rfl) ?_
  refine lv_iload_n hx hb d_Mo_put_27 rfl (lv_at hl 4 rfl) ?_
  refine fs_iast hx hb hK hP hD hS 2 0 rfl rfl (40 * f + n) rfl (by decide) (by omega) d_Mo_put_28 (fun H locs hP hD hS => ?_)
  have hP : va_P (dC, dI) vwCl [(mo, .inr (5, [.ref mop, .ref mye, .ref mno, .ref mnu, .ref msz, .int (nI stk), .ref mre, .ref mce, .ref mco, .ref xc, .ref xa, .ref xm, .ref xv, .int (nI cnt), .int stp, .int thr])), (mop, .inl (cI, 320, .inl (upd fo (40 * f + n) v1))), (mye, .inl (cI, 320, .inl (upd fy (40 * f + n) v2))), (mno, .inl (cI, 320, .inl fn)), (mnu, .inl (cI, 320, .inl fk)), (msz, .inl (cI, 8, .inl zs))] H := hP
  have hD : va_D A [(mo, .inr (5, [.ref mop, .ref mye, .ref mno, .ref mnu, .ref msz, .int (nI stk), .ref mre, .ref mce, .ref mco, .ref xc, .ref xa, .ref xm, .ref xv, .int (nI cnt), .int stp, .int thr])), (mop, .inl (cI, 320, .inl (upd fo (40 * f + n) v1))), (mye, .inl (cI, 320, .inl (upd fy (40 * f + n) v2))), (mno, .inl (cI, 320, .inl fn)), (mnu, .inl (cI, 320, .inl fk)), (msz, .inl (cI, 8, .inl zs))] := hD
  refine lv_aload_n hx hb d_Mo_put_29 rfl (lv_at hl 1 rfl) ?_
  refine va_get (D := (dC, dI)) (ci := 5) (v := .ref mno) (C := R_Mo) (T := T_Mo) (N := 16) hx hb hts uin_Mo hown hK hP 0 rfl rfl 2 (by decide) (hts _ wi_432) (fun _ h9 => h9) rfl d_Mo_put_30 ?_
  refine lv_iload hx hb d_Mo_put_33 (lv_at hl 0 rfl) ?_
  refine lv_iload hx hb d_Mo_put_35 (lv_at hl 5 rfl) ?_
  refine fs_iast hx hb hK hP hD hS 3 0 rfl rfl (40 * f + n) rfl (by decide) (by omega) d_Mo_put_37 (fun H locs hP hD hS => ?_)
  have hP : va_P (dC, dI) vwCl [(mo, .inr (5, [.ref mop, .ref mye, .ref mno, .ref mnu, .ref msz, .int (nI stk), .ref mre, .ref mce, .ref mco, .ref xc, .ref xa, .ref xm, .ref xv, .int (nI cnt), .int stp, .int thr])), (mop, .inl (cI, 320, .inl (upd fo (40 * f + n) v1))), (mye, .inl (cI, 320, .inl (upd fy (40 * f + n) v2))), (mno, .inl (cI, 320, .inl (upd fn (40 * f + n) v3))), (mnu, .inl (cI, 320, .inl fk)), (msz, .inl (cI, 8, .inl zs))] H := hP
  have hD : va_D A [(mo, .inr (5, [.ref mop, .ref mye, .ref mno, .ref mnu, .ref msz, .int (nI stk), .ref mre, .ref mce, .ref mco, .ref xc, .ref xa, .ref xm, .ref xv, .int (nI cnt), .int stp, .int thr])), (mop, .inl (cI, 320, .inl (upd fo (40 * f + n) v1))), (mye, .inl (cI, 320, .inl (upd fy (40 * f + n) v2))), (mno, .inl (cI, 320, .inl (upd fn (40 * f + n) v3))), (mnu, .inl (cI, 320, .inl fk)), (msz, .inl (cI, 8, .inl zs))] := hD
  refine lv_aload_n hx hb d_Mo_put_38 rfl (lv_at hl 1 rfl) ?_
  refine va_get (D := (dC, dI)) (ci := 5) (v := .ref mnu) (C := R_Mo) (T := T_Mo) (N := 16) hx hb hts uin_Mo hown hK hP 0 rfl rfl 3 (by decide) (hts _ wi_433) (fun _ h9 => h9) rfl d_Mo_put_39 ?_
  refine lv_iload hx hb d_Mo_put_42 (lv_at hl 0 rfl) ?_
  refine lv_iload hx hb d_Mo_put_44 (lv_at hl 6 rfl) ?_
  refine fs_iast hx hb hK hP hD hS 4 0 rfl rfl (40 * f + n) rfl (by decide) (by omega) d_Mo_put_46 (fun H locs hP hD hS => ?_)
  have hP : va_P (dC, dI) vwCl [(mo, .inr (5, [.ref mop, .ref mye, .ref mno, .ref mnu, .ref msz, .int (nI stk), .ref mre, .ref mce, .ref mco, .ref xc, .ref xa, .ref xm, .ref xv, .int (nI cnt), .int stp, .int thr])), (mop, .inl (cI, 320, .inl (upd fo (40 * f + n) v1))), (mye, .inl (cI, 320, .inl (upd fy (40 * f + n) v2))), (mno, .inl (cI, 320, .inl (upd fn (40 * f + n) v3))), (mnu, .inl (cI, 320, .inl (upd fk (40 * f + n) v4))), (msz, .inl (cI, 8, .inl zs))] H := hP
  have hD : va_D A [(mo, .inr (5, [.ref mop, .ref mye, .ref mno, .ref mnu, .ref msz, .int (nI stk), .ref mre, .ref mce, .ref mco, .ref xc, .ref xa, .ref xm, .ref xv, .int (nI cnt), .int stp, .int thr])), (mop, .inl (cI, 320, .inl (upd fo (40 * f + n) v1))), (mye, .inl (cI, 320, .inl (upd fy (40 * f + n) v2))), (mno, .inl (cI, 320, .inl (upd fn (40 * f + n) v3))), (mnu, .inl (cI, 320, .inl (upd fk (40 * f + n) v4))), (msz, .inl (cI, 8, .inl zs))] := hD
  refine lv_aload_n hx hb d_Mo_put_47 rfl (lv_at hl 1 rfl) ?_
  refine va_get (D := (dC, dI)) (ci := 5) (v := .ref msz) (C := R_Mo) (T := T_Mo) (N := 16) hx hb hts uin_Mo hown hK hP 0 rfl rfl 4 (by decide) (hts _ wi_434) (fun _ h9 => h9) rfl d_Mo_put_48 ?_
  refine lv_iload_n hx hb d_Mo_put_51 rfl (lv_at hl 2 rfl) ?_
  refine lv_dup2_11 hx hb d_Mo_put_52 rfl rfl ?_
  refine fs_iald (v := nI n) hx hb hK hP 5 0 rfl rfl f rfl (by decide) (by omega) hzs d_Mo_put_53 ?_
  refine lv_iconst (v := nI 1) hx hb d_Mo_put_54 (by decide) ?_
  refine lv_iadd hx hb d_Mo_put_55 ?_
  refine fs_eqi (nI_add _ _) ?_
  refine fs_iast hx hb hK hP hD hS 5 0 rfl rfl f rfl (by decide) (by omega) d_Mo_put_56 (fun H locs hP hD hS => ?_)
  have hP : va_P (dC, dI) vwCl [(mo, .inr (5, [.ref mop, .ref mye, .ref mno, .ref mnu, .ref msz, .int (nI stk), .ref mre, .ref mce, .ref mco, .ref xc, .ref xa, .ref xm, .ref xv, .int (nI cnt), .int stp, .int thr])), (mop, .inl (cI, 320, .inl (upd fo (40 * f + n) v1))), (mye, .inl (cI, 320, .inl (upd fy (40 * f + n) v2))), (mno, .inl (cI, 320, .inl (upd fn (40 * f + n) v3))), (mnu, .inl (cI, 320, .inl (upd fk (40 * f + n) v4))), (msz, .inl (cI, 8, .inl (upd zs f (nI (n + 1)))))] H := hP
  have hD : va_D A [(mo, .inr (5, [.ref mop, .ref mye, .ref mno, .ref mnu, .ref msz, .int (nI stk), .ref mre, .ref mce, .ref mco, .ref xc, .ref xa, .ref xm, .ref xv, .int (nI cnt), .int stp, .int thr])), (mop, .inl (cI, 320, .inl (upd fo (40 * f + n) v1))), (mye, .inl (cI, 320, .inl (upd fy (40 * f + n) v2))), (mno, .inl (cI, 320, .inl (upd fn (40 * f + n) v3))), (mnu, .inl (cI, 320, .inl (upd fk (40 * f + n) v4))), (msz, .inl (cI, 8, .inl (upd zs f (nI (n + 1)))))] := hD
  exact fs_vret hx hb hr hlocks hAe hK hS d_Mo_put_57 () (trivial) hP hD

theorem d_Mo_add_0 : decode b_Mo_add 0 = .ok (.aload_n 0, 1) := by decide +kernel
theorem d_Mo_add_1 : decode b_Mo_add 1 = .ok (.iconst 0, 1) := by decide +kernel
theorem d_Mo_add_2 : decode b_Mo_add 2 = .ok (.putfield 47, 3) := by decide +kernel
theorem d_Mo_add_5 : decode b_Mo_add 5 = .ok (.iload_n 1, 1) := by decide +kernel
theorem d_Mo_add_6 : decode b_Mo_add 6 = .ok (.iconst 0, 1) := by decide +kernel
theorem d_Mo_add_7 : decode b_Mo_add 7 = .ok (.iconst 3, 1) := by decide +kernel
theorem d_Mo_add_8 : decode b_Mo_add 8 = .ok (.invokestatic 51, 3) := by decide +kernel
theorem d_Mo_add_11 : decode b_Mo_add 11 = .ok (.ifCond .eq 36, 3) := by decide +kernel
theorem d_Mo_add_14 : decode b_Mo_add 14 = .ok (.iload_n 2, 1) := by decide +kernel
theorem d_Mo_add_15 : decode b_Mo_add 15 = .ok (.iconst 0, 1) := by decide +kernel
theorem d_Mo_add_16 : decode b_Mo_add 16 = .ok (.bipush 31, 2) := by decide +kernel
theorem d_Mo_add_18 : decode b_Mo_add 18 = .ok (.invokestatic 51, 3) := by decide +kernel
theorem d_Mo_add_21 : decode b_Mo_add 21 = .ok (.ifCond .eq 26, 3) := by decide +kernel
theorem d_Mo_add_24 : decode b_Mo_add 24 = .ok (.iload_n 3, 1) := by decide +kernel
theorem d_Mo_add_25 : decode b_Mo_add 25 = .ok (.iconst 0, 1) := by decide +kernel
theorem d_Mo_add_26 : decode b_Mo_add 26 = .ok (.sipush 255, 3) := by decide +kernel
theorem d_Mo_add_29 : decode b_Mo_add 29 = .ok (.invokestatic 51, 3) := by decide +kernel
theorem d_Mo_add_32 : decode b_Mo_add 32 = .ok (.ifCond .eq 15, 3) := by decide +kernel
theorem d_Mo_add_35 : decode b_Mo_add 35 = .ok (.iload 4, 2) := by decide +kernel
theorem d_Mo_add_37 : decode b_Mo_add 37 = .ok (.iconst 0, 1) := by decide +kernel
theorem d_Mo_add_38 : decode b_Mo_add 38 = .ok (.sipush 255, 3) := by decide +kernel
theorem d_Mo_add_41 : decode b_Mo_add 41 = .ok (.invokestatic 51, 3) := by decide +kernel
theorem d_Mo_add_44 : decode b_Mo_add 44 = .ok (.ifCond .ne 5, 3) := by decide +kernel
theorem d_Mo_add_47 : decode b_Mo_add 47 = .ok (.iconst (-1), 1) := by decide +kernel
theorem d_Mo_add_48 : decode b_Mo_add 48 = .ok (.ireturn, 1) := by decide +kernel
theorem d_Mo_add_49 : decode b_Mo_add 49 = .ok (.aload_n 0, 1) := by decide +kernel
theorem d_Mo_add_50 : decode b_Mo_add 50 = .ok (.getfield 22, 3) := by decide +kernel
theorem d_Mo_add_53 : decode b_Mo_add 53 = .ok (.iload_n 1, 1) := by decide +kernel
theorem d_Mo_add_54 : decode b_Mo_add 54 = .ok (.iaload, 1) := by decide +kernel
theorem d_Mo_add_55 : decode b_Mo_add 55 = .ok (.bipush 40, 2) := by decide +kernel
theorem d_Mo_add_57 : decode b_Mo_add 57 = .ok (.if_icmp .ne 6, 3) := by decide +kernel
theorem d_Mo_add_60 : decode b_Mo_add 60 = .ok (.bipush (-2), 2) := by decide +kernel
theorem d_Mo_add_62 : decode b_Mo_add 62 = .ok (.ireturn, 1) := by decide +kernel
theorem d_Mo_add_63 : decode b_Mo_add 63 = .ok (.aload_n 0, 1) := by decide +kernel
theorem d_Mo_add_64 : decode b_Mo_add 64 = .ok (.iload_n 1, 1) := by decide +kernel
theorem d_Mo_add_65 : decode b_Mo_add 65 = .ok (.iload_n 2, 1) := by decide +kernel
theorem d_Mo_add_66 : decode b_Mo_add 66 = .ok (.iload_n 3, 1) := by decide +kernel
theorem d_Mo_add_67 : decode b_Mo_add 67 = .ok (.iload 4, 2) := by decide +kernel
theorem d_Mo_add_69 : decode b_Mo_add 69 = .ok (.iload 5, 2) := by decide +kernel
theorem d_Mo_add_71 : decode b_Mo_add 71 = .ok (.invokevirtual 55, 3) := by decide +kernel
theorem d_Mo_add_74 : decode b_Mo_add 74 = .ok (.aload_n 0, 1) := by decide +kernel
theorem d_Mo_add_75 : decode b_Mo_add 75 = .ok (.getfield 22, 3) := by decide +kernel
theorem d_Mo_add_78 : decode b_Mo_add 78 = .ok (.iload_n 1, 1) := by decide +kernel
theorem d_Mo_add_79 : decode b_Mo_add 79 = .ok (.iaload, 1) := by decide +kernel
theorem d_Mo_add_80 : decode b_Mo_add 80 = .ok (.iconst 1, 1) := by decide +kernel
theorem d_Mo_add_81 : decode b_Mo_add 81 = .ok (.isub, 1) := by decide +kernel
theorem d_Mo_add_82 : decode b_Mo_add 82 = .ok (.ireturn, 1) := by decide +kernel
set_option maxHeartbeats 4000000 in
set_option maxRecDepth 100000 in
theorem c_Mo_add (mo mop mye mno mnu msz stk mre mce mco xc xa xm xv cnt : Nat) (stp thr : Int32) (fo fy fn fk zs : Nat → Int32) (j len vo vy vn : Nat) (vk : Int32) (sz : Nat) (hj : j < 4) (hvo : vo < 32) (hvy : vy < 256) (hvn : vn < 256) (hlen : len < 40) (hzs : zs j = nI len) : fs_I l y_Mo_add (k_Mo_add :: fs_T) { frames := 1, cells := 0, slots := 0, locals := 26 } (dC, dI) vwCl (fs_tys cI cZ cJ cF) [.ref mo, .int (nI j), .int (nI vo), .int (nI vy), .int (nI vn), .int vk] [(mo, .inr (5, [.ref mop, .ref mye, .ref mno, .ref mnu, .ref msz, .int (nI stk), .ref mre, .ref mce, .ref mco, .ref xc, .ref xa, .ref xm, .ref xv, .int (nI cnt), .int stp, .int thr])), (mop, .inl (cI, 320, .inl fo)), (mye, .inl (cI, 320, .inl fy)), (mno, .inl (cI, 320, .inl fn)), (mnu, .inl (cI, 320, .inl fk)), (msz, .inl (cI, 8, .inl zs))] sz (S := Unit) (fun r _ => r = nI len) (fun _ => [(mo, .inr (5, [.ref mop, .ref mye, .ref mno, .ref mnu, .ref msz, .int (nI stk), .ref mre, .ref mce, .ref mco, .ref xc, .ref xa, .ref xm, .ref xv, .int (nI cnt), .int stp, .int (nI 0)])), (mop, .inl (cI, 320, .inl (upd fo (40 * j + len) (nI vo)))), (mye, .inl (cI, 320, .inl (upd fy (40 * j + len) (nI vy)))), (mno, .inl (cI, 320, .inl (upd fn (40 * j + len) (nI vn)))), (mnu, .inl (cI, 320, .inl (upd fk (40 * j + len) vk))), (msz, .inl (cI, 8, .inl (upd zs j (nI (len + 1)))))]) 0 0 := by
  refine fs_head (by decide) (Nat.le_of_ble_eq_true rfl) ?_
  intro p e s m below meth c A ls hx hb hr hts hown hlocks hin hml hK hP hD hS hA hAe hsz hl
  have hl : lv_has ls 6 [(0, .ref mo), (1, .int (nI j)), (2, .int (nI vo)), (3, .int (nI vy)), (4, .int (nI vn)), (5, .int vk)] := hl
  have hown : s.vm.findClass R_Mo = some m.cls := hown
  refine lv_aload_n hx hb d_Mo_add_0 rfl (lv_at hl 0 rfl) ?_
  refine lv_iconst (v := nI 0) hx hb d_Mo_add_1 (by decide) ?_
  refine va_put (D := (dC, dI)) (ci := 5) (v := .int (nI 0)) (ty := (.int)) (C := R_Mo) (T := T_Mo) (N := 16) hx hb hts uin_Mo t_Mo ok_Mo n_Mo hown hK hP hD hS 0 rfl rfl 15 (by decide) (hts _ wi_445) (fun _ h9 => h9) rfl (by decide +kernel) rfl rfl (Nat.le_of_ble_eq_true rfl) d_Mo_add_2 (fun H locs hP hD hS => ?_)
  have hP : va_P (dC, dI) vwCl [(mo, .inr (5, [.ref mop, .ref mye, .ref mno, .ref mnu, .ref msz, .int (nI stk), .ref mre, .ref mce, .ref mco, .ref xc, .ref xa, .ref xm, .ref xv, .int (nI cnt), .int stp, .int (nI 0)])), (mop, .inl (cI, 320, .inl fo)), (mye, .inl (cI, 320, .inl fy)), (mno, .inl (cI, 320, .inl fn)), (mnu, .inl (cI, 320, .inl fk)), (msz, .inl (cI, 8, .inl zs))] H := hP
  have hD : va_D A [(mo, .inr (5, [.ref mop, .ref mye, .ref mno, .ref mnu, .ref msz, .int (nI stk), .ref mre, .ref mce, .ref mco, .ref xc, .ref xa, .ref xm, .ref xv, .int (nI cnt), .int stp, .int (nI 0)])), (mop, .inl (cI, 320, .inl fo)), (mye, .inl (cI, 320, .inl fy)), (mno, .inl (cI, 320, .inl fn)), (mnu, .inl (cI, 320, .inl fk)), (msz, .inl (cI, 8, .inl zs))] := hD
  refine lv_iload_n hx hb d_Mo_add_5 rfl (lv_at hl 1 rfl) ?_
  refine lv_iconst (v := nI 0) hx hb d_Mo_add_6 (by decide) ?_
  refine lv_iconst (v := nI 3) hx hb d_Mo_add_7 (by decide) ?_
  refine fs_calli (wc := []) (wr := [(mo, .inr (5, [.ref mop, .ref mye, .ref mno, .ref mnu, .ref msz, .int (nI stk), .ref mre, .ref mce, .ref mco, .ref xc, .ref xa, .ref xm, .ref xv, .int (nI cnt), .int stp, .int (nI 0)])), (mop, .inl (cI, 320, .inl fo)), (mye, .inl (cI, 320, .inl fy)), (mno, .inl (cI, 320, .inl fn)), (mnu, .inl (cI, 320, .inl fk)), (msz, .inl (cI, 8, .inl zs))]) [] [0, 1, 2, 3, 4, 5] hP hD hK hS hA rfl rfl rfl (by decide) (fun hPc hDc => va_runS (As := [.int (nI j), .int (nI 0), .int (nI 3)]) (rest := []) ⟨hx, hb, hml, hown, hts⟩ (c_Mo_within (nI j) (nI 0) (nI 3) (((j : Nat) : Int)) (((0 : Nat) : Int)) (((3 : Nat) : Int)) _ (nI_toInt (by omega)) (nI_toInt (by omega)) (nI_toInt (by omega))) (⟨callB_of 3 hts (fs_g kin_Mo_within) rfl rfl rfl (hts _ wi_6) (hts _ wi_488) (by decide +kernel) ⟨Nat.le_of_ble_eq_true rfl, Nat.le_of_ble_eq_true rfl⟩, hts _ wi_489⟩) (fs_preS hPc hK hDc) rfl rfl hl.1 rfl (lv_room (Nat.le_of_ble_eq_true rfl)) d_Mo_add_8 ⟨Nat.le_of_ble_eq_true rfl, Nat.le_of_ble_eq_true rfl⟩) rfl (fun r8 _ H locs hp8 hP hD hS => ?_)
  have hP : va_P (dC, dI) vwCl [(mo, .inr (5, [.ref mop, .ref mye, .ref mno, .ref mnu, .ref msz, .int (nI stk), .ref mre, .ref mce, .ref mco, .ref xc, .ref xa, .ref xm, .ref xv, .int (nI cnt), .int stp, .int (nI 0)])), (mop, .inl (cI, 320, .inl fo)), (mye, .inl (cI, 320, .inl fy)), (mno, .inl (cI, 320, .inl fn)), (mnu, .inl (cI, 320, .inl fk)), (msz, .inl (cI, 8, .inl zs))] H := hP
  have hD : va_D A [(mo, .inr (5, [.ref mop, .ref mye, .ref mno, .ref mnu, .ref msz, .int (nI stk), .ref mre, .ref mce, .ref mco, .ref xc, .ref xa, .ref xm, .ref xv, .int (nI cnt), .int stp, .int (nI 0)])), (mop, .inl (cI, 320, .inl fo)), (mye, .inl (cI, 320, .inl fy)), (mno, .inl (cI, 320, .inl fn)), (mnu, .inl (cI, 320, .inl fk)), (msz, .inl (cI, 8, .inl zs))] := hD
  rcases hp8 with ⟨hc8, rfl⟩ | ⟨hc8, _⟩
  rotate_left
  · exact absurd (by omega) hc8
  refine lv_if_eq (tgt := 47) hx hb d_Mo_add_11 (by decide) (fun hc => absurd hc (by decide)) (fun _ => ?_)
  refine lv_iload_n hx hb d_Mo_add_14 rfl (lv_at hl 2 rfl) ?_
  refine lv_iconst (v := nI 0) hx hb d_Mo_add_15 (by decide) ?_
  refine lv_bipush (v := nI 31) hx hb d_Mo_add_16 (by decide) ?_
  refine fs_calli (wc := []) (wr := [(mo, .inr (5, [.ref mop, .ref mye, .ref mno, .ref mnu, .ref msz, .int (nI stk), .ref mre, .ref mce, .ref mco, .ref xc, .ref xa, .ref xm, .ref xv, .int (nI cnt), .int stp, .int (nI 0)])), (mop, .inl (cI, 320, .inl fo)), (mye, .inl (cI, 320, .inl fy)), (mno, .inl (cI, 320, .inl fn)), (mnu, .inl (cI, 320, .inl fk)), (msz, .inl (cI, 8, .inl zs))]) [] [0, 1, 2, 3, 4, 5] hP hD hK hS hA rfl rfl rfl (by decide) (fun hPc hDc => va_runS (As := [.int (nI vo), .int (nI 0), .int (nI 31)]) (rest := []) ⟨hx, hb, hml, hown, hts⟩ (c_Mo_within (nI vo) (nI 0) (nI 31) (((vo : Nat) : Int)) (((0 : Nat) : Int)) (((31 : Nat) : Int)) _ (nI_toInt (by omega)) (nI_toInt (by omega)) (nI_toInt (by omega))) (⟨callB_of 3 hts (fs_g kin_Mo_within) rfl rfl rfl (hts _ wi_6) (hts _ wi_488) (by decide +kernel) ⟨Nat.le_of_ble_eq_true rfl, Nat.le_of_ble_eq_true rfl⟩, hts _ wi_489⟩) (fs_preS hPc hK hDc) rfl rfl hl.1 rfl (lv_room (Nat.le_of_ble_eq_true rfl)) d_Mo_add_18 ⟨Nat.le_of_ble_eq_true rfl, Nat.le_of_ble_eq_true rfl⟩) rfl (fun r18 _ H locs hp18 hP hD hS => ?_)
  have hP : va_P (dC, dI) vwCl [(mo, .inr (5, [.ref mop, .ref mye, .ref mno, .ref mnu, .ref msz, .int (nI stk), .ref mre, .ref mce, .ref mco, .ref xc, .ref xa, .ref xm, .ref xv, .int (nI cnt), .int stp, .int (nI 0)])), (mop, .inl (cI, 320, .inl fo)), (mye, .inl (cI, 320, .inl fy)), (mno, .inl (cI, 320, .inl fn)), (mnu, .inl (cI, 320, .inl fk)), (msz, .inl (cI, 8, .inl zs))] H := hP
  have hD : va_D A [(mo, .inr (5, [.ref mop, .ref mye, .ref mno, .ref mnu, .ref msz, .int (nI stk), .ref mre, .ref mce, .ref mco, .ref xc, .ref xa, .ref xm, .ref xv, .int (nI cnt), .int stp, .int (nI 0)])), (mop, .inl (cI, 320, .inl fo)), (mye, .inl (cI, 320, .inl fy)), (mno, .inl (cI, 320, .inl fn)), (mnu, .inl (cI, 320, .inl fk)), (msz, .inl (cI, 8, .inl zs))] := hD
  rcases hp18 with ⟨hc18, rfl⟩ | ⟨hc18, _⟩
  rotate_left
  · exact absurd (by omega) hc18
  refine lv_if_eq (tgt := 47) hx hb d_Mo_add_21 (by decide) (fun hc => absurd hc (by decide)) (fun _ => ?_)
  refine lv_iload_n hx hb d_Mo_add_24 rfl (lv_at hl 3 rfl) ?_
  refine lv_iconst (v := nI 0) hx hb d_Mo_add_25 (by decide) ?_
  refine lv_sipush (v := nI 255) hx hb d_Mo_add_26 (by decide) ?_
  refine fs_calli (wc := []) (wr := [(mo, .inr (5, [.ref mop, .ref mye, .ref mno, .ref mnu, .ref msz, .int (nI stk), .ref mre, .ref mce, .ref mco, .ref xc, .ref xa, .ref xm, .ref xv, .int (nI cnt), .int stp, .int (nI 0)])), (mop, .inl (cI, 320, .inl fo)), (mye, .inl (cI, 320, .inl fy)), (mno, .inl (cI, 320, .inl fn)), (mnu, .inl (cI, 320, .inl fk)), (msz, .inl (cI, 8, .inl zs))]) [] [0, 1, 2, 3, 4, 5] hP hD hK hS hA rfl rfl rfl (by decide) (fun hPc hDc => va_runS (As := [.int (nI vy), .int (nI 0), .int (nI 255)]) (rest := []) ⟨hx, hb, hml, hown, hts⟩ (c_Mo_within (nI vy) (nI 0) (nI 255) (((vy : Nat) : Int)) (((0 : Nat) : Int)) (((255 : Nat) : Int)) _ (nI_toInt (by omega)) (nI_toInt (by omega)) (nI_toInt (by omega))) (⟨callB_of 3 hts (fs_g kin_Mo_within) rfl rfl rfl (hts _ wi_6) (hts _ wi_488) (by decide +kernel) ⟨Nat.le_of_ble_eq_true rfl, Nat.le_of_ble_eq_true rfl⟩, hts _ wi_489⟩) (fs_preS hPc hK hDc) rfl rfl hl.1 rfl (lv_room (Nat.le_of_ble_eq_true rfl)) d_Mo_add_29 ⟨Nat.le_of_ble_eq_true rfl, Nat.le_of_ble_eq_true rfl⟩) rfl (fun r29 _ H locs hp29 hP hD hS => ?_)
  have hP : va_P (dC, dI) vwCl [(mo, .inr (5, [.ref mop, .ref mye, .ref mno, .ref mnu, .ref msz, .int (nI stk), .ref mre, .ref mce, .ref mco, .ref xc, .ref xa, .ref xm, .ref xv, .int (nI cnt), .int stp, .int (nI 0)])), (mop, .inl (cI, 320, .inl fo)), (mye, .inl (cI, 320, .inl fy)), (mno, .inl (cI, 320, .inl fn)), (mnu, .inl (cI, 320, .inl fk)), (msz, .inl (cI, 8, .inl zs))] H := hP
  have hD : va_D A [(mo, .inr (5, [.ref mop, .ref mye, .ref mno, .ref mnu, .ref msz, .int (nI stk), .ref mre, .ref mce, .ref mco, .ref xc, .ref xa, .ref xm, .ref xv, .int (nI cnt), .int stp, .int (nI 0)])), (mop, .inl (cI, 320, .inl fo)), (mye, .inl (cI, 320, .inl fy)), (mno, .inl (cI, 320, .inl fn)), (mnu, .inl (cI, 320, .inl fk)), (msz, .inl (cI, 8, .inl zs))] := hD
  rcases hp29 with ⟨hc29, rfl⟩ | ⟨hc29, _⟩
  rotate_left
  · exact absurd (by omega) hc29
  refine lv_if_eq (tgt := 47) hx hb d_Mo_add_32 (by decide) (fun hc => absurd hc (by decide)) (fun _ => ?_)
  refine lv_iload hx hb d_Mo_add_35 (lv_at hl 4 rfl) ?_
  refine lv_iconst (v := nI 0) hx hb d_Mo_add_37 (by decide) ?_
  refine lv_sipush (v := nI 255) hx hb d_Mo_add_38 (by decide) ?_
  refine fs_calli (wc := []) (wr := [(mo, .inr (5, [.ref mop, .ref mye, .ref mno, .ref mnu, .ref msz, .int (nI stk), .ref mre, .ref mce, .ref mco, .ref xc, .ref xa, .ref xm, .ref xv, .int (nI cnt), .int stp, .int (nI 0)])), (mop, .inl (cI, 320, .inl fo)), (mye, .inl (cI, 320, .inl fy)), (mno, .inl (cI, 320, .inl fn)), (mnu, .inl (cI, 320, .inl fk)), (msz, .inl (cI, 8, .inl zs))]) [] [0, 1, 2, 3, 4, 5] hP hD hK hS hA rfl rfl rfl (by decide) (fun hPc hDc => va_runS (As := [.int (nI vn), .int (nI 0), .int (nI 255)]) (rest := []) ⟨hx, hb, hml, hown, hts⟩ (c_Mo_within (nI vn) (nI 0) (nI 255) (((vn : Nat) : Int)) (((0 : Nat) : Int)) (((255 : Nat) : Int)) _ (nI_toInt (by omega)) (nI_toInt (by omega)) (nI_toInt (by omega))) (⟨callB_of 3 hts (fs_g kin_Mo_within) rfl rfl rfl (hts _ wi_6) (hts _ wi_488) (by decide +kernel) ⟨Nat.le_of_ble_eq_true rfl, Nat.le_of_ble_eq_true rfl⟩, hts _ wi_489⟩) (fs_preS hPc hK hDc) rfl rfl hl.1 rfl (lv_room (Nat.le_of_ble_eq_true rfl)) d_Mo_add_41 ⟨Nat.le_of_ble_eq_true rfl, Nat.le_of_ble_eq_true rfl⟩) rfl (fun r41 _ H locs hp41 hP hD hS => ?_)
  have hP : va_P (dC, dI) vwCl [(mo, .inr (5, [.ref mop, .ref mye, .ref mno, .ref mnu, .ref msz, .int (nI stk), .ref mre, .ref mce, .ref mco, .ref xc, .ref xa, .ref xm, .ref xv, .int (nI cnt), .int stp, .int (nI 0)])), (mop, .inl (cI, 320, .inl fo)), (mye, .inl (cI, 320, .inl fy)), (mno, .inl (cI, 320, .inl fn)), (mnu, .inl (cI, 320, .inl fk)), (msz, .inl (cI, 8, .inl zs))] H := hP
  have hD : va_D A [(mo, .inr (5, [.ref mop, .ref mye, .ref mno, .ref mnu, .ref msz, .int (nI stk), .ref mre, .ref mce, .ref mco, .ref xc, .ref xa, .ref xm, .ref xv, .int (nI cnt), .int stp, .int (nI 0)])), (mop, .inl (cI, 320, .inl fo)), (mye, .inl (cI, 320, .inl fy)), (mno, .inl (cI, 320, .inl fn)), (mnu, .inl (cI, 320, .inl fk)), (msz, .inl (cI, 8, .inl zs))] := hD
  rcases hp41 with ⟨hc41, rfl⟩ | ⟨hc41, _⟩
  rotate_left
  · exact absurd (by omega) hc41
  refine lv_if_ne (tgt := 49) hx hb d_Mo_add_44 (by decide) (fun _ => ?_) (fun hc => absurd hc (by decide))
  refine lv_aload_n hx hb d_Mo_add_49 rfl (lv_at hl 0 rfl) ?_
  refine va_get (D := (dC, dI)) (ci := 5) (v := .ref msz) (C := R_Mo) (T := T_Mo) (N := 16) hx hb hts uin_Mo hown hK hP 0 rfl rfl 4 (by decide) (hts _ wi_434) (fun _ h9 => h9) rfl d_Mo_add_50 ?_
  refine lv_iload_n hx hb d_Mo_add_53 rfl (lv_at hl 1 rfl) ?_
  refine fs_iald (v := nI len) hx hb hK hP 5 0 rfl rfl j rfl (by decide) (by omega) hzs d_Mo_add_54 ?_
  refine lv_bipush (v := nI 40) hx hb d_Mo_add_55 (by decide) ?_
  refine lv_icmp_ne (tgt := 63) hx hb d_Mo_add_57 (by decide) (fun hc57 => ?_) (fun hc57 => absurd hc57 (by rw [nI_eq (by omega) (by omega)]; omega))
  rw [nI_eq (by omega) (by omega)] at hc57
  refine lv_aload_n hx hb d_Mo_add_63 rfl (lv_at hl 0 rfl) ?_
  refine lv_iload_n hx hb d_Mo_add_64 rfl (lv_at hl 1 rfl) ?_
  refine lv_iload_n hx hb d_Mo_add_65 rfl (lv_at hl 2 rfl) ?_
  refine lv_iload_n hx hb d_Mo_add_66 rfl (lv_at hl 3 rfl) ?_
  refine lv_iload hx hb d_Mo_add_67 (lv_at hl 4 rfl) ?_
  refine lv_iload hx hb d_Mo_add_69 (lv_at hl 5 rfl) ?_
  refine fs_callv (wc := [(mo, .inr (5, [.ref mop, .ref mye, .ref mno, .ref mnu, .ref msz, .int (nI stk), .ref mre, .ref mce, .ref mco, .ref xc, .ref xa, .ref xm, .ref xv, .int (nI cnt), .int stp, .int (nI 0)])), (mop, .inl (cI, 320, .inl fo)), (mye, .inl (cI, 320, .inl fy)), (mno, .inl (cI, 320, .inl fn)), (mnu, .inl (cI, 320, .inl fk)), (msz, .inl (cI, 8, .inl zs))]) (wr := []) [0, 1, 2, 3, 4, 5] [] hP hD hK hS hA rfl rfl rfl (by decide) (fun hPc hDc => va_runV (C := R_Mo) (As := [.int (nI j), .int (nI vo), .int (nI vy), .int (nI vn), .int vk]) (rest := []) ⟨hx, hb, hml, hown, hts⟩ (c_Mo_put mo mop mye mno mnu msz stk mre mce mco xc xa xm xv cnt stp (nI 0) fo fy fn fk zs j len (nI vo) (nI vy) (nI vn) vk _ (by omega) (by omega) (hzs)) (⟨callB_of 5 hts (fs_g kin_Mo_put) rfl rfl rfl (hts _ wi_6) (hts _ wi_491) (by decide +kernel) ⟨Nat.le_of_ble_eq_true rfl, Nat.le_of_ble_eq_true rfl⟩, hts _ wi_493, hts _ sel_Mo_put⟩) (fs_preV (q0 := 0) rfl rfl hPc hK hDc) rfl rfl hl.1 rfl (lv_room (Nat.le_of_ble_eq_true rfl)) d_Mo_add_71 ⟨Nat.le_of_ble_eq_true rfl, Nat.le_of_ble_eq_true rfl⟩) rfl (fun _ H locs hp71 hP hD hS => ?_)
  have hP : va_P (dC, dI) vwCl [(mo, .inr (5, [.ref mop, .ref mye, .ref mno, .ref mnu, .ref msz, .int (nI stk), .ref mre, .ref mce, .ref mco, .ref xc, .ref xa, .ref xm, .ref xv, .int (nI cnt), .int stp, .int (nI 0)])), (mop, .inl (cI, 320, .inl (upd fo (40 * j + len) (nI vo)))), (mye, .inl (cI, 320, .inl (upd fy (40 * j + len) (nI vy)))), (mno, .inl (cI, 320, .inl (upd fn (40 * j + len) (nI vn)))), (mnu, .inl (cI, 320, .inl (upd fk (40 * j + len) vk))), (msz, .inl (cI, 8, .inl (upd zs j (nI (len + 1)))))] H := hP
  have hD : va_D A [(mo, .inr (5, [.ref mop, .ref mye, .ref mno, .ref mnu, .ref msz, .int (nI stk), .ref mre, .ref mce, .ref mco, .ref xc, .ref xa, .ref xm, .ref xv, .int (nI cnt), .int stp, .int (nI 0)])), (mop, .inl (cI, 320, .inl (upd fo (40 * j + len) (nI vo)))), (mye, .inl (cI, 320, .inl (upd fy (40 * j + len) (nI vy)))), (mno, .inl (cI, 320, .inl (upd fn (40 * j + len) (nI vn)))), (mnu, .inl (cI, 320, .inl (upd fk (40 * j + len) vk))), (msz, .inl (cI, 8, .inl (upd zs j (nI (len + 1)))))] := hD
  refine lv_aload_n hx hb d_Mo_add_74 rfl (lv_at hl 0 rfl) ?_
  refine va_get (D := (dC, dI)) (ci := 5) (v := .ref msz) (C := R_Mo) (T := T_Mo) (N := 16) hx hb hts uin_Mo hown hK hP 0 rfl rfl 4 (by decide) (hts _ wi_434) (fun _ h9 => h9) rfl d_Mo_add_75 ?_
  refine lv_iload_n hx hb d_Mo_add_78 rfl (lv_at hl 1 rfl) ?_
  refine fs_iald (v := nI (len + 1)) hx hb hK hP 5 0 rfl rfl j rfl (by decide) (by omega) (if_pos rfl) d_Mo_add_79 ?_
  refine lv_iconst (v := nI 1) hx hb d_Mo_add_80 (by decide) ?_
  refine lv_isub hx hb d_Mo_add_81 ?_
  refine fs_eqi (pk_sub (by omega)) ?_
  exact fs_iret hx hb hr hlocks hAe hK hS d_Mo_add_82 () (rfl) hP hD

set_option maxHeartbeats 4000000 in
set_option maxRecDepth 100000 in
theorem c_Mo_addF (mo mop mye mno mnu msz stk mre mce mco xc xa xm xv cnt : Nat) (stp thr : Int32) (zs : Nat → Int32) (j vo vy vn : Nat) (vk : Int32) (sz : Nat) (hj : j < 4) (hvo : vo < 32) (hvy : vy < 256) (hvn : vn < 256) (hzs : zs j = nI 40) : fs_I l y_Mo_add (k_Mo_add :: fs_T) { frames := 1, cells := 0, slots := 0, locals := 26 } (dC, dI) vwCl (fs_tys cI cZ cJ cF) [.ref mo, .int (nI j), .int (nI vo), .int (nI vy), .int (nI vn), .int vk] [(mo, .inr (5, [.ref mop, .ref mye, .ref mno, .ref mnu, .ref msz, .int (nI stk), .ref mre, .ref mce, .ref mco, .ref xc, .ref xa, .ref xm, .ref xv, .int (nI cnt), .int stp, .int thr])), (msz, .inl (cI, 8, .inl zs))] sz (S := Unit) (fun r _ => r = (-2)) (fun _ => [(mo, .inr (5, [.ref mop, .ref mye, .ref mno, .ref mnu, .ref msz, .int (nI stk), .ref mre, .ref mce, .ref mco, .ref xc, .ref xa, .ref xm, .ref xv, .int (nI cnt), .int stp, .int (nI 0)])), (msz, .inl (cI, 8, .inl zs))]) 0 0 := by
  refine fs_head (by decide) (Nat.le_of_ble_eq_true rfl) ?_
  intro p e s m below meth c A ls hx hb hr hts hown hlocks hin hml hK hP hD hS hA hAe hsz hl
  have hl : lv_has ls 6 [(0, .ref mo), (1, .int (nI j)), (2, .int (nI vo)), (3, .int (nI vy)), (4, .int (nI vn)), (5, .int vk)] := hl
  have hown : s.vm.findClass R_Mo = some m.cls := hown
  refine lv_aload_n hx hb d_Mo_add_0 rfl (lv_at hl 0 rfl) ?_
  refine lv_iconst (v := nI 0) hx hb d_Mo_add_1 (by decide) ?_
  refine va_put (D := (dC, dI)) (ci := 5) (v := .int (nI 0)) (ty := (.int)) (C := R_Mo) (T := T_Mo) (N := 16) hx hb hts uin_Mo t_Mo ok_Mo n_Mo hown hK hP hD hS 0 rfl rfl 15 (by decide) (hts _ wi_445) (fun _ h9 => h9) rfl (by decide +kernel) rfl rfl (Nat.le_of_ble_eq_true rfl) d_Mo_add_2 (fun H locs hP hD hS => ?_)
  have hP : va_P (dC, dI) vwCl [(mo, .inr (5, [.ref mop, .ref mye, .ref mno, .ref mnu, .ref msz, .int (nI stk), .ref mre, .ref mce, .ref mco, .ref xc, .ref xa, .ref xm, .ref xv, .int (nI cnt), .int stp, .int (nI 0)])), (msz, .inl (cI, 8, .inl zs))] H := hP
  have hD : va_D A [(mo, .inr (5, [.ref mop, .ref mye, .ref mno, .ref mnu, .ref msz, .int (nI stk), .ref mre, .ref mce, .ref mco, .ref xc, .ref xa, .ref xm, .ref xv, .int (nI cnt), .int stp, .int (nI 0)])), (msz, .inl (cI, 8, .inl zs))] := hD
  refine lv_iload_n hx hb d_Mo_add_5 rfl (lv_at hl 1 rfl) ?_
  refine lv_iconst (v := nI 0) hx hb d_Mo_add_6 (by decide) ?_
  refine lv_iconst (v := nI 3) hx hb d_Mo_add_7 (by decide) ?_
  refine fs_calli (wc := []) (wr := [(mo, .inr (5, [.ref mop, .ref mye, .ref mno, .ref mnu, .ref msz, .int (nI stk), .ref mre, .ref mce, .ref mco, .ref xc, .ref xa, .ref xm, .ref xv, .int (nI cnt), .int stp, .int (nI 0)])), (msz, .inl (cI, 8, .inl zs))]) [] [0, 1] hP hD hK hS hA rfl rfl rfl (by decide) (fun hPc hDc => va_runS (As := [.int (nI j), .int (nI 0), .int (nI 3)]) (rest := []) ⟨hx, hb, hml, hown, hts⟩ (c_Mo_within (nI j) (nI 0) (nI 3) (((j : Nat) : Int)) (((0 : Nat) : Int)) (((3 : Nat) : Int)) _ (nI_toInt (by omega)) (nI_toInt (by omega)) (nI_toInt (by omega))) (⟨callB_of 3 hts (fs_g kin_Mo_within) rfl rfl rfl (hts _ wi_6) (hts _ wi_488) (by decide +kernel) ⟨Nat.le_of_ble_eq_true rfl, Nat.le_of_ble_eq_true rfl⟩, hts _ wi_489⟩) (fs_preS hPc hK hDc) rfl rfl hl.1 rfl (lv_room (Nat.le_of_ble_eq_true rfl)) d_Mo_add_8 ⟨Nat.le_of_ble_eq_true rfl, Nat.le_of_ble_eq_true rfl⟩) rfl (fun r8 _ H locs hp8 hP hD hS => ?_)
  have hP : va_P (dC, dI) vwCl [(mo, .inr (5, [.ref mop, .ref mye, .ref mno, .ref mnu, .ref msz, .int (nI stk), .ref mre, .ref mce, .ref mco, .ref xc, .ref xa, .ref xm, .ref xv, .int (nI cnt), .int stp, .int (nI 0)])), (msz, .inl (cI, 8, .inl zs))] H := hP
  have hD : va_D A [(mo, .inr (5, [.ref mop, .ref mye, .ref mno, .ref mnu, .ref msz, .int (nI stk), .ref mre, .ref mce, .ref mco, .ref xc, .ref xa, .ref xm, .ref xv, .int (nI cnt), .int stp, .int (nI 0)])), (msz, .inl (cI, 8, .inl zs))] := hD
  rcases hp8 with ⟨hc8, rfl⟩ | ⟨hc8, _⟩
  rotate_left
  · exact absurd (by omega) hc8
  refine lv_if_eq (tgt := 47) hx hb d_Mo_add_11 (by decide) (fun hc => absurd hc (by decide)) (fun _ => ?_)
  refine lv_iload_n hx hb d_Mo_add_14 rfl (lv_at hl 2 rfl) ?_
  refine lv_iconst (v := nI 0) hx hb d_Mo_add_15 (by decide) ?_
  refine lv_bipush (v := nI 31) hx hb d_Mo_add_16 (by decide) ?_
  refine fs_calli (wc := []) (wr := [(mo, .inr (5, [.ref mop, .ref mye, .ref mno, .ref mnu, .ref msz, .int (nI stk), .ref mre, .ref mce, .ref mco, .ref xc, .ref xa, .ref xm, .ref xv, .int (nI cnt), .int stp, .int (nI 0)])), (msz, .inl (cI, 8, .inl zs))]) [] [0, 1] hP hD hK hS hA rfl rfl rfl (by decide) (fun hPc hDc => va_runS (As := [.int (nI vo), .int (nI 0), .int (nI 31)]) (rest := []) ⟨hx, hb, hml, hown, hts⟩ (c_Mo_within (nI vo) (nI 0) (nI 31) (((vo : Nat) : Int)) (((0 : Nat) : Int)) (((31 : Nat) : Int)) _ (nI_toInt (by omega)) (nI_toInt (by omega)) (nI_toInt (by omega))) (⟨callB_of 3 hts (fs_g kin_Mo_within) rfl rfl rfl (hts _ wi_6) (hts _ wi_488) (by decide +kernel) ⟨Nat.le_of_ble_eq_true rfl, Nat.le_of_ble_eq_true rfl⟩, hts _ wi_489⟩) (fs_preS hPc hK hDc) rfl rfl hl.1 rfl (lv_room (Nat.le_of_ble_eq_true rfl)) d_Mo_add_18 ⟨Nat.le_of_ble_eq_true rfl, Nat.le_of_ble_eq_true rfl⟩) rfl (fun r18 _ H locs hp18 hP hD hS => ?_)
  have hP : va_P (dC, dI) vwCl [(mo, .inr (5, [.ref mop, .ref mye, .ref mno, .ref mnu, .ref msz, .int (nI stk), .ref mre, .ref mce, .ref mco, .ref xc, .ref xa, .ref xm, .ref xv, .int (nI cnt), .int stp, .int (nI 0)])), (msz, .inl (cI, 8, .inl zs))] H := hP
  have hD : va_D A [(mo, .inr (5, [.ref mop, .ref mye, .ref mno, .ref mnu, .ref msz, .int (nI stk), .ref mre, .ref mce, .ref mco, .ref xc, .ref xa, .ref xm, .ref xv, .int (nI cnt), .int stp, .int (nI 0)])), (msz, .inl (cI, 8, .inl zs))] := hD
  rcases hp18 with ⟨hc18, rfl⟩ | ⟨hc18, _⟩
  rotate_left
  · exact absurd (by omega) hc18
  refine lv_if_eq (tgt := 47) hx hb d_Mo_add_21 (by decide) (fun hc => absurd hc (by decide)) (fun _ => ?_)
  refine lv_iload_n hx hb d_Mo_add_24 rfl (lv_at hl 3 rfl) ?_
  refine lv_iconst (v := nI 0) hx hb d_Mo_add_25 (by decide) ?_
  refine lv_sipush (v := nI 255) hx hb d_Mo_add_26 (by decide) ?_
  refine fs_calli (wc := []) (wr := [(mo, .inr (5, [.ref mop, .ref mye, .ref mno, .ref mnu, .ref msz, .int (nI stk), .ref mre, .ref mce, .ref mco, .ref xc, .ref xa, .ref xm, .ref xv, .int (nI cnt), .int stp, .int (nI 0)])), (msz, .inl (cI, 8, .inl zs))]) [] [0, 1] hP hD hK hS hA rfl rfl rfl (by decide) (fun hPc hDc => va_runS (As := [.int (nI vy), .int (nI 0), .int (nI 255)]) (rest := []) ⟨hx, hb, hml, hown, hts⟩ (c_Mo_within (nI vy) (nI 0) (nI 255) (((vy : Nat) : Int)) (((0 : Nat) : Int)) (((255 : Nat) : Int)) _ (nI_toInt (by omega)) (nI_toInt (by omega)) (nI_toInt (by omega))) (⟨callB_of 3 hts (fs_g kin_Mo_within) rfl rfl rfl (hts _ wi_6) (hts _ wi_488) (by decide +kernel) ⟨Nat.le_of_ble_eq_true rfl, Nat.le_of_ble_eq_true rfl⟩, hts _ wi_489⟩) (fs_preS hPc hK hDc) rfl rfl hl.1 rfl (lv_room (Nat.le_of_ble_eq_true rfl)) d_Mo_add_29 ⟨Nat.le_of_ble_eq_true rfl, Nat.le_of_ble_eq_true rfl⟩) rfl (fun r29 _ H locs hp29 hP hD hS => ?_)
  have hP : va_P (dC, dI) vwCl [(mo, .inr (5, [.ref mop, .ref mye, .ref mno, .ref mnu, .ref msz, .int (nI stk), .ref mre, .ref mce, .ref mco, .ref xc, .ref xa, .ref xm, .ref xv, .int (nI cnt), .int stp, .int (nI 0)])), (msz, .inl (cI, 8, .inl zs))] H := hP
  have hD : va_D A [(mo, .inr (5, [.ref mop, .ref mye, .ref mno, .ref mnu, .ref msz, .int (nI stk), .ref mre, .ref mce, .ref mco, .ref xc, .ref xa, .ref xm, .ref xv, .int (nI cnt), .int stp, .int (nI 0)])), (msz, .inl (cI, 8, .inl zs))] := hD
  rcases hp29 with ⟨hc29, rfl⟩ | ⟨hc29, _⟩
  rotate_left
  · exact absurd (by omega) hc29
  refine lv_if_eq (tgt := 47) hx hb d_Mo_add_32 (by decide) (fun hc => absurd hc (by decide)) (fun _ => ?_)
  refine lv_iload hx hb d_Mo_add_35 (lv_at hl 4 rfl) ?_
  refine lv_iconst (v := nI 0) hx hb d_Mo_add_37 (by decide) ?_
  refine lv_sipush (v := nI 255) hx hb d_Mo_add_38 (by decide) ?_
  refine fs_calli (wc := []) (wr := [(mo, .inr (5, [.ref mop, .ref mye, .ref mno, .ref mnu, .ref msz, .int (nI stk), .ref mre, .ref mce, .ref mco, .ref xc, .ref xa, .ref xm, .ref xv, .int (nI cnt), .int stp, .int (nI 0)])), (msz, .inl (cI, 8, .inl zs))]) [] [0, 1] hP hD hK hS hA rfl rfl rfl (by decide) (fun hPc hDc => va_runS (As := [.int (nI vn), .int (nI 0), .int (nI 255)]) (rest := []) ⟨hx, hb, hml, hown, hts⟩ (c_Mo_within (nI vn) (nI 0) (nI 255) (((vn : Nat) : Int)) (((0 : Nat) : Int)) (((255 : Nat) : Int)) _ (nI_toInt (by omega)) (nI_toInt (by omega)) (nI_toInt (by omega))) (⟨callB_of 3 hts (fs_g kin_Mo_within) rfl rfl rfl (hts _ wi_6) (hts _ wi_488) (by decide +kernel) ⟨Nat.le_of_ble_eq_true rfl, Nat.le_of_ble_eq_true rfl⟩, hts _ wi_489⟩) (fs_preS hPc hK hDc) rfl rfl hl.1 rfl (lv_room (Nat.le_of_ble_eq_true rfl)) d_Mo_add_41 ⟨Nat.le_of_ble_eq_true rfl, Nat.le_of_ble_eq_true rfl⟩) rfl (fun r41 _ H locs hp41 hP hD hS => ?_)
  have hP : va_P (dC, dI) vwCl [(mo, .inr (5, [.ref mop, .ref mye, .ref mno, .ref mnu, .ref msz, .int (nI stk), .ref mre, .ref mce, .ref mco, .ref xc, .ref xa, .ref xm, .ref xv, .int (nI cnt), .int stp, .int (nI 0)])), (msz, .inl (cI, 8, .inl zs))] H := hP
  have hD : va_D A [(mo, .inr (5, [.ref mop, .ref mye, .ref mno, .ref mnu, .ref msz, .int (nI stk), .ref mre, .ref mce, .ref mco, .ref xc, .ref xa, .ref xm, .ref xv, .int (nI cnt), .int stp, .int (nI 0)])), (msz, .inl (cI, 8, .inl zs))] := hD
  rcases hp41 with ⟨hc41, rfl⟩ | ⟨hc41, _⟩
  rotate_left
  · exact absurd (by omega) hc41
  refine lv_if_ne (tgt := 49) hx hb d_Mo_add_44 (by decide) (fun _ => ?_) (fun hc => absurd hc (by decide))
  refine lv_aload_n hx hb d_Mo_add_49 rfl (lv_at hl 0 rfl) ?_
  refine va_get (D := (dC, dI)) (ci := 5) (v := .ref msz) (C := R_Mo) (T := T_Mo) (N := 16) hx hb hts uin_Mo hown hK hP 0 rfl rfl 4 (by decide) (hts _ wi_434) (fun _ h9 => h9) rfl d_Mo_add_50 ?_
  refine lv_iload_n hx hb d_Mo_add_53 rfl (lv_at hl 1 rfl) ?_
  refine fs_iald (v := nI 40) hx hb hK hP 1 0 rfl rfl j rfl (by decide) (by omega) hzs d_Mo_add_54 ?_
  refine lv_bipush (v := nI 40) hx hb d_Mo_add_55 (by decide) ?_
  refine lv_icmp_ne (tgt := 63) hx hb d_Mo_add_57 (by decide) (fun hc => absurd (by decide) hc) (fun _ => ?_)
  refine lv_bipush (v := (-2)) hx hb d_Mo_add_60 (by decide) ?_
  exact fs_iret hx hb hr hlocks hAe hK hS d_Mo_add_62 () (rfl) hP hD

set_option maxHeartbeats 4000000 in
set_option maxRecDepth 100000 in
theorem c_Mo_addX (mo mop mye mno mnu msz stk mre mce mco xc xa xm xv cnt : Nat) (stp thr : Int32) (f vo vy vn vk : Int32) (sz : Nat) (hbad : ¬ ((∃ j, j < 4 ∧ f = nI j) ∧ 0 ≤ vo.toInt ∧ vo.toInt ≤ 31 ∧ (∃ j, j < 256 ∧ vy = nI j) ∧ (∃ j, j < 256 ∧ vn = nI j))) : fs_I l y_Mo_add (k_Mo_add :: fs_T) { frames := 1, cells := 0, slots := 0, locals := 26 } (dC, dI) vwCl (fs_tys cI cZ cJ cF) [.ref mo, .int f, .int vo, .int vy, .int vn, .int vk] [(mo, .inr (5, [.ref mop, .ref mye, .ref mno, .ref mnu, .ref msz, .int (nI stk), .ref mre, .ref mce, .ref mco, .ref xc, .ref xa, .ref xm, .ref xv, .int (nI cnt), .int stp, .int thr]))] sz (S := Unit) (fun r _ => r = (-1)) (fun _ => [(mo, .inr (5, [.ref mop, .ref mye, .ref mno, .ref mnu, .ref msz, .int (nI stk), .ref mre, .ref mce, .ref mco, .ref xc, .ref xa, .ref xm, .ref xv, .int (nI cnt), .int stp, .int (nI 0)]))]) 0 0 := by
  refine fs_head (by decide) (Nat.le_of_ble_eq_true rfl) ?_
  intro p e s m below meth c A ls hx hb hr hts hown hlocks hin hml hK hP hD hS hA hAe hsz hl
  have hl : lv_has ls 6 [(0, .ref mo), (1, .int f), (2, .int vo), (3, .int vy), (4, .int vn), (5, .int vk)] := hl
  have hown : s.vm.findClass R_Mo = some m.cls := hown
  refine lv_aload_n hx hb d_Mo_add_0 rfl (lv_at hl 0 rfl) ?_
  refine lv_iconst (v := nI 0) hx hb d_Mo_add_1 (by decide) ?_
  refine va_put (D := (dC, dI)) (ci := 5) (v := .int (nI 0)) (ty := (.int)) (C := R_Mo) (T := T_Mo) (N := 16) hx hb hts uin_Mo t_Mo ok_Mo n_Mo hown hK hP hD hS 0 rfl rfl 15 (by decide) (hts _ wi_445) (fun _ h9 => h9) rfl (by decide +kernel) rfl rfl (Nat.le_of_ble_eq_true rfl) d_Mo_add_2 (fun H locs hP hD hS => ?_)
  have hP : va_P (dC, dI) vwCl [(mo, .inr (5, [.ref mop, .ref mye, .ref mno, .ref mnu, .ref msz, .int (nI stk), .ref mre, .ref mce, .ref mco, .ref xc, .ref xa, .ref xm, .ref xv, .int (nI cnt), .int stp, .int (nI 0)]))] H := hP
  have hD : va_D A [(mo, .inr (5, [.ref mop, .ref mye, .ref mno, .ref mnu, .ref msz, .int (nI stk), .ref mre, .ref mce, .ref mco, .ref xc, .ref xa, .ref xm, .ref xv, .int (nI cnt), .int stp, .int (nI 0)]))] := hD
  refine lv_iload_n hx hb d_Mo_add_5 rfl (lv_at hl 1 rfl) ?_
  refine lv_iconst (v := nI 0) hx hb d_Mo_add_6 (by decide) ?_
  refine lv_iconst (v := nI 3) hx hb d_Mo_add_7 (by decide) ?_
  refine fs_calli (wc := []) (wr := [(mo, .inr (5, [.ref mop, .ref mye, .ref mno, .ref mnu, .ref msz, .int (nI stk), .ref mre, .ref mce, .ref mco, .ref xc, .ref xa, .ref xm, .ref xv, .int (nI cnt), .int stp, .int (nI 0)]))]) [] [0] hP hD hK hS hA rfl rfl rfl (by decide) (fun hPc hDc => va_runS (As := [.int f, .int (nI 0), .int (nI 3)]) (rest := []) ⟨hx, hb, hml, hown, hts⟩ (c_Mo_within f (nI 0) (nI 3) (f.toInt) (((0 : Nat) : Int)) (((3 : Nat) : Int)) _ (rfl) (nI_toInt (by omega)) (nI_toInt (by omega))) (⟨callB_of 3 hts (fs_g kin_Mo_within) rfl rfl rfl (hts _ wi_6) (hts _ wi_488) (by decide +kernel) ⟨Nat.le_of_ble_eq_true rfl, Nat.le_of_ble_eq_true rfl⟩, hts _ wi_489⟩) (fs_preS hPc hK hDc) rfl rfl hl.1 rfl (lv_room (Nat.le_of_ble_eq_true rfl)) d_Mo_add_8 ⟨Nat.le_of_ble_eq_true rfl, Nat.le_of_ble_eq_true rfl⟩) rfl (fun r8 _ H locs hp8 hP hD hS => ?_)
  have hP : va_P (dC, dI) vwCl [(mo, .inr (5, [.ref mop, .ref mye, .ref mno, .ref mnu, .ref msz, .int (nI stk), .ref mre, .ref mce, .ref mco, .ref xc, .ref xa, .ref xm, .ref xv, .int (nI cnt), .int stp, .int (nI 0)]))] H := hP
  have hD : va_D A [(mo, .inr (5, [.ref mop, .ref mye, .ref mno, .ref mnu, .ref msz, .int (nI stk), .ref mre, .ref mce, .ref mco, .ref xc, .ref xa, .ref xm, .ref xv, .int (nI cnt), .int stp, .int (nI 0)]))] := hD
  rcases hp8 with ⟨hc8, rfl⟩ | ⟨hc8, rfl⟩
  · refine lv_if_eq (tgt := 47) hx hb d_Mo_add_11 (by decide) (fun hc => absurd hc (by decide)) (fun _ => ?_)
    refine lv_iload_n hx hb d_Mo_add_14 rfl (lv_at hl 2 rfl) ?_
    refine lv_iconst (v := nI 0) hx hb d_Mo_add_15 (by decide) ?_
    refine lv_bipush (v := nI 31) hx hb d_Mo_add_16 (by decide) ?_
    refine fs_calli (wc := []) (wr := [(mo, .inr (5, [.ref mop, .ref mye, .ref mno, .ref mnu, .ref msz, .int (nI stk), .ref mre, .ref mce, .ref mco, .ref xc, .ref xa, .ref xm, .ref xv, .int (nI cnt), .int stp, .int (nI 0)]))]) [] [0] hP hD hK hS hA rfl rfl rfl (by decide) (fun hPc hDc => va_runS (As := [.int vo, .int (nI 0), .int (nI 31)]) (rest := []) ⟨hx, hb, hml, hown, hts⟩ (c_Mo_within vo (nI 0) (nI 31) (vo.toInt) (((0 : Nat) : Int)) (((31 : Nat) : Int)) _ (rfl) (nI_toInt (by omega)) (nI_toInt (by omega))) (⟨callB_of 3 hts (fs_g kin_Mo_within) rfl rfl rfl (hts _ wi_6) (hts _ wi_488) (by decide +kernel) ⟨Nat.le_of_ble_eq_true rfl, Nat.le_of_ble_eq_true rfl⟩, hts _ wi_489⟩) (fs_preS hPc hK hDc) rfl rfl hl.1 rfl (lv_room (Nat.le_of_ble_eq_true rfl)) d_Mo_add_18 ⟨Nat.le_of_ble_eq_true rfl, Nat.le_of_ble_eq_true rfl⟩) rfl (fun r18 _ H locs hp18 hP hD hS => ?_)
    have hP : va_P (dC, dI) vwCl [(mo, .inr (5, [.ref mop, .ref mye, .ref mno, .ref mnu, .ref msz, .int (nI stk), .ref mre, .ref mce, .ref mco, .ref xc, .ref xa, .ref xm, .ref xv, .int (nI cnt), .int stp, .int (nI 0)]))] H := hP
    have hD : va_D A [(mo, .inr (5, [.ref mop, .ref mye, .ref mno, .ref mnu, .ref msz, .int (nI stk), .ref mre, .ref mce, .ref mco, .ref xc, .ref xa, .ref xm, .ref xv, .int (nI cnt), .int stp, .int (nI 0)]))] := hD
    rcases hp18 with ⟨hc18, rfl⟩ | ⟨hc18, rfl⟩
    · refine lv_if_eq (tgt := 47) hx hb d_Mo_add_21 (by decide) (fun hc => absurd hc (by decide)) (fun _ => ?_)
      refine lv_iload_n hx hb d_Mo_add_24 rfl (lv_at hl 3 rfl) ?_
      refine lv_iconst (v := nI 0) hx hb d_Mo_add_25 (by decide) ?_
      refine lv_sipush (v := nI 255) hx hb d_Mo_add_26 (by decide) ?_
      refine fs_calli (wc := []) (wr := [(mo, .inr (5, [.ref mop, .ref mye, .ref mno, .ref mnu, .ref msz, .int (nI stk), .ref mre, .ref mce, .ref mco, .ref xc, .ref xa, .ref xm, .ref xv, .int (nI cnt), .int stp, .int (nI 0)]))]) [] [0] hP hD hK hS hA rfl rfl rfl (by decide) (fun hPc hDc => va_runS (As := [.int vy, .int (nI 0), .int (nI 255)]) (rest := []) ⟨hx, hb, hml, hown, hts⟩ (c_Mo_within vy (nI 0) (nI 255) (vy.toInt) (((0 : Nat) : Int)) (((255 : Nat) : Int)) _ (rfl) (nI_toInt (by omega)) (nI_toInt (by omega))) (⟨callB_of 3 hts (fs_g kin_Mo_within) rfl rfl rfl (hts _ wi_6) (hts _ wi_488) (by decide +kernel) ⟨Nat.le_of_ble_eq_true rfl, Nat.le_of_ble_eq_true rfl⟩, hts _ wi_489⟩) (fs_preS hPc hK hDc) rfl rfl hl.1 rfl (lv_room (Nat.le_of_ble_eq_true rfl)) d_Mo_add_29 ⟨Nat.le_of_ble_eq_true rfl, Nat.le_of_ble_eq_true rfl⟩) rfl (fun r29 _ H locs hp29 hP hD hS => ?_)
      have hP : va_P (dC, dI) vwCl [(mo, .inr (5, [.ref mop, .ref mye, .ref mno, .ref mnu, .ref msz, .int (nI stk), .ref mre, .ref mce, .ref mco, .ref xc, .ref xa, .ref xm, .ref xv, .int (nI cnt), .int stp, .int (nI 0)]))] H := hP
      have hD : va_D A [(mo, .inr (5, [.ref mop, .ref mye, .ref mno, .ref mnu, .ref msz, .int (nI stk), .ref mre, .ref mce, .ref mco, .ref xc, .ref xa, .ref xm, .ref xv, .int (nI cnt), .int stp, .int (nI 0)]))] := hD
      rcases hp29 with ⟨hc29, rfl⟩ | ⟨hc29, rfl⟩
      · refine lv_if_eq (tgt := 47) hx hb d_Mo_add_32 (by decide) (fun hc => absurd hc (by decide)) (fun _ => ?_)
        refine lv_iload hx hb d_Mo_add_35 (lv_at hl 4 rfl) ?_
        refine lv_iconst (v := nI 0) hx hb d_Mo_add_37 (by decide) ?_
        refine lv_sipush (v := nI 255) hx hb d_Mo_add_38 (by decide) ?_
        refine fs_calli (wc := []) (wr := [(mo, .inr (5, [.ref mop, .ref mye, .ref mno, .ref mnu, .ref msz, .int (nI stk), .ref mre, .ref mce, .ref mco, .ref xc, .ref xa, .ref xm, .ref xv, .int (nI cnt), .int stp, .int (nI 0)]))]) [] [0] hP hD hK hS hA rfl rfl rfl (by decide) (fun hPc hDc => va_runS (As := [.int vn, .int (nI 0), .int (nI 255)]) (rest := []) ⟨hx, hb, hml, hown, hts⟩ (c_Mo_within vn (nI 0) (nI 255) (vn.toInt) (((0 : Nat) : Int)) (((255 : Nat) : Int)) _ (rfl) (nI_toInt (by omega)) (nI_toInt (by omega))) (⟨callB_of 3 hts (fs_g kin_Mo_within) rfl rfl rfl (hts _ wi_6) (hts _ wi_488) (by decide +kernel) ⟨Nat.le_of_ble_eq_true rfl, Nat.le_of_ble_eq_true rfl⟩, hts _ wi_489⟩) (fs_preS hPc hK hDc) rfl rfl hl.1 rfl (lv_room (Nat.le_of_ble_eq_true rfl)) d_Mo_add_41 ⟨Nat.le_of_ble_eq_true rfl, Nat.le_of_ble_eq_true rfl⟩) rfl (fun r41 _ H locs hp41 hP hD hS => ?_)
        have hP : va_P (dC, dI) vwCl [(mo, .inr (5, [.ref mop, .ref mye, .ref mno, .ref mnu, .ref msz, .int (nI stk), .ref mre, .ref mce, .ref mco, .ref xc, .ref xa, .ref xm, .ref xv, .int (nI cnt), .int stp, .int (nI 0)]))] H := hP
        have hD : va_D A [(mo, .inr (5, [.ref mop, .ref mye, .ref mno, .ref mnu, .ref msz, .int (nI stk), .ref mre, .ref mce, .ref mco, .ref xc, .ref xa, .ref xm, .ref xv, .int (nI cnt), .int stp, .int (nI 0)]))] := hD
        rcases hp41 with ⟨hc41, rfl⟩ | ⟨hc41, rfl⟩
        · refine lv_if_ne (tgt := 49) hx hb d_Mo_add_44 (by decide) (fun _ => ?_) (fun hc => absurd hc (by decide))
          exact absurd ⟨fs_of (by decide) (by omega) (by omega), by omega, by omega, fs_of (by decide) (by omega) (by omega), fs_of (by decide) (by omega) (by omega)⟩ hbad
        refine lv_if_ne (tgt := 49) hx hb d_Mo_add_44 (by decide) (fun hc => absurd (by decide) hc) (fun _ => ?_)
        refine lv_iconst (v := (-1)) hx hb d_Mo_add_47 (by decide) ?_
        exact fs_iret hx hb hr hlocks hAe hK hS d_Mo_add_48 () (rfl) hP hD
      refine lv_if_eq (tgt := 47) hx hb d_Mo_add_32 (by decide) (fun _ => ?_) (fun hc => absurd (by decide) hc)
      refine lv_iconst (v := (-1)) hx hb d_Mo_add_47 (by decide) ?_
      exact fs_iret hx hb hr hlocks hAe hK hS d_Mo_add_48 () (rfl) hP hD
    refine lv_if_eq (tgt := 47) hx hb d_Mo_add_21 (by decide) (fun _ => ?_) (fun hc => absurd (by decide) hc)
    refine lv_iconst (v := (-1)) hx hb d_Mo_add_47 (by decide) ?_
    exact fs_iret hx hb hr hlocks hAe hK hS d_Mo_add_48 () (rfl) hP hD
  refine lv_if_eq (tgt := 47) hx hb d_Mo_add_11 (by decide) (fun _ => ?_) (fun hc => absurd (by decide) hc)
  refine lv_iconst (v := (-1)) hx hb d_Mo_add_47 (by decide) ?_
  exact fs_iret hx hb hr hlocks hAe hK hS d_Mo_add_48 () (rfl) hP hD

theorem d_Mo_clear_0 : decode b_Mo_clear 0 = .ok (.aload_n 0, 1) := by decide +kernel
theorem d_Mo_clear_1 : decode b_Mo_clear 1 = .ok (.iconst 0, 1) := by decide +kernel
theorem d_Mo_clear_2 : decode b_Mo_clear 2 = .ok (.putfield 47, 3) := by decide +kernel
theorem d_Mo_clear_5 : decode b_Mo_clear 5 = .ok (.iload_n 1, 1) := by decide +kernel
theorem d_Mo_clear_6 : decode b_Mo_clear 6 = .ok (.iconst 0, 1) := by decide +kernel
theorem d_Mo_clear_7 : decode b_Mo_clear 7 = .ok (.iconst 3, 1) := by decide +kernel
theorem d_Mo_clear_8 : decode b_Mo_clear 8 = .ok (.invokestatic 51, 3) := by decide +kernel
theorem d_Mo_clear_11 : decode b_Mo_clear 11 = .ok (.ifCond .ne 5, 3) := by decide +kernel
theorem d_Mo_clear_14 : decode b_Mo_clear 14 = .ok (.iconst (-1), 1) := by decide +kernel
theorem d_Mo_clear_15 : decode b_Mo_clear 15 = .ok (.ireturn, 1) := by decide +kernel
theorem d_Mo_clear_16 : decode b_Mo_clear 16 = .ok (.aload_n 0, 1) := by decide +kernel
theorem d_Mo_clear_17 : decode b_Mo_clear 17 = .ok (.getfield 22, 3) := by decide +kernel
theorem d_Mo_clear_20 : decode b_Mo_clear 20 = .ok (.iload_n 1, 1) := by decide +kernel
theorem d_Mo_clear_21 : decode b_Mo_clear 21 = .ok (.iaload, 1) := by decide +kernel
theorem d_Mo_clear_22 : decode b_Mo_clear 22 = .ok (.istore_n 2, 1) := by decide +kernel
theorem d_Mo_clear_23 : decode b_Mo_clear 23 = .ok (.aload_n 0, 1) := by decide +kernel
theorem d_Mo_clear_24 : decode b_Mo_clear 24 = .ok (.getfield 22, 3) := by decide +kernel
theorem d_Mo_clear_27 : decode b_Mo_clear 27 = .ok (.iload_n 1, 1) := by decide +kernel
theorem d_Mo_clear_28 : decode b_Mo_clear 28 = .ok (.iconst 0, 1) := by decide +kernel
theorem d_Mo_clear_29 : decode b_Mo_clear 29 = .ok (.iastore, 1) := by decide +kernel
theorem d_Mo_clear_30 : decode b_Mo_clear 30 = .ok (.iload_n 2, 1) := by decide +kernel
theorem d_Mo_clear_31 : decode b_Mo_clear 31 = .ok (.ireturn, 1) := by decide +kernel
set_option maxHeartbeats 4000000 in
set_option maxRecDepth 100000 in
theorem c_Mo_clear (mo mop mye mno mnu msz stk mre mce mco xc xa xm xv cnt : Nat) (stp thr : Int32) (zs : Nat → Int32) (j len : Nat) (sz : Nat) (hj : j < 4) (hzs : zs j = nI len) : fs_I l y_Mo_clear (k_Mo_clear :: fs_T) { frames := 1, cells := 0, slots := 0, locals := 22 } (dC, dI) vwCl (fs_tys cI cZ cJ cF) [.ref mo, .int (nI j)] [(mo, .inr (5, [.ref mop, .ref mye, .ref mno, .ref mnu, .ref msz, .int (nI stk), .ref mre, .ref mce, .ref mco, .ref xc, .ref xa, .ref xm, .ref xv, .int (nI cnt), .int stp, .int thr])), (msz, .inl (cI, 8, .inl zs))] sz (S := Unit) (fun r _ => r = nI len) (fun _ => [(mo, .inr (5, [.ref mop, .ref mye, .ref mno, .ref mnu, .ref msz, .int (nI stk), .ref mre, .ref mce, .ref mco, .ref xc, .ref xa, .ref xm, .ref xv, .int (nI cnt), .int stp, .int (nI 0)])), (msz, .inl (cI, 8, .inl (upd zs j (nI 0))))]) 0 0 := by
  refine fs_head (by decide) (Nat.le_of_ble_eq_true rfl) ?_
  intro p e s m below meth c A ls hx hb hr hts hown hlocks hin hml hK hP hD hS hA hAe hsz hl
  have hl : lv_has ls 3 [(0, .ref mo), (1, .int (nI j))] := hl
  have hown : s.vm.findClass R_Mo = some m.cls := hown
  refine lv_aload_n hx hb d_Mo_clear_0 rfl (lv_at hl 0 rfl) ?_
  refine lv_iconst (v := nI 0) hx hb d_Mo_clear_1 (by decide) ?_
  refine va_put (D := (dC, dI)) (ci := 5) (v := .int (nI 0)) (ty := (.int)) (C := R_Mo) (T := T_Mo) (N := 16) hx hb hts uin_Mo t_Mo ok_Mo n_Mo hown hK hP hD hS 0 rfl rfl 15 (by decide) (hts _ wi_445) (fun _ h9 => h9) rfl (by decide +kernel) rfl rfl (Nat.le_of_ble_eq_true rfl) d_Mo_clear_2 (fun H locs hP hD hS => ?_)
  have hP : va_P (dC, dI) vwCl [(mo, .inr (5, [.ref mop, .ref mye, .ref mno, .ref mnu, .ref msz, .int (nI stk), .ref mre, .ref mce, .ref mco, .ref xc, .ref xa, .ref xm, .ref xv, .int (nI cnt), .int stp, .int (nI 0)])), (msz, .inl (cI, 8, .inl zs))] H := hP
  have hD : va_D A [(mo, .inr (5, [.ref mop, .ref mye, .ref mno, .ref mnu, .ref msz, .int (nI stk), .ref mre, .ref mce, .ref mco, .ref xc, .ref xa, .ref xm, .ref xv, .int (nI cnt), .int stp, .int (nI 0)])), (msz, .inl (cI, 8, .inl zs))] := hD
  refine lv_iload_n hx hb d_Mo_clear_5 rfl (lv_at hl 1 rfl) ?_
  refine lv_iconst (v := nI 0) hx hb d_Mo_clear_6 (by decide) ?_
  refine lv_iconst (v := nI 3) hx hb d_Mo_clear_7 (by decide) ?_
  refine fs_calli (wc := []) (wr := [(mo, .inr (5, [.ref mop, .ref mye, .ref mno, .ref mnu, .ref msz, .int (nI stk), .ref mre, .ref mce, .ref mco, .ref xc, .ref xa, .ref xm, .ref xv, .int (nI cnt), .int stp, .int (nI 0)])), (msz, .inl (cI, 8, .inl zs))]) [] [0, 1] hP hD hK hS hA rfl rfl rfl (by decide) (fun hPc hDc => va_runS (As := [.int (nI j), .int (nI 0), .int (nI 3)]) (rest := []) ⟨hx, hb, hml, hown, hts⟩ (c_Mo_within (nI j) (nI 0) (nI 3) (((j : Nat) : Int)) (((0 : Nat) : Int)) (((3 : Nat) : Int)) _ (nI_toInt (by omega)) (nI_toInt (by omega)) (nI_toInt (by omega))) (⟨callB_of 3 hts (fs_g kin_Mo_within) rfl rfl rfl (hts _ wi_6) (hts _ wi_488) (by decide +kernel) ⟨Nat.le_of_ble_eq_true rfl, Nat.le_of_ble_eq_true rfl⟩, hts _ wi_489⟩) (fs_preS hPc hK hDc) rfl rfl hl.1 rfl (lv_room (Nat.le_of_ble_eq_true rfl)) d_Mo_clear_8 ⟨Nat.le_of_ble_eq_true rfl, Nat.le_of_ble_eq_true rfl⟩) rfl (fun r8 _ H locs hp8 hP hD hS => ?_)
  have hP : va_P (dC, dI) vwCl [(mo, .inr (5, [.ref mop, .ref mye, .ref mno, .ref mnu, .ref msz, .int (nI stk), .ref mre, .ref mce, .ref mco, .ref xc, .ref xa, .ref xm, .ref xv, .int (nI cnt), .int stp, .int (nI 0)])), (msz, .inl (cI, 8, .inl zs))] H := hP
  have hD : va_D A [(mo, .inr (5, [.ref mop, .ref mye, .ref mno, .ref mnu, .ref msz, .int (nI stk), .ref mre, .ref mce, .ref mco, .ref xc, .ref xa, .ref xm, .ref xv, .int (nI cnt), .int stp, .int (nI 0)])), (msz, .inl (cI, 8, .inl zs))] := hD
  rcases hp8 with ⟨hc8, rfl⟩ | ⟨hc8, _⟩
  rotate_left
  · exact absurd (by omega) hc8
  refine lv_if_ne (tgt := 16) hx hb d_Mo_clear_11 (by decide) (fun _ => ?_) (fun hc => absurd hc (by decide))
  refine lv_aload_n hx hb d_Mo_clear_16 rfl (lv_at hl 0 rfl) ?_
  refine va_get (D := (dC, dI)) (ci := 5) (v := .ref msz) (C := R_Mo) (T := T_Mo) (N := 16) hx hb hts uin_Mo hown hK hP 0 rfl rfl 4 (by decide) (hts _ wi_434) (fun _ h9 => h9) rfl d_Mo_clear_17 ?_
  refine lv_iload_n hx hb d_Mo_clear_20 rfl (lv_at hl 1 rfl) ?_
  refine fs_iald (v := nI len) hx hb hK hP 1 0 rfl rfl j rfl (by decide) (by omega) hzs d_Mo_clear_21 ?_
  refine lv_istore_n hx hb d_Mo_clear_22 rfl hl (by decide) (lv' := [(2, .int (nI len)), (0, .ref mo), (1, .int (nI j))]) rfl (fun ls hl => ?_)
  refine lv_aload_n hx hb d_Mo_clear_23 rfl (lv_at hl 1 rfl) ?_
  refine va_get (D := (dC, dI)) (ci := 5) (v := .ref msz) (C := R_Mo) (T := T_Mo) (N := 16) hx hb hts uin_Mo hown hK hP 0 rfl rfl 4 (by decide) (hts _ wi_434) (fun _ h9 => h9) rfl d_Mo_clear_24 ?_
  refine lv_iload_n hx hb d_Mo_clear_27 rfl (lv_at hl 2 rfl) ?_
  refine lv_iconst (v := nI 0) hx hb d_Mo_clear_28 (by decide) ?_
  refine fs_iast hx hb hK hP hD hS 1 0 rfl rfl j rfl (by decide) (by omega) d_Mo_clear_29 (fun H locs hP hD hS => ?_)
  have hP : va_P (dC, dI) vwCl [(mo, .inr (5, [.ref mop, .ref mye, .ref mno, .ref mnu, .ref msz, .int (nI stk), .ref mre, .ref mce, .ref mco, .ref xc, .ref xa, .ref xm, .ref xv, .int (nI cnt), .int stp, .int (nI 0)])), (msz, .inl (cI, 8, .inl (upd zs j (nI 0))))] H := hP
  have hD : va_D A [(mo, .inr (5, [.ref mop, .ref mye, .ref mno, .ref mnu, .ref msz, .int (nI stk), .ref mre, .ref mce, .ref mco, .ref xc, .ref xa, .ref xm, .ref xv, .int (nI cnt), .int stp, .int (nI 0)])), (msz, .inl (cI, 8, .inl (upd zs j (nI 0))))] := hD
  refine lv_iload_n hx hb d_Mo_clear_30 rfl (lv_at hl 0 rfl) ?_
  exact fs_iret hx hb hr hlocks hAe hK hS d_Mo_clear_31 () (rfl) hP hD

theorem d_Mo_size_0 : decode b_Mo_size 0 = .ok (.aload_n 0, 1) := by decide +kernel
theorem d_Mo_size_1 : decode b_Mo_size 1 = .ok (.iconst 0, 1) := by decide +kernel
theorem d_Mo_size_2 : decode b_Mo_size 2 = .ok (.putfield 47, 3) := by decide +kernel
theorem d_Mo_size_5 : decode b_Mo_size 5 = .ok (.iload_n 1, 1) := by decide +kernel
theorem d_Mo_size_6 : decode b_Mo_size 6 = .ok (.iconst 0, 1) := by decide +kernel
theorem d_Mo_size_7 : decode b_Mo_size 7 = .ok (.iconst 3, 1) := by decide +kernel
theorem d_Mo_size_8 : decode b_Mo_size 8 = .ok (.invokestatic 51, 3) := by decide +kernel
theorem d_Mo_size_11 : decode b_Mo_size 11 = .ok (.ifCond .eq 12, 3) := by decide +kernel
theorem d_Mo_size_14 : decode b_Mo_size 14 = .ok (.aload_n 0, 1) := by decide +kernel
theorem d_Mo_size_15 : decode b_Mo_size 15 = .ok (.getfield 22, 3) := by decide +kernel
theorem d_Mo_size_18 : decode b_Mo_size 18 = .ok (.iload_n 1, 1) := by decide +kernel
theorem d_Mo_size_19 : decode b_Mo_size 19 = .ok (.iaload, 1) := by decide +kernel
theorem d_Mo_size_20 : decode b_Mo_size 20 = .ok (.goto 4, 3) := by decide +kernel
theorem d_Mo_size_23 : decode b_Mo_size 23 = .ok (.iconst (-1), 1) := by decide +kernel
theorem d_Mo_size_24 : decode b_Mo_size 24 = .ok (.ireturn, 1) := by decide +kernel
set_option maxHeartbeats 4000000 in
set_option maxRecDepth 100000 in
theorem c_Mo_size (mo mop mye mno mnu msz stk mre mce mco xc xa xm xv cnt : Nat) (stp thr : Int32) (zs : Nat → Int32) (j len : Nat) (sz : Nat) (hj : j < 4) (hzs : zs j = nI len) : fs_I l y_Mo_size (k_Mo_size :: fs_T) { frames := 1, cells := 0, slots := 0, locals := 22 } (dC, dI) vwCl (fs_tys cI cZ cJ cF) [.ref mo, .int (nI j)] [(mo, .inr (5, [.ref mop, .ref mye, .ref mno, .ref mnu, .ref msz, .int (nI stk), .ref mre, .ref mce, .ref mco, .ref xc, .ref xa, .ref xm, .ref xv, .int (nI cnt), .int stp, .int thr])), (msz, .inl (cI, 8, .inl zs))] sz (S := Unit) (fun r _ => r = nI len) (fun _ => [(mo, .inr (5, [.ref mop, .ref mye, .ref mno, .ref mnu, .ref msz, .int (nI stk), .ref mre, .ref mce, .ref mco, .ref xc, .ref xa, .ref xm, .ref xv, .int (nI cnt), .int stp, .int (nI 0)])), (msz, .inl (cI, 8, .inl zs))]) 0 0 := by
  refine fs_head (by decide) (Nat.le_of_ble_eq_true rfl) ?_
  intro p e s m below meth c A ls hx hb hr hts hown hlocks hin hml hK hP hD hS hA hAe hsz hl
  have hl : lv_has ls 2 [(0, .ref mo), (1, .int (nI j))] := hl
  have hown : s.vm.findClass R_Mo = some m.cls := hown
  refine lv_aload_n hx hb d_Mo_size_0 rfl (lv_at hl 0 rfl) ?_
  refine lv_iconst (v := nI 0) hx hb d_Mo_size_1 (by decide) ?_
  refine va_put (D := (dC, dI)) (ci := 5) (v := .int (nI 0)) (ty := (.int)) (C := R_Mo) (T := T_Mo) (N := 16) hx hb hts uin_Mo t_Mo ok_Mo n_Mo hown hK hP hD hS 0 rfl rfl 15 (by decide) (hts _ wi_445) (fun _ h9 => h9) rfl (by decide +kernel) rfl rfl (Nat.le_of_ble_eq_true rfl) d_Mo_size_2 (fun H locs hP hD hS => ?_)
  have hP : va_P (dC, dI) vwCl [(mo, .inr (5, [.ref mop, .ref mye, .ref mno, .ref mnu, .ref msz, .int (nI stk), .ref mre, .ref mce, .ref mco, .ref xc, .ref xa, .ref xm, .ref xv, .int (nI cnt), .int stp, .int (nI 0)])), (msz, .inl (cI, 8, .inl zs))] H := hP
  have hD : va_D A [(mo, .inr (5, [.ref mop, .ref mye, .ref mno, .ref mnu, .ref msz, .int (nI stk), .ref mre, .ref mce, .ref mco, .ref xc, .ref xa, .ref xm, .ref xv, .int (nI cnt), .int stp, .int (nI 0)])), (msz, .inl (cI, 8, .inl zs))] := hD
  refine lv_iload_n hx hb d_Mo_size_5 rfl (lv_at hl 1 rfl) ?_
  refine lv_iconst (v := nI 0) hx hb d_Mo_size_6 (by decide) ?_
  refine lv_iconst (v := nI 3) hx hb d_Mo_size_7 (by decide) ?_
  refine fs_calli (wc := []) (wr := [(mo, .inr (5, [.ref mop, .ref mye, .ref mno, .ref mnu, .ref msz, .int (nI stk), .ref mre, .ref mce, .ref mco, .ref xc, .ref xa, .ref xm, .ref xv, .int (nI cnt), .int stp, .int (nI 0)])), (msz, .inl (cI, 8, .inl zs))]) [] [0, 1] hP hD hK hS hA rfl rfl rfl (by decide) (fun hPc hDc => va_runS (As := [.int (nI j), .int (nI 0), .int (nI 3)]) (rest := []) ⟨hx, hb, hml, hown, hts⟩ (c_Mo_within (nI j) (nI 0) (nI 3) (((j : Nat) : Int)) (((0 : Nat) : Int)) (((3 : Nat) : Int)) _ (nI_toInt (by omega)) (nI_toInt (by omega)) (nI_toInt (by omega))) (⟨callB_of 3 hts (fs_g kin_Mo_within) rfl rfl rfl (hts _ wi_6) (hts _ wi_488) (by decide +kernel) ⟨Nat.le_of_ble_eq_true rfl, Nat.le_of_ble_eq_true rfl⟩, hts _ wi_489⟩) (fs_preS hPc hK hDc) rfl rfl hl.1 rfl (lv_room (Nat.le_of_ble_eq_true rfl)) d_Mo_size_8 ⟨Nat.le_of_ble_eq_true rfl, Nat.le_of_ble_eq_true rfl⟩) rfl (fun r8 _ H locs hp8 hP hD hS => ?_)
  have hP : va_P (dC, dI) vwCl [(mo, .inr (5, [.ref mop, .ref mye, .ref mno, .ref mnu, .ref msz, .int (nI stk), .ref mre, .ref mce, .ref mco, .ref xc, .ref xa, .ref xm, .ref xv, .int (nI cnt), .int stp, .int (nI 0)])), (msz, .inl (cI, 8, .inl zs))] H := hP
  have hD : va_D A [(mo, .inr (5, [.ref mop, .ref mye, .ref mno, .ref mnu, .ref msz, .int (nI stk), .ref mre, .ref mce, .ref mco, .ref xc, .ref xa, .ref xm, .ref xv, .int (nI cnt), .int stp, .int (nI 0)])), (msz, .inl (cI, 8, .inl zs))] := hD
  rcases hp8 with ⟨hc8, rfl⟩ | ⟨hc8, _⟩
  rotate_left
  · exact absurd (by omega) hc8
  refine lv_if_eq (tgt := 23) hx hb d_Mo_size_11 (by decide) (fun hc => absurd hc (by decide)) (fun _ => ?_)
  refine lv_aload_n hx hb d_Mo_size_14 rfl (lv_at hl 0 rfl) ?_
  refine va_get (D := (dC, dI)) (ci := 5) (v := .ref msz) (C := R_Mo) (T := T_Mo) (N := 16) hx hb hts uin_Mo hown hK hP 0 rfl rfl 4 (by decide) (hts _ wi_434) (fun _ h9 => h9) rfl d_Mo_size_15 ?_
  refine lv_iload_n hx hb d_Mo_size_18 rfl (lv_at hl 1 rfl) ?_
  refine fs_iald (v := nI len) hx hb hK hP 1 0 rfl rfl j rfl (by decide) (by omega) hzs d_Mo_size_19 ?_
  refine lv_goto (tgt := 24) hx hb d_Mo_size_20 (by decide) ?_
  exact fs_iret hx hb hr hlocks hAe hK hS d_Mo_size_24 () (rfl) hP hD

set_option maxHeartbeats 4000000 in
set_option maxRecDepth 100000 in
theorem c_Mo_clearX (mo mop mye mno mnu msz stk mre mce mco xc xa xm xv cnt : Nat) (stp thr : Int32) (f : Int32) (sz : Nat) (hf : ∀ j, j < 4 → f ≠ nI j) : fs_I l y_Mo_clear (k_Mo_clear :: fs_T) { frames := 1, cells := 0, slots := 0, locals := 22 } (dC, dI) vwCl (fs_tys cI cZ cJ cF) [.ref mo, .int f] [(mo, .inr (5, [.ref mop, .ref mye, .ref mno, .ref mnu, .ref msz, .int (nI stk), .ref mre, .ref mce, .ref mco, .ref xc, .ref xa, .ref xm, .ref xv, .int (nI cnt), .int stp, .int thr]))] sz (S := Unit) (fun r _ => r = (-1)) (fun _ => [(mo, .inr (5, [.ref mop, .ref mye, .ref mno, .ref mnu, .ref msz, .int (nI stk), .ref mre, .ref mce, .ref mco, .ref xc, .ref xa, .ref xm, .ref xv, .int (nI cnt), .int stp, .int (nI 0)]))]) 0 0 := by
  refine fs_head (by decide) (Nat.le_of_ble_eq_true rfl) ?_
  intro p e s m below meth c A ls hx hb hr hts hown hlocks hin hml hK hP hD hS hA hAe hsz hl
  have hl : lv_has ls 3 [(0, .ref mo), (1, .int f)] := hl
  have hown : s.vm.findClass R_Mo = some m.cls := hown
  refine lv_aload_n hx hb d_Mo_clear_0 rfl (lv_at hl 0 rfl) ?_
  refine lv_iconst (v := nI 0) hx hb d_Mo_clear_1 (by decide) ?_
  refine va_put (D := (dC, dI)) (ci := 5) (v := .int (nI 0)) (ty := (.int)) (C := R_Mo) (T := T_Mo) (N := 16) hx hb hts uin_Mo t_Mo ok_Mo n_Mo hown hK hP hD hS 0 rfl rfl 15 (by decide) (hts _ wi_445) (fun _ h9 => h9) rfl (by decide +kernel) rfl rfl (Nat.le_of_ble_eq_true rfl) d_Mo_clear_2 (fun H locs hP hD hS => ?_)
  have hP : va_P (dC, dI) vwCl [(mo, .inr (5, [.ref mop, .ref mye, .ref mno, .ref mnu, .ref msz, .int (nI stk), .ref mre, .ref mce, .ref mco, .ref xc, .ref xa, .ref xm, .ref xv, .int (nI cnt), .int stp, .int (nI 0)]))] H := hP
  have hD : va_D A [(mo, .inr (5, [.ref mop, .ref mye, .ref mno, .ref mnu, .ref msz, .int (nI stk), .ref mre, .ref mce, .ref mco, .ref xc, .ref xa, .ref xm, .ref xv, .int (nI cnt), .int stp, .int (nI 0)]))] := hD
  refine lv_iload_n hx hb d_Mo_clear_5 rfl (lv_at hl 1 rfl) ?_
  refine lv_iconst (v := nI 0) hx hb d_Mo_clear_6 (by decide) ?_
  refine lv_iconst (v := nI 3) hx hb d_Mo_clear_7 (by decide) ?_
  refine fs_calli (wc := []) (wr := [(mo, .inr (5, [.ref mop, .ref mye, .ref mno, .ref mnu, .ref msz, .int (nI stk), .ref mre, .ref mce, .ref mco, .ref xc, .ref xa, .ref xm, .ref xv, .int (nI cnt), .int stp, .int (nI 0)]))]) [] [0] hP hD hK hS hA rfl rfl rfl (by decide) (fun hPc hDc => va_runS (As := [.int f, .int (nI 0), .int (nI 3)]) (rest := []) ⟨hx, hb, hml, hown, hts⟩ (c_Mo_within f (nI 0) (nI 3) (f.toInt) (((0 : Nat) : Int)) (((3 : Nat) : Int)) _ (rfl) (nI_toInt (by omega)) (nI_toInt (by omega))) (⟨callB_of 3 hts (fs_g kin_Mo_within) rfl rfl rfl (hts _ wi_6) (hts _ wi_488) (by decide +kernel) ⟨Nat.le_of_ble_eq_true rfl, Nat.le_of_ble_eq_true rfl⟩, hts _ wi_489⟩) (fs_preS hPc hK hDc) rfl rfl hl.1 rfl (lv_room (Nat.le_of_ble_eq_true rfl)) d_Mo_clear_8 ⟨Nat.le_of_ble_eq_true rfl, Nat.le_of_ble_eq_true rfl⟩) rfl (fun r8 _ H locs hp8 hP hD hS => ?_)
  have hP : va_P (dC, dI) vwCl [(mo, .inr (5, [.ref mop, .ref mye, .ref mno, .ref mnu, .ref msz, .int (nI stk), .ref mre, .ref mce, .ref mco, .ref xc, .ref xa, .ref xm, .ref xv, .int (nI cnt), .int stp, .int (nI 0)]))] H := hP
  have hD : va_D A [(mo, .inr (5, [.ref mop, .ref mye, .ref mno, .ref mnu, .ref msz, .int (nI stk), .ref mre, .ref mce, .ref mco, .ref xc, .ref xa, .ref xm, .ref xv, .int (nI cnt), .int stp, .int (nI 0)]))] := hD
  rcases hp8 with ⟨hc8, _⟩ | ⟨hc8, rfl⟩
  · obtain ⟨j, hj, e⟩ := fs_of (x := f) (n := 4) (by decide) (by omega) (by omega)
    exact absurd e (hf j hj)
  refine lv_if_ne (tgt := 16) hx hb d_Mo_clear_11 (by decide) (fun hc => absurd (by decide) hc) (fun _ => ?_)
  refine lv_iconst (v := (-1)) hx hb d_Mo_clear_14 (by decide) ?_
  exact fs_iret hx hb hr hlocks hAe hK hS d_Mo_clear_15 () (rfl) hP hD

set_option maxHeartbeats 4000000 in
set_option maxRecDepth 100000 in
theorem c_Mo_sizeX (mo mop mye mno mnu msz stk mre mce mco xc xa xm xv cnt : Nat) (stp thr : Int32) (f : Int32) (sz : Nat) (hf : ∀ j, j < 4 → f ≠ nI j) : fs_I l y_Mo_size (k_Mo_size :: fs_T) { frames := 1, cells := 0, slots := 0, locals := 22 } (dC, dI) vwCl (fs_tys cI cZ cJ cF) [.ref mo, .int f] [(mo, .inr (5, [.ref mop, .ref mye, .ref mno, .ref mnu, .ref msz, .int (nI stk), .ref mre, .ref mce, .ref mco, .ref xc, .ref xa, .ref xm, .ref xv, .int (nI cnt), .int stp, .int thr]))] sz (S := Unit) (fun r _ => r = (-1)) (fun _ => [(mo, .inr (5, [.ref mop, .ref mye, .ref mno, .ref mnu, .ref msz, .int (nI stk), .ref mre, .ref mce, .ref mco, .ref xc, .ref xa, .ref xm, .ref xv, .int (nI cnt), .int stp, .int (nI 0)]))]) 0 0 := by
  refine fs_head (by decide) (Nat.le_of_ble_eq_true rfl) ?_
  intro p e s m below meth c A ls hx hb hr hts hown hlocks hin hml hK hP hD hS hA hAe hsz hl
  have hl : lv_has ls 2 [(0, .ref mo), (1, .int f)] := hl
  have hown : s.vm.findClass R_Mo = some m.cls := hown
  refine lv_aload_n hx hb d_Mo_size_0 rfl (lv_at hl 0 rfl) ?_
  refine lv_iconst (v := nI 0) hx hb d_Mo_size_1 (by decide) ?_
  refine va_put (D := (dC, dI)) (ci := 5) (v := .int (nI 0)) (ty := (.int)) (C := R_Mo) (T := T_Mo) (N := 16) hx hb hts uin_Mo t_Mo ok_Mo n_Mo hown hK hP hD hS 0 rfl rfl 15 (by decide) (hts _ wi_445) (fun _ h9 => h9) rfl (by decide +kernel) rfl rfl (Nat.le_of_ble_eq_true rfl) d_Mo_size_2 (fun H locs hP hD hS => ?_)
  have hP : va_P (dC, dI) vwCl [(mo, .inr (5, [.ref mop, .ref mye, .ref mno, .ref mnu, .ref msz, .int (nI stk), .ref mre, .ref mce, .ref mco, .ref xc, .ref xa, .ref xm, .ref xv, .int (nI cnt), .int stp, .int (nI 0)]))] H := hP
  have hD : va_D A [(mo, .inr (5, [.ref mop, .ref mye, .ref mno, .ref mnu, .ref msz, .int (nI stk), .ref mre, .ref mce, .ref mco, .ref xc, .ref xa, .ref xm, .ref xv, .int (nI cnt), .int stp, .int (nI 0)]))] := hD
  refine lv_iload_n hx hb d_Mo_size_5 rfl (lv_at hl 1 rfl) ?_
  refine lv_iconst (v := nI 0) hx hb d_Mo_size_6 (by decide) ?_
  refine lv_iconst (v := nI 3) hx hb d_Mo_size_7 (by decide) ?_
  refine fs_calli (wc := []) (wr := [(mo, .inr (5, [.ref mop, .ref mye, .ref mno, .ref mnu, .ref msz, .int (nI stk), .ref mre, .ref mce, .ref mco, .ref xc, .ref xa, .ref xm, .ref xv, .int (nI cnt), .int stp, .int (nI 0)]))]) [] [0] hP hD hK hS hA rfl rfl rfl (by decide) (fun hPc hDc => va_runS (As := [.int f, .int (nI 0), .int (nI 3)]) (rest := []) ⟨hx, hb, hml, hown, hts⟩ (c_Mo_within f (nI 0) (nI 3) (f.toInt) (((0 : Nat) : Int)) (((3 : Nat) : Int)) _ (rfl) (nI_toInt (by omega)) (nI_toInt (by omega))) (⟨callB_of 3 hts (fs_g kin_Mo_within) rfl rfl rfl (hts _ wi_6) (hts _ wi_488) (by decide +kernel) ⟨Nat.le_of_ble_eq_true rfl, Nat.le_of_ble_eq_true rfl⟩, hts _ wi_489⟩) (fs_preS hPc hK hDc) rfl rfl hl.1 rfl (lv_room (Nat.le_of_ble_eq_true rfl)) d_Mo_size_8 ⟨Nat.le_of_ble_eq_true rfl, Nat.le_of_ble_eq_true rfl⟩) rfl (fun r8 _ H locs hp8 hP hD hS => ?_)
  have hP : va_P (dC, dI) vwCl [(mo, .inr (5, [.ref mop, .ref mye, .ref mno, .ref mnu, .ref msz, .int (nI stk), .ref mre, .ref mce, .ref mco, .ref xc, .ref xa, .ref xm, .ref xv, .int (nI cnt), .int stp, .int (nI 0)]))] H := hP
  have hD : va_D A [(mo, .inr (5, [.ref mop, .ref mye, .ref mno, .ref mnu, .ref msz, .int (nI stk), .ref mre, .ref mce, .ref mco, .ref xc, .ref xa, .ref xm, .ref xv, .int (nI cnt), .int stp, .int (nI 0)]))] := hD
  rcases hp8 with ⟨hc8, _⟩ | ⟨hc8, rfl⟩
  · obtain ⟨j, hj, e⟩ := fs_of (x := f) (n := 4) (by decide) (by omega) (by omega)
    exact absurd e (hf j hj)
  refine lv_if_eq (tgt := 23) hx hb d_Mo_size_11 (by decide) (fun _ => ?_) (fun hc => absurd (by decide) hc)
  refine lv_iconst (v := (-1)) hx hb d_Mo_size_23 (by decide) ?_
  exact fs_iret hx hb hr hlocks hAe hK hS d_Mo_size_24 () (rfl) hP hD

theorem d_Mo_is_0 : decode b_Mo_is 0 = .ok (.iload_n 1, 1) := by decide +kernel
theorem d_Mo_is_1 : decode b_Mo_is 1 = .ok (.iconst 0, 1) := by decide +kernel
theorem d_Mo_is_2 : decode b_Mo_is 2 = .ok (.iconst 3, 1) := by decide +kernel
theorem d_Mo_is_3 : decode b_Mo_is 3 = .ok (.invokestatic 51, 3) := by decide +kernel
theorem d_Mo_is_6 : decode b_Mo_is 6 = .ok (.ifCond .eq 23, 3) := by decide +kernel
theorem d_Mo_is_9 : decode b_Mo_is 9 = .ok (.iload_n 2, 1) := by decide +kernel
theorem d_Mo_is_10 : decode b_Mo_is 10 = .ok (.iconst 0, 1) := by decide +kernel
theorem d_Mo_is_11 : decode b_Mo_is 11 = .ok (.aload_n 0, 1) := by decide +kernel
theorem d_Mo_is_12 : decode b_Mo_is 12 = .ok (.getfield 22, 3) := by decide +kernel
theorem d_Mo_is_15 : decode b_Mo_is 15 = .ok (.iload_n 1, 1) := by decide +kernel
theorem d_Mo_is_16 : decode b_Mo_is 16 = .ok (.iaload, 1) := by decide +kernel
theorem d_Mo_is_17 : decode b_Mo_is 17 = .ok (.iconst 1, 1) := by decide +kernel
theorem d_Mo_is_18 : decode b_Mo_is 18 = .ok (.isub, 1) := by decide +kernel
theorem d_Mo_is_19 : decode b_Mo_is 19 = .ok (.invokestatic 51, 3) := by decide +kernel
theorem d_Mo_is_22 : decode b_Mo_is 22 = .ok (.ifCond .eq 7, 3) := by decide +kernel
theorem d_Mo_is_25 : decode b_Mo_is 25 = .ok (.iconst 1, 1) := by decide +kernel
theorem d_Mo_is_26 : decode b_Mo_is 26 = .ok (.goto 4, 3) := by decide +kernel
theorem d_Mo_is_29 : decode b_Mo_is 29 = .ok (.iconst 0, 1) := by decide +kernel
theorem d_Mo_is_30 : decode b_Mo_is 30 = .ok (.ireturn, 1) := by decide +kernel
set_option maxHeartbeats 4000000 in
set_option maxRecDepth 100000 in
theorem c_Mo_is (mo mop mye mno mnu msz stk mre mce mco xc xa xm xv cnt : Nat) (stp thr : Int32) (zs : Nat → Int32) (j len t : Nat) (sz : Nat) (hj : j < 4) (hl40 : len ≤ 40) (hzs : zs j = nI len) (ht : t < len) : fs_I l y_Mo_is (k_Mo_is :: fs_T) { frames := 1, cells := 0, slots := 0, locals := 22 } (dC, dI) vwCl (fs_tys cI cZ cJ cF) [.ref mo, .int (nI j), .int (nI t)] [(mo, .inr (5, [.ref mop, .ref mye, .ref mno, .ref mnu, .ref msz, .int (nI stk), .ref mre, .ref mce, .ref mco, .ref xc, .ref xa, .ref xm, .ref xv, .int (nI cnt), .int stp, .int thr])), (msz, .inl (cI, 8, .inl zs))] sz (S := Unit) (fun r _ => r = nI 1) (fun _ => [(mo, .inr (5, [.ref mop, .ref mye, .ref mno, .ref mnu, .ref msz, .int (nI stk), .ref mre, .ref mce, .ref mco, .ref xc, .ref xa, .ref xm, .ref xv, .int (nI cnt), .int stp, .int thr])), (msz, .inl (cI, 8, .inl zs))]) 0 0 := by
  refine fs_head (by decide) (Nat.le_of_ble_eq_true rfl) ?_
  intro p e s m below meth c A ls hx hb hr hts hown hlocks hin hml hK hP hD hS hA hAe hsz hl
  have hl : lv_has ls 3 [(0, .ref mo), (1, .int (nI j)), (2, .int (nI t))] := hl
  have hown : s.vm.findClass R_Mo = some m.cls := hown
  refine lv_iload_n hx hb d_Mo_is_0 rfl (lv_at hl 1 rfl) ?_
  refine lv_iconst (v := nI 0) hx hb d_Mo_is_1 (by decide) ?_
  refine lv_iconst (v := nI 3) hx hb d_Mo_is_2 (by decide) ?_
  refine fs_calli (wc := []) (wr := [(mo, .inr (5, [.ref mop, .ref mye, .ref mno, .ref mnu, .ref msz, .int (nI stk), .ref mre, .ref mce, .ref mco, .ref xc, .ref xa, .ref xm, .ref xv, .int (nI cnt), .int stp, .int thr])), (msz, .inl (cI, 8, .inl zs))]) [] [0, 1] hP hD hK hS hA rfl rfl rfl (by decide) (fun hPc hDc => va_runS (As := [.int (nI j), .int (nI 0), .int (nI 3)]) (rest := []) ⟨hx, hb, hml, hown, hts⟩ (c_Mo_within (nI j) (nI 0) (nI 3) (((j : Nat) : Int)) (((0 : Nat) : Int)) (((3 : Nat) : Int)) _ (nI_toInt (by omega)) (nI_toInt (by omega)) (nI_toInt (by omega))) (⟨callB_of 3 hts (fs_g kin_Mo_within) rfl rfl rfl (hts _ wi_6) (hts _ wi_488) (by decide +kernel) ⟨Nat.le_of_ble_eq_true rfl, Nat.le_of_ble_eq_true rfl⟩, hts _ wi_489⟩) (fs_preS hPc hK hDc) rfl rfl hl.1 rfl (lv_room (Nat.le_of_ble_eq_true rfl)) d_Mo_is_3 ⟨Nat.le_of_ble_eq_true rfl, Nat.le_of_ble_eq_true rfl⟩) rfl (fun r3 _ H locs hp3 hP hD hS => ?_)
  have hP : va_P (dC, dI) vwCl [(mo, .inr (5, [.ref mop, .ref mye, .ref mno, .ref mnu, .ref msz, .int (nI stk), .ref mre, .ref mce, .ref mco, .ref xc, .ref xa, .ref xm, .ref xv, .int (nI cnt), .int stp, .int thr])), (msz, .inl (cI, 8, .inl zs))] H := hP
  have hD : va_D A [(mo, .inr (5, [.ref mop, .ref mye, .ref mno, .ref mnu, .ref msz, .int (nI stk), .ref mre, .ref mce, .ref mco, .ref xc, .ref xa, .ref xm, .ref xv, .int (nI cnt), .int stp, .int thr])), (msz, .inl (cI, 8, .inl zs))] := hD
  rcases hp3 with ⟨hc3, rfl⟩ | ⟨hc3, _⟩
  rotate_left
  · exact absurd (by omega) hc3
  refine lv_if_eq (tgt := 29) hx hb d_Mo_is_6 (by decide) (fun hc => absurd hc (by decide)) (fun _ => ?_)
  refine lv_iload_n hx hb d_Mo_is_9 rfl (lv_at hl 2 rfl) ?_
  refine lv_iconst (v := nI 0) hx hb d_Mo_is_10 (by decide) ?_
  refine lv_aload_n hx hb d_Mo_is_11 rfl (lv_at hl 0 rfl) ?_
  refine va_get (D := (dC, dI)) (ci := 5) (v := .ref msz) (C := R_Mo) (T := T_Mo) (N := 16) hx hb hts uin_Mo hown hK hP 0 rfl rfl 4 (by decide) (hts _ wi_434) (fun _ h9 => h9) rfl d_Mo_is_12 ?_
  refine lv_iload_n hx hb d_Mo_is_15 rfl (lv_at hl 1 rfl) ?_
  refine fs_iald (v := nI len) hx hb hK hP 1 0 rfl rfl j rfl (by decide) (by omega) hzs d_Mo_is_16 ?_
  refine lv_iconst (v := nI 1) hx hb d_Mo_is_17 (by decide) ?_
  refine lv_isub hx hb d_Mo_is_18 ?_
  refine fs_eqi (pk_sub (by omega)) ?_
  refine fs_calli (wc := []) (wr := [(mo, .inr (5, [.ref mop, .ref mye, .ref mno, .ref mnu, .ref msz, .int (nI stk), .ref mre, .ref mce, .ref mco, .ref xc, .ref xa, .ref xm, .ref xv, .int (nI cnt), .int stp, .int thr])), (msz, .inl (cI, 8, .inl zs))]) [] [0, 1] hP hD hK hS hA rfl rfl rfl (by decide) (fun hPc hDc => va_runS (As := [.int (nI t), .int (nI 0), .int (nI (len - 1))]) (rest := []) ⟨hx, hb, hml, hown, hts⟩ (c_Mo_within (nI t) (nI 0) (nI (len - 1)) (((t : Nat) : Int)) (((0 : Nat) : Int)) (((len - 1 : Nat) : Int)) _ (nI_toInt (by omega)) (nI_toInt (by omega)) (nI_toInt (by omega))) (⟨callB_of 3 hts (fs_g kin_Mo_within) rfl rfl rfl (hts _ wi_6) (hts _ wi_488) (by decide +kernel) ⟨Nat.le_of_ble_eq_true rfl, Nat.le_of_ble_eq_true rfl⟩, hts _ wi_489⟩) (fs_preS hPc hK hDc) rfl rfl hl.1 rfl (lv_room (Nat.le_of_ble_eq_true rfl)) d_Mo_is_19 ⟨Nat.le_of_ble_eq_true rfl, Nat.le_of_ble_eq_true rfl⟩) rfl (fun r19 _ H locs hp19 hP hD hS => ?_)
  have hP : va_P (dC, dI) vwCl [(mo, .inr (5, [.ref mop, .ref mye, .ref mno, .ref mnu, .ref msz, .int (nI stk), .ref mre, .ref mce, .ref mco, .ref xc, .ref xa, .ref xm, .ref xv, .int (nI cnt), .int stp, .int thr])), (msz, .inl (cI, 8, .inl zs))] H := hP
  have hD : va_D A [(mo, .inr (5, [.ref mop, .ref mye, .ref mno, .ref mnu, .ref msz, .int (nI stk), .ref mre, .ref mce, .ref mco, .ref xc, .ref xa, .ref xm, .ref xv, .int (nI cnt), .int stp, .int thr])), (msz, .inl (cI, 8, .inl zs))] := hD
  rcases hp19 with ⟨hc19, rfl⟩ | ⟨hc19, _⟩
  rotate_left
  · exact absurd (by omega) hc19
  refine lv_if_eq (tgt := 29) hx hb d_Mo_is_22 (by decide) (fun hc => absurd hc (by decide)) (fun _ => ?_)
  refine lv_iconst (v := nI 1) hx hb d_Mo_is_25 (by decide) ?_
  refine lv_goto (tgt := 30) hx hb d_Mo_is_26 (by decide) ?_
  exact fs_zret hx hb hr hlocks hAe hK hS d_Mo_is_30 (by decide) () (rfl) hP hD

set_option maxHeartbeats 4000000 in
set_option maxRecDepth 100000 in
theorem c_Mo_isY (mo mop mye mno mnu msz stk mre mce mco xc xa xm xv cnt : Nat) (stp thr : Int32) (zs : Nat → Int32) (j len : Nat) (i : Int32) (sz : Nat) (hj : j < 4) (hl40 : len ≤ 40) (hzs : zs j = nI len) (hi : ∀ t, t < len → i ≠ nI t) : fs_I l y_Mo_is (k_Mo_is :: fs_T) { frames := 1, cells := 0, slots := 0, locals := 22 } (dC, dI) vwCl (fs_tys cI cZ cJ cF) [.ref mo, .int (nI j), .int i] [(mo, .inr (5, [.ref mop, .ref mye, .ref mno, .ref mnu, .ref msz, .int (nI stk), .ref mre, .ref mce, .ref mco, .ref xc, .ref xa, .ref xm, .ref xv, .int (nI cnt), .int stp, .int thr])), (msz, .inl (cI, 8, .inl zs))] sz (S := Unit) (fun r _ => r = nI 0) (fun _ => [(mo, .inr (5, [.ref mop, .ref mye, .ref mno, .ref mnu, .ref msz, .int (nI stk), .ref mre, .ref mce, .ref mco, .ref xc, .ref xa, .ref xm, .ref xv, .int (nI cnt), .int stp, .int thr])), (msz, .inl (cI, 8, .inl zs))]) 0 0 := by
  refine fs_head (by decide) (Nat.le_of_ble_eq_true rfl) ?_
  intro p e s m below meth c A ls hx hb hr hts hown hlocks hin hml hK hP hD hS hA hAe hsz hl
  have hl : lv_has ls 3 [(0, .ref mo), (1, .int (nI j)), (2, .int i)] := hl
  have hown : s.vm.findClass R_Mo = some m.cls := hown
  refine lv_iload_n hx hb d_Mo_is_0 rfl (lv_at hl 1 rfl) ?_
  refine lv_iconst (v := nI 0) hx hb d_Mo_is_1 (by decide) ?_
  refine lv_iconst (v := nI 3) hx hb d_Mo_is_2 (by decide) ?_
  refine fs_calli (wc := []) (wr := [(mo, .inr (5, [.ref mop, .ref mye, .ref mno, .ref mnu, .ref msz, .int (nI stk), .ref mre, .ref mce, .ref mco, .ref xc, .ref xa, .ref xm, .ref xv, .int (nI cnt), .int stp, .int thr])), (msz, .inl (cI, 8, .inl zs))]) [] [0, 1] hP hD hK hS hA rfl rfl rfl (by decide) (fun hPc hDc => va_runS (As := [.int (nI j), .int (nI 0), .int (nI 3)]) (rest := []) ⟨hx, hb, hml, hown, hts⟩ (c_Mo_within (nI j) (nI 0) (nI 3) (((j : Nat) : Int)) (((0 : Nat) : Int)) (((3 : Nat) : Int)) _ (nI_toInt (by omega)) (nI_toInt (by omega)) (nI_toInt (by omega))) (⟨callB_of 3 hts (fs_g kin_Mo_within) rfl rfl rfl (hts _ wi_6) (hts _ wi_488) (by decide +kernel) ⟨Nat.le_of_ble_eq_true rfl, Nat.le_of_ble_eq_true rfl⟩, hts _ wi_489⟩) (fs_preS hPc hK hDc) rfl rfl hl.1 rfl (lv_room (Nat.le_of_ble_eq_true rfl)) d_Mo_is_3 ⟨Nat.le_of_ble_eq_true rfl, Nat.le_of_ble_eq_true rfl⟩) rfl (fun r3 _ H locs hp3 hP hD hS => ?_)
  have hP : va_P (dC, dI) vwCl [(mo, .inr (5, [.ref mop, .ref mye, .ref mno, .ref mnu, .ref msz, .int (nI stk), .ref mre, .ref mce, .ref mco, .ref xc, .ref xa, .ref xm, .ref xv, .int (nI cnt), .int stp, .int thr])), (msz, .inl (cI, 8, .inl zs))] H := hP
  have hD : va_D A [(mo, .inr (5, [.ref mop, .ref mye, .ref mno, .ref mnu, .ref msz, .int (nI stk), .ref mre, .ref mce, .ref mco, .ref xc, .ref xa, .ref xm, .ref xv, .int (nI cnt), .int stp, .int thr])), (msz, .inl (cI, 8, .inl zs))] := hD
  rcases hp3 with ⟨hc3, rfl⟩ | ⟨hc3, _⟩
  rotate_left
  · exact absurd (by omega) hc3
  refine lv_if_eq (tgt := 29) hx hb d_Mo_is_6 (by decide) (fun hc => absurd hc (by decide)) (fun _ => ?_)
  refine lv_iload_n hx hb d_Mo_is_9 rfl (lv_at hl 2 rfl) ?_
  refine lv_iconst (v := nI 0) hx hb d_Mo_is_10 (by decide) ?_
  refine lv_aload_n hx hb d_Mo_is_11 rfl (lv_at hl 0 rfl) ?_
  refine va_get (D := (dC, dI)) (ci := 5) (v := .ref msz) (C := R_Mo) (T := T_Mo) (N := 16) hx hb hts uin_Mo hown hK hP 0 rfl rfl 4 (by decide) (hts _ wi_434) (fun _ h9 => h9) rfl d_Mo_is_12 ?_
  refine lv_iload_n hx hb d_Mo_is_15 rfl (lv_at hl 1 rfl) ?_
  refine fs_iald (v := nI len) hx hb hK hP 1 0 rfl rfl j rfl (by decide) (by omega) hzs d_Mo_is_16 ?_
  refine lv_iconst (v := nI 1) hx hb d_Mo_is_17 (by decide) ?_
  refine lv_isub hx hb d_Mo_is_18 ?_
  refine fs_calli (wc := []) (wr := [(mo, .inr (5, [.ref mop, .ref mye, .ref mno, .ref mnu, .ref msz, .int (nI stk), .ref mre, .ref mce, .ref mco, .ref xc, .ref xa, .ref xm, .ref xv, .int (nI cnt), .int stp, .int thr])), (msz, .inl (cI, 8, .inl zs))]) [] [0, 1] hP hD hK hS hA rfl rfl rfl (by decide) (fun hPc hDc => va_runS (As := [.int i, .int (nI 0), .int ((nI len) - (nI 1))]) (rest := []) ⟨hx, hb, hml, hown, hts⟩ (c_Mo_within i (nI 0) ((nI len) - (nI 1)) (i.toInt) (((0 : Nat) : Int)) ((len : Int) - 1) _ (rfl) (nI_toInt (by omega)) (by have h := pk_sub_toInt (a := len) (b := 1) (by omega) (by decide); rw [h]; rfl)) (⟨callB_of 3 hts (fs_g kin_Mo_within) rfl rfl rfl (hts _ wi_6) (hts _ wi_488) (by decide +kernel) ⟨Nat.le_of_ble_eq_true rfl, Nat.le_of_ble_eq_true rfl⟩, hts _ wi_489⟩) (fs_preS hPc hK hDc) rfl rfl hl.1 rfl (lv_room (Nat.le_of_ble_eq_true rfl)) d_Mo_is_19 ⟨Nat.le_of_ble_eq_true rfl, Nat.le_of_ble_eq_true rfl⟩) rfl (fun r19 _ H locs hp19 hP hD hS => ?_)
  have hP : va_P (dC, dI) vwCl [(mo, .inr (5, [.ref mop, .ref mye, .ref mno, .ref mnu, .ref msz, .int (nI stk), .ref mre, .ref mce, .ref mco, .ref xc, .ref xa, .ref xm, .ref xv, .int (nI cnt), .int stp, .int thr])), (msz, .inl (cI, 8, .inl zs))] H := hP
  have hD : va_D A [(mo, .inr (5, [.ref mop, .ref mye, .ref mno, .ref mnu, .ref msz, .int (nI stk), .ref mre, .ref mce, .ref mco, .ref xc, .ref xa, .ref xm, .ref xv, .int (nI cnt), .int stp, .int thr])), (msz, .inl (cI, 8, .inl zs))] := hD
  rcases hp19 with ⟨hc19, _⟩ | ⟨hc19, rfl⟩
  · obtain ⟨t, ht, e⟩ := fs_of (x := i) (n := len) (by omega) (by omega) (by omega)
    exact absurd e (hi t ht)
  refine lv_if_eq (tgt := 29) hx hb d_Mo_is_22 (by decide) (fun _ => ?_) (fun hc => absurd (by decide) hc)
  refine lv_iconst (v := nI 0) hx hb d_Mo_is_29 (by decide) ?_
  exact fs_zret hx hb hr hlocks hAe hK hS d_Mo_is_30 (by decide) () (rfl) hP hD

set_option maxHeartbeats 4000000 in
set_option maxRecDepth 100000 in
theorem c_Mo_isX (mo mop mye mno mnu msz stk mre mce mco xc xa xm xv cnt : Nat) (stp thr : Int32) (f i : Int32) (sz : Nat) (hf : ∀ j, j < 4 → f ≠ nI j) : fs_I l y_Mo_is (k_Mo_is :: fs_T) { frames := 1, cells := 0, slots := 0, locals := 22 } (dC, dI) vwCl (fs_tys cI cZ cJ cF) [.ref mo, .int f, .int i] [(mo, .inr (5, [.ref mop, .ref mye, .ref mno, .ref mnu, .ref msz, .int (nI stk), .ref mre, .ref mce, .ref mco, .ref xc, .ref xa, .ref xm, .ref xv, .int (nI cnt), .int stp, .int thr]))] sz (S := Unit) (fun r _ => r = nI 0) (fun _ => [(mo, .inr (5, [.ref mop, .ref mye, .ref mno, .ref mnu, .ref msz, .int (nI stk), .ref mre, .ref mce, .ref mco, .ref xc, .ref xa, .ref xm, .ref xv, .int (nI cnt), .int stp, .int thr]))]) 0 0 := by
  refine fs_head (by decide) (Nat.le_of_ble_eq_true rfl) ?_
  intro p e s m below meth c A ls hx hb hr hts hown hlocks hin hml hK hP hD hS hA hAe hsz hl
  have hl : lv_has ls 3 [(0, .ref mo), (1, .int f), (2, .int i)] := hl
  have hown : s.vm.findClass R_Mo = some m.cls := hown
  refine lv_iload_n hx hb d_Mo_is_0 rfl (lv_at hl 1 rfl) ?_
  refine lv_iconst (v := nI 0) hx hb d_Mo_is_1 (by decide) ?_
  refine lv_iconst (v := nI 3) hx hb d_Mo_is_2 (by decide) ?_
  refine fs_calli (wc := []) (wr := [(mo, .inr (5, [.ref mop, .ref mye, .ref mno, .ref mnu, .ref msz, .int (nI stk), .ref mre, .ref mce, .ref mco, .ref xc, .ref xa, .ref xm, .ref xv, .int (nI cnt), .int stp, .int thr]))]) [] [0] hP hD hK hS hA rfl rfl rfl (by decide) (fun hPc hDc => va_runS (As := [.int f, .int (nI 0), .int (nI 3)]) (rest := []) ⟨hx, hb, hml, hown, hts⟩ (c_Mo_within f (nI 0) (nI 3) (f.toInt) (((0 : Nat) : Int)) (((3 : Nat) : Int)) _ (rfl) (nI_toInt (by omega)) (nI_toInt (by omega))) (⟨callB_of 3 hts (fs_g kin_Mo_within) rfl rfl rfl (hts _ wi_6) (hts _ wi_488) (by decide +kernel) ⟨Nat.le_of_ble_eq_true rfl, Nat.le_of_ble_eq_true rfl⟩, hts _ wi_489⟩) (fs_preS hPc hK hDc) rfl rfl hl.1 rfl (lv_room (Nat.le_of_ble_eq_true rfl)) d_Mo_is_3 ⟨Nat.le_of_ble_eq_true rfl, Nat.le_of_ble_eq_true rfl⟩) rfl (fun r3 _ H locs hp3 hP hD hS => ?_)
  have hP : va_P (dC, dI) vwCl [(mo, .inr (5, [.ref mop, .ref mye, .ref mno, .ref mnu, .ref msz, .int (nI stk), .ref mre, .ref mce, .ref mco, .ref xc, .ref xa, .ref xm, .ref xv, .int (nI cnt), .int stp, .int thr]))] H := hP
  have hD : va_D A [(mo, .inr (5, [.ref mop, .ref mye, .ref mno, .ref mnu, .ref msz, .int (nI stk), .ref mre, .ref mce, .ref mco, .ref xc, .ref xa, .ref xm, .ref xv, .int (nI cnt), .int stp, .int thr]))] := hD
  rcases hp3 with ⟨hc3, _⟩ | ⟨hc3, rfl⟩
  · obtain ⟨j, hj, e⟩ := fs_of (x := f) (n := 4) (by decide) (by omega) (by omega)
    exact absurd e (hf j hj)
  refine lv_if_eq (tgt := 29) hx hb d_Mo_is_6 (by decide) (fun _ => ?_) (fun hc => absurd (by decide) hc)
  refine lv_iconst (v := nI 0) hx hb d_Mo_is_29 (by decide) ?_
  exact fs_zret hx hb hr hlocks hAe hK hS d_Mo_is_30 (by decide) () (rfl) hP hD

theorem d_Mo_shape_0 : decode b_Mo_shape 0 = .ok (.aload_n 0, 1) := by decide +kernel
theorem d_Mo_shape_1 : decode b_Mo_shape 1 = .ok (.iconst 0, 1) := by decide +kernel
theorem d_Mo_shape_2 : decode b_Mo_shape 2 = .ok (.putfield 47, 3) := by decide +kernel
theorem d_Mo_shape_5 : decode b_Mo_shape 5 = .ok (.aload_n 0, 1) := by decide +kernel
theorem d_Mo_shape_6 : decode b_Mo_shape 6 = .ok (.iload_n 1, 1) := by decide +kernel
theorem d_Mo_shape_7 : decode b_Mo_shape 7 = .ok (.iload_n 2, 1) := by decide +kernel
theorem d_Mo_shape_8 : decode b_Mo_shape 8 = .ok (.invokevirtual 59, 3) := by decide +kernel
theorem d_Mo_shape_11 : decode b_Mo_shape 11 = .ok (.ifCond .eq 48, 3) := by decide +kernel
theorem d_Mo_shape_14 : decode b_Mo_shape 14 = .ok (.aload_n 0, 1) := by decide +kernel
theorem d_Mo_shape_15 : decode b_Mo_shape 15 = .ok (.getfield 7, 3) := by decide +kernel
theorem d_Mo_shape_18 : decode b_Mo_shape 18 = .ok (.bipush 40, 2) := by decide +kernel
theorem d_Mo_shape_20 : decode b_Mo_shape 20 = .ok (.iload_n 1, 1) := by decide +kernel
theorem d_Mo_shape_21 : decode b_Mo_shape 21 = .ok (.imul, 1) := by decide +kernel
theorem d_Mo_shape_22 : decode b_Mo_shape 22 = .ok (.iload_n 2, 1) := by decide +kernel
theorem d_Mo_shape_23 : decode b_Mo_shape 23 = .ok (.iadd, 1) := by decide +kernel
theorem d_Mo_shape_24 : decode b_Mo_shape 24 = .ok (.iaload, 1) := by decide +kernel
theorem d_Mo_shape_25 : decode b_Mo_shape 25 = .ok (.bipush 32, 2) := by decide +kernel
theorem d_Mo_shape_27 : decode b_Mo_shape 27 = .ok (.aload_n 0, 1) := by decide +kernel
theorem d_Mo_shape_28 : decode b_Mo_shape 28 = .ok (.getfield 13, 3) := by decide +kernel
theorem d_Mo_shape_31 : decode b_Mo_shape 31 = .ok (.bipush 40, 2) := by decide +kernel
theorem d_Mo_shape_33 : decode b_Mo_shape 33 = .ok (.iload_n 1, 1) := by decide +kernel
theorem d_Mo_shape_34 : decode b_Mo_shape 34 = .ok (.imul, 1) := by decide +kernel
theorem d_Mo_shape_35 : decode b_Mo_shape 35 = .ok (.iload_n 2, 1) := by decide +kernel
theorem d_Mo_shape_36 : decode b_Mo_shape 36 = .ok (.iadd, 1) := by decide +kernel
theorem d_Mo_shape_37 : decode b_Mo_shape 37 = .ok (.iaload, 1) := by decide +kernel
theorem d_Mo_shape_38 : decode b_Mo_shape 38 = .ok (.imul, 1) := by decide +kernel
theorem d_Mo_shape_39 : decode b_Mo_shape 39 = .ok (.iadd, 1) := by decide +kernel
theorem d_Mo_shape_40 : decode b_Mo_shape 40 = .ok (.sipush 8192, 3) := by decide +kernel
theorem d_Mo_shape_43 : decode b_Mo_shape 43 = .ok (.aload_n 0, 1) := by decide +kernel
theorem d_Mo_shape_44 : decode b_Mo_shape 44 = .ok (.getfield 16, 3) := by decide +kernel
theorem d_Mo_shape_47 : decode b_Mo_shape 47 = .ok (.bipush 40, 2) := by decide +kernel
theorem d_Mo_shape_49 : decode b_Mo_shape 49 = .ok (.iload_n 1, 1) := by decide +kernel
theorem d_Mo_shape_50 : decode b_Mo_shape 50 = .ok (.imul, 1) := by decide +kernel
theorem d_Mo_shape_51 : decode b_Mo_shape 51 = .ok (.iload_n 2, 1) := by decide +kernel
theorem d_Mo_shape_52 : decode b_Mo_shape 52 = .ok (.iadd, 1) := by decide +kernel
theorem d_Mo_shape_53 : decode b_Mo_shape 53 = .ok (.iaload, 1) := by decide +kernel
theorem d_Mo_shape_54 : decode b_Mo_shape 54 = .ok (.imul, 1) := by decide +kernel
theorem d_Mo_shape_55 : decode b_Mo_shape 55 = .ok (.iadd, 1) := by decide +kernel
theorem d_Mo_shape_56 : decode b_Mo_shape 56 = .ok (.goto 4, 3) := by decide +kernel
theorem d_Mo_shape_59 : decode b_Mo_shape 59 = .ok (.iconst (-1), 1) := by decide +kernel
theorem d_Mo_shape_60 : decode b_Mo_shape 60 = .ok (.ireturn, 1) := by decide +kernel
set_option maxHeartbeats 4000000 in
set_option maxRecDepth 100000 in
theorem c_Mo_shape (mo mop mye mno mnu msz stk mre mce mco xc xa xm xv cnt : Nat) (stp thr : Int32) (fo fy fn fk zs : Nat → Int32) (L : fx_Prg) (j t : Nat) (sz : Nat) (hj : j < 4) (hzs : zs j = nI L.length) (hrep : fx_rep L (fun i => fo (40 * j + i)) (fun i => fy (40 * j + i)) (fun i => fn (40 * j + i)) (fun i => fk (40 * j + i))) (hok : fx_ok L) (ht : t < L.length) : fs_I l y_Mo_shape (k_Mo_shape :: fs_T) { frames := 2, cells := 0, slots := 0, locals := 44 } (dC, dI) vwCl (fs_tys cI cZ cJ cF) [.ref mo, .int (nI j), .int (nI t)] [(mo, .inr (5, [.ref mop, .ref mye, .ref mno, .ref mnu, .ref msz, .int (nI stk), .ref mre, .ref mce, .ref mco, .ref xc, .ref xa, .ref xm, .ref xv, .int (nI cnt), .int stp, .int thr])), (mop, .inl (cI, 320, .inl fo)), (mye, .inl (cI, 320, .inl fy)), (mno, .inl (cI, 320, .inl fn)), (mnu, .inl (cI, 320, .inl fk)), (msz, .inl (cI, 8, .inl zs))] sz (S := Unit) (fun r _ => r = nI (fx_O L t + 32 * (fx_Y L t) + 8192 * (fx_N L t))) (fun _ => [(mo, .inr (5, [.ref mop, .ref mye, .ref mno, .ref mnu, .ref msz, .int (nI stk), .ref mre, .ref mce, .ref mco, .ref xc, .ref xa, .ref xm, .ref xv, .int (nI cnt), .int stp, .int (nI 0)])), (mop, .inl (cI, 320, .inl fo)), (mye, .inl (cI, 320, .inl fy)), (mno, .inl (cI, 320, .inl fn)), (mnu, .inl (cI, 320, .inl fk)), (msz, .inl (cI, 8, .inl zs))]) 0 0 := by
  refine fs_head (by decide) (Nat.le_of_ble_eq_true rfl) ?_
  intro p e s m below meth c A ls hx hb hr hts hown hlocks hin hml hK hP hD hS hA hAe hsz hl
  have hl : lv_has ls 3 [(0, .ref mo), (1, .int (nI j)), (2, .int (nI t))] := hl
  have hown : s.vm.findClass R_Mo = some m.cls := hown
  have hlen := hok.1
  have hO := (hok.2 t ht).1
  have hY := (hok.2 t ht).2.1
  have hN := (hok.2 t ht).2.2
  refine lv_aload_n hx hb d_Mo_shape_0 rfl (lv_at hl 0 rfl) ?_
  refine lv_iconst (v := nI 0) hx hb d_Mo_shape_1 (by decide) ?_
  refine va_put (D := (dC, dI)) (ci := 5) (v := .int (nI 0)) (ty := (.int)) (C := R_Mo) (T := T_Mo) (N := 16) hx hb hts uin_Mo t_Mo ok_Mo n_Mo hown hK hP hD hS 0 rfl rfl 15 (by decide) (hts _ wi_445) (fun _ h9 => h9) rfl (by decide +kernel) rfl rfl (Nat.le_of_ble_eq_true rfl) d_Mo_shape_2 (fun H locs hP hD hS => ?_)
  have hP : va_P (dC, dI) vwCl [(mo, .inr (5, [.ref mop, .ref mye, .ref mno, .ref mnu, .ref msz, .int (nI stk), .ref mre, .ref mce, .ref mco, .ref xc, .ref xa, .ref xm, .ref xv, .int (nI cnt), .int stp, .int (nI 0)])), (mop, .inl (cI, 320, .inl fo)), (mye, .inl (cI, 320, .inl fy)), (mno, .inl (cI, 320, .inl fn)), (mnu, .inl (cI, 320, .inl fk)), (msz, .inl (cI, 8, .inl zs))] H := hP
  have hD : va_D A [(mo, .inr (5, [.ref mop, .ref mye, .ref mno, .ref mnu, .ref msz, .int (nI stk), .ref mre, .ref mce, .ref mco, .ref xc, .ref xa, .ref xm, .ref xv, .int (nI cnt), .int stp, .int (nI 0)])), (mop, .inl (cI, 320, .inl fo)), (mye, .inl (cI, 320, .inl fy)), (mno, .inl (cI, 320, .inl fn)), (mnu, .inl (cI, 320, .inl fk)), (msz, .inl (cI, 8, .inl zs))] := hD
  refine lv_aload_n hx hb d_Mo_shape_5 rfl (lv_at hl 0 rfl) ?_
  refine lv_iload_n hx hb d_Mo_shape_6 rfl (lv_at hl 1 rfl) ?_
  refine lv_iload_n hx hb d_Mo_shape_7 rfl (lv_at hl 2 rfl) ?_
  refine fs_calli (wc := [(mo, .inr (5, [.ref mop, .ref mye, .ref mno, .ref mnu, .ref msz, .int (nI stk), .ref mre, .ref mce, .ref mco, .ref xc, .ref xa, .ref xm, .ref xv, .int (nI cnt), .int stp, .int (nI 0)])), (msz, .inl (cI, 8, .inl zs))]) (wr := [(mop, .inl (cI, 320, .inl fo)), (mye, .inl (cI, 320, .inl fy)), (mno, .inl (cI, 320, .inl fn)), (mnu, .inl (cI, 320, .inl fk))]) [0, 5] [1, 2, 3, 4] hP hD hK hS hA rfl rfl rfl (by decide) (fun hPc hDc => va_runV (C := R_Mo) (As := [.int (nI j), .int (nI t)]) (rest := []) ⟨hx, hb, hml, hown, hts⟩ (c_Mo_is mo mop mye mno mnu msz stk mre mce mco xc xa xm xv cnt stp (nI 0) zs j L.length t _ hj hok.1 hzs ht) (⟨callB_of 2 hts (fs_g kin_Mo_is) rfl rfl rfl (hts _ wi_6) (hts _ wi_507) (by decide +kernel) ⟨Nat.le_of_ble_eq_true rfl, Nat.le_of_ble_eq_true rfl⟩, hts _ wi_509, hts _ sel_Mo_is⟩) (fs_preV (q0 := 0) rfl rfl hPc hK hDc) rfl rfl hl.1 rfl (lv_room (Nat.le_of_ble_eq_true rfl)) d_Mo_shape_8 ⟨Nat.le_of_ble_eq_true rfl, Nat.le_of_ble_eq_true rfl⟩) rfl (fun r8 _ H locs hp8 hP hD hS => ?_)
  have hP : va_P (dC, dI) vwCl [(mo, .inr (5, [.ref mop, .ref mye, .ref mno, .ref mnu, .ref msz, .int (nI stk), .ref mre, .ref mce, .ref mco, .ref xc, .ref xa, .ref xm, .ref xv, .int (nI cnt), .int stp, .int (nI 0)])), (mop, .inl (cI, 320, .inl fo)), (mye, .inl (cI, 320, .inl fy)), (mno, .inl (cI, 320, .inl fn)), (mnu, .inl (cI, 320, .inl fk)), (msz, .inl (cI, 8, .inl zs))] H := hP.sub [4, 0, 1, 2, 3, 5] rfl
  have hD : va_D A [(mo, .inr (5, [.ref mop, .ref mye, .ref mno, .ref mnu, .ref msz, .int (nI stk), .ref mre, .ref mce, .ref mco, .ref xc, .ref xa, .ref xm, .ref xv, .int (nI cnt), .int stp, .int (nI 0)])), (mop, .inl (cI, 320, .inl fo)), (mye, .inl (cI, 320, .inl fy)), (mno, .inl (cI, 320, .inl fn)), (mnu, .inl (cI, 320, .inl fk)), (msz, .inl (cI, 8, .inl zs))] := hD.sub [4, 0, 1, 2, 3, 5] (by decide) rfl
  subst hp8
  refine lv_if_eq (tgt := 59) hx hb d_Mo_shape_11 (by decide) (fun hc => absurd hc (by decide)) (fun _ => ?_)
  refine lv_aload_n hx hb d_Mo_shape_14 rfl (lv_at hl 0 rfl) ?_
  refine va_get (D := (dC, dI)) (ci := 5) (v := .ref mop) (C := R_Mo) (T := T_Mo) (N := 16) hx hb hts uin_Mo hown hK hP 0 rfl rfl 0 (by decide) (hts _ wi_430) (fun _ h9 => h9) rfl d_Mo_shape_15 ?_
  refine lv_bipush (v := nI 40) hx hb d_Mo_shape_18 (by decide) ?_
  refine lv_iload_n hx hb d_Mo_shape_20 rfl (lv_at hl 1 rfl) ?_
  refine lv_imul hx hb d_Mo_shape_21 ?_
  refine fs_eqi (pk_mul _ _) ?_
  refine lv_iload_n hx hb d_Mo_shape_22 rfl (lv_at hl 2 rfl) ?_
  refine lv_iadd hx hb d_Mo_shape_23 ?_
  refine fs_eqi (nI_add _ _) ?_
  refine fs_iald (v := nI (fx_O L t)) hx hb hK hP 1 0 rfl rfl (40 * j + t) rfl (by decide) (by omega) ((hrep t (by omega)).1) d_Mo_shape_24 ?_
  refine lv_bipush (v := nI 32) hx hb d_Mo_shape_25 (by decide) ?_
  refine lv_aload_n hx hb d_Mo_shape_27 rfl (lv_at hl 0 rfl) ?_
  refine va_get (D := (dC, dI)) (ci := 5) (v := .ref mye) (C := R_Mo) (T := T_Mo) (N := 16) hx hb hts uin_Mo hown hK hP 0 rfl rfl 1 (by decide) (hts _ wi_431) (fun _ h9 => h9) rfl d_Mo_shape_28 ?_
  refine lv_bipush (v := nI 40) hx hb d_Mo_shape_31 (by decide) ?_
  refine lv_iload_n hx hb d_Mo_shape_33 rfl (lv_at hl 1 rfl) ?_
  refine lv_imul hx hb d_Mo_shape_34 ?_
  refine fs_eqi (pk_mul _ _) ?_
  refine lv_iload_n hx hb d_Mo_shape_35 rfl (lv_at hl 2 rfl) ?_
  refine lv_iadd hx hb d_Mo_shape_36 ?_
  refine fs_eqi (nI_add _ _) ?_
  refine fs_iald (v := nI (fx_Y L t)) hx hb hK hP 2 0 rfl rfl (40 * j + t) rfl (by decide) (by omega) ((hrep t (by omega)).2.1) d_Mo_shape_37 ?_
  refine lv_imul hx hb d_Mo_shape_38 ?_
  refine fs_eqi (pk_mul _ _) ?_
  refine lv_iadd hx hb d_Mo_shape_39 ?_
  refine fs_eqi (nI_add _ _) ?_
  refine lv_sipush (v := nI 8192) hx hb d_Mo_shape_40 (by decide) ?_
  refine lv_aload_n hx hb d_Mo_shape_43 rfl (lv_at hl 0 rfl) ?_
  refine va_get (D := (dC, dI)) (ci := 5) (v := .ref mno) (C := R_Mo) (T := T_Mo) (N := 16) hx hb hts uin_Mo hown hK hP 0 rfl rfl 2 (by decide) (hts _ wi_432) (fun _ h9 => h9) rfl d_Mo_shape_44 ?_
  refine lv_bipush (v := nI 40) hx hb d_Mo_shape_47 (by decide) ?_
  refine lv_iload_n hx hb d_Mo_shape_49 rfl (lv_at hl 1 rfl) ?_
  refine lv_imul hx hb d_Mo_shape_50 ?_
  refine fs_eqi (pk_mul _ _) ?_
  refine lv_iload_n hx hb d_Mo_shape_51 rfl (lv_at hl 2 rfl) ?_
  refine lv_iadd hx hb d_Mo_shape_52 ?_
  refine fs_eqi (nI_add _ _) ?_
  refine fs_iald (v := nI (fx_N L t)) hx hb hK hP 3 0 rfl rfl (40 * j + t) rfl (by decide) (by omega) ((hrep t (by omega)).2.2.1) d_Mo_shape_53 ?_
  refine lv_imul hx hb d_Mo_shape_54 ?_
  refine fs_eqi (pk_mul _ _) ?_
  refine lv_iadd hx hb d_Mo_shape_55 ?_
  refine fs_eqi (nI_add _ _) ?_
  refine lv_goto (tgt := 60) hx hb d_Mo_shape_56 (by decide) ?_
  exact fs_iret hx hb hr hlocks hAe hK hS d_Mo_shape_60 () (rfl) hP hD

set_option maxHeartbeats 4000000 in
set_option maxRecDepth 100000 in
theorem c_Mo_shapeY (mo mop mye mno mnu msz stk mre mce mco xc xa xm xv cnt : Nat) (stp thr : Int32) (zs : Nat → Int32) (j len : Nat) (i : Int32) (sz : Nat) (hj : j < 4) (hl40 : len ≤ 40) (hzs : zs j = nI len) (hi : ∀ t, t < len → i ≠ nI t) : fs_I l y_Mo_shape (k_Mo_shape :: fs_T) { frames := 2, cells := 0, slots := 0, locals := 44 } (dC, dI) vwCl (fs_tys cI cZ cJ cF) [.ref mo, .int (nI j), .int i] [(mo, .inr (5, [.ref mop, .ref mye, .ref mno, .ref mnu, .ref msz, .int (nI stk), .ref mre, .ref mce, .ref mco, .ref xc, .ref xa, .ref xm, .ref xv, .int (nI cnt), .int stp, .int thr])), (msz, .inl (cI, 8, .inl zs))] sz (S := Unit) (fun r _ => r = (-1)) (fun _ => [(mo, .inr (5, [.ref mop, .ref mye, .ref mno, .ref mnu, .ref msz, .int (nI stk), .ref mre, .ref mce, .ref mco, .ref xc, .ref xa, .ref xm, .ref xv, .int (nI cnt), .int stp, .int (nI 0)])), (msz, .inl (cI, 8, .inl zs))]) 0 0 := by
  refine fs_head (by decide) (Nat.le_of_ble_eq_true rfl) ?_
  intro p e s m below meth c A ls hx hb hr hts hown hlocks hin hml hK hP hD hS hA hAe hsz hl
  have hl : lv_has ls 3 [(0, .ref mo), (1, .int (nI j)), (2, .int i)] := hl
  have hown : s.vm.findClass R_Mo = some m.cls := hown
  refine lv_aload_n hx hb d_Mo_shape_0 rfl (lv_at hl 0 rfl) ?_
  refine lv_iconst (v := nI 0) hx hb d_Mo_shape_1 (by decide) ?_
  refine va_put (D := (dC, dI)) (ci := 5) (v := .int (nI 0)) (ty := (.int)) (C := R_Mo) (T := T_Mo) (N := 16) hx hb hts uin_Mo t_Mo ok_Mo n_Mo hown hK hP hD hS 0 rfl rfl 15 (by decide) (hts _ wi_445) (fun _ h9 => h9) rfl (by decide +kernel) rfl rfl (Nat.le_of_ble_eq_true rfl) d_Mo_shape_2 (fun H locs hP hD hS => ?_)
  have hP : va_P (dC, dI) vwCl [(mo, .inr (5, [.ref mop, .ref mye, .ref mno, .ref mnu, .ref msz, .int (nI stk), .ref mre, .ref mce, .ref mco, .ref xc, .ref xa, .ref xm, .ref xv, .int (nI cnt), .int stp, .int (nI 0)])), (msz, .inl (cI, 8, .inl zs))] H := hP
  have hD : va_D A [(mo, .inr (5, [.ref mop, .ref mye, .ref mno, .ref mnu, .ref msz, .int (nI stk), .ref mre, .ref mce, .ref mco, .ref xc, .ref xa, .ref xm, .ref xv, .int (nI cnt), .int stp, .int (nI 0)])), (msz, .inl (cI, 8, .inl zs))] := hD
  refine lv_aload_n hx hb d_Mo_shape_5 rfl (lv_at hl 0 rfl) ?_
  refine lv_iload_n hx hb d_Mo_shape_6 rfl (lv_at hl 1 rfl) ?_
  refine lv_iload_n hx hb d_Mo_shape_7 rfl (lv_at hl 2 rfl) ?_
  refine fs_calli (wc := [(mo, .inr (5, [.ref mop, .ref mye, .ref mno, .ref mnu, .ref msz, .int (nI stk), .ref mre, .ref mce, .ref mco, .ref xc, .ref xa, .ref xm, .ref xv, .int (nI cnt), .int stp, .int (nI 0)])), (msz, .inl (cI, 8, .inl zs))]) (wr := []) [0, 1] [] hP hD hK hS hA rfl rfl rfl (by decide) (fun hPc hDc => va_runV (C := R_Mo) (As := [.int (nI j), .int i]) (rest := []) ⟨hx, hb, hml, hown, hts⟩ (c_Mo_isY mo mop mye mno mnu msz stk mre mce mco xc xa xm xv cnt stp (nI 0) zs j len i _ hj hl40 hzs hi) (⟨callB_of 2 hts (fs_g kin_Mo_is) rfl rfl rfl (hts _ wi_6) (hts _ wi_507) (by decide +kernel) ⟨Nat.le_of_ble_eq_true rfl, Nat.le_of_ble_eq_true rfl⟩, hts _ wi_509, hts _ sel_Mo_is⟩) (fs_preV (q0 := 0) rfl rfl hPc hK hDc) rfl rfl hl.1 rfl (lv_room (Nat.le_of_ble_eq_true rfl)) d_Mo_shape_8 ⟨Nat.le_of_ble_eq_true rfl, Nat.le_of_ble_eq_true rfl⟩) rfl (fun r8 _ H locs hp8 hP hD hS => ?_)
  have hP : va_P (dC, dI) vwCl [(mo, .inr (5, [.ref mop, .ref mye, .ref mno, .ref mnu, .ref msz, .int (nI stk), .ref mre, .ref mce, .ref mco, .ref xc, .ref xa, .ref xm, .ref xv, .int (nI cnt), .int stp, .int (nI 0)])), (msz, .inl (cI, 8, .inl zs))] H := hP
  have hD : va_D A [(mo, .inr (5, [.ref mop, .ref mye, .ref mno, .ref mnu, .ref msz, .int (nI stk), .ref mre, .ref mce, .ref mco, .ref xc, .ref xa, .ref xm, .ref xv, .int (nI cnt), .int stp, .int (nI 0)])), (msz, .inl (cI, 8, .inl zs))] := hD
  subst hp8
  refine lv_if_eq (tgt := 59) hx hb d_Mo_shape_11 (by decide) (fun _ => ?_) (fun hc => absurd (by decide) hc)
  refine lv_iconst (v := (-1)) hx hb d_Mo_shape_59 (by decide) ?_
  exact fs_iret hx hb hr hlocks hAe hK hS d_Mo_shape_60 () (rfl) hP hD

set_option maxHeartbeats 4000000 in
set_option maxRecDepth 100000 in
theorem c_Mo_shapeX (mo mop mye mno mnu msz stk mre mce mco xc xa xm xv cnt : Nat) (stp thr : Int32) (f i : Int32) (sz : Nat) (hf : ∀ j, j < 4 → f ≠ nI j) : fs_I l y_Mo_shape (k_Mo_shape :: fs_T) { frames := 2, cells := 0, slots := 0, locals := 44 } (dC, dI) vwCl (fs_tys cI cZ cJ cF) [.ref mo, .int f, .int i] [(mo, .inr (5, [.ref mop, .ref mye, .ref mno, .ref mnu, .ref msz, .int (nI stk), .ref mre, .ref mce, .ref mco, .ref xc, .ref xa, .ref xm, .ref xv, .int (nI cnt), .int stp, .int thr]))] sz (S := Unit) (fun r _ => r = (-1)) (fun _ => [(mo, .inr (5, [.ref mop, .ref mye, .ref mno, .ref mnu, .ref msz, .int (nI stk), .ref mre, .ref mce, .ref mco, .ref xc, .ref xa, .ref xm, .ref xv, .int (nI cnt), .int stp, .int (nI 0)]))]) 0 0 := by
  refine fs_head (by decide) (Nat.le_of_ble_eq_true rfl) ?_
  intro p e s m below meth c A ls hx hb hr hts hown hlocks hin hml hK hP hD hS hA hAe hsz hl
  have hl : lv_has ls 3 [(0, .ref mo), (1, .int f), (2, .int i)] := hl
  have hown : s.vm.findClass R_Mo = some m.cls := hown
  refine lv_aload_n hx hb d_Mo_shape_0 rfl (lv_at hl 0 rfl) ?_
  refine lv_iconst (v := nI 0) hx hb d_Mo_shape_1 (by decide) ?_
  refine va_put (D := (dC, dI)) (ci := 5) (v := .int (nI 0)) (ty := (.int)) (C := R_Mo) (T := T_Mo) (N := 16) hx hb hts uin_Mo t_Mo ok_Mo n_Mo hown hK hP hD hS 0 rfl rfl 15 (by decide) (hts _ wi_445) (fun _ h9 => h9) rfl (by decide +kernel) rfl rfl (Nat.le_of_ble_eq_true rfl) d_Mo_shape_2 (fun H locs hP hD hS => ?_)
  have hP : va_P (dC, dI) vwCl [(mo, .inr (5, [.ref mop, .ref mye, .ref mno, .ref mnu, .ref msz, .int (nI stk), .ref mre, .ref mce, .ref mco, .ref xc, .ref xa, .ref xm, .ref xv, .int (nI cnt), .int stp, .int (nI 0)]))] H := hP
  have hD : va_D A [(mo, .inr (5, [.ref mop, .ref mye, .ref mno, .ref mnu, .ref msz, .int (nI stk), .ref mre, .ref mce, .ref mco, .ref xc, .ref xa, .ref xm, .ref xv, .int (nI cnt), .int stp, .int (nI 0)]))] := hD
  refine lv_aload_n hx hb d_Mo_shape_5 rfl (lv_at hl 0 rfl) ?_
  refine lv_iload_n hx hb d_Mo_shape_6 rfl (lv_at hl 1 rfl) ?_
  refine lv_iload_n hx hb d_Mo_shape_7 rfl (lv_at hl 2 rfl) ?_
  refine fs_calli (wc := [(mo, .inr (5, [.ref mop, .ref mye, .ref mno, .ref mnu, .ref msz, .int (nI stk), .ref mre, .ref mce, .ref mco, .ref xc, .ref xa, .ref xm, .ref xv, .int (nI cnt), .int stp, .int (nI 0)]))]) (wr := []) [0] [] hP hD hK hS hA rfl rfl rfl (by decide) (fun hPc hDc => va_runV (C := R_Mo) (As := [.int f, .int i]) (rest := []) ⟨hx, hb, hml, hown, hts⟩ (c_Mo_isX mo mop mye mno mnu msz stk mre mce mco xc xa xm xv cnt stp (nI 0) f i _ hf) (⟨callB_of 2 hts (fs_g kin_Mo_is) rfl rfl rfl (hts _ wi_6) (hts _ wi_507) (by decide +kernel) ⟨Nat.le_of_ble_eq_true rfl, Nat.le_of_ble_eq_true rfl⟩, hts _ wi_509, hts _ sel_Mo_is⟩) (fs_preV (q0 := 0) rfl rfl hPc hK hDc) rfl rfl hl.1 rfl (lv_room (Nat.le_of_ble_eq_true rfl)) d_Mo_shape_8 ⟨Nat.le_of_ble_eq_true rfl, Nat.le_of_ble_eq_true rfl⟩) rfl (fun r8 _ H locs hp8 hP hD hS => ?_)
  have hP : va_P (dC, dI) vwCl [(mo, .inr (5, [.ref mop, .ref mye, .ref mno, .ref mnu, .ref msz, .int (nI stk), .ref mre, .ref mce, .ref mco, .ref xc, .ref xa, .ref xm, .ref xv, .int (nI cnt), .int stp, .int (nI 0)]))] H := hP
  have hD : va_D A [(mo, .inr (5, [.ref mop, .ref mye, .ref mno, .ref mnu, .ref msz, .int (nI stk), .ref mre, .ref mce, .ref mco, .ref xc, .ref xa, .ref xm, .ref xv, .int (nI cnt), .int stp, .int (nI 0)]))] := hD
  subst hp8
  refine lv_if_eq (tgt := 59) hx hb d_Mo_shape_11 (by decide) (fun _ => ?_) (fun hc => absurd (by decide) hc)
  refine lv_iconst (v := (-1)) hx hb d_Mo_shape_59 (by decide) ?_
  exact fs_iret hx hb hr hlocks hAe hK hS d_Mo_shape_60 () (rfl) hP hD

theorem d_Mo_number_0 : decode b_Mo_number 0 = .ok (.aload_n 0, 1) := by decide +kernel
theorem d_Mo_number_1 : decode b_Mo_number 1 = .ok (.iconst 0, 1) := by decide +kernel
theorem d_Mo_number_2 : decode b_Mo_number 2 = .ok (.putfield 47, 3) := by decide +kernel
theorem d_Mo_number_5 : decode b_Mo_number 5 = .ok (.aload_n 0, 1) := by decide +kernel
theorem d_Mo_number_6 : decode b_Mo_number 6 = .ok (.iload_n 1, 1) := by decide +kernel
theorem d_Mo_number_7 : decode b_Mo_number 7 = .ok (.iload_n 2, 1) := by decide +kernel
theorem d_Mo_number_8 : decode b_Mo_number 8 = .ok (.invokevirtual 59, 3) := by decide +kernel
theorem d_Mo_number_11 : decode b_Mo_number 11 = .ok (.ifCond .eq 17, 3) := by decide +kernel
theorem d_Mo_number_14 : decode b_Mo_number 14 = .ok (.aload_n 0, 1) := by decide +kernel
theorem d_Mo_number_15 : decode b_Mo_number 15 = .ok (.getfield 19, 3) := by decide +kernel
theorem d_Mo_number_18 : decode b_Mo_number 18 = .ok (.bipush 40, 2) := by decide +kernel
theorem d_Mo_number_20 : decode b_Mo_number 20 = .ok (.iload_n 1, 1) := by decide +kernel
theorem d_Mo_number_21 : decode b_Mo_number 21 = .ok (.imul, 1) := by decide +kernel
theorem d_Mo_number_22 : decode b_Mo_number 22 = .ok (.iload_n 2, 1) := by decide +kernel
theorem d_Mo_number_23 : decode b_Mo_number 23 = .ok (.iadd, 1) := by decide +kernel
theorem d_Mo_number_24 : decode b_Mo_number 24 = .ok (.iaload, 1) := by decide +kernel
theorem d_Mo_number_25 : decode b_Mo_number 25 = .ok (.goto 4, 3) := by decide +kernel
theorem d_Mo_number_28 : decode b_Mo_number 28 = .ok (.iconst 0, 1) := by decide +kernel
theorem d_Mo_number_29 : decode b_Mo_number 29 = .ok (.ireturn, 1) := by decide +kernel
set_option maxHeartbeats 4000000 in
set_option maxRecDepth 100000 in
theorem c_Mo_number (mo mop mye mno mnu msz stk mre mce mco xc xa xm xv cnt : Nat) (stp thr : Int32) (fo fy fn fk zs : Nat → Int32) (L : fx_Prg) (j t : Nat) (sz : Nat) (hj : j < 4) (hzs : zs j = nI L.length) (hrep : fx_rep L (fun i => fo (40 * j + i)) (fun i => fy (40 * j + i)) (fun i => fn (40 * j + i)) (fun i => fk (40 * j + i))) (hok : fx_ok L) (ht : t < L.length) : fs_I l y_Mo_number (k_Mo_number :: fs_T) { frames := 2, cells := 0, slots := 0, locals := 44 } (dC, dI) vwCl (fs_tys cI cZ cJ cF) [.ref mo, .int (nI j), .int (nI t)] [(mo, .inr (5, [.ref mop, .ref mye, .ref mno, .ref mnu, .ref msz, .int (nI stk), .ref mre, .ref mce, .ref mco, .ref xc, .ref xa, .ref xm, .ref xv, .int (nI cnt), .int stp, .int thr])), (mop, .inl (cI, 320, .inl fo)), (mye, .inl (cI, 320, .inl fy)), (mno, .inl (cI, 320, .inl fn)), (mnu, .inl (cI, 320, .inl fk)), (msz, .inl (cI, 8, .inl zs))] sz (S := Unit) (fun r _ => r = fx_K L t) (fun _ => [(mo, .inr (5, [.ref mop, .ref mye, .ref mno, .ref mnu, .ref msz, .int (nI stk), .ref mre, .ref mce, .ref mco, .ref xc, .ref xa, .ref xm, .ref xv, .int (nI cnt), .int stp, .int (nI 0)])), (mop, .inl (cI, 320, .inl fo)), (mye, .inl (cI, 320, .inl fy)), (mno, .inl (cI, 320, .inl fn)), (mnu, .inl (cI, 320, .inl fk)), (msz, .inl (cI, 8, .inl zs))]) 0 0 := by
  refine fs_head (by decide) (Nat.le_of_ble_eq_true rfl) ?_
  intro p e s m below meth c A ls hx hb hr hts hown hlocks hin hml hK hP hD hS hA hAe hsz hl
  have hl : lv_has ls 3 [(0, .ref mo), (1, .int (nI j)), (2, .int (nI t))] := hl
  have hown : s.vm.findClass R_Mo = some m.cls := hown
  have hlen := hok.1
  have hO := (hok.2 t ht).1
  have hY := (hok.2 t ht).2.1
  have hN := (hok.2 t ht).2.2
  refine lv_aload_n hx hb d_Mo_number_0 rfl (lv_at hl 0 rfl) ?_
  refine lv_iconst (v := nI 0) hx hb d_Mo_number_1 (by decide) ?_
  refine va_put (D := (dC, dI)) (ci := 5) (v := .int (nI 0)) (ty := (.int)) (C := R_Mo) (T := T_Mo) (N := 16) hx hb hts uin_Mo t_Mo ok_Mo n_Mo hown hK hP hD hS 0 rfl rfl 15 (by decide) (hts _ wi_445) (fun _ h9 => h9) rfl (by decide +kernel) rfl rfl (Nat.le_of_ble_eq_true rfl) d_Mo_number_2 (fun H locs hP hD hS => ?_)
  have hP : va_P (dC, dI) vwCl [(mo, .inr (5, [.ref mop, .ref mye, .ref mno, .ref mnu, .ref msz, .int (nI stk), .ref mre, .ref mce, .ref mco, .ref xc, .ref xa, .ref xm, .ref xv, .int (nI cnt), .int stp, .int (nI 0)])), (mop, .inl (cI, 320, .inl fo)), (mye, .inl (cI, 320, .inl fy)), (mno, .inl (cI, 320, .inl fn)), (mnu, .inl (cI, 320, .inl fk)), (msz, .inl (cI, 8, .inl zs))] H := hP
  have hD : va_D A [(mo, .inr (5, [.ref mop, .ref mye, .ref mno, .ref mnu, .ref msz, .int (nI stk), .ref mre, .ref mce, .ref mco, .ref xc, .ref xa, .ref xm, .ref xv, .int (nI cnt), .int stp, .int (nI 0)])), (mop, .inl (cI, 320, .inl fo)), (mye, .inl (cI, 320, .inl fy)), (mno, .inl (cI, 320, .inl fn)), (mnu, .inl (cI, 320, .inl fk)), (msz, .inl (cI, 8, .inl zs))] := hD
  refine lv_aload_n hx hb d_Mo_number_5 rfl (lv_at hl 0 rfl) ?_
  refine lv_iload_n hx hb d_Mo_number_6 rfl (lv_at hl 1 rfl) ?_
  refine lv_iload_n hx hb d_Mo_number_7 rfl (lv_at hl 2 rfl) ?_
  refine fs_calli (wc := [(mo, .inr (5, [.ref mop, .ref mye, .ref mno, .ref mnu, .ref msz, .int (nI stk), .ref mre, .ref mce, .ref mco, .ref xc, .ref xa, .ref xm, .ref xv, .int (nI cnt), .int stp, .int (nI 0)])), (msz, .inl (cI, 8, .inl zs))]) (wr := [(mop, .inl (cI, 320, .inl fo)), (mye, .inl (cI, 320, .inl fy)), (mno, .inl (cI, 320, .inl fn)), (mnu, .inl (cI, 320, .inl fk))]) [0, 5] [1, 2, 3, 4] hP hD hK hS hA rfl rfl rfl (by decide) (fun hPc hDc => va_runV (C := R_Mo) (As := [.int (nI j), .int (nI t)]) (rest := []) ⟨hx, hb, hml, hown, hts⟩ (c_Mo_is mo mop mye mno mnu msz stk mre mce mco xc xa xm xv cnt stp (nI 0) zs j L.length t _ hj hok.1 hzs ht) (⟨callB_of 2 hts (fs_g kin_Mo_is) rfl rfl rfl (hts _ wi_6) (hts _ wi_507) (by decide +kernel) ⟨Nat.le_of_ble_eq_true rfl, Nat.le_of_ble_eq_true rfl⟩, hts _ wi_509, hts _ sel_Mo_is⟩) (fs_preV (q0 := 0) rfl rfl hPc hK hDc) rfl rfl hl.1 rfl (lv_room (Nat.le_of_ble_eq_true rfl)) d_Mo_number_8 ⟨Nat.le_of_ble_eq_true rfl, Nat.le_of_ble_eq_true rfl⟩) rfl (fun r8 _ H locs hp8 hP hD hS => ?_)
  have hP : va_P (dC, dI) vwCl [(mo, .inr (5, [.ref mop, .ref mye, .ref mno, .ref mnu, .ref msz, .int (nI stk), .ref mre, .ref mce, .ref mco, .ref xc, .ref xa, .ref xm, .ref xv, .int (nI cnt), .int stp, .int (nI 0)])), (mop, .inl (cI, 320, .inl fo)), (mye, .inl (cI, 320, .inl fy)), (mno, .inl (cI, 320, .inl fn)), (mnu, .inl (cI, 320, .inl fk)), (msz, .inl (cI, 8, .inl zs))] H := hP.sub [4, 0, 1, 2, 3, 5] rfl
  have hD : va_D A [(mo, .inr (5, [.ref mop, .ref mye, .ref mno, .ref mnu, .ref msz, .int (nI stk), .ref mre, .ref mce, .ref mco, .ref xc, .ref xa, .ref xm, .ref xv, .int (nI cnt), .int stp, .int (nI 0)])), (mop, .inl (cI, 320, .inl fo)), (mye, .inl (cI, 320, .inl fy)), (mno, .inl (cI, 320, .inl fn)), (mnu, .inl (cI, 320, .inl fk)), (msz, .inl (cI, 8, .inl zs))] := hD.sub [4, 0, 1, 2, 3, 5] (by decide) rfl
  subst hp8
  refine lv_if_eq (tgt := 28) hx hb d_Mo_number_11 (by decide) (fun hc => absurd hc (by decide)) (fun _ => ?_)
  refine lv_aload_n hx hb d_Mo_number_14 rfl (lv_at hl 0 rfl) ?_
  refine va_get (D := (dC, dI)) (ci := 5) (v := .ref mnu) (C := R_Mo) (T := T_Mo) (N := 16) hx hb hts uin_Mo hown hK hP 0 rfl rfl 3 (by decide) (hts _ wi_433) (fun _ h9 => h9) rfl d_Mo_number_15 ?_
  refine lv_bipush (v := nI 40) hx hb d_Mo_number_18 (by decide) ?_
  refine lv_iload_n hx hb d_Mo_number_20 rfl (lv_at hl 1 rfl) ?_
  refine lv_imul hx hb d_Mo_number_21 ?_
  refine fs_eqi (pk_mul _ _) ?_
  refine lv_iload_n hx hb d_Mo_number_22 rfl (lv_at hl 2 rfl) ?_
  refine lv_iadd hx hb d_Mo_number_23 ?_
  refine fs_eqi (nI_add _ _) ?_
  refine fs_iald (v := fx_K L t) hx hb hK hP 4 0 rfl rfl (40 * j + t) rfl (by decide) (by omega) ((hrep t (by omega)).2.2.2) d_Mo_number_24 ?_
  refine lv_goto (tgt := 29) hx hb d_Mo_number_25 (by decide) ?_
  exact fs_iret hx hb hr hlocks hAe hK hS d_Mo_number_29 () (rfl) hP hD

set_option maxHeartbeats 4000000 in
set_option maxRecDepth 100000 in
theorem c_Mo_numberY (mo mop mye mno mnu msz stk mre mce mco xc xa xm xv cnt : Nat) (stp thr : Int32) (zs : Nat → Int32) (j len : Nat) (i : Int32) (sz : Nat) (hj : j < 4) (hl40 : len ≤ 40) (hzs : zs j = nI len) (hi : ∀ t, t < len → i ≠ nI t) : fs_I l y_Mo_number (k_Mo_number :: fs_T) { frames := 2, cells := 0, slots := 0, locals := 44 } (dC, dI) vwCl (fs_tys cI cZ cJ cF) [.ref mo, .int (nI j), .int i] [(mo, .inr (5, [.ref mop, .ref mye, .ref mno, .ref mnu, .ref msz, .int (nI stk), .ref mre, .ref mce, .ref mco, .ref xc, .ref xa, .ref xm, .ref xv, .int (nI cnt), .int stp, .int thr])), (msz, .inl (cI, 8, .inl zs))] sz (S := Unit) (fun r _ => r = nI 0) (fun _ => [(mo, .inr (5, [.ref mop, .ref mye, .ref mno, .ref mnu, .ref msz, .int (nI stk), .ref mre, .ref mce, .ref mco, .ref xc, .ref xa, .ref xm, .ref xv, .int (nI cnt), .int stp, .int (nI 0)])), (msz, .inl (cI, 8, .inl zs))]) 0 0 := by
  refine fs_head (by decide) (Nat.le_of_ble_eq_true rfl) ?_
  intro p e s m below meth c A ls hx hb hr hts hown hlocks hin hml hK hP hD hS hA hAe hsz hl
  have hl : lv_has ls 3 [(0, .ref mo), (1, .int (nI j)), (2, .int i)] := hl
  have hown : s.vm.findClass R_Mo = some m.cls := hown
  refine lv_aload_n hx hb d_Mo_number_0 rfl (lv_at hl 0 rfl) ?_
  refine lv_iconst (v := nI 0) hx hb d_Mo_number_1 (by decide) ?_
  refine va_put (D := (dC, dI)) (ci := 5) (v := .int (nI 0)) (ty := (.int)) (C := R_Mo) (T := T_Mo) (N := 16) hx hb hts uin_Mo t_Mo ok_Mo n_Mo hown hK hP hD hS 0 rfl rfl 15 (by decide) (hts _ wi_445) (fun _ h9 => h9) rfl (by decide +kernel) rfl rfl (Nat.le_of_ble_eq_true rfl) d_Mo_number_2 (fun H locs hP hD hS => ?_)
  have hP : va_P (dC, dI) vwCl [(mo, .inr (5, [.ref mop, .ref mye, .ref mno, .ref mnu, .ref msz, .int (nI stk), .ref mre, .ref mce, .ref mco, .ref xc, .ref xa, .ref xm, .ref xv, .int (nI cnt), .int stp, .int (nI 0)])), (msz, .inl (cI, 8, .inl zs))] H := hP
  have hD : va_D A [(mo, .inr (5, [.ref mop, .ref mye, .ref mno, .ref mnu, .ref msz, .int (nI stk), .ref mre, .ref mce, .ref mco, .ref xc, .ref xa, .ref xm, .ref xv, .int (nI cnt), .int stp, .int (nI 0)])), (msz, .inl (cI, 8, .inl zs))] := hD
  refine lv_aload_n hx hb d_Mo_number_5 rfl (lv_at hl 0 rfl) ?_
  refine lv_iload_n hx hb d_Mo_number_6 rfl (lv_at hl 1 rfl) ?_
  refine lv_iload_n hx hb d_Mo_number_7 rfl (lv_at hl 2 rfl) ?_
  refine fs_calli (wc := [(mo, .inr (5, [.ref mop, .ref mye, .ref mno, .ref mnu, .ref msz, .int (nI stk), .ref mre, .ref mce, .ref mco, .ref xc, .ref xa, .ref xm, .ref xv, .int (nI cnt), .int stp, .int (nI 0)])), (msz, .inl (cI, 8, .inl zs))]) (wr := []) [0, 1] [] hP hD hK hS hA rfl rfl rfl (by decide) (fun hPc hDc => va_runV (C := R_Mo) (As := [.int (nI j), .int i]) (rest := []) ⟨hx, hb, hml, hown, hts⟩ (c_Mo_isY mo mop mye mno mnu msz stk mre mce mco xc xa xm xv cnt stp (nI 0) zs j len i _ hj hl40 hzs hi) (⟨callB_of 2 hts (fs_g kin_Mo_is) rfl rfl rfl (hts _ wi_6) (hts _ wi_507) (by decide +kernel) ⟨Nat.le_of_ble_eq_true rfl, Nat.le_of_ble_eq_true rfl⟩, hts _ wi_509, hts _ sel_Mo_is⟩) (fs_preV (q0 := 0) rfl rfl hPc hK hDc) rfl rfl hl.1 rfl (lv_room (Nat.le_of_ble_eq_true rfl)) d_Mo_number_8 ⟨Nat.le_of_ble_eq_true rfl, Nat.le_of_ble_eq_true rfl⟩) rfl (fun r8 _ H locs hp8 hP hD hS => ?_)
  have hP : va_P (dC, dI) vwCl [(mo, .inr (5, [.ref mop, .ref mye, .ref mno, .ref mnu, .ref msz, .int (nI stk), .ref mre, .ref mce, .ref mco, .ref xc, .ref xa, .ref xm, .ref xv, .int (nI cnt), .int stp, .int (nI 0)])), (msz, .inl (cI, 8, .inl zs))] H := hP
  have hD : va_D A [(mo, .inr (5, [.ref mop, .ref mye, .ref mno, .ref mnu, .ref msz, .int (nI stk), .ref mre, .ref mce, .ref mco, .ref xc, .ref xa, .ref xm, .ref xv, .int (nI cnt), .int stp, .int (nI 0)])), (msz, .inl (cI, 8, .inl zs))] := hD
  subst hp8
  refine lv_if_eq (tgt := 28) hx hb d_Mo_number_11 (by decide) (fun _ => ?_) (fun hc => absurd (by decide) hc)
  refine lv_iconst (v := nI 0) hx hb d_Mo_number_28 (by decide) ?_
  exact fs_iret hx hb hr hlocks hAe hK hS d_Mo_number_29 () (rfl) hP hD

set_option maxHeartbeats 4000000 in
set_option maxRecDepth 100000 in
theorem c_Mo_numberX (mo mop mye mno mnu msz stk mre mce mco xc xa xm xv cnt : Nat) (stp thr : Int32) (f i : Int32) (sz : Nat) (hf : ∀ j, j < 4 → f ≠ nI j) : fs_I l y_Mo_number (k_Mo_number :: fs_T) { frames := 2, cells := 0, slots := 0, locals := 44 } (dC, dI) vwCl (fs_tys cI cZ cJ cF) [.ref mo, .int f, .int i] [(mo, .inr (5, [.ref mop, .ref mye, .ref mno, .ref mnu, .ref msz, .int (nI stk), .ref mre, .ref mce, .ref mco, .ref xc, .ref xa, .ref xm, .ref xv, .int (nI cnt), .int stp, .int thr]))] sz (S := Unit) (fun r _ => r = nI 0) (fun _ => [(mo, .inr (5, [.ref mop, .ref mye, .ref mno, .ref mnu, .ref msz, .int (nI stk), .ref mre, .ref mce, .ref mco, .ref xc, .ref xa, .ref xm, .ref xv, .int (nI cnt), .int stp, .int (nI 0)]))]) 0 0 := by
  refine fs_head (by decide) (Nat.le_of_ble_eq_true rfl) ?_
  intro p e s m below meth c A ls hx hb hr hts hown hlocks hin hml hK hP hD hS hA hAe hsz hl
  have hl : lv_has ls 3 [(0, .ref mo), (1, .int f), (2, .int i)] := hl
  have hown : s.vm.findClass R_Mo = some m.cls := hown
  refine lv_aload_n hx hb d_Mo_number_0 rfl (lv_at hl 0 rfl) ?_
  refine lv_iconst (v := nI 0) hx hb d_Mo_number_1 (by decide) ?_
  refine va_put (D := (dC, dI)) (ci := 5) (v := .int (nI 0)) (ty := (.int)) (C := R_Mo) (T := T_Mo) (N := 16) hx hb hts uin_Mo t_Mo ok_Mo n_Mo hown hK hP hD hS 0 rfl rfl 15 (by decide) (hts _ wi_445) (fun _ h9 => h9) rfl (by decide +kernel) rfl rfl (Nat.le_of_ble_eq_true rfl) d_Mo_number_2 (fun H locs hP hD hS => ?_)
  have hP : va_P (dC, dI) vwCl [(mo, .inr (5, [.ref mop, .ref mye, .ref mno, .ref mnu, .ref msz, .int (nI stk), .ref mre, .ref mce, .ref mco, .ref xc, .ref xa, .ref xm, .ref xv, .int (nI cnt), .int stp, .int (nI 0)]))] H := hP
  have hD : va_D A [(mo, .inr (5, [.ref mop, .ref mye, .ref mno, .ref mnu, .ref msz, .int (nI stk), .ref mre, .ref mce, .ref mco, .ref xc, .ref xa, .ref xm, .ref xv, .int (nI cnt), .int stp, .int (nI 0)]))] := hD
  refine lv_aload_n hx hb d_Mo_number_5 rfl (lv_at hl 0 rfl) ?_
  refine lv_iload_n hx hb d_Mo_number_6 rfl (lv_at hl 1 rfl) ?_
  refine lv_iload_n hx hb d_Mo_number_7 rfl (lv_at hl 2 rfl) ?_
  refine fs_calli (wc := [(mo, .inr (5, [.ref mop, .ref mye, .ref mno, .ref mnu, .ref msz, .int (nI stk), .ref mre, .ref mce, .ref mco, .ref xc, .ref xa, .ref xm, .ref xv, .int (nI cnt), .int stp, .int (nI 0)]))]) (wr := []) [0] [] hP hD hK hS hA rfl rfl rfl (by decide) (fun hPc hDc => va_runV (C := R_Mo) (As := [.int f, .int i]) (rest := []) ⟨hx, hb, hml, hown, hts⟩ (c_Mo_isX mo mop mye mno mnu msz stk mre mce mco xc xa xm xv cnt stp (nI 0) f i _ hf) (⟨callB_of 2 hts (fs_g kin_Mo_is) rfl rfl rfl (hts _ wi_6) (hts _ wi_507) (by decide +kernel) ⟨Nat.le_of_ble_eq_true rfl, Nat.le_of_ble_eq_true rfl⟩, hts _ wi_509, hts _ sel_Mo_is⟩) (fs_preV (q0 := 0) rfl rfl hPc hK hDc) rfl rfl hl.1 rfl (lv_room (Nat.le_of_ble_eq_true rfl)) d_Mo_number_8 ⟨Nat.le_of_ble_eq_true rfl, Nat.le_of_ble_eq_true rfl⟩) rfl (fun r8 _ H locs hp8 hP hD hS => ?_)
  have hP : va_P (dC, dI) vwCl [(mo, .inr (5, [.ref mop, .ref mye, .ref mno, .ref mnu, .ref msz, .int (nI stk), .ref mre, .ref mce, .ref mco, .ref xc, .ref xa, .ref xm, .ref xv, .int (nI cnt), .int stp, .int (nI 0)]))] H := hP
  have hD : va_D A [(mo, .inr (5, [.ref mop, .ref mye, .ref mno, .ref mnu, .ref msz, .int (nI stk), .ref mre, .ref mce, .ref mco, .ref xc, .ref xa, .ref xm, .ref xv, .int (nI cnt), .int stp, .int (nI 0)]))] := hD
  subst hp8
  refine lv_if_eq (tgt := 28) hx hb d_Mo_number_11 (by decide) (fun _ => ?_) (fun hc => absurd (by decide) hc)
  refine lv_iconst (v := nI 0) hx hb d_Mo_number_28 (by decide) ?_
  exact fs_iret hx hb hr hlocks hAe hK hS d_Mo_number_29 () (rfl) hP hD

theorem d_Mo_set_0 : decode b_Mo_set 0 = .ok (.aload_n 0, 1) := by decide +kernel
theorem d_Mo_set_1 : decode b_Mo_set 1 = .ok (.iconst 0, 1) := by decide +kernel
theorem d_Mo_set_2 : decode b_Mo_set 2 = .ok (.putfield 47, 3) := by decide +kernel
theorem d_Mo_set_5 : decode b_Mo_set 5 = .ok (.iload_n 1, 1) := by decide +kernel
theorem d_Mo_set_6 : decode b_Mo_set 6 = .ok (.iconst 0, 1) := by decide +kernel
theorem d_Mo_set_7 : decode b_Mo_set 7 = .ok (.bipush 15, 2) := by decide +kernel
theorem d_Mo_set_9 : decode b_Mo_set 9 = .ok (.invokestatic 51, 3) := by decide +kernel
theorem d_Mo_set_12 : decode b_Mo_set 12 = .ok (.ifCond .ne 5, 3) := by decide +kernel
theorem d_Mo_set_15 : decode b_Mo_set 15 = .ok (.iconst 0, 1) := by decide +kernel
theorem d_Mo_set_16 : decode b_Mo_set 16 = .ok (.ireturn, 1) := by decide +kernel
theorem d_Mo_set_17 : decode b_Mo_set 17 = .ok (.aload_n 0, 1) := by decide +kernel
theorem d_Mo_set_18 : decode b_Mo_set 18 = .ok (.getfield 25, 3) := by decide +kernel
theorem d_Mo_set_21 : decode b_Mo_set 21 = .ok (.iload_n 1, 1) := by decide +kernel
theorem d_Mo_set_22 : decode b_Mo_set 22 = .ok (.iaload, 1) := by decide +kernel
theorem d_Mo_set_23 : decode b_Mo_set 23 = .ok (.istore_n 3, 1) := by decide +kernel
theorem d_Mo_set_24 : decode b_Mo_set 24 = .ok (.aload_n 0, 1) := by decide +kernel
theorem d_Mo_set_25 : decode b_Mo_set 25 = .ok (.getfield 25, 3) := by decide +kernel
theorem d_Mo_set_28 : decode b_Mo_set 28 = .ok (.iload_n 1, 1) := by decide +kernel
theorem d_Mo_set_29 : decode b_Mo_set 29 = .ok (.iload_n 2, 1) := by decide +kernel
theorem d_Mo_set_30 : decode b_Mo_set 30 = .ok (.iastore, 1) := by decide +kernel
theorem d_Mo_set_31 : decode b_Mo_set 31 = .ok (.iload_n 3, 1) := by decide +kernel
theorem d_Mo_set_32 : decode b_Mo_set 32 = .ok (.ireturn, 1) := by decide +kernel
set_option maxHeartbeats 4000000 in
set_option maxRecDepth 100000 in
theorem c_Mo_set (mo mop mye mno mnu msz stk mre mce mco xc xa xm xv cnt : Nat) (stp thr : Int32) (w : Nat → Int32) (i : Nat) (v : Int32) (sz : Nat) (hi : i < 16) : fs_I l y_Mo_set (k_Mo_set :: fs_T) { frames := 1, cells := 0, slots := 0, locals := 22 } (dC, dI) vwCl (fs_tys cI cZ cJ cF) [.ref mo, .int (nI i), .int v] [(mo, .inr (5, [.ref mop, .ref mye, .ref mno, .ref mnu, .ref msz, .int (nI stk), .ref mre, .ref mce, .ref mco, .ref xc, .ref xa, .ref xm, .ref xv, .int (nI cnt), .int stp, .int thr])), (mre, .inl (cI, 16, .inl w))] sz (S := Unit) (fun r _ => r = w i) (fun _ => [(mo, .inr (5, [.ref mop, .ref mye, .ref mno, .ref mnu, .ref msz, .int (nI stk), .ref mre, .ref mce, .ref mco, .ref xc, .ref xa, .ref xm, .ref xv, .int (nI cnt), .int stp, .int (nI 0)])), (mre, .inl (cI, 16, .inl (upd w i v)))]) 0 0 := by
  refine fs_head (by decide) (Nat.le_of_ble_eq_true rfl) ?_
  intro p e s m below meth c A ls hx hb hr hts hown hlocks hin hml hK hP hD hS hA hAe hsz hl
  have hl : lv_has ls 4 [(0, .ref mo), (1, .int (nI i)), (2, .int v)] := hl
  have hown : s.vm.findClass R_Mo = some m.cls := hown
  refine lv_aload_n hx hb d_Mo_set_0 rfl (lv_at hl 0 rfl) ?_
  refine lv_iconst (v := nI 0) hx hb d_Mo_set_1 (by decide) ?_
  refine va_put (D := (dC, dI)) (ci := 5) (v := .int (nI 0)) (ty := (.int)) (C := R_Mo) (T := T_Mo) (N := 16) hx hb hts uin_Mo t_Mo ok_Mo n_Mo hown hK hP hD hS 0 rfl rfl 15 (by decide) (hts _ wi_445) (fun _ h9 => h9) rfl (by decide +kernel) rfl rfl (Nat.le_of_ble_eq_true rfl) d_Mo_set_2 (fun H locs hP hD hS => ?_)
  have hP : va_P (dC, dI) vwCl [(mo, .inr (5, [.ref mop, .ref mye, .ref mno, .ref mnu, .ref msz, .int (nI stk), .ref mre, .ref mce, .ref mco, .ref xc, .ref xa, .ref xm, .ref xv, .int (nI cnt), .int stp, .int (nI 0)])), (mre, .inl (cI, 16, .inl w))] H := hP
  have hD : va_D A [(mo, .inr (5, [.ref mop, .ref mye, .ref mno, .ref mnu, .ref msz, .int (nI stk), .ref mre, .ref mce, .ref mco, .ref xc, .ref xa, .ref xm, .ref xv, .int (nI cnt), .int stp, .int (nI 0)])), (mre, .inl (cI, 16, .inl w))] := hD
  refine lv_iload_n hx hb d_Mo_set_5 rfl (lv_at hl 1 rfl) ?_
  refine lv_iconst (v := nI 0) hx hb d_Mo_set_6 (by decide) ?_
  refine lv_bipush (v := nI 15) hx hb d_Mo_set_7 (by decide) ?_
  refine fs_calli (wc := []) (wr := [(mo, .inr (5, [.ref mop, .ref mye, .ref mno, .ref mnu, .ref msz, .int (nI stk), .ref mre, .ref mce, .ref mco, .ref xc, .ref xa, .ref xm, .ref xv, .int (nI cnt), .int stp, .int (nI 0)])), (mre, .inl (cI, 16, .inl w))]) [] [0, 1] hP hD hK hS hA rfl rfl rfl (by decide) (fun hPc hDc => va_runS (As := [.int (nI i), .int (nI 0), .int (nI 15)]) (rest := []) ⟨hx, hb, hml, hown, hts⟩ (c_Mo_within (nI i) (nI 0) (nI 15) (((i : Nat) : Int)) (((0 : Nat) : Int)) (((15 : Nat) : Int)) _ (nI_toInt (by omega)) (nI_toInt (by omega)) (nI_toInt (by omega))) (⟨callB_of 3 hts (fs_g kin_Mo_within) rfl rfl rfl (hts _ wi_6) (hts _ wi_488) (by decide +kernel) ⟨Nat.le_of_ble_eq_true rfl, Nat.le_of_ble_eq_true rfl⟩, hts _ wi_489⟩) (fs_preS hPc hK hDc) rfl rfl hl.1 rfl (lv_room (Nat.le_of_ble_eq_true rfl)) d_Mo_set_9 ⟨Nat.le_of_ble_eq_true rfl, Nat.le_of_ble_eq_true rfl⟩) rfl (fun r9 _ H locs hp9 hP hD hS => ?_)
  have hP : va_P (dC, dI) vwCl [(mo, .inr (5, [.ref mop, .ref mye, .ref mno, .ref mnu, .ref msz, .int (nI stk), .ref mre, .ref mce, .ref mco, .ref xc, .ref xa, .ref xm, .ref xv, .int (nI cnt), .int stp, .int (nI 0)])), (mre, .inl (cI, 16, .inl w))] H := hP
  have hD : va_D A [(mo, .inr (5, [.ref mop, .ref mye, .ref mno, .ref mnu, .ref msz, .int (nI stk), .ref mre, .ref mce, .ref mco, .ref xc, .ref xa, .ref xm, .ref xv, .int (nI cnt), .int stp, .int (nI 0)])), (mre, .inl (cI, 16, .inl w))] := hD
  rcases hp9 with ⟨hc9, rfl⟩ | ⟨hc9, _⟩
  rotate_left
  · exact absurd (by omega) hc9
  refine lv_if_ne (tgt := 17) hx hb d_Mo_set_12 (by decide) (fun _ => ?_) (fun hc => absurd hc (by decide))
  refine lv_aload_n hx hb d_Mo_set_17 rfl (lv_at hl 0 rfl) ?_
  refine va_get (D := (dC, dI)) (ci := 5) (v := .ref mre) (C := R_Mo) (T := T_Mo) (N := 16) hx hb hts uin_Mo hown hK hP 0 rfl rfl 6 (by decide) (hts _ wi_436) (fun _ h9 => h9) rfl d_Mo_set_18 ?_
  refine lv_iload_n hx hb d_Mo_set_21 rfl (lv_at hl 1 rfl) ?_
  refine fs_iald (v := w i) hx hb hK hP 1 0 rfl rfl i rfl (by decide) (by omega) rfl d_Mo_set_22 ?_
  refine lv_istore_n hx hb d_Mo_set_23 rfl hl (by decide) (lv' := [(3, .int (w i)), (0, .ref mo), (1, .int (nI i)), (2, .int v)]) rfl (fun ls hl => ?_)
  refine lv_aload_n hx hb d_Mo_set_24 rfl (lv_at hl 1 rfl) ?_
  refine va_get (D := (dC, dI)) (ci := 5) (v := .ref mre) (C := R_Mo) (T := T_Mo) (N := 16) hx hb hts uin_Mo hown hK hP 0 rfl rfl 6 (by decide) (hts _ wi_436) (fun _ h9 => h9) rfl d_Mo_set_25 ?_
  refine lv_iload_n hx hb d_Mo_set_28 rfl (lv_at hl 2 rfl) ?_
  refine lv_iload_n hx hb d_Mo_set_29 rfl (lv_at hl 3 rfl) ?_
  refine fs_iast hx hb hK hP hD hS 1 0 rfl rfl i rfl (by decide) (by omega) d_Mo_set_30 (fun H locs hP hD hS => ?_)
  have hP : va_P (dC, dI) vwCl [(mo, .inr (5, [.ref mop, .ref mye, .ref mno, .ref mnu, .ref msz, .int (nI stk), .ref mre, .ref mce, .ref mco, .ref xc, .ref xa, .ref xm, .ref xv, .int (nI cnt), .int stp, .int (nI 0)])), (mre, .inl (cI, 16, .inl (upd w i v)))] H := hP
  have hD : va_D A [(mo, .inr (5, [.ref mop, .ref mye, .ref mno, .ref mnu, .ref msz, .int (nI stk), .ref mre, .ref mce, .ref mco, .ref xc, .ref xa, .ref xm, .ref xv, .int (nI cnt), .int stp, .int (nI 0)])), (mre, .inl (cI, 16, .inl (upd w i v)))] := hD
  refine lv_iload_n hx hb d_Mo_set_31 rfl (lv_at hl 0 rfl) ?_
  exact fs_iret hx hb hr hlocks hAe hK hS d_Mo_set_32 () (rfl) hP hD

set_option maxHeartbeats 4000000 in
set_option maxRecDepth 100000 in
theorem c_Mo_setX (mo mop mye mno mnu msz stk mre mce mco xc xa xm xv cnt : Nat) (stp thr : Int32) (i v : Int32) (sz : Nat) (hi : ∀ t, t < 16 → i ≠ nI t) : fs_I l y_Mo_set (k_Mo_set :: fs_T) { frames := 1, cells := 0, slots := 0, locals := 22 } (dC, dI) vwCl (fs_tys cI cZ cJ cF) [.ref mo, .int i, .int v] [(mo, .inr (5, [.ref mop, .ref mye, .ref mno, .ref mnu, .ref msz, .int (nI stk), .ref mre, .ref mce, .ref mco, .ref xc, .ref xa, .ref xm, .ref xv, .int (nI cnt), .int stp, .int thr]))] sz (S := Unit) (fun r _ => r = nI 0) (fun _ => [(mo, .inr (5, [.ref mop, .ref mye, .ref mno, .ref mnu, .ref msz, .int (nI stk), .ref mre, .ref mce, .ref mco, .ref xc, .ref xa, .ref xm, .ref xv, .int (nI cnt), .int stp, .int (nI 0)]))]) 0 0 := by
  refine fs_head (by decide) (Nat.le_of_ble_eq_true rfl) ?_
  intro p e s m below meth c A ls hx hb hr hts hown hlocks hin hml hK hP hD hS hA hAe hsz hl
  have hl : lv_has ls 4 [(0, .ref mo), (1, .int i), (2, .int v)] := hl
  have hown : s.vm.findClass R_Mo = some m.cls := hown
  refine lv_aload_n hx hb d_Mo_set_0 rfl (lv_at hl 0 rfl) ?_
  refine lv_iconst (v := nI 0) hx hb d_Mo_set_1 (by decide) ?_
  refine va_put (D := (dC, dI)) (ci := 5) (v := .int (nI 0)) (ty := (.int)) (C := R_Mo) (T := T_Mo) (N := 16) hx hb hts uin_Mo t_Mo ok_Mo n_Mo hown hK hP hD hS 0 rfl rfl 15 (by decide) (hts _ wi_445) (fun _ h9 => h9) rfl (by decide +kernel) rfl rfl (Nat.le_of_ble_eq_true rfl) d_Mo_set_2 (fun H locs hP hD hS => ?_)
  have hP : va_P (dC, dI) vwCl [(mo, .inr (5, [.ref mop, .ref mye, .ref mno, .ref mnu, .ref msz, .int (nI stk), .ref mre, .ref mce, .ref mco, .ref xc, .ref xa, .ref xm, .ref xv, .int (nI cnt), .int stp, .int (nI 0)]))] H := hP
  have hD : va_D A [(mo, .inr (5, [.ref mop, .ref mye, .ref mno, .ref mnu, .ref msz, .int (nI stk), .ref mre, .ref mce, .ref mco, .ref xc, .ref xa, .ref xm, .ref xv, .int (nI cnt), .int stp, .int (nI 0)]))] := hD
  refine lv_iload_n hx hb d_Mo_set_5 rfl (lv_at hl 1 rfl) ?_
  refine lv_iconst (v := nI 0) hx hb d_Mo_set_6 (by decide) ?_
  refine lv_bipush (v := nI 15) hx hb d_Mo_set_7 (by decide) ?_
  refine fs_calli (wc := []) (wr := [(mo, .inr (5, [.ref mop, .ref mye, .ref mno, .ref mnu, .ref msz, .int (nI stk), .ref mre, .ref mce, .ref mco, .ref xc, .ref xa, .ref xm, .ref xv, .int (nI cnt), .int stp, .int (nI 0)]))]) [] [0] hP hD hK hS hA rfl rfl rfl (by decide) (fun hPc hDc => va_runS (As := [.int i, .int (nI 0), .int (nI 15)]) (rest := []) ⟨hx, hb, hml, hown, hts⟩ (c_Mo_within i (nI 0) (nI 15) (i.toInt) (((0 : Nat) : Int)) (((15 : Nat) : Int)) _ (rfl) (nI_toInt (by omega)) (nI_toInt (by omega))) (⟨callB_of 3 hts (fs_g kin_Mo_within) rfl rfl rfl (hts _ wi_6) (hts _ wi_488) (by decide +kernel) ⟨Nat.le_of_ble_eq_true rfl, Nat.le_of_ble_eq_true rfl⟩, hts _ wi_489⟩) (fs_preS hPc hK hDc) rfl rfl hl.1 rfl (lv_room (Nat.le_of_ble_eq_true rfl)) d_Mo_set_9 ⟨Nat.le_of_ble_eq_true rfl, Nat.le_of_ble_eq_true rfl⟩) rfl (fun r9 _ H locs hp9 hP hD hS => ?_)
  have hP : va_P (dC, dI) vwCl [(mo, .inr (5, [.ref mop, .ref mye, .ref mno, .ref mnu, .ref msz, .int (nI stk), .ref mre, .ref mce, .ref mco, .ref xc, .ref xa, .ref xm, .ref xv, .int (nI cnt), .int stp, .int (nI 0)]))] H := hP
  have hD : va_D A [(mo, .inr (5, [.ref mop, .ref mye, .ref mno, .ref mnu, .ref msz, .int (nI stk), .ref mre, .ref mce, .ref mco, .ref xc, .ref xa, .ref xm, .ref xv, .int (nI cnt), .int stp, .int (nI 0)]))] := hD
  rcases hp9 with ⟨hc9, _⟩ | ⟨hc9, rfl⟩
  · obtain ⟨t, ht, e⟩ := fs_of (x := i) (n := 16) (by decide) (by omega) (by omega)
    exact absurd e (hi t ht)
  refine lv_if_ne (tgt := 17) hx hb d_Mo_set_12 (by decide) (fun hc => absurd (by decide) hc) (fun _ => ?_)
  refine lv_iconst (v := nI 0) hx hb d_Mo_set_15 (by decide) ?_
  exact fs_iret hx hb hr hlocks hAe hK hS d_Mo_set_16 () (rfl) hP hD

theorem d_Mo_steps_0 : decode b_Mo_steps 0 = .ok (.aload_n 0, 1) := by decide +kernel
theorem d_Mo_steps_1 : decode b_Mo_steps 1 = .ok (.iconst 0, 1) := by decide +kernel
theorem d_Mo_steps_2 : decode b_Mo_steps 2 = .ok (.putfield 47, 3) := by decide +kernel
theorem d_Mo_steps_5 : decode b_Mo_steps 5 = .ok (.aload_n 0, 1) := by decide +kernel
theorem d_Mo_steps_6 : decode b_Mo_steps 6 = .ok (.getfield 79, 3) := by decide +kernel
theorem d_Mo_steps_9 : decode b_Mo_steps 9 = .ok (.ireturn, 1) := by decide +kernel
set_option maxHeartbeats 4000000 in
set_option maxRecDepth 100000 in
theorem c_Mo_steps (mo mop mye mno mnu msz stk mre mce mco xc xa xm xv cnt : Nat) (stp thr : Int32) (sz : Nat)  : fs_I l y_Mo_steps (k_Mo_steps :: fs_T) { frames := 0, cells := 0, slots := 0, locals := 0 } (dC, dI) vwCl (fs_tys cI cZ cJ cF) [.ref mo] [(mo, .inr (5, [.ref mop, .ref mye, .ref mno, .ref mnu, .ref msz, .int (nI stk), .ref mre, .ref mce, .ref mco, .ref xc, .ref xa, .ref xm, .ref xv, .int (nI cnt), .int stp, .int thr]))] sz (S := Unit) (fun r _ => r = stp) (fun _ => [(mo, .inr (5, [.ref mop, .ref mye, .ref mno, .ref mnu, .ref msz, .int (nI stk), .ref mre, .ref mce, .ref mco, .ref xc, .ref xa, .ref xm, .ref xv, .int (nI cnt), .int stp, .int (nI 0)]))]) 0 0 := by
  refine fs_head (by decide) (Nat.le_of_ble_eq_true rfl) ?_
  intro p e s m below meth c A ls hx hb hr hts hown hlocks hin hml hK hP hD hS hA hAe hsz hl
  have hl : lv_has ls 1 [(0, .ref mo)] := hl
  have hown : s.vm.findClass R_Mo = some m.cls := hown
  refine lv_aload_n hx hb d_Mo_steps_0 rfl (lv_at hl 0 rfl) ?_
  refine lv_iconst (v := nI 0) hx hb d_Mo_steps_1 (by decide) ?_
  refine va_put (D := (dC, dI)) (ci := 5) (v := .int (nI 0)) (ty := (.int)) (C := R_Mo) (T := T_Mo) (N := 16) hx hb hts uin_Mo t_Mo ok_Mo n_Mo hown hK hP hD hS 0 rfl rfl 15 (by decide) (hts _ wi_445) (fun _ h9 => h9) rfl (by decide +kernel) rfl rfl (Nat.le_of_ble_eq_true rfl) d_Mo_steps_2 (fun H locs hP hD hS => ?_)
  have hP : va_P (dC, dI) vwCl [(mo, .inr (5, [.ref mop, .ref mye, .ref mno, .ref mnu, .ref msz, .int (nI stk), .ref mre, .ref mce, .ref mco, .ref xc, .ref xa, .ref xm, .ref xv, .int (nI cnt), .int stp, .int (nI 0)]))] H := hP
  have hD : va_D A [(mo, .inr (5, [.ref mop, .ref mye, .ref mno, .ref mnu, .ref msz, .int (nI stk), .ref mre, .ref mce, .ref mco, .ref xc, .ref xa, .ref xm, .ref xv, .int (nI cnt), .int stp, .int (nI 0)]))] := hD
  refine lv_aload_n hx hb d_Mo_steps_5 rfl (lv_at hl 0 rfl) ?_
  refine va_get (D := (dC, dI)) (ci := 5) (v := .int stp) (C := R_Mo) (T := T_Mo) (N := 16) hx hb hts uin_Mo hown hK hP 0 rfl rfl 14 (by decide) (hts _ wi_444) (fun _ h9 => h9) rfl d_Mo_steps_6 ?_
  exact fs_iret hx hb hr hlocks hAe hK hS d_Mo_steps_9 () (rfl) hP hD

theorem d_Mo_rule_0 : decode b_Mo_rule 0 = .ok (.aload_n 0, 1) := by decide +kernel
theorem d_Mo_rule_1 : decode b_Mo_rule 1 = .ok (.iconst 0, 1) := by decide +kernel
theorem d_Mo_rule_2 : decode b_Mo_rule 2 = .ok (.putfield 47, 3) := by decide +kernel
theorem d_Mo_rule_5 : decode b_Mo_rule 5 = .ok (.iload_n 2, 1) := by decide +kernel
theorem d_Mo_rule_6 : decode b_Mo_rule 6 = .ok (.iconst (-1), 1) := by decide +kernel
theorem d_Mo_rule_7 : decode b_Mo_rule 7 = .ok (.bipush 11, 2) := by decide +kernel
theorem d_Mo_rule_9 : decode b_Mo_rule 9 = .ok (.invokestatic 51, 3) := by decide +kernel
theorem d_Mo_rule_12 : decode b_Mo_rule 12 = .ok (.ifCond .ne 5, 3) := by decide +kernel
theorem d_Mo_rule_15 : decode b_Mo_rule 15 = .ok (.iconst (-1), 1) := by decide +kernel
theorem d_Mo_rule_16 : decode b_Mo_rule 16 = .ok (.ireturn, 1) := by decide +kernel
theorem d_Mo_rule_17 : decode b_Mo_rule 17 = .ok (.aload_n 0, 1) := by decide +kernel
theorem d_Mo_rule_18 : decode b_Mo_rule 18 = .ok (.getfield 93, 3) := by decide +kernel
theorem d_Mo_rule_21 : decode b_Mo_rule 21 = .ok (.bipush 8, 2) := by decide +kernel
theorem d_Mo_rule_23 : decode b_Mo_rule 23 = .ok (.if_icmp .ne 6, 3) := by decide +kernel
theorem d_Mo_rule_26 : decode b_Mo_rule 26 = .ok (.bipush (-2), 2) := by decide +kernel
theorem d_Mo_rule_28 : decode b_Mo_rule 28 = .ok (.ireturn, 1) := by decide +kernel
theorem d_Mo_rule_29 : decode b_Mo_rule 29 = .ok (.aload_n 0, 1) := by decide +kernel
theorem d_Mo_rule_30 : decode b_Mo_rule 30 = .ok (.getfield 35, 3) := by decide +kernel
theorem d_Mo_rule_33 : decode b_Mo_rule 33 = .ok (.aload_n 0, 1) := by decide +kernel
theorem d_Mo_rule_34 : decode b_Mo_rule 34 = .ok (.getfield 93, 3) := by decide +kernel
theorem d_Mo_rule_37 : decode b_Mo_rule 37 = .ok (.iload_n 1, 1) := by decide +kernel
theorem d_Mo_rule_38 : decode b_Mo_rule 38 = .ok (.iastore, 1) := by decide +kernel
theorem d_Mo_rule_39 : decode b_Mo_rule 39 = .ok (.aload_n 0, 1) := by decide +kernel
theorem d_Mo_rule_40 : decode b_Mo_rule 40 = .ok (.getfield 38, 3) := by decide +kernel
theorem d_Mo_rule_43 : decode b_Mo_rule 43 = .ok (.aload_n 0, 1) := by decide +kernel
theorem d_Mo_rule_44 : decode b_Mo_rule 44 = .ok (.getfield 93, 3) := by decide +kernel
theorem d_Mo_rule_47 : decode b_Mo_rule 47 = .ok (.iload_n 2, 1) := by decide +kernel
theorem d_Mo_rule_48 : decode b_Mo_rule 48 = .ok (.iastore, 1) := by decide +kernel
theorem d_Mo_rule_49 : decode b_Mo_rule 49 = .ok (.aload_n 0, 1) := by decide +kernel
theorem d_Mo_rule_50 : decode b_Mo_rule 50 = .ok (.getfield 41, 3) := by decide +kernel
theorem d_Mo_rule_53 : decode b_Mo_rule 53 = .ok (.aload_n 0, 1) := by decide +kernel
theorem d_Mo_rule_54 : decode b_Mo_rule 54 = .ok (.getfield 93, 3) := by decide +kernel
theorem d_Mo_rule_57 : decode b_Mo_rule 57 = .ok (.iload_n 3, 1) := by decide +kernel
theorem d_Mo_rule_58 : decode b_Mo_rule 58 = .ok (.iastore, 1) := by decide +kernel
theorem d_Mo_rule_59 : decode b_Mo_rule 59 = .ok (.aload_n 0, 1) := by decide +kernel
theorem d_Mo_rule_60 : decode b_Mo_rule 60 = .ok (.getfield 44, 3) := by decide +kernel
theorem d_Mo_rule_63 : decode b_Mo_rule 63 = .ok (.aload_n 0, 1) := by decide +kernel
theorem d_Mo_rule_64 : decode b_Mo_rule 64 = .ok (.getfield 93, 3) := by decide +kernel
theorem d_Mo_rule_67 : decode b_Mo_rule 67 = .ok (.iload 4, 2) := by decide +kernel
theorem d_Mo_rule_69 : decode b_Mo_rule 69 = .ok (.iastore, 1) := by decide +kernel
theorem d_Mo_rule_70 : decode b_Mo_rule 70 = .ok (.aload_n 0, 1) := by decide +kernel
theorem d_Mo_rule_71 : decode b_Mo_rule 71 = .ok (.dup, 1) := by decide +kernel
theorem d_Mo_rule_72 : decode b_Mo_rule 72 = .ok (.getfield 93, 3) := by decide +kernel
theorem d_Mo_rule_75 : decode b_Mo_rule 75 = .ok (.iconst 1, 1) := by decide +kernel
theorem d_Mo_rule_76 : decode b_Mo_rule 76 = .ok (.iadd, 1) := by decide +kernel
theorem d_Mo_rule_77 : decode b_Mo_rule 77 = .ok (.putfield 93, 3) := by decide +kernel
theorem d_Mo_rule_80 : decode b_Mo_rule 80 = .ok (.aload_n 0, 1) := by decide +kernel
theorem d_Mo_rule_81 : decode b_Mo_rule 81 = .ok (.getfield 93, 3) := by decide +kernel
theorem d_Mo_rule_84 : decode b_Mo_rule 84 = .ok (.ireturn, 1) := by decide +kernel
set_option maxHeartbeats 4000000 in
set_option maxRecDepth 100000 in
theorem c_Mo_rule (mo mop mye mno mnu msz stk mre mce mco xc xa xm xv cnt : Nat) (stp thr : Int32) (gc ga gm gv : Nat → Int32) (v1 v2 v3 v4 : Int32) (sz : Nat) (harg : -1 ≤ v2.toInt ∧ v2.toInt < 12) (hcnt : cnt < 8) : fs_I l y_Mo_rule (k_Mo_rule :: fs_T) { frames := 1, cells := 0, slots := 0, locals := 22 } (dC, dI) vwCl (fs_tys cI cZ cJ cF) [.ref mo, .int v1, .int v2, .int v3, .int v4] [(mo, .inr (5, [.ref mop, .ref mye, .ref mno, .ref mnu, .ref msz, .int (nI stk), .ref mre, .ref mce, .ref mco, .ref xc, .ref xa, .ref xm, .ref xv, .int (nI cnt), .int stp, .int thr])), (xc, .inl (cI, 8, .inl gc)), (xa, .inl (cI, 8, .inl ga)), (xm, .inl (cI, 8, .inl gm)), (xv, .inl (cI, 8, .inl gv))] sz (S := Unit) (fun r _ => r = nI (cnt + 1)) (fun _ => [(mo, .inr (5, [.ref mop, .ref mye, .ref mno, .ref mnu, .ref msz, .int (nI stk), .ref mre, .ref mce, .ref mco, .ref xc, .ref xa, .ref xm, .ref xv, .int (nI (cnt + 1)), .int stp, .int (nI 0)])), (xc, .inl (cI, 8, .inl (upd gc cnt v1))), (xa, .inl (cI, 8, .inl (upd ga cnt v2))), (xm, .inl (cI, 8, .inl (upd gm cnt v3))), (xv, .inl (cI, 8, .inl (upd gv cnt v4)))]) 0 0 := by
  refine fs_head (by decide) (Nat.le_of_ble_eq_true rfl) ?_
  intro p e s m below meth c A ls hx hb hr hts hown hlocks hin hml hK hP hD hS hA hAe hsz hl
  have hl : lv_has ls 5 [(0, .ref mo), (1, .int v1), (2, .int v2), (3, .int v3), (4, .int v4)] := hl
  have hown : s.vm.findClass R_Mo = some m.cls := hown
  refine lv_aload_n hx hb d_Mo_rule_0 rfl (lv_at hl 0 rfl) ?_
  refine lv_iconst (v := nI 0) hx hb d_Mo_rule_1 (by decide) ?_
  refine va_put (D := (dC, dI)) (ci := 5) (v := .int (nI 0)) (ty := (.int)) (C := R_Mo) (T := T_Mo) (N := 16) hx hb hts uin_Mo t_Mo ok_Mo n_Mo hown hK hP hD hS 0 rfl rfl 15 (by decide) (hts _ wi_445) (fun _ h9 => h9) rfl (by decide +kernel) rfl rfl (Nat.le_of_ble_eq_true rfl) d_Mo_rule_2 (fun H locs hP hD hS => ?_)
  have hP : va_P (dC, dI) vwCl [(mo, .inr (5, [.ref mop, .ref mye, .ref mno, .ref mnu, .ref msz, .int (nI stk), .ref mre, .ref mce, .ref mco, .ref xc, .ref xa, .ref xm, .ref xv, .int (nI cnt), .int stp, .int (nI 0)])), (xc, .inl (cI, 8, .inl gc)), (xa, .inl (cI, 8, .inl ga)), (xm, .inl (cI, 8, .inl gm)), (xv, .inl (cI, 8, .inl gv))] H := hP
  have hD : va_D A [(mo, .inr (5, [.ref mop, .ref mye, .ref mno, .ref mnu, .ref msz, .int (nI stk), .ref mre, .ref mce, .ref mco, .ref xc, .ref xa, .ref xm, .ref xv, .int (nI cnt), .int stp, .int (nI 0)])), (xc, .inl (cI, 8, .inl gc)), (xa, .inl (cI, 8, .inl ga)), (xm, .inl (cI, 8, .inl gm)), (xv, .inl (cI, 8, .inl gv))] := hD
  refine lv_iload_n hx hb d_Mo_rule_5 rfl (lv_at hl 2 rfl) ?_
  refine lv_iconst (v := (-1)) hx hb d_Mo_rule_6 (by decide) ?_
  refine lv_bipush (v := nI 11) hx hb d_Mo_rule_7 (by decide) ?_
  refine fs_calli (wc := []) (wr := [(mo, .inr (5, [.ref mop, .ref mye, .ref mno, .ref mnu, .ref msz, .int (nI stk), .ref mre, .ref mce, .ref mco, .ref xc, .ref xa, .ref xm, .ref xv, .int (nI cnt), .int stp, .int (nI 0)])), (xc, .inl (cI, 8, .inl gc)), (xa, .inl (cI, 8, .inl ga)), (xm, .inl (cI, 8, .inl gm)), (xv, .inl (cI, 8, .inl gv))]) [] [0, 1, 2, 3, 4] hP hD hK hS hA rfl rfl rfl (by decide) (fun hPc hDc => va_runS (As := [.int v2, .int ((-1)), .int (nI 11)]) (rest := []) ⟨hx, hb, hml, hown, hts⟩ (c_Mo_within v2 ((-1)) (nI 11) (v2.toInt) (-1) (((11 : Nat) : Int)) _ (rfl) (by decide) (nI_toInt (by omega))) (⟨callB_of 3 hts (fs_g kin_Mo_within) rfl rfl rfl (hts _ wi_6) (hts _ wi_488) (by decide +kernel) ⟨Nat.le_of_ble_eq_true rfl, Nat.le_of_ble_eq_true rfl⟩, hts _ wi_489⟩) (fs_preS hPc hK hDc) rfl rfl hl.1 rfl (lv_room (Nat.le_of_ble_eq_true rfl)) d_Mo_rule_9 ⟨Nat.le_of_ble_eq_true rfl, Nat.le_of_ble_eq_true rfl⟩) rfl (fun r9 _ H locs hp9 hP hD hS => ?_)
  have hP : va_P (dC, dI) vwCl [(mo, .inr (5, [.ref mop, .ref mye, .ref mno, .ref mnu, .ref msz, .int (nI stk), .ref mre, .ref mce, .ref mco, .ref xc, .ref xa, .ref xm, .ref xv, .int (nI cnt), .int stp, .int (nI 0)])), (xc, .inl (cI, 8, .inl gc)), (xa, .inl (cI, 8, .inl ga)), (xm, .inl (cI, 8, .inl gm)), (xv, .inl (cI, 8, .inl gv))] H := hP
  have hD : va_D A [(mo, .inr (5, [.ref mop, .ref mye, .ref mno, .ref mnu, .ref msz, .int (nI stk), .ref mre, .ref mce, .ref mco, .ref xc, .ref xa, .ref xm, .ref xv, .int (nI cnt), .int stp, .int (nI 0)])), (xc, .inl (cI, 8, .inl gc)), (xa, .inl (cI, 8, .inl ga)), (xm, .inl (cI, 8, .inl gm)), (xv, .inl (cI, 8, .inl gv))] := hD
  rcases hp9 with ⟨hc9, rfl⟩ | ⟨hc9, _⟩
  rotate_left
  · exact absurd (by omega) hc9
  refine lv_if_ne (tgt := 17) hx hb d_Mo_rule_12 (by decide) (fun _ => ?_) (fun hc => absurd hc (by decide))
  refine lv_aload_n hx hb d_Mo_rule_17 rfl (lv_at hl 0 rfl) ?_
  refine va_get (D := (dC, dI)) (ci := 5) (v := .int (nI cnt)) (C := R_Mo) (T := T_Mo) (N := 16) hx hb hts uin_Mo hown hK hP 0 rfl rfl 13 (by decide) (hts _ wi_443) (fun _ h9 => h9) rfl d_Mo_rule_18 ?_
  refine lv_bipush (v := nI 8) hx hb d_Mo_rule_21 (by decide) ?_
  refine lv_icmp_ne (tgt := 29) hx hb d_Mo_rule_23 (by decide) (fun hc23 => ?_) (fun hc23 => absurd hc23 (by rw [nI_eq (by omega) (by omega)]; omega))
  rw [nI_eq (by omega) (by omega)] at hc23
  refine lv_aload_n hx hb d_Mo_rule_29 rfl (lv_at hl 0 rfl) ?_
  refine va_get (D := (dC, dI)) (ci := 5) (v := .ref xc) (C := R_Mo) (T := T_Mo) (N := 16) hx hb hts uin_Mo hown hK hP 0 rfl rfl 9 (by decide) (hts _ wi_439) (fun _ h9 => h9) rfl d_Mo_rule_30 ?_
  refine lv_aload_n hx hb d_Mo_rule_33 rfl (lv_at hl 0 rfl) ?_
  refine va_get (D := (dC, dI)) (ci := 5) (v := .int (nI cnt)) (C := R_Mo) (T := T_Mo) (N := 16) hx hb hts uin_Mo hown hK hP 0 rfl rfl 13 (by decide) (hts _ wi_443) (fun _ h9 => h9) rfl d_Mo_rule_34 ?_
  refine lv_iload_n hx hb d_Mo_rule_37 rfl (lv_at hl 1 rfl) ?_
  refine fs_iast hx hb hK hP hD hS 1 0 rfl rfl cnt rfl (by decide) (by omega) d_Mo_rule_38 (fun H locs hP hD hS => ?_)
  have hP : va_P (dC, dI) vwCl [(mo, .inr (5, [.ref mop, .ref mye, .ref mno, .ref mnu, .ref msz, .int (nI stk), .ref mre, .ref mce, .ref mco, .ref xc, .ref xa, .ref xm, .ref xv, .int (nI cnt), .int stp, .int (nI 0)])), (xc, .inl (cI, 8, .inl (upd gc cnt v1))), (xa, .inl (cI, 8, .inl ga)), (xm, .inl (cI, 8, .inl gm)), (xv, .inl (cI, 8, .inl gv))] H := hP
  have hD : va_D A [(mo, .inr (5, [.ref mop, .ref mye, .ref mno, .ref mnu, .ref msz, .int (nI stk), .ref mre, .ref mce, .ref mco, .ref xc, .ref xa, .ref xm, .ref xv, .int (nI cnt), .int stp, .int (nI 0)])), (xc, .inl (cI, 8, .inl (upd gc cnt v1))), (xa, .inl (cI, 8, .inl ga)), (xm, .inl (cI, 8, .inl gm)), (xv, .inl (cI, 8, .inl gv))] := hD
  refine lv_aload_n hx hb d_Mo_rule_39 rfl (lv_at hl 0 rfl) ?_
  refine va_get (D := (dC, dI)) (ci := 5) (v := .ref xa) (C := R_Mo) (T := T_Mo) (N := 16) hx hb hts uin_Mo hown hK hP 0 rfl rfl 10 (by decide) (hts _ wi_440) (fun _ h9 => h9) rfl d_Mo_rule_40 ?_
  refine lv_aload_n hx hb d_Mo_rule_43 rfl (lv_at hl 0 rfl) ?_
  refine va_get (D := (dC, dI)) (ci := 5) (v := .int (nI cnt)) (C := R_Mo) (T := T_Mo) (N := 16) hx hb hts uin_Mo hown hK hP 0 rfl rfl 13 (by decide) (hts _ wi_443) (fun _ h9 => h9) rfl d_Mo_rule_44 ?_
  refine lv_iload_n hx hb d_Mo_rule_47 rfl (lv_at hl 2 rfl) ?_
  refine fs_iast hx hb hK hP hD hS 2 0 rfl rfl cnt rfl (by decide) (by omega) d_Mo_rule_48 (fun H locs hP hD hS => ?_)
  have hP : va_P (dC, dI) vwCl [(mo, .inr (5, [.ref mop, .ref mye, .ref mno, .ref mnu, .ref msz, .int (nI stk), .ref mre, .ref mce, .ref mco, .ref xc, .ref xa, .ref xm, .ref xv, .int (nI cnt), .int stp, .int (nI 0)])), (xc, .inl (cI, 8, .inl (upd gc cnt v1))), (xa, .inl (cI, 8, .inl (upd ga cnt v2))), (xm, .inl (cI, 8, .inl gm)), (xv, .inl (cI, 8, .inl gv))] H := hP
  have hD : va_D A [(mo, .inr (5, [.ref mop, .ref mye, .ref mno, .ref mnu, .ref msz, .int (nI stk), .ref mre, .ref mce, .ref mco, .ref xc, .ref xa, .ref xm, .ref xv, .int (nI cnt), .int stp, .int (nI 0)])), (xc, .inl (cI, 8, .inl (upd gc cnt v1))), (xa, .inl (cI, 8, .inl (upd ga cnt v2))), (xm, .inl (cI, 8, .inl gm)), (xv, .inl (cI, 8, .inl gv))] := hD
  refine lv_aload_n hx hb d_Mo_rule_49 rfl (lv_at hl 0 rfl) ?_
  refine va_get (D := (dC, dI)) (ci := 5) (v := .ref xm) (C := R_Mo) (T := T_Mo) (N := 16) hx hb hts uin_Mo hown hK hP 0 rfl rfl 11 (by decide) (hts _ wi_441) (fun _ h9 => h9) rfl d_Mo_rule_50 ?_
  refine lv_aload_n hx hb d_Mo_rule_53 rfl (lv_at hl 0 rfl) ?_
  refine va_get (D := (dC, dI)) (ci := 5) (v := .int (nI cnt)) (C := R_Mo) (T := T_Mo) (N := 16) hx hb hts uin_Mo hown hK hP 0 rfl rfl 13 (by decide) (hts _ wi_443) (fun _ h9 => h9) rfl d_Mo_rule_54 ?_
  refine lv_iload_n hx hb d_Mo_rule_57 rfl (lv_at hl 3 rfl) ?_
  refine fs_iast hx hb hK hP hD hS 3 0 rfl rfl cnt rfl (by decide) (by omega) d_Mo_rule_58 (fun H locs hP hD hS => ?_)
  have hP : va_P (dC, dI) vwCl [(mo, .inr (5, [.ref mop, .ref mye, .ref mno, .ref mnu, .ref msz, .int (nI stk), .ref mre, .ref mce, .ref mco, .ref xc, .ref xa, .ref xm, .ref xv, .int (nI cnt), .int stp, .int (nI 0)])), (xc, .inl (cI, 8, .inl (upd gc cnt v1))), (xa, .inl (cI, 8, .inl (upd ga cnt v2))), (xm, .inl (cI, 8, .inl (upd gm cnt v3))), (xv, .inl (cI, 8, .inl gv))] H := hP
  have hD : va_D A [(mo, .inr (5, [.ref mop, .ref mye, .ref mno, .ref mnu, .ref msz, .int (nI stk), .ref mre, .ref mce, .ref mco, .ref xc, .ref xa, .ref xm, .ref xv, .int (nI cnt), .int stp, .int (nI 0)])), (xc, .inl (cI, 8, .inl (upd gc cnt v1))), (xa, .inl (cI, 8, .inl (upd ga cnt v2))), (xm, .inl (cI, 8, .inl (upd gm cnt v3))), (xv, .inl (cI, 8, .inl gv))] := hD
  refine lv_aload_n hx hb d_Mo_rule_59 rfl (lv_at hl 0 rfl) ?_
  refine va_get (D := (dC, dI)) (ci := 5) (v := .ref xv) (C := R_Mo) (T := T_Mo) (N := 16) hx hb hts uin_Mo hown hK hP 0 rfl rfl 12 (by decide) (hts _ wi_442) (fun _ h9 => h9) rfl d_Mo_rule_60 ?_
  refine lv_aload_n hx hb d_Mo_rule_63 rfl (lv_at hl 0 rfl) ?_
  refine va_get (D := (dC, dI)) (ci := 5) (v := .int (nI cnt)) (C := R_Mo) (T := T_Mo) (N := 16) hx hb hts uin_Mo hown hK hP 0 rfl rfl 13 (by decide) (hts _ wi_443) (fun _ h9 => h9) rfl d_Mo_rule_64 ?_
  refine lv_iload hx hb d_Mo_rule_67 (lv_at hl 4 rfl) ?_
  refine fs_iast hx hb hK hP hD hS 4 0 rfl rfl cnt rfl (by decide) (by omega) d_Mo_rule_69 (fun H locs hP hD hS => ?_)
  have hP : va_P (dC, dI) vwCl [(mo, .inr (5, [.ref mop, .ref mye, .ref mno, .ref mnu, .ref msz, .int (nI stk), .ref mre, .ref mce, .ref mco, .ref xc, .ref xa, .ref xm, .ref xv, .int (nI cnt), .int stp, .int (nI 0)])), (xc, .inl (cI, 8, .inl (upd gc cnt v1))), (xa, .inl (cI, 8, .inl (upd ga cnt v2))), (xm, .inl (cI, 8, .inl (upd gm cnt v3))), (xv, .inl (cI, 8, .inl (upd gv cnt v4)))] H := hP
  have hD : va_D A [(mo, .inr (5, [.ref mop, .ref mye, .ref mno, .ref mnu, .ref msz, .int (nI stk), .ref mre, .ref mce, .ref mco, .ref xc, .ref xa, .ref xm, .ref xv, .int (nI cnt), .int stp, .int (nI 0)])), (xc, .inl (cI, 8, .inl (upd gc cnt v1))), (xa, .inl (cI, 8, .inl (upd ga cnt v2))), (xm, .inl (cI, 8, .inl (upd gm cnt v3))), (xv, .inl (cI, 8, .inl (upd gv cnt v4)))] := hD
  refine lv_aload_n hx hb d_Mo_rule_70 rfl (lv_at hl 0 rfl) ?_
  refine lv_dup hx hb d_Mo_rule_71 rfl ?_
  refine va_get (D := (dC, dI)) (ci := 5) (v := .int (nI cnt)) (C := R_Mo) (T := T_Mo) (N := 16) hx hb hts uin_Mo hown hK hP 0 rfl rfl 13 (by decide) (hts _ wi_443) (fun _ h9 => h9) rfl d_Mo_rule_72 ?_
  refine lv_iconst (v := nI 1) hx hb d_Mo_rule_75 (by decide) ?_
  refine lv_iadd hx hb d_Mo_rule_76 ?_
  refine fs_eqi (nI_add _ _) ?_
  refine va_put (D := (dC, dI)) (ci := 5) (v := .int (nI (cnt + 1))) (ty := (.int)) (C := R_Mo) (T := T_Mo) (N := 16) hx hb hts uin_Mo t_Mo ok_Mo n_Mo hown hK hP hD hS 0 rfl rfl 13 (by decide) (hts _ wi_443) (fun _ h9 => h9) rfl (by decide +kernel) rfl rfl (Nat.le_of_ble_eq_true rfl) d_Mo_rule_77 (fun H locs hP hD hS => ?_)
  have hP : va_P (dC, dI) vwCl [(mo, .inr (5, [.ref mop, .ref mye, .ref mno, .ref mnu, .ref msz, .int (nI stk), .ref mre, .ref mce, .ref mco, .ref xc, .ref xa, .ref xm, .ref xv, .int (nI (cnt + 1)), .int stp, .int (nI 0)])), (xc, .inl (cI, 8, .inl (upd gc cnt v1))), (xa, .inl (cI, 8, .inl (upd ga cnt v2))), (xm, .inl (cI, 8, .inl (upd gm cnt v3))), (xv, .inl (cI, 8, .inl (upd gv cnt v4)))] H := hP
  have hD : va_D A [(mo, .inr (5, [.ref mop, .ref mye, .ref mno, .ref mnu, .ref msz, .int (nI stk), .ref mre, .ref mce, .ref mco, .ref xc, .ref xa, .ref xm, .ref xv, .int (nI (cnt + 1)), .int stp, .int (nI 0)])), (xc, .inl (cI, 8, .inl (upd gc cnt v1))), (xa, .inl (cI, 8, .inl (upd ga cnt v2))), (xm, .inl (cI, 8, .inl (upd gm cnt v3))), (xv, .inl (cI, 8, .inl (upd gv cnt v4)))] := hD
  refine lv_aload_n hx hb d_Mo_rule_80 rfl (lv_at hl 0 rfl) ?_
  refine va_get (D := (dC, dI)) (ci := 5) (v := .int (nI (cnt + 1))) (C := R_Mo) (T := T_Mo) (N := 16) hx hb hts uin_Mo hown hK hP 0 rfl rfl 13 (by decide) (hts _ wi_443) (fun _ h9 => h9) rfl d_Mo_rule_81 ?_
  exact fs_iret hx hb hr hlocks hAe hK hS d_Mo_rule_84 () (rfl) hP hD

set_option maxHeartbeats 4000000 in
set_option maxRecDepth 100000 in
theorem c_Mo_ruleF (mo mop mye mno mnu msz stk mre mce mco xc xa xm xv : Nat) (stp thr : Int32) (gc ga gm gv : Nat → Int32) (v1 v2 v3 v4 : Int32) (sz : Nat) (harg : -1 ≤ v2.toInt ∧ v2.toInt < 12) : fs_I l y_Mo_rule (k_Mo_rule :: fs_T) { frames := 1, cells := 0, slots := 0, locals := 22 } (dC, dI) vwCl (fs_tys cI cZ cJ cF) [.ref mo, .int v1, .int v2, .int v3, .int v4] [(mo, .inr (5, [.ref mop, .ref mye, .ref mno, .ref mnu, .ref msz, .int (nI stk), .ref mre, .ref mce, .ref mco, .ref xc, .ref xa, .ref xm, .ref xv, .int (nI 8), .int stp, .int thr])), (xc, .inl (cI, 8, .inl gc)), (xa, .inl (cI, 8, .inl ga)), (xm, .inl (cI, 8, .inl gm)), (xv, .inl (cI, 8, .inl gv))] sz (S := Unit) (fun r _ => r = (-2)) (fun _ => [(mo, .inr (5, [.ref mop, .ref mye, .ref mno, .ref mnu, .ref msz, .int (nI stk), .ref mre, .ref mce, .ref mco, .ref xc, .ref xa, .ref xm, .ref xv, .int (nI 8), .int stp, .int (nI 0)])), (xc, .inl (cI, 8, .inl gc)), (xa, .inl (cI, 8, .inl ga)), (xm, .inl (cI, 8, .inl gm)), (xv, .inl (cI, 8, .inl gv))]) 0 0 := by
  refine fs_head (by decide) (Nat.le_of_ble_eq_true rfl) ?_
  intro p e s m below meth c A ls hx hb hr hts hown hlocks hin hml hK hP hD hS hA hAe hsz hl
  have hl : lv_has ls 5 [(0, .ref mo), (1, .int v1), (2, .int v2), (3, .int v3), (4, .int v4)] := hl
  have hown : s.vm.findClass R_Mo = some m.cls := hown
  refine lv_aload_n hx hb d_Mo_rule_0 rfl (lv_at hl 0 rfl) ?_
  refine lv_iconst (v := nI 0) hx hb d_Mo_rule_1 (by decide) ?_
  refine va_put (D := (dC, dI)) (ci := 5) (v := .int (nI 0)) (ty := (.int)) (C := R_Mo) (T := T_Mo) (N := 16) hx hb hts uin_Mo t_Mo ok_Mo n_Mo hown hK hP hD hS 0 rfl rfl 15 (by decide) (hts _ wi_445) (fun _ h9 => h9) rfl (by decide +kernel) rfl rfl (Nat.le_of_ble_eq_true rfl) d_Mo_rule_2 (fun H locs hP hD hS => ?_)
  have hP : va_P (dC, dI) vwCl [(mo, .inr (5, [.ref mop, .ref mye, .ref mno, .ref mnu, .ref msz, .int (nI stk), .ref mre, .ref mce, .ref mco, .ref xc, .ref xa, .ref xm, .ref xv, .int (nI 8), .int stp, .int (nI 0)])), (xc, .inl (cI, 8, .inl gc)), (xa, .inl (cI, 8, .inl ga)), (xm, .inl (cI, 8, .inl gm)), (xv, .inl (cI, 8, .inl gv))] H := hP
  have hD : va_D A [(mo, .inr (5, [.ref mop, .ref mye, .ref mno, .ref mnu, .ref msz, .int (nI stk), .ref mre, .ref mce, .ref mco, .ref xc, .ref xa, .ref xm, .ref xv, .int (nI 8), .int stp, .int (nI 0)])), (xc, .inl (cI, 8, .inl gc)), (xa, .inl (cI, 8, .inl ga)), (xm, .inl (cI, 8, .inl gm)), (xv, .inl (cI, 8, .inl gv))] := hD
  refine lv_iload_n hx hb d_Mo_rule_5 rfl (lv_at hl 2 rfl) ?_
  refine lv_iconst (v := (-1)) hx hb d_Mo_rule_6 (by decide) ?_
  refine lv_bipush (v := nI 11) hx hb d_Mo_rule_7 (by decide) ?_
  refine fs_calli (wc := []) (wr := [(mo, .inr (5, [.ref mop, .ref mye, .ref mno, .ref mnu, .ref msz, .int (nI stk), .ref mre, .ref mce, .ref mco, .ref xc, .ref xa, .ref xm, .ref xv, .int (nI 8), .int stp, .int (nI 0)])), (xc, .inl (cI, 8, .inl gc)), (xa, .inl (cI, 8, .inl ga)), (xm, .inl (cI, 8, .inl gm)), (xv, .inl (cI, 8, .inl gv))]) [] [0, 1, 2, 3, 4] hP hD hK hS hA rfl rfl rfl (by decide) (fun hPc hDc => va_runS (As := [.int v2, .int ((-1)), .int (nI 11)]) (rest := []) ⟨hx, hb, hml, hown, hts⟩ (c_Mo_within v2 ((-1)) (nI 11) (v2.toInt) (-1) (((11 : Nat) : Int)) _ (rfl) (by decide) (nI_toInt (by omega))) (⟨callB_of 3 hts (fs_g kin_Mo_within) rfl rfl rfl (hts _ wi_6) (hts _ wi_488) (by decide +kernel) ⟨Nat.le_of_ble_eq_true rfl, Nat.le_of_ble_eq_true rfl⟩, hts _ wi_489⟩) (fs_preS hPc hK hDc) rfl rfl hl.1 rfl (lv_room (Nat.le_of_ble_eq_true rfl)) d_Mo_rule_9 ⟨Nat.le_of_ble_eq_true rfl, Nat.le_of_ble_eq_true rfl⟩) rfl (fun r9 _ H locs hp9 hP hD hS => ?_)
  have hP : va_P (dC, dI) vwCl [(mo, .inr (5, [.ref mop, .ref mye, .ref mno, .ref mnu, .ref msz, .int (nI stk), .ref mre, .ref mce, .ref mco, .ref xc, .ref xa, .ref xm, .ref xv, .int (nI 8), .int stp, .int (nI 0)])), (xc, .inl (cI, 8, .inl gc)), (xa, .inl (cI, 8, .inl ga)), (xm, .inl (cI, 8, .inl gm)), (xv, .inl (cI, 8, .inl gv))] H := hP
  have hD : va_D A [(mo, .inr (5, [.ref mop, .ref mye, .ref mno, .ref mnu, .ref msz, .int (nI stk), .ref mre, .ref mce, .ref mco, .ref xc, .ref xa, .ref xm, .ref xv, .int (nI 8), .int stp, .int (nI 0)])), (xc, .inl (cI, 8, .inl gc)), (xa, .inl (cI, 8, .inl ga)), (xm, .inl (cI, 8, .inl gm)), (xv, .inl (cI, 8, .inl gv))] := hD
  rcases hp9 with ⟨hc9, rfl⟩ | ⟨hc9, _⟩
  rotate_left
  · exact absurd (by omega) hc9
  refine lv_if_ne (tgt := 17) hx hb d_Mo_rule_12 (by decide) (fun _ => ?_) (fun hc => absurd hc (by decide))
  refine lv_aload_n hx hb d_Mo_rule_17 rfl (lv_at hl 0 rfl) ?_
  refine va_get (D := (dC, dI)) (ci := 5) (v := .int (nI 8)) (C := R_Mo) (T := T_Mo) (N := 16) hx hb hts uin_Mo hown hK hP 0 rfl rfl 13 (by decide) (hts _ wi_443) (fun _ h9 => h9) rfl d_Mo_rule_18 ?_
  refine lv_bipush (v := nI 8) hx hb d_Mo_rule_21 (by decide) ?_
  refine lv_icmp_ne (tgt := 29) hx hb d_Mo_rule_23 (by decide) (fun hc => absurd (by decide) hc) (fun _ => ?_)
  refine lv_bipush (v := (-2)) hx hb d_Mo_rule_26 (by decide) ?_
  exact fs_iret hx hb hr hlocks hAe hK hS d_Mo_rule_28 () (rfl) hP hD

set_option maxHeartbeats 4000000 in
set_option maxRecDepth 100000 in
theorem c_Mo_ruleX (mo mop mye mno mnu msz stk mre mce mco xc xa xm xv cnt : Nat) (stp thr : Int32) (v1 v2 v3 v4 : Int32) (sz : Nat) (harg : ¬ (-1 ≤ v2.toInt ∧ v2.toInt < 12)) : fs_I l y_Mo_rule (k_Mo_rule :: fs_T) { frames := 1, cells := 0, slots := 0, locals := 22 } (dC, dI) vwCl (fs_tys cI cZ cJ cF) [.ref mo, .int v1, .int v2, .int v3, .int v4] [(mo, .inr (5, [.ref mop, .ref mye, .ref mno, .ref mnu, .ref msz, .int (nI stk), .ref mre, .ref mce, .ref mco, .ref xc, .ref xa, .ref xm, .ref xv, .int (nI cnt), .int stp, .int thr]))] sz (S := Unit) (fun r _ => r = (-1)) (fun _ => [(mo, .inr (5, [.ref mop, .ref mye, .ref mno, .ref mnu, .ref msz, .int (nI stk), .ref mre, .ref mce, .ref mco, .ref xc, .ref xa, .ref xm, .ref xv, .int (nI cnt), .int stp, .int (nI 0)]))]) 0 0 := by
  refine fs_head (by decide) (Nat.le_of_ble_eq_true rfl) ?_
  intro p e s m below meth c A ls hx hb hr hts hown hlocks hin hml hK hP hD hS hA hAe hsz hl
  have hl : lv_has ls 5 [(0, .ref mo), (1, .int v1), (2, .int v2), (3, .int v3), (4, .int v4)] := hl
  have hown : s.vm.findClass R_Mo = some m.cls := hown
  refine lv_aload_n hx hb d_Mo_rule_0 rfl (lv_at hl 0 rfl) ?_
  refine lv_iconst (v := nI 0) hx hb d_Mo_rule_1 (by decide) ?_
  refine va_put (D := (dC, dI)) (ci := 5) (v := .int (nI 0)) (ty := (.int)) (C := R_Mo) (T := T_Mo) (N := 16) hx hb hts uin_Mo t_Mo ok_Mo n_Mo hown hK hP hD hS 0 rfl rfl 15 (by decide) (hts _ wi_445) (fun _ h9 => h9) rfl (by decide +kernel) rfl rfl (Nat.le_of_ble_eq_true rfl) d_Mo_rule_2 (fun H locs hP hD hS => ?_)
  have hP : va_P (dC, dI) vwCl [(mo, .inr (5, [.ref mop, .ref mye, .ref mno, .ref mnu, .ref msz, .int (nI stk), .ref mre, .ref mce, .ref mco, .ref xc, .ref xa, .ref xm, .ref xv, .int (nI cnt), .int stp, .int (nI 0)]))] H := hP
  have hD : va_D A [(mo, .inr (5, [.ref mop, .ref mye, .ref mno, .ref mnu, .ref msz, .int (nI stk), .ref mre, .ref mce, .ref mco, .ref xc, .ref xa, .ref xm, .ref xv, .int (nI cnt), .int stp, .int (nI 0)]))] := hD
  refine lv_iload_n hx hb d_Mo_rule_5 rfl (lv_at hl 2 rfl) ?_
  refine lv_iconst (v := (-1)) hx hb d_Mo_rule_6 (by decide) ?_
  refine lv_bipush (v := nI 11) hx hb d_Mo_rule_7 (by decide) ?_
  refine fs_calli (wc := []) (wr := [(mo, .inr (5, [.ref mop, .ref mye, .ref mno, .ref mnu, .ref msz, .int (nI stk), .ref mre, .ref mce, .ref mco, .ref xc, .ref xa, .ref xm, .ref xv, .int (nI cnt), .int stp, .int (nI 0)]))]) [] [0] hP hD hK hS hA rfl rfl rfl (by decide) (fun hPc hDc => va_runS (As := [.int v2, .int ((-1)), .int (nI 11)]) (rest := []) ⟨hx, hb, hml, hown, hts⟩ (c_Mo_within v2 ((-1)) (nI 11) (v2.toInt) (-1) (((11 : Nat) : Int)) _ (rfl) (by decide) (nI_toInt (by omega))) (⟨callB_of 3 hts (fs_g kin_Mo_within) rfl rfl rfl (hts _ wi_6) (hts _ wi_488) (by decide +kernel) ⟨Nat.le_of_ble_eq_true rfl, Nat.le_of_ble_eq_true rfl⟩, hts _ wi_489⟩) (fs_preS hPc hK hDc) rfl rfl hl.1 rfl (lv_room (Nat.le_of_ble_eq_true rfl)) d_Mo_rule_9 ⟨Nat.le_of_ble_eq_true rfl, Nat.le_of_ble_eq_true rfl⟩) rfl (fun r9 _ H locs hp9 hP hD hS => ?_)
  have hP : va_P (dC, dI) vwCl [(mo, .inr (5, [.ref mop, .ref mye, .ref mno, .ref mnu, .ref msz, .int (nI stk), .ref mre, .ref mce, .ref mco, .ref xc, .ref xa, .ref xm, .ref xv, .int (nI cnt), .int stp, .int (nI 0)]))] H := hP
  have hD : va_D A [(mo, .inr (5, [.ref mop, .ref mye, .ref mno, .ref mnu, .ref msz, .int (nI stk), .ref mre, .ref mce, .ref mco, .ref xc, .ref xa, .ref xm, .ref xv, .int (nI cnt), .int stp, .int (nI 0)]))] := hD
  rcases hp9 with ⟨hc9, _⟩ | ⟨hc9, rfl⟩
  · omega
  refine lv_if_ne (tgt := 17) hx hb d_Mo_rule_12 (by decide) (fun hc => absurd (by decide) hc) (fun _ => ?_)
  refine lv_iconst (v := (-1)) hx hb d_Mo_rule_15 (by decide) ?_
  exact fs_iret hx hb hr hlocks hAe hK hS d_Mo_rule_16 () (rfl) hP hD

theorem d_Mo_forget_0 : decode b_Mo_forget 0 = .ok (.aload_n 0, 1) := by decide +kernel
theorem d_Mo_forget_1 : decode b_Mo_forget 1 = .ok (.iconst 0, 1) := by decide +kernel
theorem d_Mo_forget_2 : decode b_Mo_forget 2 = .ok (.putfield 47, 3) := by decide +kernel
theorem d_Mo_forget_5 : decode b_Mo_forget 5 = .ok (.aload_n 0, 1) := by decide +kernel
theorem d_Mo_forget_6 : decode b_Mo_forget 6 = .ok (.getfield 93, 3) := by decide +kernel
theorem d_Mo_forget_9 : decode b_Mo_forget 9 = .ok (.istore_n 1, 1) := by decide +kernel
theorem d_Mo_forget_10 : decode b_Mo_forget 10 = .ok (.aload_n 0, 1) := by decide +kernel
theorem d_Mo_forget_11 : decode b_Mo_forget 11 = .ok (.iconst 0, 1) := by decide +kernel
theorem d_Mo_forget_12 : decode b_Mo_forget 12 = .ok (.putfield 93, 3) := by decide +kernel
theorem d_Mo_forget_15 : decode b_Mo_forget 15 = .ok (.iload_n 1, 1) := by decide +kernel
theorem d_Mo_forget_16 : decode b_Mo_forget 16 = .ok (.ireturn, 1) := by decide +kernel
set_option maxHeartbeats 4000000 in
set_option maxRecDepth 100000 in
theorem c_Mo_forget (mo mop mye mno mnu msz stk mre mce mco xc xa xm xv cnt : Nat) (stp thr : Int32) (sz : Nat)  : fs_I l y_Mo_forget (k_Mo_forget :: fs_T) { frames := 0, cells := 0, slots := 0, locals := 0 } (dC, dI) vwCl (fs_tys cI cZ cJ cF) [.ref mo] [(mo, .inr (5, [.ref mop, .ref mye, .ref mno, .ref mnu, .ref msz, .int (nI stk), .ref mre, .ref mce, .ref mco, .ref xc, .ref xa, .ref xm, .ref xv, .int (nI cnt), .int stp, .int thr]))] sz (S := Unit) (fun r _ => r = nI cnt) (fun _ => [(mo, .inr (5, [.ref mop, .ref mye, .ref mno, .ref mnu, .ref msz, .int (nI stk), .ref mre, .ref mce, .ref mco, .ref xc, .ref xa, .ref xm, .ref xv, .int (nI 0), .int stp, .int (nI 0)]))]) 0 0 := by
  refine fs_head (by decide) (Nat.le_of_ble_eq_true rfl) ?_
  intro p e s m below meth c A ls hx hb hr hts hown hlocks hin hml hK hP hD hS hA hAe hsz hl
  have hl : lv_has ls 2 [(0, .ref mo)] := hl
  have hown : s.vm.findClass R_Mo = some m.cls := hown
  refine lv_aload_n hx hb d_Mo_forget_0 rfl (lv_at hl 0 rfl) ?_
  refine lv_iconst (v := nI 0) hx hb d_Mo_forget_1 (by decide) ?_
  refine va_put (D := (dC, dI)) (ci := 5) (v := .int (nI 0)) (ty := (.int)) (C := R_Mo) (T := T_Mo) (N := 16) hx hb hts uin_Mo t_Mo ok_Mo n_Mo hown hK hP hD hS 0 rfl rfl 15 (by decide) (hts _ wi_445) (fun _ h9 => h9) rfl (by decide +kernel) rfl rfl (Nat.le_of_ble_eq_true rfl) d_Mo_forget_2 (fun H locs hP hD hS => ?_)
  have hP : va_P (dC, dI) vwCl [(mo, .inr (5, [.ref mop, .ref mye, .ref mno, .ref mnu, .ref msz, .int (nI stk), .ref mre, .ref mce, .ref mco, .ref xc, .ref xa, .ref xm, .ref xv, .int (nI cnt), .int stp, .int (nI 0)]))] H := hP
  have hD : va_D A [(mo, .inr (5, [.ref mop, .ref mye, .ref mno, .ref mnu, .ref msz, .int (nI stk), .ref mre, .ref mce, .ref mco, .ref xc, .ref xa, .ref xm, .ref xv, .int (nI cnt), .int stp, .int (nI 0)]))] := hD
  refine lv_aload_n hx hb d_Mo_forget_5 rfl (lv_at hl 0 rfl) ?_
  refine va_get (D := (dC, dI)) (ci := 5) (v := .int (nI cnt)) (C := R_Mo) (T := T_Mo) (N := 16) hx hb hts uin_Mo hown hK hP 0 rfl rfl 13 (by decide) (hts _ wi_443) (fun _ h9 => h9) rfl d_Mo_forget_6 ?_
  refine lv_istore_n hx hb d_Mo_forget_9 rfl hl (by decide) (lv' := [(1, .int (nI cnt)), (0, .ref mo)]) rfl (fun ls hl => ?_)
  refine lv_aload_n hx hb d_Mo_forget_10 rfl (lv_at hl 1 rfl) ?_
  refine lv_iconst (v := nI 0) hx hb d_Mo_forget_11 (by decide) ?_
  refine va_put (D := (dC, dI)) (ci := 5) (v := .int (nI 0)) (ty := (.int)) (C := R_Mo) (T := T_Mo) (N := 16) hx hb hts uin_Mo t_Mo ok_Mo n_Mo hown hK hP hD hS 0 rfl rfl 13 (by decide) (hts _ wi_443) (fun _ h9 => h9) rfl (by decide +kernel) rfl rfl (Nat.le_of_ble_eq_true rfl) d_Mo_forget_12 (fun H locs hP hD hS => ?_)
  have hP : va_P (dC, dI) vwCl [(mo, .inr (5, [.ref mop, .ref mye, .ref mno, .ref mnu, .ref msz, .int (nI stk), .ref mre, .ref mce, .ref mco, .ref xc, .ref xa, .ref xm, .ref xv, .int (nI 0), .int stp, .int (nI 0)]))] H := hP
  have hD : va_D A [(mo, .inr (5, [.ref mop, .ref mye, .ref mno, .ref mnu, .ref msz, .int (nI stk), .ref mre, .ref mce, .ref mco, .ref xc, .ref xa, .ref xm, .ref xv, .int (nI 0), .int stp, .int (nI 0)]))] := hD
  refine lv_iload_n hx hb d_Mo_forget_15 rfl (lv_at hl 0 rfl) ?_
  exact fs_iret hx hb hr hlocks hAe hK hS d_Mo_forget_16 () (rfl) hP hD

theorem d_Mo_plain_0 : decode b_Mo_plain 0 = .ok (.iload_n 0, 1) := by decide +kernel
theorem d_Mo_plain_1 : decode b_Mo_plain 1 = .ok (.i2l, 1) := by decide +kernel
theorem d_Mo_plain_2 : decode b_Mo_plain 2 = .ok (.ldc2_w 73, 3) := by decide +kernel
theorem d_Mo_plain_5 : decode b_Mo_plain 5 = .ok (.land, 1) := by decide +kernel
theorem d_Mo_plain_6 : decode b_Mo_plain 6 = .ok (.lreturn, 1) := by decide +kernel
set_option maxHeartbeats 4000000 in
set_option maxRecDepth 100000 in
theorem c_Mo_plain (x : Int32) (sz : Nat)  : fs_L l y_Mo_plain (k_Mo_plain :: fs_T) { frames := 0, cells := 0, slots := 0, locals := 0 } (dC, dI) vwCl (fs_tys cI cZ cJ cF) [.int x] [] sz (S := Unit) (fun r _ => r = fx_pl x) (fun _ => []) 0 0 := by
  refine fs_head (by decide) (Nat.le_of_ble_eq_true rfl) ?_
  intro p e s m below meth c A ls hx hb hr hts hown hlocks hin hml hK hP hD hS hA hAe hsz hl
  have hl : lv_has ls 1 [(0, .int x)] := hl
  have hown : s.vm.findClass R_Mo = some m.cls := hown
  refine lv_iload_n hx hb d_Mo_plain_0 rfl (lv_at hl 0 rfl) ?_
  refine lv_i2l hx hb d_Mo_plain_1 rfl ?_
  refine lv_ldc2 (v := 4294967295) hx hb hown (hts _ wi_553) d_Mo_plain_2 ?_
  refine lv_land hx hb d_Mo_plain_5 ?_
  exact fs_lret hx hb hr hlocks hAe hK hS d_Mo_plain_6 () (rfl) hP hD

end MO
end
section
theorem i_vc : Claimed_1_1 ∧ Claimed_1_2 := sorry
end
