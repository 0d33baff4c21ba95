section
/-! Names, by program (wip/whole/names.py) out of the claim: code, method names, decode rows, fields, words. -/
abbrev b_JL_init : ByteArray := prog_1_method_1_code
abbrev y_JL_init : MethodName := ⟨"JoinedLeaves", "<init>", "()V"⟩
abbrev b_RE_init : ByteArray := prog_6_method_1_code
abbrev y_RE_init : MethodName := ⟨"JoinedLeaves$Relation", "<init>", "()V"⟩
abbrev b_QU_init : ByteArray := prog_5_method_1_code
abbrev y_QU_init : MethodName := ⟨"JoinedLeaves$Question", "<init>", "(LJoinedLeaves$Relation;)V"⟩
abbrev b_AT_init : ByteArray := prog_2_method_1_code
abbrev y_AT_init : MethodName := ⟨"JoinedLeaves$Atom", "<init>", "(LJoinedLeaves$Relation;)V"⟩
abbrev b_HA_init : ByteArray := prog_3_method_1_code
abbrev y_HA_init : MethodName := ⟨"JoinedLeaves$Hanging", "<init>", "(LJoinedLeaves$Question;)V"⟩
abbrev b_JO_init : ByteArray := prog_4_method_1_code
abbrev y_JO_init : MethodName := ⟨"JoinedLeaves$Join", "<init>", "(LJoinedLeaves$Question;LJoinedLeaves$Hanging;)V"⟩
abbrev b_JL_relation : ByteArray := prog_1_method_2_code
abbrev y_JL_relation : MethodName := ⟨"JoinedLeaves", "relation", "(I)I"⟩
abbrev b_JL_add : ByteArray := prog_1_method_3_code
abbrev y_JL_add : MethodName := ⟨"JoinedLeaves", "add", "(IIII)Z"⟩
abbrev b_JL_isBelow : ByteArray := prog_1_method_18_code
abbrev y_JL_isBelow : MethodName := ⟨"JoinedLeaves", "isBelow", "(II)Z"⟩
abbrev b_RE_put : ByteArray := prog_6_method_2_code
abbrev y_RE_put : MethodName := ⟨"JoinedLeaves$Relation", "put", "(III)Z"⟩
abbrev b_RE_pack : ByteArray := prog_6_method_5_code
abbrev y_RE_pack : MethodName := ⟨"JoinedLeaves$Relation", "pack", "(III)I"⟩
abbrev b_RE_placeOf : ByteArray := prog_6_method_6_code
abbrev y_RE_placeOf : MethodName := ⟨"JoinedLeaves$Relation", "placeOf", "(I)I"⟩
abbrev b_JL_drop : ByteArray := prog_1_method_4_code
abbrev y_JL_drop : MethodName := ⟨"JoinedLeaves", "drop", "(IIII)Z"⟩
abbrev b_RE_take : ByteArray := prog_6_method_3_code
abbrev y_RE_take : MethodName := ⟨"JoinedLeaves$Relation", "take", "(III)Z"⟩
abbrev b_JL_rows : ByteArray := prog_1_method_5_code
abbrev y_JL_rows : MethodName := ⟨"JoinedLeaves", "rows", "(I)I"⟩
abbrev b_JL_atom : ByteArray := prog_1_method_6_code
abbrev y_JL_atom : MethodName := ⟨"JoinedLeaves", "atom", "(IIII)I"⟩
abbrev b_QU_putAtom : ByteArray := prog_5_method_2_code
abbrev y_QU_putAtom : MethodName := ⟨"JoinedLeaves$Question", "putAtom", "(LJoinedLeaves$Relation;III)Z"⟩
abbrev b_AT_bind : ByteArray := prog_2_method_2_code
abbrev y_AT_bind : MethodName := ⟨"JoinedLeaves$Atom", "bind", "(LJoinedLeaves$Relation;III)Z"⟩
abbrev b_HA_hangAtoms : ByteArray := prog_3_method_4_code
abbrev y_HA_hangAtoms : MethodName := ⟨"JoinedLeaves$Hanging", "hangAtoms", "()V"⟩
abbrev b_HA_hangLeastEar : ByteArray := prog_3_method_5_code
abbrev y_HA_hangLeastEar : MethodName := ⟨"JoinedLeaves$Hanging", "hangLeastEar", "()V"⟩
abbrev b_HA_leastHolderOf : ByteArray := prog_3_method_6_code
abbrev y_HA_leastHolderOf : MethodName := ⟨"JoinedLeaves$Hanging", "leastHolderOf", "(I)I"⟩
abbrev b_JL_isIn : ByteArray := prog_1_method_19_code
abbrev y_JL_isIn : MethodName := ⟨"JoinedLeaves", "isIn", "(II)Z"⟩
abbrev b_HA_variablesOf : ByteArray := prog_3_method_7_code
abbrev y_HA_variablesOf : MethodName := ⟨"JoinedLeaves$Hanging", "variablesOf", "(I)I"⟩
abbrev b_JL_head : ByteArray := prog_1_method_7_code
abbrev y_JL_head : MethodName := ⟨"JoinedLeaves", "head", "(I)I"⟩
abbrev b_QU_putInHead : ByteArray := prog_5_method_3_code
abbrev y_QU_putInHead : MethodName := ⟨"JoinedLeaves$Question", "putInHead", "(I)Z"⟩
abbrev b_JL_clear : ByteArray := prog_1_method_8_code
abbrev y_JL_clear : MethodName := ⟨"JoinedLeaves", "clear", "()I"⟩
abbrev b_QU_empty : ByteArray := prog_5_method_4_code
abbrev y_QU_empty : MethodName := ⟨"JoinedLeaves$Question", "empty", "()V"⟩
abbrev b_JL_tree : ByteArray := prog_1_method_9_code
abbrev y_JL_tree : MethodName := ⟨"JoinedLeaves", "tree", "()Z"⟩
abbrev b_HA_isTree : ByteArray := prog_3_method_2_code
abbrev y_HA_isTree : MethodName := ⟨"JoinedLeaves$Hanging", "isTree", "()Z"⟩
abbrev b_JL_parent : ByteArray := prog_1_method_10_code
abbrev y_JL_parent : MethodName := ⟨"JoinedLeaves", "parent", "(I)I"⟩
abbrev b_JL_turn : ByteArray := prog_1_method_11_code
abbrev y_JL_turn : MethodName := ⟨"JoinedLeaves", "turn", "(I)I"⟩
abbrev b_LA_ways : ByteArray := method_3_code
abbrev y_LA_ways : MethodName := ⟨"JoinedLeavesLaw", "ways", "(LJoinedLeaves;[J)I"⟩
abbrev b_JL_ways : ByteArray := prog_1_method_12_code
abbrev y_JL_ways : MethodName := ⟨"JoinedLeaves", "ways", "()J"⟩
abbrev b_JL_requireTree : ByteArray := prog_1_method_17_code
abbrev y_JL_requireTree : MethodName := ⟨"JoinedLeaves", "requireTree", "()V"⟩
abbrev b_JO_countWays : ByteArray := prog_4_method_3_code
abbrev y_JO_countWays : MethodName := ⟨"JoinedLeaves$Join", "countWays", "()J"⟩
abbrev b_HA_root : ByteArray := prog_3_method_3_code
abbrev y_HA_root : MethodName := ⟨"JoinedLeaves$Hanging", "root", "()I"⟩
abbrev b_JO_compareRows : ByteArray := prog_4_method_6_code
abbrev y_JO_compareRows : MethodName := ⟨"JoinedLeaves$Join", "compareRows", "()V"⟩
abbrev b_AT_rowsAgreeingWithThemselves : ByteArray := prog_2_method_3_code
abbrev y_AT_rowsAgreeingWithThemselves : MethodName := ⟨"JoinedLeaves$Atom", "rowsAgreeingWithThemselves", "()I"⟩
abbrev b_AT_agreesWithItself : ByteArray := prog_2_method_4_code
abbrev y_AT_agreesWithItself : MethodName := ⟨"JoinedLeaves$Atom", "agreesWithItself", "(I)Z"⟩
abbrev b_RE_valueAt : ByteArray := prog_6_method_4_code
abbrev y_RE_valueAt : MethodName := ⟨"JoinedLeaves$Relation", "valueAt", "(II)I"⟩
abbrev b_AT_rowsAgreeingWith : ByteArray := prog_2_method_5_code
abbrev y_AT_rowsAgreeingWith : MethodName := ⟨"JoinedLeaves$Atom", "rowsAgreeingWith", "(LJoinedLeaves$Atom;I)I"⟩
abbrev b_AT_rowsAllowing : ByteArray := prog_2_method_6_code
abbrev y_AT_rowsAllowing : MethodName := ⟨"JoinedLeaves$Atom", "rowsAllowing", "(II)I"⟩
abbrev b_JO_startWeights : ByteArray := prog_4_method_11_code
abbrev y_JO_startWeights : MethodName := ⟨"JoinedLeaves$Join", "startWeights", "()V"⟩
abbrev b_JO_weighIntoParent : ByteArray := prog_4_method_12_code
abbrev y_JO_weighIntoParent : MethodName := ⟨"JoinedLeaves$Join", "weighIntoParent", "(I)V"⟩
abbrev b_JO_weightOf : ByteArray := prog_4_method_13_code
abbrev y_JO_weightOf : MethodName := ⟨"JoinedLeaves$Join", "weightOf", "(II)J"⟩
abbrev b_LA_live : ByteArray := method_4_code
abbrev y_LA_live : MethodName := ⟨"JoinedLeavesLaw", "live", "(LJoinedLeaves;I[J)I"⟩
abbrev b_JL_live : ByteArray := prog_1_method_13_code
abbrev y_JL_live : MethodName := ⟨"JoinedLeaves", "live", "(I)I"⟩
abbrev b_JO_countLiveRows : ByteArray := prog_4_method_2_code
abbrev y_JO_countLiveRows : MethodName := ⟨"JoinedLeaves$Join", "countLiveRows", "(I)I"⟩
abbrev b_JO_keepLiveRows : ByteArray := prog_4_method_7_code
abbrev y_JO_keepLiveRows : MethodName := ⟨"JoinedLeaves$Join", "keepLiveRows", "([I)V"⟩
abbrev b_JO_keepRowsOfParent : ByteArray := prog_4_method_8_code
abbrev y_JO_keepRowsOfParent : MethodName := ⟨"JoinedLeaves$Join", "keepRowsOfParent", "([II)V"⟩
abbrev b_JO_keepRowsOfChild : ByteArray := prog_4_method_9_code
abbrev y_JO_keepRowsOfChild : MethodName := ⟨"JoinedLeaves$Join", "keepRowsOfChild", "([II)V"⟩
abbrev b_JI_bitCount : ByteArray := prog_13_method_49_code
abbrev y_JI_bitCount : MethodName := ⟨"java/lang/Integer", "bitCount", "(I)I"⟩
abbrev b_LA_answers : ByteArray := method_5_code
abbrev y_LA_answers : MethodName := ⟨"JoinedLeavesLaw", "answers", "(LJoinedLeaves;[J)I"⟩
abbrev b_JL_answers : ByteArray := prog_1_method_14_code
abbrev y_JL_answers : MethodName := ⟨"JoinedLeaves", "answers", "()I"⟩
abbrev b_JL_findAnswers : ByteArray := prog_1_method_16_code
abbrev y_JL_findAnswers : MethodName := ⟨"JoinedLeaves", "findAnswers", "()V"⟩
abbrev b_QU_bindsHead : ByteArray := prog_5_method_5_code
abbrev y_QU_bindsHead : MethodName := ⟨"JoinedLeaves$Question", "bindsHead", "()Z"⟩
abbrev b_JO_search : ByteArray := prog_4_method_4_code
abbrev y_JO_search : MethodName := ⟨"JoinedLeaves$Join", "search", "()V"⟩
abbrev b_JO_hasWay : ByteArray := prog_4_method_10_code
abbrev y_JO_hasWay : MethodName := ⟨"JoinedLeaves$Join", "hasWay", "([I)Z"⟩
abbrev b_JO_choose : ByteArray := prog_4_method_14_code
abbrev y_JO_choose : MethodName := ⟨"JoinedLeaves$Join", "choose", "(II)V"⟩
abbrev b_JO_storeAnswer : ByteArray := prog_4_method_15_code
abbrev y_JO_storeAnswer : MethodName := ⟨"JoinedLeaves$Join", "storeAnswer", "(I)V"⟩
abbrev b_JO_liveValuesOf : ByteArray := prog_4_method_16_code
abbrev y_JO_liveValuesOf : MethodName := ⟨"JoinedLeaves$Join", "liveValuesOf", "(I[I)I"⟩
abbrev b_QU_atomWith : ByteArray := prog_5_method_6_code
abbrev y_QU_atomWith : MethodName := ⟨"JoinedLeaves$Question", "atomWith", "(I)I"⟩
abbrev b_AT_valuesOf : ByteArray := prog_2_method_7_code
abbrev y_AT_valuesOf : MethodName := ⟨"JoinedLeaves$Atom", "valuesOf", "(II)I"⟩
abbrev b_JO_keepRowsWith : ByteArray := prog_4_method_17_code
abbrev y_JO_keepRowsWith : MethodName := ⟨"JoinedLeaves$Join", "keepRowsWith", "(III)V"⟩
abbrev b_LA_answer : ByteArray := method_6_code
abbrev y_LA_answer : MethodName := ⟨"JoinedLeavesLaw", "answer", "(LJoinedLeaves;II[J)I"⟩
abbrev b_JL_answer : ByteArray := prog_1_method_15_code
abbrev y_JL_answer : MethodName := ⟨"JoinedLeaves", "answer", "(II)I"⟩
abbrev b_JO_valueInAnswer : ByteArray := prog_4_method_5_code
abbrev y_JO_valueInAnswer : MethodName := ⟨"JoinedLeaves$Join", "valueInAnswer", "(II)I"⟩
abbrev b_MO_init : ByteArray := prog_8_method_1_code
abbrev y_MO_init : MethodName := ⟨"JoinedLeavesModel", "<init>", "()V"⟩
abbrev b_MO_thrown : ByteArray := prog_8_method_2_code
abbrev y_MO_thrown : MethodName := ⟨"JoinedLeavesModel", "thrown", "()I"⟩
abbrev b_MO_relation : ByteArray := prog_8_method_5_code
abbrev y_MO_relation : MethodName := ⟨"JoinedLeavesModel", "relation", "(I)I"⟩
abbrev b_MO_add : ByteArray := prog_8_method_8_code
abbrev y_MO_add : MethodName := ⟨"JoinedLeavesModel", "add", "(IIII)Z"⟩
abbrev b_MO_isRelation : ByteArray := prog_8_method_3_code
abbrev y_MO_isRelation : MethodName := ⟨"JoinedLeavesModel", "isRelation", "(I)Z"⟩
abbrev b_MO_placeOf : ByteArray := prog_8_method_7_code
abbrev y_MO_placeOf : MethodName := ⟨"JoinedLeavesModel", "placeOf", "(IIII)I"⟩
abbrev b_MO_pick : ByteArray := prog_8_method_6_code
abbrev y_MO_pick : MethodName := ⟨"JoinedLeavesModel", "pick", "(IIII)I"⟩
abbrev b_MO_drop : ByteArray := prog_8_method_9_code
abbrev y_MO_drop : MethodName := ⟨"JoinedLeavesModel", "drop", "(IIII)Z"⟩
abbrev b_MO_rows : ByteArray := prog_8_method_10_code
abbrev y_MO_rows : MethodName := ⟨"JoinedLeavesModel", "rows", "(I)I"⟩
abbrev b_MO_atom : ByteArray := prog_8_method_11_code
abbrev y_MO_atom : MethodName := ⟨"JoinedLeavesModel", "atom", "(IIII)I"⟩
abbrev b_MO_head : ByteArray := prog_8_method_12_code
abbrev y_MO_head : MethodName := ⟨"JoinedLeavesModel", "head", "(I)I"⟩
abbrev b_MO_clear : ByteArray := prog_8_method_13_code
abbrev y_MO_clear : MethodName := ⟨"JoinedLeavesModel", "clear", "()I"⟩
abbrev b_MO_tree : ByteArray := prog_8_method_19_code
abbrev y_MO_tree : MethodName := ⟨"JoinedLeavesModel", "tree", "()Z"⟩
abbrev b_MO_isTree : ByteArray := prog_8_method_18_code
abbrev y_MO_isTree : MethodName := ⟨"JoinedLeavesModel", "isTree", "()Z"⟩
abbrev b_MO_hang : ByteArray := prog_8_method_17_code
abbrev y_MO_hang : MethodName := ⟨"JoinedLeavesModel", "hang", "()V"⟩
abbrev b_MO_isLeft : ByteArray := prog_8_method_15_code
abbrev y_MO_isLeft : MethodName := ⟨"JoinedLeavesModel", "isLeft", "(I)Z"⟩
abbrev b_MO_holder : ByteArray := prog_8_method_16_code
abbrev y_MO_holder : MethodName := ⟨"JoinedLeavesModel", "holder", "(I)I"⟩
abbrev b_MO_setOf : ByteArray := prog_8_method_14_code
abbrev y_MO_setOf : MethodName := ⟨"JoinedLeavesModel", "setOf", "(I)I"⟩
abbrev b_MO_parent : ByteArray := prog_8_method_20_code
abbrev y_MO_parent : MethodName := ⟨"JoinedLeavesModel", "parent", "(I)I"⟩
abbrev b_MO_isAtom : ByteArray := prog_8_method_4_code
abbrev y_MO_isAtom : MethodName := ⟨"JoinedLeavesModel", "isAtom", "(I)Z"⟩
abbrev b_MO_turn : ByteArray := prog_8_method_21_code
abbrev y_MO_turn : MethodName := ⟨"JoinedLeavesModel", "turn", "(I)I"⟩
abbrev b_MO_ways : ByteArray := prog_8_method_26_code
abbrev y_MO_ways : MethodName := ⟨"JoinedLeavesModel", "ways", "()J"⟩
abbrev b_MO_look : ByteArray := prog_8_method_25_code
abbrev y_MO_look : MethodName := ⟨"JoinedLeavesModel", "look", "()V"⟩
abbrev b_MO_note : ByteArray := prog_8_method_24_code
abbrev y_MO_note : MethodName := ⟨"JoinedLeavesModel", "note", "()V"⟩
abbrev b_MO_fits : ByteArray := prog_8_method_23_code
abbrev y_MO_fits : MethodName := ⟨"JoinedLeavesModel", "fits", "(II)Z"⟩
abbrev b_MO_before : ByteArray := prog_8_method_22_code
abbrev y_MO_before : MethodName := ⟨"JoinedLeavesModel", "before", "(I)I"⟩
abbrev b_MO_live : ByteArray := prog_8_method_27_code
abbrev y_MO_live : MethodName := ⟨"JoinedLeavesModel", "live", "(I)I"⟩
abbrev b_MO_answers : ByteArray := prog_8_method_30_code
abbrev y_MO_answers : MethodName := ⟨"JoinedLeavesModel", "answers", "()I"⟩
abbrev b_MO_codeOfAnswers : ByteArray := prog_8_method_29_code
abbrev y_MO_codeOfAnswers : MethodName := ⟨"JoinedLeavesModel", "codeOfAnswers", "()I"⟩
abbrev b_MO_isHeadBound : ByteArray := prog_8_method_28_code
abbrev y_MO_isHeadBound : MethodName := ⟨"JoinedLeavesModel", "isHeadBound", "()Z"⟩
abbrev b_MO_answer : ByteArray := prog_8_method_31_code
abbrev y_MO_answer : MethodName := ⟨"JoinedLeavesModel", "answer", "(II)I"⟩
def T_RE : u_T := fun k => match k with
  | 0 => ("JoinedLeaves$Relation", "packedRows", "[I", true)
  | 1 => ("JoinedLeaves$Relation", "width", "I", false)
  | _ => ("JoinedLeaves$Relation", "size", "I", false)
def t_RE : Nat → FieldType := fun k => match k with
  | 0 => .array (.int)
  | 1 => .int
  | _ => .int
theorem n_RE : ∀ a, a < 3 → ∀ b, b < 3 → a ≠ b → (T_RE a).2.1 ≠ (T_RE b).2.1 := by decide +kernel
theorem o_RE : ∀ k, k < 3 → parseFieldDescriptor (T_RE k).2.2.1 = some (t_RE k) := by decide +kernel
def T_AT : u_T := fun k => match k with
  | 0 => ("JoinedLeaves$Atom", "variables", "[I", true)
  | 1 => ("JoinedLeaves$Atom", "variableSet", "I", false)
  | _ => ("JoinedLeaves$Atom", "relation", "LJoinedLeaves$Relation;", false)
def t_AT : Nat → FieldType := fun k => match k with
  | 0 => .array (.int)
  | 1 => .int
  | _ => .object "JoinedLeaves$Relation"
theorem n_AT : ∀ a, a < 3 → ∀ b, b < 3 → a ≠ b → (T_AT a).2.1 ≠ (T_AT b).2.1 := by decide +kernel
theorem o_AT : ∀ k, k < 3 → parseFieldDescriptor (T_AT k).2.2.1 = some (t_AT k) := by decide +kernel
def T_QU : u_T := fun k => match k with
  | 0 => ("JoinedLeaves$Question", "atoms", "[LJoinedLeaves$Atom;", true)
  | 1 => ("JoinedLeaves$Question", "atomCount", "I", false)
  | 2 => ("JoinedLeaves$Question", "headVariables", "[I", true)
  | 3 => ("JoinedLeaves$Question", "headSize", "I", false)
  | _ => ("JoinedLeaves$Question", "headSet", "I", false)
def t_QU : Nat → FieldType := fun k => match k with
  | 0 => .array (.object "JoinedLeaves$Atom")
  | 1 => .int
  | 2 => .array (.int)
  | 3 => .int
  | _ => .int
theorem n_QU : ∀ a, a < 5 → ∀ b, b < 5 → a ≠ b → (T_QU a).2.1 ≠ (T_QU b).2.1 := by decide +kernel
theorem o_QU : ∀ k, k < 5 → parseFieldDescriptor (T_QU k).2.2.1 = some (t_QU k) := by decide +kernel
def T_HA : u_T := fun k => match k with
  | 0 => ("JoinedLeaves$Hanging", "question", "LJoinedLeaves$Question;", true)
  | 1 => ("JoinedLeaves$Hanging", "parents", "[I", true)
  | 2 => ("JoinedLeaves$Hanging", "turns", "[I", true)
  | 3 => ("JoinedLeaves$Hanging", "order", "[I", true)
  | 4 => ("JoinedLeaves$Hanging", "hungCount", "I", false)
  | _ => ("JoinedLeaves$Hanging", "left", "I", false)
def t_HA : Nat → FieldType := fun k => match k with
  | 0 => .object "JoinedLeaves$Question"
  | 1 => .array (.int)
  | 2 => .array (.int)
  | 3 => .array (.int)
  | 4 => .int
  | _ => .int
theorem n_HA : ∀ a, a < 6 → ∀ b, b < 6 → a ≠ b → (T_HA a).2.1 ≠ (T_HA b).2.1 := by decide +kernel
theorem o_HA : ∀ k, k < 6 → parseFieldDescriptor (T_HA k).2.2.1 = some (t_HA k) := by decide +kernel
def T_JO : u_T := fun k => match k with
  | 0 => ("JoinedLeaves$Join", "question", "LJoinedLeaves$Question;", true)
  | 1 => ("JoinedLeaves$Join", "hanging", "LJoinedLeaves$Hanging;", true)
  | 2 => ("JoinedLeaves$Join", "agreeing", "[[I", true)
  | 3 => ("JoinedLeaves$Join", "kept", "[[I", true)
  | 4 => ("JoinedLeaves$Join", "weights", "[[J", true)
  | 5 => ("JoinedLeaves$Join", "packedAnswers", "[I", true)
  | _ => ("JoinedLeaves$Join", "found", "I", false)
def t_JO : Nat → FieldType := fun k => match k with
  | 0 => .object "JoinedLeaves$Question"
  | 1 => .object "JoinedLeaves$Hanging"
  | 2 => .array (.array (.int))
  | 3 => .array (.array (.int))
  | 4 => .array (.array (.long))
  | 5 => .array (.int)
  | _ => .int
theorem n_JO : ∀ a, a < 7 → ∀ b, b < 7 → a ≠ b → (T_JO a).2.1 ≠ (T_JO b).2.1 := by decide +kernel
theorem o_JO : ∀ k, k < 7 → parseFieldDescriptor (T_JO k).2.2.1 = some (t_JO k) := by decide +kernel
def T_JL : u_T := fun k => match k with
  | 0 => ("JoinedLeaves", "relations", "[LJoinedLeaves$Relation;", true)
  | 1 => ("JoinedLeaves", "relationCount", "I", false)
  | 2 => ("JoinedLeaves", "question", "LJoinedLeaves$Question;", true)
  | 3 => ("JoinedLeaves", "hanging", "LJoinedLeaves$Hanging;", true)
  | _ => ("JoinedLeaves", "join", "LJoinedLeaves$Join;", true)
def t_JL : Nat → FieldType := fun k => match k with
  | 0 => .array (.object "JoinedLeaves$Relation")
  | 1 => .int
  | 2 => .object "JoinedLeaves$Question"
  | 3 => .object "JoinedLeaves$Hanging"
  | _ => .object "JoinedLeaves$Join"
theorem n_JL : ∀ a, a < 5 → ∀ b, b < 5 → a ≠ b → (T_JL a).2.1 ≠ (T_JL b).2.1 := by decide +kernel
theorem o_JL : ∀ k, k < 5 → parseFieldDescriptor (T_JL k).2.2.1 = some (t_JL k) := by decide +kernel
def T_MO : u_T := fun k => match k with
  | 0 => ("JoinedLeavesModel", "code", "I", false)
  | 1 => ("JoinedLeavesModel", "relations", "I", false)
  | 2 => ("JoinedLeavesModel", "widths", "[I", true)
  | 3 => ("JoinedLeavesModel", "counts", "[I", true)
  | 4 => ("JoinedLeavesModel", "values", "[I", true)
  | 5 => ("JoinedLeavesModel", "atoms", "I", false)
  | 6 => ("JoinedLeavesModel", "of", "[I", true)
  | 7 => ("JoinedLeavesModel", "variables", "[I", true)
  | 8 => ("JoinedLeavesModel", "headLength", "I", false)
  | 9 => ("JoinedLeavesModel", "heads", "[I", true)
  | 10 => ("JoinedLeavesModel", "left", "I", false)
  | 11 => ("JoinedLeavesModel", "parents", "[I", true)
  | 12 => ("JoinedLeavesModel", "turns", "[I", true)
  | 13 => ("JoinedLeavesModel", "known", "Z", false)
  | 14 => ("JoinedLeavesModel", "ways", "J", false)
  | 15 => ("JoinedLeavesModel", "value", "[I", true)
  | 16 => ("JoinedLeavesModel", "tries", "[I", true)
  | 17 => ("JoinedLeavesModel", "lives", "[I", true)
  | 18 => ("JoinedLeavesModel", "answered", "[I", true)
  | 19 => ("JoinedLeavesModel", "answers", "I", false)
  | _ => ("JoinedLeavesModel", "firsts", "[I", true)
def t_MO : Nat → FieldType := fun k => match k with
  | 0 => .int
  | 1 => .int
  | 2 => .array (.int)
  | 3 => .array (.int)
  | 4 => .array (.int)
  | 5 => .int
  | 6 => .array (.int)
  | 7 => .array (.int)
  | 8 => .int
  | 9 => .array (.int)
  | 10 => .int
  | 11 => .array (.int)
  | 12 => .array (.int)
  | 13 => .boolean
  | 14 => .long
  | 15 => .array (.int)
  | 16 => .array (.int)
  | 17 => .array (.int)
  | 18 => .array (.int)
  | 19 => .int
  | _ => .array (.int)
theorem n_MO : ∀ a, a < 21 → ∀ b, b < 21 → a ≠ b → (T_MO a).2.1 ≠ (T_MO b).2.1 := by decide +kernel
theorem o_MO : ∀ k, k < 21 → parseFieldDescriptor (T_MO k).2.2.1 = some (t_MO k) := by decide +kernel
abbrev vwCl : List vw_C := [("JoinedLeaves$Relation", T_RE, 3), ("JoinedLeaves$Atom", T_AT, 3), ("JoinedLeaves$Question", T_QU, 5), ("JoinedLeaves$Hanging", T_HA, 6), ("JoinedLeaves$Join", T_JO, 7), ("JoinedLeaves", T_JL, 5), ("JoinedLeavesModel", T_MO, 21)]
def jT : Nat → Nat → FieldType := fun ci => match ci with
  | 0 => t_RE
  | 1 => t_AT
  | 2 => t_QU
  | 3 => t_HA
  | 4 => t_JO
  | 5 => t_JL
  | _ => t_MO
abbrev jA (cs : Nat → ClassId) : List (ClassId × FieldType) := [(cs 0, .int), (cs 1, .long), (cs 2, .object "JoinedLeaves$Relation"), (cs 3, .object "JoinedLeaves$Atom"), (cs 4, .array .int), (cs 5, .array .long)]
def jW_0 : List Cond := [(Jvm.Cond.initialized "JoinedLeavesLaw"), (Jvm.Cond.initialized "JoinedLeaves"), (Jvm.Cond.initialized "JoinedLeaves$Relation"), (Jvm.Cond.initialized "JoinedLeaves$Question"), (Jvm.Cond.initialized "JoinedLeaves$Atom"), (Jvm.Cond.initialized "JoinedLeaves$Hanging"), (Jvm.Cond.initialized "JoinedLeaves$Join"), (Jvm.Cond.initialized "JoinedLeavesModel"), (Jvm.Cond.initialized "java/lang/Throwable"), (Jvm.Cond.initialized "java/lang/Exception"), (Jvm.Cond.initialized "java/lang/RuntimeException"), (Jvm.Cond.initialized "java/lang/IllegalStateException"), (Jvm.Cond.initialized "java/lang/IndexOutOfBoundsException"), (Jvm.Cond.initialized "java/lang/Integer"), (Jvm.Cond.initialized "java/lang/IllegalArgumentException"), (Jvm.Cond.initialized "java/lang/UnsupportedOperationException"), (Jvm.Cond.classLink "JoinedLeavesLaw" (8 : Nat) "JoinedLeaves"), (Jvm.Cond.instantiable "JoinedLeaves" (5 : Nat)), (Jvm.Cond.methodLink "JoinedLeavesLaw" (33 : Nat) ({ cls := "JoinedLeaves", name := "<init>", desc := "()V" } : Jvm.MethodName)), (Jvm.Cond.instanceMethod ({ cls := "JoinedLeaves", name := "<init>", desc := "()V" } : Jvm.MethodName)), (Jvm.Cond.code ({ cls := "JoinedLeaves", name := "<init>", desc := "()V" } : Jvm.MethodName) prog_1_method_1_code (2 : Nat) (Option.none : Option Jvm.ClassFile.FieldType)), (Jvm.Cond.methodLink "JoinedLeaves" (1 : Nat) ({ cls := "java/lang/Object", name := "<init>", desc := "()V" } : Jvm.MethodName)), (Jvm.Cond.instanceMethod ({ cls := "java/lang/Object", name := "<init>", desc := "()V" } : Jvm.MethodName)), (Jvm.Cond.code ({ cls := "java/lang/Object", name := "<init>", desc := "()V" } : Jvm.MethodName) object_method_1_code (1 : Nat) (Option.none : Option Jvm.ClassFile.FieldType)), (Jvm.Cond.classLink "JoinedLeaves" (9 : Nat) "JoinedLeaves$Relation"), (Jvm.Cond.instantiable "JoinedLeaves$Relation" (3 : Nat)), (Jvm.Cond.instanceMethod ({ cls := "JoinedLeaves$Relation", name := "<init>", desc := "()V" } : Jvm.MethodName)), (Jvm.Cond.code ({ cls := "JoinedLeaves$Relation", name := "<init>", desc := "()V" } : Jvm.MethodName) prog_6_method_1_code (1 : Nat) (Option.none : Option Jvm.ClassFile.FieldType)), (Jvm.Cond.methodLink "JoinedLeaves$Relation" (3 : Nat) ({ cls := "java/lang/Object", name := "<init>", desc := "()V" } : Jvm.MethodName)), (Jvm.Cond.fieldLink "JoinedLeaves$Relation" (9 : Nat) "JoinedLeaves$Relation" "packedRows" "[I"), (Jvm.Cond.fieldLink "JoinedLeaves$Relation" (27 : Nat) "JoinedLeaves$Relation" "width" "I"), (Jvm.Cond.fieldLink "JoinedLeaves$Relation" (19 : Nat) "JoinedLeaves$Relation" "size" "I"), (Jvm.Cond.laysFinal "JoinedLeaves$Relation" "JoinedLeaves$Relation" "packedRows" "[I"), (Jvm.Cond.lays "JoinedLeaves$Relation" "JoinedLeaves$Relation" "width" "I"), (Jvm.Cond.lays "JoinedLeaves$Relation" "JoinedLeaves$Relation" "size" "I"), (Jvm.Cond.superclass "JoinedLeaves$Relation" "java/lang/Object"), (Jvm.Cond.arrayClass Jvm.ClassFile.FieldType.int), (Jvm.Cond.classLink "JoinedLeaves" (16 : Nat) "JoinedLeaves$Question"), (Jvm.Cond.instantiable "JoinedLeaves$Question" (5 : Nat)), (Jvm.Cond.instanceMethod ({ cls := "JoinedLeaves$Question", name := "<init>", desc := "(LJoinedLeaves$Relation;)V" } : Jvm.MethodName)), (Jvm.Cond.code ({ cls := "JoinedLeaves$Question", name := "<init>", desc := "(LJoinedLeaves$Relation;)V" } : Jvm.MethodName) prog_5_method_1_code (3 : Nat) (Option.none : Option Jvm.ClassFile.FieldType)), (Jvm.Cond.methodLink "JoinedLeaves$Question" (3 : Nat) ({ cls := "java/lang/Object", name := "<init>", desc := "()V" } : Jvm.MethodName)), (Jvm.Cond.classLink "JoinedLeaves$Question" (9 : Nat) "JoinedLeaves$Atom"), (Jvm.Cond.instantiable "JoinedLeaves$Atom" (3 : Nat)), (Jvm.Cond.instanceMethod ({ cls := "JoinedLeaves$Atom", name := "<init>", desc := "(LJoinedLeaves$Relation;)V" } : Jvm.MethodName)), (Jvm.Cond.code ({ cls := "JoinedLeaves$Atom", name := "<init>", desc := "(LJoinedLeaves$Relation;)V" } : Jvm.MethodName) prog_2_method_1_code (2 : Nat) (Option.none : Option Jvm.ClassFile.FieldType)), (Jvm.Cond.methodLink "JoinedLeaves$Atom" (3 : Nat) ({ cls := "java/lang/Object", name := "<init>", desc := "()V" } : Jvm.MethodName)), (Jvm.Cond.fieldLink "JoinedLeaves$Atom" (9 : Nat) "JoinedLeaves$Atom" "variables" "[I")]
def jW_1 : List Cond := [(Jvm.Cond.fieldLink "JoinedLeaves$Atom" (29 : Nat) "JoinedLeaves$Atom" "variableSet" "I"), (Jvm.Cond.fieldLink "JoinedLeaves$Atom" (15 : Nat) "JoinedLeaves$Atom" "relation" "LJoinedLeaves$Relation;"), (Jvm.Cond.laysFinal "JoinedLeaves$Atom" "JoinedLeaves$Atom" "variables" "[I"), (Jvm.Cond.lays "JoinedLeaves$Atom" "JoinedLeaves$Atom" "variableSet" "I"), (Jvm.Cond.lays "JoinedLeaves$Atom" "JoinedLeaves$Atom" "relation" "LJoinedLeaves$Relation;"), (Jvm.Cond.superclass "JoinedLeaves$Atom" "java/lang/Object"), (Jvm.Cond.fieldLink "JoinedLeaves$Question" (11 : Nat) "JoinedLeaves$Question" "atoms" "[LJoinedLeaves$Atom;"), (Jvm.Cond.fieldLink "JoinedLeaves$Question" (24 : Nat) "JoinedLeaves$Question" "atomCount" "I"), (Jvm.Cond.fieldLink "JoinedLeaves$Question" (17 : Nat) "JoinedLeaves$Question" "headVariables" "[I"), (Jvm.Cond.fieldLink "JoinedLeaves$Question" (42 : Nat) "JoinedLeaves$Question" "headSize" "I"), (Jvm.Cond.fieldLink "JoinedLeaves$Question" (36 : Nat) "JoinedLeaves$Question" "headSet" "I"), (Jvm.Cond.laysFinal "JoinedLeaves$Question" "JoinedLeaves$Question" "atoms" "[LJoinedLeaves$Atom;"), (Jvm.Cond.lays "JoinedLeaves$Question" "JoinedLeaves$Question" "atomCount" "I"), (Jvm.Cond.laysFinal "JoinedLeaves$Question" "JoinedLeaves$Question" "headVariables" "[I"), (Jvm.Cond.lays "JoinedLeaves$Question" "JoinedLeaves$Question" "headSize" "I"), (Jvm.Cond.lays "JoinedLeaves$Question" "JoinedLeaves$Question" "headSet" "I"), (Jvm.Cond.superclass "JoinedLeaves$Question" "java/lang/Object"), (Jvm.Cond.classLink "JoinedLeaves" (25 : Nat) "JoinedLeaves$Hanging"), (Jvm.Cond.instantiable "JoinedLeaves$Hanging" (6 : Nat)), (Jvm.Cond.instanceMethod ({ cls := "JoinedLeaves$Hanging", name := "<init>", desc := "(LJoinedLeaves$Question;)V" } : Jvm.MethodName)), (Jvm.Cond.code ({ cls := "JoinedLeaves$Hanging", name := "<init>", desc := "(LJoinedLeaves$Question;)V" } : Jvm.MethodName) prog_3_method_1_code (2 : Nat) (Option.none : Option Jvm.ClassFile.FieldType)), (Jvm.Cond.methodLink "JoinedLeaves$Hanging" (3 : Nat) ({ cls := "java/lang/Object", name := "<init>", desc := "()V" } : Jvm.MethodName)), (Jvm.Cond.fieldLink "JoinedLeaves$Hanging" (21 : Nat) "JoinedLeaves$Hanging" "question" "LJoinedLeaves$Question;"), (Jvm.Cond.fieldLink "JoinedLeaves$Hanging" (9 : Nat) "JoinedLeaves$Hanging" "parents" "[I"), (Jvm.Cond.fieldLink "JoinedLeaves$Hanging" (15 : Nat) "JoinedLeaves$Hanging" "turns" "[I"), (Jvm.Cond.fieldLink "JoinedLeaves$Hanging" (18 : Nat) "JoinedLeaves$Hanging" "order" "[I"), (Jvm.Cond.fieldLink "JoinedLeaves$Hanging" (31 : Nat) "JoinedLeaves$Hanging" "hungCount" "I"), (Jvm.Cond.fieldLink "JoinedLeaves$Hanging" (34 : Nat) "JoinedLeaves$Hanging" "left" "I"), (Jvm.Cond.laysFinal "JoinedLeaves$Hanging" "JoinedLeaves$Hanging" "question" "LJoinedLeaves$Question;"), (Jvm.Cond.laysFinal "JoinedLeaves$Hanging" "JoinedLeaves$Hanging" "parents" "[I"), (Jvm.Cond.laysFinal "JoinedLeaves$Hanging" "JoinedLeaves$Hanging" "turns" "[I"), (Jvm.Cond.laysFinal "JoinedLeaves$Hanging" "JoinedLeaves$Hanging" "order" "[I"), (Jvm.Cond.lays "JoinedLeaves$Hanging" "JoinedLeaves$Hanging" "hungCount" "I"), (Jvm.Cond.lays "JoinedLeaves$Hanging" "JoinedLeaves$Hanging" "left" "I"), (Jvm.Cond.superclass "JoinedLeaves$Hanging" "java/lang/Object"), (Jvm.Cond.classLink "JoinedLeaves" (34 : Nat) "JoinedLeaves$Join"), (Jvm.Cond.instantiable "JoinedLeaves$Join" (7 : Nat)), (Jvm.Cond.instanceMethod ({ cls := "JoinedLeaves$Join", name := "<init>", desc := "(LJoinedLeaves$Question;LJoinedLeaves$Hanging;)V" } : Jvm.MethodName)), (Jvm.Cond.code ({ cls := "JoinedLeaves$Join", name := "<init>", desc := "(LJoinedLeaves$Question;LJoinedLeaves$Hanging;)V" } : Jvm.MethodName) prog_4_method_1_code (3 : Nat) (Option.none : Option Jvm.ClassFile.FieldType)), (Jvm.Cond.methodLink "JoinedLeaves$Join" (3 : Nat) ({ cls := "java/lang/Object", name := "<init>", desc := "()V" } : Jvm.MethodName)), (Jvm.Cond.classLink "JoinedLeaves$Join" (9 : Nat) "[[I"), (Jvm.Cond.classLink "JoinedLeaves$Join" (19 : Nat) "[[J"), (Jvm.Cond.fieldLink "JoinedLeaves$Join" (28 : Nat) "JoinedLeaves$Join" "question" "LJoinedLeaves$Question;"), (Jvm.Cond.fieldLink "JoinedLeaves$Join" (32 : Nat) "JoinedLeaves$Join" "hanging" "LJoinedLeaves$Hanging;"), (Jvm.Cond.fieldLink "JoinedLeaves$Join" (11 : Nat) "JoinedLeaves$Join" "agreeing" "[[I"), (Jvm.Cond.fieldLink "JoinedLeaves$Join" (16 : Nat) "JoinedLeaves$Join" "kept" "[[I"), (Jvm.Cond.fieldLink "JoinedLeaves$Join" (21 : Nat) "JoinedLeaves$Join" "weights" "[[J"), (Jvm.Cond.fieldLink "JoinedLeaves$Join" (24 : Nat) "JoinedLeaves$Join" "packedAnswers" "[I")]
def jW_2 : List Cond := [(Jvm.Cond.fieldLink "JoinedLeaves$Join" (73 : Nat) "JoinedLeaves$Join" "found" "I"), (Jvm.Cond.laysFinal "JoinedLeaves$Join" "JoinedLeaves$Join" "question" "LJoinedLeaves$Question;"), (Jvm.Cond.laysFinal "JoinedLeaves$Join" "JoinedLeaves$Join" "hanging" "LJoinedLeaves$Hanging;"), (Jvm.Cond.laysFinal "JoinedLeaves$Join" "JoinedLeaves$Join" "agreeing" "[[I"), (Jvm.Cond.laysFinal "JoinedLeaves$Join" "JoinedLeaves$Join" "kept" "[[I"), (Jvm.Cond.laysFinal "JoinedLeaves$Join" "JoinedLeaves$Join" "weights" "[[J"), (Jvm.Cond.laysFinal "JoinedLeaves$Join" "JoinedLeaves$Join" "packedAnswers" "[I"), (Jvm.Cond.lays "JoinedLeaves$Join" "JoinedLeaves$Join" "found" "I"), (Jvm.Cond.superclass "JoinedLeaves$Join" "java/lang/Object"), (Jvm.Cond.arrayClass Jvm.ClassFile.FieldType.long), (Jvm.Cond.fieldLink "JoinedLeaves" (11 : Nat) "JoinedLeaves" "relations" "[LJoinedLeaves$Relation;"), (Jvm.Cond.fieldLink "JoinedLeaves" (43 : Nat) "JoinedLeaves" "relationCount" "I"), (Jvm.Cond.fieldLink "JoinedLeaves" (21 : Nat) "JoinedLeaves" "question" "LJoinedLeaves$Question;"), (Jvm.Cond.fieldLink "JoinedLeaves" (30 : Nat) "JoinedLeaves" "hanging" "LJoinedLeaves$Hanging;"), (Jvm.Cond.fieldLink "JoinedLeaves" (39 : Nat) "JoinedLeaves" "join" "LJoinedLeaves$Join;"), (Jvm.Cond.laysFinal "JoinedLeaves" "JoinedLeaves" "relations" "[LJoinedLeaves$Relation;"), (Jvm.Cond.lays "JoinedLeaves" "JoinedLeaves" "relationCount" "I"), (Jvm.Cond.laysFinal "JoinedLeaves" "JoinedLeaves" "question" "LJoinedLeaves$Question;"), (Jvm.Cond.laysFinal "JoinedLeaves" "JoinedLeaves" "hanging" "LJoinedLeaves$Hanging;"), (Jvm.Cond.laysFinal "JoinedLeaves" "JoinedLeaves" "join" "LJoinedLeaves$Join;"), (Jvm.Cond.superclass "JoinedLeaves" "java/lang/Object"), (Jvm.Cond.methodLink "JoinedLeavesLaw" (37 : Nat) ({ cls := "JoinedLeaves", name := "relation", desc := "(I)I" } : Jvm.MethodName)), (Jvm.Cond.instanceMethod ({ cls := "JoinedLeaves", name := "relation", desc := "(I)I" } : Jvm.MethodName)), (Jvm.Cond.selects "JoinedLeaves" ({ cls := "JoinedLeaves", name := "relation", desc := "(I)I" } : Jvm.MethodName) ({ cls := "JoinedLeaves", name := "relation", desc := "(I)I" } : Jvm.MethodName)), (Jvm.Cond.code ({ cls := "JoinedLeaves", name := "relation", desc := "(I)I" } : Jvm.MethodName) prog_1_method_2_code (2 : Nat) (Option.some Jvm.ClassFile.FieldType.int)), (Jvm.Cond.methodLink "JoinedLeavesLaw" (41 : Nat) ({ cls := "JoinedLeaves", name := "add", desc := "(IIII)Z" } : Jvm.MethodName)), (Jvm.Cond.instanceMethod ({ cls := "JoinedLeaves", name := "add", desc := "(IIII)Z" } : Jvm.MethodName)), (Jvm.Cond.selects "JoinedLeaves" ({ cls := "JoinedLeaves", name := "add", desc := "(IIII)Z" } : Jvm.MethodName) ({ cls := "JoinedLeaves", name := "add", desc := "(IIII)Z" } : Jvm.MethodName)), (Jvm.Cond.code ({ cls := "JoinedLeaves", name := "add", desc := "(IIII)Z" } : Jvm.MethodName) prog_1_method_3_code (5 : Nat) (Option.some Jvm.ClassFile.FieldType.boolean)), (Jvm.Cond.methodLink "JoinedLeaves" (50 : Nat) ({ cls := "JoinedLeaves", name := "isBelow", desc := "(II)Z" } : Jvm.MethodName)), (Jvm.Cond.static ({ cls := "JoinedLeaves", name := "isBelow", desc := "(II)Z" } : Jvm.MethodName)), (Jvm.Cond.code ({ cls := "JoinedLeaves", name := "isBelow", desc := "(II)Z" } : Jvm.MethodName) prog_1_method_18_code (2 : Nat) (Option.some Jvm.ClassFile.FieldType.boolean)), (Jvm.Cond.instanceMethod ({ cls := "JoinedLeaves$Relation", name := "put", desc := "(III)Z" } : Jvm.MethodName)), (Jvm.Cond.code ({ cls := "JoinedLeaves$Relation", name := "put", desc := "(III)Z" } : Jvm.MethodName) prog_6_method_2_code (5 : Nat) (Option.some Jvm.ClassFile.FieldType.boolean)), (Jvm.Cond.methodLink "JoinedLeaves$Relation" (15 : Nat) ({ cls := "JoinedLeaves$Relation", name := "pack", desc := "(III)I" } : Jvm.MethodName)), (Jvm.Cond.instanceMethod ({ cls := "JoinedLeaves$Relation", name := "pack", desc := "(III)I" } : Jvm.MethodName)), (Jvm.Cond.code ({ cls := "JoinedLeaves$Relation", name := "pack", desc := "(III)I" } : Jvm.MethodName) prog_6_method_5_code (6 : Nat) (Option.some Jvm.ClassFile.FieldType.int)), (Jvm.Cond.methodLink "JoinedLeaves$Relation" (23 : Nat) ({ cls := "JoinedLeaves$Relation", name := "placeOf", desc := "(I)I" } : Jvm.MethodName)), (Jvm.Cond.instanceMethod ({ cls := "JoinedLeaves$Relation", name := "placeOf", desc := "(I)I" } : Jvm.MethodName)), (Jvm.Cond.code ({ cls := "JoinedLeaves$Relation", name := "placeOf", desc := "(I)I" } : Jvm.MethodName) prog_6_method_6_code (3 : Nat) (Option.some Jvm.ClassFile.FieldType.int)), (Jvm.Cond.methodLink "JoinedLeavesLaw" (46 : Nat) ({ cls := "JoinedLeaves", name := "drop", desc := "(IIII)Z" } : Jvm.MethodName)), (Jvm.Cond.instanceMethod ({ cls := "JoinedLeaves", name := "drop", desc := "(IIII)Z" } : Jvm.MethodName)), (Jvm.Cond.selects "JoinedLeaves" ({ cls := "JoinedLeaves", name := "drop", desc := "(IIII)Z" } : Jvm.MethodName) ({ cls := "JoinedLeaves", name := "drop", desc := "(IIII)Z" } : Jvm.MethodName)), (Jvm.Cond.code ({ cls := "JoinedLeaves", name := "drop", desc := "(IIII)Z" } : Jvm.MethodName) prog_1_method_4_code (5 : Nat) (Option.some Jvm.ClassFile.FieldType.boolean)), (Jvm.Cond.instanceMethod ({ cls := "JoinedLeaves$Relation", name := "take", desc := "(III)Z" } : Jvm.MethodName)), (Jvm.Cond.code ({ cls := "JoinedLeaves$Relation", name := "take", desc := "(III)Z" } : Jvm.MethodName) prog_6_method_3_code (5 : Nat) (Option.some Jvm.ClassFile.FieldType.boolean)), (Jvm.Cond.methodLink "JoinedLeavesLaw" (50 : Nat) ({ cls := "JoinedLeaves", name := "rows", desc := "(I)I" } : Jvm.MethodName)), (Jvm.Cond.instanceMethod ({ cls := "JoinedLeaves", name := "rows", desc := "(I)I" } : Jvm.MethodName))]
def jW_3 : List Cond := [(Jvm.Cond.selects "JoinedLeaves" ({ cls := "JoinedLeaves", name := "rows", desc := "(I)I" } : Jvm.MethodName) ({ cls := "JoinedLeaves", name := "rows", desc := "(I)I" } : Jvm.MethodName)), (Jvm.Cond.code ({ cls := "JoinedLeaves", name := "rows", desc := "(I)I" } : Jvm.MethodName) prog_1_method_5_code (2 : Nat) (Option.some Jvm.ClassFile.FieldType.int)), (Jvm.Cond.methodLink "JoinedLeavesLaw" (54 : Nat) ({ cls := "JoinedLeaves", name := "atom", desc := "(IIII)I" } : Jvm.MethodName)), (Jvm.Cond.instanceMethod ({ cls := "JoinedLeaves", name := "atom", desc := "(IIII)I" } : Jvm.MethodName)), (Jvm.Cond.selects "JoinedLeaves" ({ cls := "JoinedLeaves", name := "atom", desc := "(IIII)I" } : Jvm.MethodName) ({ cls := "JoinedLeaves", name := "atom", desc := "(IIII)I" } : Jvm.MethodName)), (Jvm.Cond.code ({ cls := "JoinedLeaves", name := "atom", desc := "(IIII)I" } : Jvm.MethodName) prog_1_method_6_code (5 : Nat) (Option.some Jvm.ClassFile.FieldType.int)), (Jvm.Cond.instanceMethod ({ cls := "JoinedLeaves$Question", name := "putAtom", desc := "(LJoinedLeaves$Relation;III)Z" } : Jvm.MethodName)), (Jvm.Cond.code ({ cls := "JoinedLeaves$Question", name := "putAtom", desc := "(LJoinedLeaves$Relation;III)Z" } : Jvm.MethodName) prog_5_method_2_code (5 : Nat) (Option.some Jvm.ClassFile.FieldType.boolean)), (Jvm.Cond.instanceMethod ({ cls := "JoinedLeaves$Atom", name := "bind", desc := "(LJoinedLeaves$Relation;III)Z" } : Jvm.MethodName)), (Jvm.Cond.code ({ cls := "JoinedLeaves$Atom", name := "bind", desc := "(LJoinedLeaves$Relation;III)Z" } : Jvm.MethodName) prog_2_method_2_code (7 : Nat) (Option.some Jvm.ClassFile.FieldType.boolean)), (Jvm.Cond.instanceMethod ({ cls := "JoinedLeaves$Hanging", name := "hangAtoms", desc := "()V" } : Jvm.MethodName)), (Jvm.Cond.code ({ cls := "JoinedLeaves$Hanging", name := "hangAtoms", desc := "()V" } : Jvm.MethodName) prog_3_method_4_code (2 : Nat) (Option.none : Option Jvm.ClassFile.FieldType)), (Jvm.Cond.methodLink "JoinedLeaves$Hanging" (41 : Nat) ({ cls := "JoinedLeaves$Hanging", name := "hangLeastEar", desc := "()V" } : Jvm.MethodName)), (Jvm.Cond.instanceMethod ({ cls := "JoinedLeaves$Hanging", name := "hangLeastEar", desc := "()V" } : Jvm.MethodName)), (Jvm.Cond.code ({ cls := "JoinedLeaves$Hanging", name := "hangLeastEar", desc := "()V" } : Jvm.MethodName) prog_3_method_5_code (3 : Nat) (Option.none : Option Jvm.ClassFile.FieldType)), (Jvm.Cond.methodLink "JoinedLeaves$Hanging" (44 : Nat) ({ cls := "JoinedLeaves$Hanging", name := "leastHolderOf", desc := "(I)I" } : Jvm.MethodName)), (Jvm.Cond.instanceMethod ({ cls := "JoinedLeaves$Hanging", name := "leastHolderOf", desc := "(I)I" } : Jvm.MethodName)), (Jvm.Cond.code ({ cls := "JoinedLeaves$Hanging", name := "leastHolderOf", desc := "(I)I" } : Jvm.MethodName) prog_3_method_6_code (5 : Nat) (Option.some Jvm.ClassFile.FieldType.int)), (Jvm.Cond.static ({ cls := "JoinedLeaves", name := "isIn", desc := "(II)Z" } : Jvm.MethodName)), (Jvm.Cond.code ({ cls := "JoinedLeaves", name := "isIn", desc := "(II)Z" } : Jvm.MethodName) prog_1_method_19_code (2 : Nat) (Option.some Jvm.ClassFile.FieldType.boolean)), (Jvm.Cond.methodLink "JoinedLeaves$Hanging" (57 : Nat) ({ cls := "JoinedLeaves$Hanging", name := "variablesOf", desc := "(I)I" } : Jvm.MethodName)), (Jvm.Cond.instanceMethod ({ cls := "JoinedLeaves$Hanging", name := "variablesOf", desc := "(I)I" } : Jvm.MethodName)), (Jvm.Cond.code ({ cls := "JoinedLeaves$Hanging", name := "variablesOf", desc := "(I)I" } : Jvm.MethodName) prog_3_method_7_code (4 : Nat) (Option.some Jvm.ClassFile.FieldType.int)), (Jvm.Cond.methodLink "JoinedLeavesLaw" (59 : Nat) ({ cls := "JoinedLeaves", name := "head", desc := "(I)I" } : Jvm.MethodName)), (Jvm.Cond.instanceMethod ({ cls := "JoinedLeaves", name := "head", desc := "(I)I" } : Jvm.MethodName)), (Jvm.Cond.selects "JoinedLeaves" ({ cls := "JoinedLeaves", name := "head", desc := "(I)I" } : Jvm.MethodName) ({ cls := "JoinedLeaves", name := "head", desc := "(I)I" } : Jvm.MethodName)), (Jvm.Cond.code ({ cls := "JoinedLeaves", name := "head", desc := "(I)I" } : Jvm.MethodName) prog_1_method_7_code (2 : Nat) (Option.some Jvm.ClassFile.FieldType.int)), (Jvm.Cond.instanceMethod ({ cls := "JoinedLeaves$Question", name := "putInHead", desc := "(I)Z" } : Jvm.MethodName)), (Jvm.Cond.code ({ cls := "JoinedLeaves$Question", name := "putInHead", desc := "(I)Z" } : Jvm.MethodName) prog_5_method_3_code (2 : Nat) (Option.some Jvm.ClassFile.FieldType.boolean)), (Jvm.Cond.methodLink "JoinedLeavesLaw" (63 : Nat) ({ cls := "JoinedLeaves", name := "clear", desc := "()I" } : Jvm.MethodName)), (Jvm.Cond.instanceMethod ({ cls := "JoinedLeaves", name := "clear", desc := "()I" } : Jvm.MethodName)), (Jvm.Cond.selects "JoinedLeaves" ({ cls := "JoinedLeaves", name := "clear", desc := "()I" } : Jvm.MethodName) ({ cls := "JoinedLeaves", name := "clear", desc := "()I" } : Jvm.MethodName)), (Jvm.Cond.code ({ cls := "JoinedLeaves", name := "clear", desc := "()I" } : Jvm.MethodName) prog_1_method_8_code (2 : Nat) (Option.some Jvm.ClassFile.FieldType.int)), (Jvm.Cond.instanceMethod ({ cls := "JoinedLeaves$Question", name := "empty", desc := "()V" } : Jvm.MethodName)), (Jvm.Cond.code ({ cls := "JoinedLeaves$Question", name := "empty", desc := "()V" } : Jvm.MethodName) prog_5_method_4_code (1 : Nat) (Option.none : Option Jvm.ClassFile.FieldType)), (Jvm.Cond.methodLink "JoinedLeavesLaw" (67 : Nat) ({ cls := "JoinedLeaves", name := "tree", desc := "()Z" } : Jvm.MethodName)), (Jvm.Cond.instanceMethod ({ cls := "JoinedLeaves", name := "tree", desc := "()Z" } : Jvm.MethodName)), (Jvm.Cond.selects "JoinedLeaves" ({ cls := "JoinedLeaves", name := "tree", desc := "()Z" } : Jvm.MethodName) ({ cls := "JoinedLeaves", name := "tree", desc := "()Z" } : Jvm.MethodName)), (Jvm.Cond.code ({ cls := "JoinedLeaves", name := "tree", desc := "()Z" } : Jvm.MethodName) prog_1_method_9_code (1 : Nat) (Option.some Jvm.ClassFile.FieldType.boolean)), (Jvm.Cond.instanceMethod ({ cls := "JoinedLeaves$Hanging", name := "isTree", desc := "()Z" } : Jvm.MethodName)), (Jvm.Cond.code ({ cls := "JoinedLeaves$Hanging", name := "isTree", desc := "()Z" } : Jvm.MethodName) prog_3_method_2_code (1 : Nat) (Option.some Jvm.ClassFile.FieldType.boolean)), (Jvm.Cond.methodLink "JoinedLeavesLaw" (72 : Nat) ({ cls := "JoinedLeaves", name := "parent", desc := "(I)I" } : Jvm.MethodName)), (Jvm.Cond.instanceMethod ({ cls := "JoinedLeaves", name := "parent", desc := "(I)I" } : Jvm.MethodName)), (Jvm.Cond.selects "JoinedLeaves" ({ cls := "JoinedLeaves", name := "parent", desc := "(I)I" } : Jvm.MethodName) ({ cls := "JoinedLeaves", name := "parent", desc := "(I)I" } : Jvm.MethodName)), (Jvm.Cond.code ({ cls := "JoinedLeaves", name := "parent", desc := "(I)I" } : Jvm.MethodName) prog_1_method_10_code (2 : Nat) (Option.some Jvm.ClassFile.FieldType.int)), (Jvm.Cond.methodLink "JoinedLeavesLaw" (76 : Nat) ({ cls := "JoinedLeaves", name := "turn", desc := "(I)I" } : Jvm.MethodName)), (Jvm.Cond.instanceMethod ({ cls := "JoinedLeaves", name := "turn", desc := "(I)I" } : Jvm.MethodName)), (Jvm.Cond.selects "JoinedLeaves" ({ cls := "JoinedLeaves", name := "turn", desc := "(I)I" } : Jvm.MethodName) ({ cls := "JoinedLeaves", name := "turn", desc := "(I)I" } : Jvm.MethodName))]
def jW_4 : List Cond := [(Jvm.Cond.code ({ cls := "JoinedLeaves", name := "turn", desc := "(I)I" } : Jvm.MethodName) prog_1_method_11_code (2 : Nat) (Option.some Jvm.ClassFile.FieldType.int)), (Jvm.Cond.methodLink "JoinedLeavesLaw" (80 : Nat) ({ cls := "JoinedLeavesLaw", name := "ways", desc := "(LJoinedLeaves;[J)I" } : Jvm.MethodName)), (Jvm.Cond.static ({ cls := "JoinedLeavesLaw", name := "ways", desc := "(LJoinedLeaves;[J)I" } : Jvm.MethodName)), (Jvm.Cond.classLink "JoinedLeavesLaw" (13 : Nat) "java/lang/IllegalStateException"), (Jvm.Cond.methodLink "JoinedLeavesLaw" (7 : Nat) ({ cls := "JoinedLeaves", name := "ways", desc := "()J" } : Jvm.MethodName)), (Jvm.Cond.instanceMethod ({ cls := "JoinedLeaves", name := "ways", desc := "()J" } : Jvm.MethodName)), (Jvm.Cond.selects "JoinedLeaves" ({ cls := "JoinedLeaves", name := "ways", desc := "()J" } : Jvm.MethodName) ({ cls := "JoinedLeaves", name := "ways", desc := "()J" } : Jvm.MethodName)), (Jvm.Cond.code ({ cls := "JoinedLeaves", name := "ways", desc := "()J" } : Jvm.MethodName) prog_1_method_12_code (1 : Nat) (Option.some Jvm.ClassFile.FieldType.long)), (Jvm.Cond.methodLink "JoinedLeaves" (95 : Nat) ({ cls := "JoinedLeaves", name := "requireTree", desc := "()V" } : Jvm.MethodName)), (Jvm.Cond.instanceMethod ({ cls := "JoinedLeaves", name := "requireTree", desc := "()V" } : Jvm.MethodName)), (Jvm.Cond.code ({ cls := "JoinedLeaves", name := "requireTree", desc := "()V" } : Jvm.MethodName) prog_1_method_17_code (1 : Nat) (Option.none : Option Jvm.ClassFile.FieldType)), (Jvm.Cond.classLink "JoinedLeaves" (141 : Nat) "java/lang/IllegalStateException"), (Jvm.Cond.instantiable "java/lang/IllegalStateException" (6 : Nat)), (Jvm.Cond.selects "java/lang/IllegalStateException" ({ cls := "java/lang/Throwable", name := "fillInStackTrace", desc := "(I)Ljava/lang/Throwable;" } : Jvm.MethodName) ({ cls := "java/lang/Throwable", name := "fillInStackTrace", desc := "(I)Ljava/lang/Throwable;" } : Jvm.MethodName)), (Jvm.Cond.selects "java/lang/IllegalStateException" ({ cls := "java/lang/Throwable", name := "fillInStackTrace", desc := "()Ljava/lang/Throwable;" } : Jvm.MethodName) ({ cls := "java/lang/Throwable", name := "fillInStackTrace", desc := "()Ljava/lang/Throwable;" } : Jvm.MethodName)), (Jvm.Cond.lays "java/lang/IllegalStateException" "java/lang/Throwable" "cause" "Ljava/lang/Throwable;"), (Jvm.Cond.lays "java/lang/Throwable" "java/lang/Throwable" "cause" "Ljava/lang/Throwable;"), (Jvm.Cond.lays "java/lang/IllegalStateException" "java/lang/Throwable" "stackTrace" "[Ljava/lang/StackTraceElement;"), (Jvm.Cond.lays "java/lang/Throwable" "java/lang/Throwable" "stackTrace" "[Ljava/lang/StackTraceElement;"), (Jvm.Cond.lays "java/lang/IllegalStateException" "java/lang/Throwable" "suppressedExceptions" "Ljava/util/List;"), (Jvm.Cond.lays "java/lang/Throwable" "java/lang/Throwable" "suppressedExceptions" "Ljava/util/List;"), (Jvm.Cond.lays "java/lang/IllegalStateException" "java/lang/Throwable" "detailMessage" "Ljava/lang/String;"), (Jvm.Cond.lays "java/lang/Throwable" "java/lang/Throwable" "detailMessage" "Ljava/lang/String;"), (Jvm.Cond.lays "java/lang/IllegalStateException" "java/lang/Throwable" "backtrace" "Ljava/lang/Object;"), (Jvm.Cond.lays "java/lang/Throwable" "java/lang/Throwable" "backtrace" "Ljava/lang/Object;"), (Jvm.Cond.fieldLink "java/lang/Throwable" (198 : Nat) "java/lang/Throwable" "backtrace" "Ljava/lang/Object;"), (Jvm.Cond.superclass "java/lang/Throwable" "java/lang/Object"), (Jvm.Cond.instanceMethod ({ cls := "java/lang/Throwable", name := "<init>", desc := "()V" } : Jvm.MethodName)), (Jvm.Cond.code ({ cls := "java/lang/Throwable", name := "<init>", desc := "()V" } : Jvm.MethodName) prog_16_method_1_code (1 : Nat) (Option.none : Option Jvm.ClassFile.FieldType)), (Jvm.Cond.methodLink "java/lang/Throwable" (1 : Nat) ({ cls := "java/lang/Object", name := "<init>", desc := "()V" } : Jvm.MethodName)), (Jvm.Cond.fieldLink "java/lang/Throwable" (13 : Nat) "java/lang/Throwable" "UNASSIGNED_STACK" "[Ljava/lang/StackTraceElement;"), (Jvm.Cond.fieldLink "java/lang/Throwable" (20 : Nat) "java/lang/Throwable" "SUPPRESSED_SENTINEL" "Ljava/util/List;"), (Jvm.Cond.methodLink "java/lang/Throwable" (27 : Nat) ({ cls := "java/lang/Throwable", name := "fillInStackTrace", desc := "()Ljava/lang/Throwable;" } : Jvm.MethodName)), (Jvm.Cond.instanceMethod ({ cls := "java/lang/Throwable", name := "fillInStackTrace", desc := "()Ljava/lang/Throwable;" } : Jvm.MethodName)), (Jvm.Cond.selects "java/lang/IllegalArgumentException" ({ cls := "java/lang/Throwable", name := "fillInStackTrace", desc := "()Ljava/lang/Throwable;" } : Jvm.MethodName) ({ cls := "java/lang/Throwable", name := "fillInStackTrace", desc := "()Ljava/lang/Throwable;" } : Jvm.MethodName)), (Jvm.Cond.selects "java/lang/IndexOutOfBoundsException" ({ cls := "java/lang/Throwable", name := "fillInStackTrace", desc := "()Ljava/lang/Throwable;" } : Jvm.MethodName) ({ cls := "java/lang/Throwable", name := "fillInStackTrace", desc := "()Ljava/lang/Throwable;" } : Jvm.MethodName)), (Jvm.Cond.selects "java/lang/UnsupportedOperationException" ({ cls := "java/lang/Throwable", name := "fillInStackTrace", desc := "()Ljava/lang/Throwable;" } : Jvm.MethodName) ({ cls := "java/lang/Throwable", name := "fillInStackTrace", desc := "()Ljava/lang/Throwable;" } : Jvm.MethodName)), (Jvm.Cond.codeSync ({ cls := "java/lang/Throwable", name := "fillInStackTrace", desc := "()Ljava/lang/Throwable;" } : Jvm.MethodName) prog_16_method_18_code (1 : Nat) (Option.some (Jvm.ClassFile.FieldType.object "java/lang/Throwable"))), (Jvm.Cond.methodLink "java/lang/Throwable" (202 : Nat) ({ cls := "java/lang/Throwable", name := "fillInStackTrace", desc := "(I)Ljava/lang/Throwable;" } : Jvm.MethodName)), (Jvm.Cond.instanceMethod ({ cls := "java/lang/Throwable", name := "fillInStackTrace", desc := "(I)Ljava/lang/Throwable;" } : Jvm.MethodName)), (Jvm.Cond.instantiable "java/lang/Throwable" (6 : Nat)), (Jvm.Cond.native ({ cls := "java/lang/Throwable", name := "fillInStackTrace", desc := "(I)Ljava/lang/Throwable;" } : Jvm.MethodName)), (Jvm.Cond.methodLink "JoinedLeaves" (145 : Nat) ({ cls := "java/lang/IllegalStateException", name := "<init>", desc := "(Ljava/lang/String;)V" } : Jvm.MethodName)), (Jvm.Cond.instanceMethod ({ cls := "java/lang/IllegalStateException", name := "<init>", desc := "(Ljava/lang/String;)V" } : Jvm.MethodName)), (Jvm.Cond.code ({ cls := "java/lang/IllegalStateException", name := "<init>", desc := "(Ljava/lang/String;)V" } : Jvm.MethodName) prog_11_method_2_code (2 : Nat) (Option.none : Option Jvm.ClassFile.FieldType)), (Jvm.Cond.methodLink "java/lang/IllegalStateException" (7 : Nat) ({ cls := "java/lang/RuntimeException", name := "<init>", desc := "(Ljava/lang/String;)V" } : Jvm.MethodName)), (Jvm.Cond.instanceMethod ({ cls := "java/lang/RuntimeException", name := "<init>", desc := "(Ljava/lang/String;)V" } : Jvm.MethodName)), (Jvm.Cond.code ({ cls := "java/lang/RuntimeException", name := "<init>", desc := "(Ljava/lang/String;)V" } : Jvm.MethodName) prog_14_method_2_code (2 : Nat) (Option.none : Option Jvm.ClassFile.FieldType))]
def jW_5 : List Cond := [(Jvm.Cond.methodLink "java/lang/RuntimeException" (7 : Nat) ({ cls := "java/lang/Exception", name := "<init>", desc := "(Ljava/lang/String;)V" } : Jvm.MethodName)), (Jvm.Cond.instanceMethod ({ cls := "java/lang/Exception", name := "<init>", desc := "(Ljava/lang/String;)V" } : Jvm.MethodName)), (Jvm.Cond.code ({ cls := "java/lang/Exception", name := "<init>", desc := "(Ljava/lang/String;)V" } : Jvm.MethodName) prog_9_method_2_code (2 : Nat) (Option.none : Option Jvm.ClassFile.FieldType)), (Jvm.Cond.methodLink "java/lang/Exception" (7 : Nat) ({ cls := "java/lang/Throwable", name := "<init>", desc := "(Ljava/lang/String;)V" } : Jvm.MethodName)), (Jvm.Cond.instanceMethod ({ cls := "java/lang/Throwable", name := "<init>", desc := "(Ljava/lang/String;)V" } : Jvm.MethodName)), (Jvm.Cond.code ({ cls := "java/lang/Throwable", name := "<init>", desc := "(Ljava/lang/String;)V" } : Jvm.MethodName) prog_16_method_2_code (2 : Nat) (Option.none : Option Jvm.ClassFile.FieldType)), (Jvm.Cond.fieldLink "java/lang/Throwable" (31 : Nat) "java/lang/Throwable" "detailMessage" "Ljava/lang/String;"), (Jvm.Cond.fieldLink "java/lang/Throwable" (7 : Nat) "java/lang/Throwable" "cause" "Ljava/lang/Throwable;"), (Jvm.Cond.fieldLink "java/lang/Throwable" (17 : Nat) "java/lang/Throwable" "stackTrace" "[Ljava/lang/StackTraceElement;"), (Jvm.Cond.fieldLink "java/lang/Throwable" (24 : Nat) "java/lang/Throwable" "suppressedExceptions" "Ljava/util/List;"), (Jvm.Cond.lays "java/lang/IllegalStateException" "java/lang/Throwable" "depth" "I"), (Jvm.Cond.superclass "java/lang/IllegalStateException" "java/lang/RuntimeException"), (Jvm.Cond.arrayClass Jvm.ClassFile.FieldType.byte), (Jvm.Cond.instanceMethod ({ cls := "JoinedLeaves$Join", name := "countWays", desc := "()J" } : Jvm.MethodName)), (Jvm.Cond.code ({ cls := "JoinedLeaves$Join", name := "countWays", desc := "()J" } : Jvm.MethodName) prog_4_method_3_code (3 : Nat) (Option.some Jvm.ClassFile.FieldType.long)), (Jvm.Cond.instanceMethod ({ cls := "JoinedLeaves$Hanging", name := "root", desc := "()I" } : Jvm.MethodName)), (Jvm.Cond.code ({ cls := "JoinedLeaves$Hanging", name := "root", desc := "()I" } : Jvm.MethodName) prog_3_method_3_code (2 : Nat) (Option.some Jvm.ClassFile.FieldType.int)), (Jvm.Cond.methodLink "JoinedLeaves$Join" (36 : Nat) ({ cls := "JoinedLeaves$Join", name := "compareRows", desc := "()V" } : Jvm.MethodName)), (Jvm.Cond.instanceMethod ({ cls := "JoinedLeaves$Join", name := "compareRows", desc := "()V" } : Jvm.MethodName)), (Jvm.Cond.code ({ cls := "JoinedLeaves$Join", name := "compareRows", desc := "()V" } : Jvm.MethodName) prog_4_method_6_code (5 : Nat) (Option.none : Option Jvm.ClassFile.FieldType)), (Jvm.Cond.instanceMethod ({ cls := "JoinedLeaves$Atom", name := "rowsAgreeingWithThemselves", desc := "()I" } : Jvm.MethodName)), (Jvm.Cond.code ({ cls := "JoinedLeaves$Atom", name := "rowsAgreeingWithThemselves", desc := "()I" } : Jvm.MethodName) prog_2_method_3_code (3 : Nat) (Option.some Jvm.ClassFile.FieldType.int)), (Jvm.Cond.methodLink "JoinedLeaves$Atom" (35 : Nat) ({ cls := "JoinedLeaves$Atom", name := "agreesWithItself", desc := "(I)Z" } : Jvm.MethodName)), (Jvm.Cond.instanceMethod ({ cls := "JoinedLeaves$Atom", name := "agreesWithItself", desc := "(I)Z" } : Jvm.MethodName)), (Jvm.Cond.code ({ cls := "JoinedLeaves$Atom", name := "agreesWithItself", desc := "(I)Z" } : Jvm.MethodName) prog_2_method_4_code (4 : Nat) (Option.some Jvm.ClassFile.FieldType.boolean)), (Jvm.Cond.instanceMethod ({ cls := "JoinedLeaves$Relation", name := "valueAt", desc := "(II)I" } : Jvm.MethodName)), (Jvm.Cond.code ({ cls := "JoinedLeaves$Relation", name := "valueAt", desc := "(II)I" } : Jvm.MethodName) prog_6_method_4_code (3 : Nat) (Option.some Jvm.ClassFile.FieldType.int)), (Jvm.Cond.instanceMethod ({ cls := "JoinedLeaves$Atom", name := "rowsAgreeingWith", desc := "(LJoinedLeaves$Atom;I)I" } : Jvm.MethodName)), (Jvm.Cond.code ({ cls := "JoinedLeaves$Atom", name := "rowsAgreeingWith", desc := "(LJoinedLeaves$Atom;I)I" } : Jvm.MethodName) prog_2_method_5_code (6 : Nat) (Option.some Jvm.ClassFile.FieldType.int)), (Jvm.Cond.methodLink "JoinedLeaves$Atom" (43 : Nat) ({ cls := "JoinedLeaves$Atom", name := "rowsAllowing", desc := "(II)I" } : Jvm.MethodName)), (Jvm.Cond.instanceMethod ({ cls := "JoinedLeaves$Atom", name := "rowsAllowing", desc := "(II)I" } : Jvm.MethodName)), (Jvm.Cond.code ({ cls := "JoinedLeaves$Atom", name := "rowsAllowing", desc := "(II)I" } : Jvm.MethodName) prog_2_method_6_code (6 : Nat) (Option.some Jvm.ClassFile.FieldType.int)), (Jvm.Cond.methodLink "JoinedLeaves$Join" (55 : Nat) ({ cls := "JoinedLeaves$Join", name := "startWeights", desc := "()V" } : Jvm.MethodName)), (Jvm.Cond.instanceMethod ({ cls := "JoinedLeaves$Join", name := "startWeights", desc := "()V" } : Jvm.MethodName)), (Jvm.Cond.code ({ cls := "JoinedLeaves$Join", name := "startWeights", desc := "()V" } : Jvm.MethodName) prog_4_method_11_code (3 : Nat) (Option.none : Option Jvm.ClassFile.FieldType)), (Jvm.Cond.methodLink "JoinedLeaves$Join" (65 : Nat) ({ cls := "JoinedLeaves$Join", name := "weighIntoParent", desc := "(I)V" } : Jvm.MethodName)), (Jvm.Cond.instanceMethod ({ cls := "JoinedLeaves$Join", name := "weighIntoParent", desc := "(I)V" } : Jvm.MethodName)), (Jvm.Cond.code ({ cls := "JoinedLeaves$Join", name := "weighIntoParent", desc := "(I)V" } : Jvm.MethodName) prog_4_method_12_code (4 : Nat) (Option.none : Option Jvm.ClassFile.FieldType)), (Jvm.Cond.methodLink "JoinedLeaves$Join" (69 : Nat) ({ cls := "JoinedLeaves$Join", name := "weightOf", desc := "(II)J" } : Jvm.MethodName)), (Jvm.Cond.instanceMethod ({ cls := "JoinedLeaves$Join", name := "weightOf", desc := "(II)J" } : Jvm.MethodName)), (Jvm.Cond.code ({ cls := "JoinedLeaves$Join", name := "weightOf", desc := "(II)J" } : Jvm.MethodName) prog_4_method_13_code (6 : Nat) (Option.some Jvm.ClassFile.FieldType.long)), (Jvm.Cond.methodLink "JoinedLeavesLaw" (89 : Nat) ({ cls := "JoinedLeavesLaw", name := "live", desc := "(LJoinedLeaves;I[J)I" } : Jvm.MethodName)), (Jvm.Cond.static ({ cls := "JoinedLeavesLaw", name := "live", desc := "(LJoinedLeaves;I[J)I" } : Jvm.MethodName)), (Jvm.Cond.classLink "JoinedLeavesLaw" (19 : Nat) "java/lang/IndexOutOfBoundsException"), (Jvm.Cond.methodLink "JoinedLeavesLaw" (15 : Nat) ({ cls := "JoinedLeaves", name := "live", desc := "(I)I" } : Jvm.MethodName)), (Jvm.Cond.instanceMethod ({ cls := "JoinedLeaves", name := "live", desc := "(I)I" } : Jvm.MethodName)), (Jvm.Cond.selects "JoinedLeaves" ({ cls := "JoinedLeaves", name := "live", desc := "(I)I" } : Jvm.MethodName) ({ cls := "JoinedLeaves", name := "live", desc := "(I)I" } : Jvm.MethodName)), (Jvm.Cond.code ({ cls := "JoinedLeaves", name := "live", desc := "(I)I" } : Jvm.MethodName) prog_1_method_13_code (2 : Nat) (Option.some Jvm.ClassFile.FieldType.int))]
def jW_6 : List Cond := [(Jvm.Cond.classLink "JoinedLeaves" (102 : Nat) "java/lang/IndexOutOfBoundsException"), (Jvm.Cond.instantiable "java/lang/IndexOutOfBoundsException" (6 : Nat)), (Jvm.Cond.selects "java/lang/IndexOutOfBoundsException" ({ cls := "java/lang/Throwable", name := "fillInStackTrace", desc := "(I)Ljava/lang/Throwable;" } : Jvm.MethodName) ({ cls := "java/lang/Throwable", name := "fillInStackTrace", desc := "(I)Ljava/lang/Throwable;" } : Jvm.MethodName)), (Jvm.Cond.lays "java/lang/IndexOutOfBoundsException" "java/lang/Throwable" "cause" "Ljava/lang/Throwable;"), (Jvm.Cond.lays "java/lang/IndexOutOfBoundsException" "java/lang/Throwable" "stackTrace" "[Ljava/lang/StackTraceElement;"), (Jvm.Cond.lays "java/lang/IndexOutOfBoundsException" "java/lang/Throwable" "suppressedExceptions" "Ljava/util/List;"), (Jvm.Cond.lays "java/lang/IndexOutOfBoundsException" "java/lang/Throwable" "detailMessage" "Ljava/lang/String;"), (Jvm.Cond.lays "java/lang/IndexOutOfBoundsException" "java/lang/Throwable" "backtrace" "Ljava/lang/Object;"), (Jvm.Cond.methodLink "JoinedLeaves" (106 : Nat) ({ cls := "java/lang/IndexOutOfBoundsException", name := "<init>", desc := "(Ljava/lang/String;)V" } : Jvm.MethodName)), (Jvm.Cond.instanceMethod ({ cls := "java/lang/IndexOutOfBoundsException", name := "<init>", desc := "(Ljava/lang/String;)V" } : Jvm.MethodName)), (Jvm.Cond.code ({ cls := "java/lang/IndexOutOfBoundsException", name := "<init>", desc := "(Ljava/lang/String;)V" } : Jvm.MethodName) prog_12_method_2_code (2 : Nat) (Option.none : Option Jvm.ClassFile.FieldType)), (Jvm.Cond.methodLink "java/lang/IndexOutOfBoundsException" (7 : Nat) ({ cls := "java/lang/RuntimeException", name := "<init>", desc := "(Ljava/lang/String;)V" } : Jvm.MethodName)), (Jvm.Cond.lays "java/lang/IndexOutOfBoundsException" "java/lang/Throwable" "depth" "I"), (Jvm.Cond.superclass "java/lang/IndexOutOfBoundsException" "java/lang/RuntimeException"), (Jvm.Cond.instanceMethod ({ cls := "JoinedLeaves$Join", name := "countLiveRows", desc := "(I)I" } : Jvm.MethodName)), (Jvm.Cond.code ({ cls := "JoinedLeaves$Join", name := "countLiveRows", desc := "(I)I" } : Jvm.MethodName) prog_4_method_2_code (2 : Nat) (Option.some Jvm.ClassFile.FieldType.int)), (Jvm.Cond.methodLink "JoinedLeaves$Join" (39 : Nat) ({ cls := "JoinedLeaves$Join", name := "keepLiveRows", desc := "([I)V" } : Jvm.MethodName)), (Jvm.Cond.instanceMethod ({ cls := "JoinedLeaves$Join", name := "keepLiveRows", desc := "([I)V" } : Jvm.MethodName)), (Jvm.Cond.code ({ cls := "JoinedLeaves$Join", name := "keepLiveRows", desc := "([I)V" } : Jvm.MethodName) prog_4_method_7_code (3 : Nat) (Option.none : Option Jvm.ClassFile.FieldType)), (Jvm.Cond.methodLink "JoinedLeaves$Join" (117 : Nat) ({ cls := "JoinedLeaves$Join", name := "keepRowsOfParent", desc := "([II)V" } : Jvm.MethodName)), (Jvm.Cond.instanceMethod ({ cls := "JoinedLeaves$Join", name := "keepRowsOfParent", desc := "([II)V" } : Jvm.MethodName)), (Jvm.Cond.code ({ cls := "JoinedLeaves$Join", name := "keepRowsOfParent", desc := "([II)V" } : Jvm.MethodName) prog_4_method_8_code (5 : Nat) (Option.none : Option Jvm.ClassFile.FieldType)), (Jvm.Cond.methodLink "JoinedLeaves$Join" (121 : Nat) ({ cls := "JoinedLeaves$Join", name := "keepRowsOfChild", desc := "([II)V" } : Jvm.MethodName)), (Jvm.Cond.instanceMethod ({ cls := "JoinedLeaves$Join", name := "keepRowsOfChild", desc := "([II)V" } : Jvm.MethodName)), (Jvm.Cond.code ({ cls := "JoinedLeaves$Join", name := "keepRowsOfChild", desc := "([II)V" } : Jvm.MethodName) prog_4_method_9_code (6 : Nat) (Option.none : Option Jvm.ClassFile.FieldType)), (Jvm.Cond.methodLink "JoinedLeaves$Join" (43 : Nat) ({ cls := "java/lang/Integer", name := "bitCount", desc := "(I)I" } : Jvm.MethodName)), (Jvm.Cond.static ({ cls := "java/lang/Integer", name := "bitCount", desc := "(I)I" } : Jvm.MethodName)), (Jvm.Cond.code ({ cls := "java/lang/Integer", name := "bitCount", desc := "(I)I" } : Jvm.MethodName) prog_13_method_49_code (1 : Nat) (Option.some Jvm.ClassFile.FieldType.int)), (Jvm.Cond.constant "java/lang/Integer" (265 : Nat) (1431655765 : Int32)), (Jvm.Cond.constant "java/lang/Integer" (266 : Nat) (858993459 : Int32)), (Jvm.Cond.constant "java/lang/Integer" (267 : Nat) (252645135 : Int32)), (Jvm.Cond.methodLink "JoinedLeavesLaw" (93 : Nat) ({ cls := "JoinedLeavesLaw", name := "answers", desc := "(LJoinedLeaves;[J)I" } : Jvm.MethodName)), (Jvm.Cond.static ({ cls := "JoinedLeavesLaw", name := "answers", desc := "(LJoinedLeaves;[J)I" } : Jvm.MethodName)), (Jvm.Cond.classLink "JoinedLeavesLaw" (25 : Nat) "java/lang/IllegalArgumentException"), (Jvm.Cond.classLink "JoinedLeavesLaw" (27 : Nat) "java/lang/UnsupportedOperationException"), (Jvm.Cond.methodLink "JoinedLeavesLaw" (21 : Nat) ({ cls := "JoinedLeaves", name := "answers", desc := "()I" } : Jvm.MethodName)), (Jvm.Cond.instanceMethod ({ cls := "JoinedLeaves", name := "answers", desc := "()I" } : Jvm.MethodName)), (Jvm.Cond.selects "JoinedLeaves" ({ cls := "JoinedLeaves", name := "answers", desc := "()I" } : Jvm.MethodName) ({ cls := "JoinedLeaves", name := "answers", desc := "()I" } : Jvm.MethodName)), (Jvm.Cond.code ({ cls := "JoinedLeaves", name := "answers", desc := "()I" } : Jvm.MethodName) prog_1_method_14_code (1 : Nat) (Option.some Jvm.ClassFile.FieldType.int)), (Jvm.Cond.methodLink "JoinedLeaves" (113 : Nat) ({ cls := "JoinedLeaves", name := "findAnswers", desc := "()V" } : Jvm.MethodName)), (Jvm.Cond.instanceMethod ({ cls := "JoinedLeaves", name := "findAnswers", desc := "()V" } : Jvm.MethodName)), (Jvm.Cond.code ({ cls := "JoinedLeaves", name := "findAnswers", desc := "()V" } : Jvm.MethodName) prog_1_method_16_code (1 : Nat) (Option.none : Option Jvm.ClassFile.FieldType)), (Jvm.Cond.instanceMethod ({ cls := "JoinedLeaves$Question", name := "bindsHead", desc := "()Z" } : Jvm.MethodName)), (Jvm.Cond.code ({ cls := "JoinedLeaves$Question", name := "bindsHead", desc := "()Z" } : Jvm.MethodName) prog_5_method_5_code (3 : Nat) (Option.some Jvm.ClassFile.FieldType.boolean)), (Jvm.Cond.classLink "JoinedLeaves" (128 : Nat) "java/lang/IllegalArgumentException"), (Jvm.Cond.instantiable "java/lang/IllegalArgumentException" (6 : Nat)), (Jvm.Cond.selects "java/lang/IllegalArgumentException" ({ cls := "java/lang/Throwable", name := "fillInStackTrace", desc := "(I)Ljava/lang/Throwable;" } : Jvm.MethodName) ({ cls := "java/lang/Throwable", name := "fillInStackTrace", desc := "(I)Ljava/lang/Throwable;" } : Jvm.MethodName)), (Jvm.Cond.lays "java/lang/IllegalArgumentException" "java/lang/Throwable" "cause" "Ljava/lang/Throwable;")]
def jW_7 : List Cond := [(Jvm.Cond.lays "java/lang/IllegalArgumentException" "java/lang/Throwable" "stackTrace" "[Ljava/lang/StackTraceElement;"), (Jvm.Cond.lays "java/lang/IllegalArgumentException" "java/lang/Throwable" "suppressedExceptions" "Ljava/util/List;"), (Jvm.Cond.lays "java/lang/IllegalArgumentException" "java/lang/Throwable" "detailMessage" "Ljava/lang/String;"), (Jvm.Cond.lays "java/lang/IllegalArgumentException" "java/lang/Throwable" "backtrace" "Ljava/lang/Object;"), (Jvm.Cond.methodLink "JoinedLeaves" (132 : Nat) ({ cls := "java/lang/IllegalArgumentException", name := "<init>", desc := "(Ljava/lang/String;)V" } : Jvm.MethodName)), (Jvm.Cond.instanceMethod ({ cls := "java/lang/IllegalArgumentException", name := "<init>", desc := "(Ljava/lang/String;)V" } : Jvm.MethodName)), (Jvm.Cond.code ({ cls := "java/lang/IllegalArgumentException", name := "<init>", desc := "(Ljava/lang/String;)V" } : Jvm.MethodName) prog_10_method_2_code (2 : Nat) (Option.none : Option Jvm.ClassFile.FieldType)), (Jvm.Cond.methodLink "java/lang/IllegalArgumentException" (7 : Nat) ({ cls := "java/lang/RuntimeException", name := "<init>", desc := "(Ljava/lang/String;)V" } : Jvm.MethodName)), (Jvm.Cond.lays "java/lang/IllegalArgumentException" "java/lang/Throwable" "depth" "I"), (Jvm.Cond.superclass "java/lang/IllegalArgumentException" "java/lang/RuntimeException"), (Jvm.Cond.instanceMethod ({ cls := "JoinedLeaves$Join", name := "search", desc := "()V" } : Jvm.MethodName)), (Jvm.Cond.code ({ cls := "JoinedLeaves$Join", name := "search", desc := "()V" } : Jvm.MethodName) prog_4_method_4_code (1 : Nat) (Option.none : Option Jvm.ClassFile.FieldType)), (Jvm.Cond.methodLink "JoinedLeaves$Join" (76 : Nat) ({ cls := "JoinedLeaves$Join", name := "hasWay", desc := "([I)Z" } : Jvm.MethodName)), (Jvm.Cond.instanceMethod ({ cls := "JoinedLeaves$Join", name := "hasWay", desc := "([I)Z" } : Jvm.MethodName)), (Jvm.Cond.code ({ cls := "JoinedLeaves$Join", name := "hasWay", desc := "([I)Z" } : Jvm.MethodName) prog_4_method_10_code (3 : Nat) (Option.some Jvm.ClassFile.FieldType.boolean)), (Jvm.Cond.methodLink "JoinedLeaves$Join" (80 : Nat) ({ cls := "JoinedLeaves$Join", name := "choose", desc := "(II)V" } : Jvm.MethodName)), (Jvm.Cond.instanceMethod ({ cls := "JoinedLeaves$Join", name := "choose", desc := "(II)V" } : Jvm.MethodName)), (Jvm.Cond.code ({ cls := "JoinedLeaves$Join", name := "choose", desc := "(II)V" } : Jvm.MethodName) prog_4_method_14_code (6 : Nat) (Option.none : Option Jvm.ClassFile.FieldType)), (Jvm.Cond.methodLink "JoinedLeaves$Join" (128 : Nat) ({ cls := "JoinedLeaves$Join", name := "storeAnswer", desc := "(I)V" } : Jvm.MethodName)), (Jvm.Cond.instanceMethod ({ cls := "JoinedLeaves$Join", name := "storeAnswer", desc := "(I)V" } : Jvm.MethodName)), (Jvm.Cond.code ({ cls := "JoinedLeaves$Join", name := "storeAnswer", desc := "(I)V" } : Jvm.MethodName) prog_4_method_15_code (2 : Nat) (Option.none : Option Jvm.ClassFile.FieldType)), (Jvm.Cond.methodLink "JoinedLeaves$Join" (134 : Nat) ({ cls := "JoinedLeaves$Join", name := "liveValuesOf", desc := "(I[I)I" } : Jvm.MethodName)), (Jvm.Cond.instanceMethod ({ cls := "JoinedLeaves$Join", name := "liveValuesOf", desc := "(I[I)I" } : Jvm.MethodName)), (Jvm.Cond.code ({ cls := "JoinedLeaves$Join", name := "liveValuesOf", desc := "(I[I)I" } : Jvm.MethodName) prog_4_method_16_code (4 : Nat) (Option.some Jvm.ClassFile.FieldType.int)), (Jvm.Cond.instanceMethod ({ cls := "JoinedLeaves$Question", name := "atomWith", desc := "(I)I" } : Jvm.MethodName)), (Jvm.Cond.code ({ cls := "JoinedLeaves$Question", name := "atomWith", desc := "(I)I" } : Jvm.MethodName) prog_5_method_6_code (3 : Nat) (Option.some Jvm.ClassFile.FieldType.int)), (Jvm.Cond.instanceMethod ({ cls := "JoinedLeaves$Atom", name := "valuesOf", desc := "(II)I" } : Jvm.MethodName)), (Jvm.Cond.code ({ cls := "JoinedLeaves$Atom", name := "valuesOf", desc := "(II)I" } : Jvm.MethodName) prog_2_method_7_code (6 : Nat) (Option.some Jvm.ClassFile.FieldType.int)), (Jvm.Cond.methodLink "JoinedLeaves$Join" (138 : Nat) ({ cls := "JoinedLeaves$Join", name := "keepRowsWith", desc := "(III)V" } : Jvm.MethodName)), (Jvm.Cond.instanceMethod ({ cls := "JoinedLeaves$Join", name := "keepRowsWith", desc := "(III)V" } : Jvm.MethodName)), (Jvm.Cond.code ({ cls := "JoinedLeaves$Join", name := "keepRowsWith", desc := "(III)V" } : Jvm.MethodName) prog_4_method_17_code (7 : Nat) (Option.none : Option Jvm.ClassFile.FieldType)), (Jvm.Cond.classLink "JoinedLeaves" (136 : Nat) "java/lang/UnsupportedOperationException"), (Jvm.Cond.instantiable "java/lang/UnsupportedOperationException" (6 : Nat)), (Jvm.Cond.selects "java/lang/UnsupportedOperationException" ({ cls := "java/lang/Throwable", name := "fillInStackTrace", desc := "(I)Ljava/lang/Throwable;" } : Jvm.MethodName) ({ cls := "java/lang/Throwable", name := "fillInStackTrace", desc := "(I)Ljava/lang/Throwable;" } : Jvm.MethodName)), (Jvm.Cond.lays "java/lang/UnsupportedOperationException" "java/lang/Throwable" "cause" "Ljava/lang/Throwable;"), (Jvm.Cond.lays "java/lang/UnsupportedOperationException" "java/lang/Throwable" "stackTrace" "[Ljava/lang/StackTraceElement;"), (Jvm.Cond.lays "java/lang/UnsupportedOperationException" "java/lang/Throwable" "suppressedExceptions" "Ljava/util/List;"), (Jvm.Cond.lays "java/lang/UnsupportedOperationException" "java/lang/Throwable" "detailMessage" "Ljava/lang/String;"), (Jvm.Cond.lays "java/lang/UnsupportedOperationException" "java/lang/Throwable" "backtrace" "Ljava/lang/Object;"), (Jvm.Cond.methodLink "JoinedLeaves" (140 : Nat) ({ cls := "java/lang/UnsupportedOperationException", name := "<init>", desc := "(Ljava/lang/String;)V" } : Jvm.MethodName)), (Jvm.Cond.instanceMethod ({ cls := "java/lang/UnsupportedOperationException", name := "<init>", desc := "(Ljava/lang/String;)V" } : Jvm.MethodName)), (Jvm.Cond.code ({ cls := "java/lang/UnsupportedOperationException", name := "<init>", desc := "(Ljava/lang/String;)V" } : Jvm.MethodName) prog_17_method_2_code (2 : Nat) (Option.none : Option Jvm.ClassFile.FieldType)), (Jvm.Cond.methodLink "java/lang/UnsupportedOperationException" (7 : Nat) ({ cls := "java/lang/RuntimeException", name := "<init>", desc := "(Ljava/lang/String;)V" } : Jvm.MethodName)), (Jvm.Cond.lays "java/lang/UnsupportedOperationException" "java/lang/Throwable" "depth" "I"), (Jvm.Cond.superclass "java/lang/UnsupportedOperationException" "java/lang/RuntimeException"), (Jvm.Cond.methodLink "JoinedLeavesLaw" (96 : Nat) ({ cls := "JoinedLeavesLaw", name := "answer", desc := "(LJoinedLeaves;II[J)I" } : Jvm.MethodName)), (Jvm.Cond.static ({ cls := "JoinedLeavesLaw", name := "answer", desc := "(LJoinedLeaves;II[J)I" } : Jvm.MethodName)), (Jvm.Cond.methodLink "JoinedLeavesLaw" (29 : Nat) ({ cls := "JoinedLeaves", name := "answer", desc := "(II)I" } : Jvm.MethodName))]
def jW_8 : List Cond := [(Jvm.Cond.instanceMethod ({ cls := "JoinedLeaves", name := "answer", desc := "(II)I" } : Jvm.MethodName)), (Jvm.Cond.selects "JoinedLeaves" ({ cls := "JoinedLeaves", name := "answer", desc := "(II)I" } : Jvm.MethodName) ({ cls := "JoinedLeaves", name := "answer", desc := "(II)I" } : Jvm.MethodName)), (Jvm.Cond.code ({ cls := "JoinedLeaves", name := "answer", desc := "(II)I" } : Jvm.MethodName) prog_1_method_15_code (3 : Nat) (Option.some Jvm.ClassFile.FieldType.int)), (Jvm.Cond.instanceMethod ({ cls := "JoinedLeaves$Join", name := "valueInAnswer", desc := "(II)I" } : Jvm.MethodName)), (Jvm.Cond.code ({ cls := "JoinedLeaves$Join", name := "valueInAnswer", desc := "(II)I" } : Jvm.MethodName) prog_4_method_5_code (3 : Nat) (Option.some Jvm.ClassFile.FieldType.int)), (Jvm.Cond.classLink "JoinedLeavesLaw" (34 : Nat) "JoinedLeavesModel"), (Jvm.Cond.instantiable "JoinedLeavesModel" (21 : Nat)), (Jvm.Cond.methodLink "JoinedLeavesLaw" (36 : Nat) ({ cls := "JoinedLeavesModel", name := "<init>", desc := "()V" } : Jvm.MethodName)), (Jvm.Cond.instanceMethod ({ cls := "JoinedLeavesModel", name := "<init>", desc := "()V" } : Jvm.MethodName)), (Jvm.Cond.code ({ cls := "JoinedLeavesModel", name := "<init>", desc := "()V" } : Jvm.MethodName) prog_8_method_1_code (1 : Nat) (Option.none : Option Jvm.ClassFile.FieldType)), (Jvm.Cond.methodLink "JoinedLeavesModel" (1 : Nat) ({ cls := "java/lang/Object", name := "<init>", desc := "()V" } : Jvm.MethodName)), (Jvm.Cond.fieldLink "JoinedLeavesModel" (49 : Nat) "JoinedLeavesModel" "code" "I"), (Jvm.Cond.fieldLink "JoinedLeavesModel" (53 : Nat) "JoinedLeavesModel" "relations" "I"), (Jvm.Cond.fieldLink "JoinedLeavesModel" (7 : Nat) "JoinedLeavesModel" "widths" "[I"), (Jvm.Cond.fieldLink "JoinedLeavesModel" (13 : Nat) "JoinedLeavesModel" "counts" "[I"), (Jvm.Cond.fieldLink "JoinedLeavesModel" (16 : Nat) "JoinedLeavesModel" "values" "[I"), (Jvm.Cond.fieldLink "JoinedLeavesModel" (56 : Nat) "JoinedLeavesModel" "atoms" "I"), (Jvm.Cond.fieldLink "JoinedLeavesModel" (19 : Nat) "JoinedLeavesModel" "of" "[I"), (Jvm.Cond.fieldLink "JoinedLeavesModel" (22 : Nat) "JoinedLeavesModel" "variables" "[I"), (Jvm.Cond.fieldLink "JoinedLeavesModel" (74 : Nat) "JoinedLeavesModel" "headLength" "I"), (Jvm.Cond.fieldLink "JoinedLeavesModel" (25 : Nat) "JoinedLeavesModel" "heads" "[I"), (Jvm.Cond.fieldLink "JoinedLeavesModel" (77 : Nat) "JoinedLeavesModel" "left" "I"), (Jvm.Cond.fieldLink "JoinedLeavesModel" (28 : Nat) "JoinedLeavesModel" "parents" "[I"), (Jvm.Cond.fieldLink "JoinedLeavesModel" (31 : Nat) "JoinedLeavesModel" "turns" "[I"), (Jvm.Cond.fieldLink "JoinedLeavesModel" (70 : Nat) "JoinedLeavesModel" "known" "Z"), (Jvm.Cond.fieldLink "JoinedLeavesModel" (103 : Nat) "JoinedLeavesModel" "ways" "J"), (Jvm.Cond.fieldLink "JoinedLeavesModel" (34 : Nat) "JoinedLeavesModel" "value" "[I"), (Jvm.Cond.fieldLink "JoinedLeavesModel" (37 : Nat) "JoinedLeavesModel" "tries" "[I"), (Jvm.Cond.fieldLink "JoinedLeavesModel" (40 : Nat) "JoinedLeavesModel" "lives" "[I"), (Jvm.Cond.fieldLink "JoinedLeavesModel" (43 : Nat) "JoinedLeavesModel" "answered" "[I"), (Jvm.Cond.fieldLink "JoinedLeavesModel" (114 : Nat) "JoinedLeavesModel" "answers" "I"), (Jvm.Cond.fieldLink "JoinedLeavesModel" (46 : Nat) "JoinedLeavesModel" "firsts" "[I"), (Jvm.Cond.lays "JoinedLeavesModel" "JoinedLeavesModel" "code" "I"), (Jvm.Cond.lays "JoinedLeavesModel" "JoinedLeavesModel" "relations" "I"), (Jvm.Cond.laysFinal "JoinedLeavesModel" "JoinedLeavesModel" "widths" "[I"), (Jvm.Cond.laysFinal "JoinedLeavesModel" "JoinedLeavesModel" "counts" "[I"), (Jvm.Cond.laysFinal "JoinedLeavesModel" "JoinedLeavesModel" "values" "[I"), (Jvm.Cond.lays "JoinedLeavesModel" "JoinedLeavesModel" "atoms" "I"), (Jvm.Cond.laysFinal "JoinedLeavesModel" "JoinedLeavesModel" "of" "[I"), (Jvm.Cond.laysFinal "JoinedLeavesModel" "JoinedLeavesModel" "variables" "[I"), (Jvm.Cond.lays "JoinedLeavesModel" "JoinedLeavesModel" "headLength" "I"), (Jvm.Cond.laysFinal "JoinedLeavesModel" "JoinedLeavesModel" "heads" "[I"), (Jvm.Cond.lays "JoinedLeavesModel" "JoinedLeavesModel" "left" "I"), (Jvm.Cond.laysFinal "JoinedLeavesModel" "JoinedLeavesModel" "parents" "[I"), (Jvm.Cond.laysFinal "JoinedLeavesModel" "JoinedLeavesModel" "turns" "[I"), (Jvm.Cond.lays "JoinedLeavesModel" "JoinedLeavesModel" "known" "Z"), (Jvm.Cond.lays "JoinedLeavesModel" "JoinedLeavesModel" "ways" "J"), (Jvm.Cond.laysFinal "JoinedLeavesModel" "JoinedLeavesModel" "value" "[I")]
def jW_9 : List Cond := [(Jvm.Cond.laysFinal "JoinedLeavesModel" "JoinedLeavesModel" "tries" "[I"), (Jvm.Cond.laysFinal "JoinedLeavesModel" "JoinedLeavesModel" "lives" "[I"), (Jvm.Cond.laysFinal "JoinedLeavesModel" "JoinedLeavesModel" "answered" "[I"), (Jvm.Cond.lays "JoinedLeavesModel" "JoinedLeavesModel" "answers" "I"), (Jvm.Cond.laysFinal "JoinedLeavesModel" "JoinedLeavesModel" "firsts" "[I"), (Jvm.Cond.superclass "JoinedLeavesModel" "java/lang/Object"), (Jvm.Cond.methodLink "JoinedLeavesLaw" (86 : Nat) ({ cls := "JoinedLeavesModel", name := "thrown", desc := "()I" } : Jvm.MethodName)), (Jvm.Cond.instanceMethod ({ cls := "JoinedLeavesModel", name := "thrown", desc := "()I" } : Jvm.MethodName)), (Jvm.Cond.selects "JoinedLeavesModel" ({ cls := "JoinedLeavesModel", name := "thrown", desc := "()I" } : Jvm.MethodName) ({ cls := "JoinedLeavesModel", name := "thrown", desc := "()I" } : Jvm.MethodName)), (Jvm.Cond.code ({ cls := "JoinedLeavesModel", name := "thrown", desc := "()I" } : Jvm.MethodName) prog_8_method_2_code (1 : Nat) (Option.some Jvm.ClassFile.FieldType.int)), (Jvm.Cond.methodLink "JoinedLeavesLaw" (40 : Nat) ({ cls := "JoinedLeavesModel", name := "relation", desc := "(I)I" } : Jvm.MethodName)), (Jvm.Cond.instanceMethod ({ cls := "JoinedLeavesModel", name := "relation", desc := "(I)I" } : Jvm.MethodName)), (Jvm.Cond.selects "JoinedLeavesModel" ({ cls := "JoinedLeavesModel", name := "relation", desc := "(I)I" } : Jvm.MethodName) ({ cls := "JoinedLeavesModel", name := "relation", desc := "(I)I" } : Jvm.MethodName)), (Jvm.Cond.code ({ cls := "JoinedLeavesModel", name := "relation", desc := "(I)I" } : Jvm.MethodName) prog_8_method_5_code (2 : Nat) (Option.some Jvm.ClassFile.FieldType.int)), (Jvm.Cond.methodLink "JoinedLeavesLaw" (45 : Nat) ({ cls := "JoinedLeavesModel", name := "add", desc := "(IIII)Z" } : Jvm.MethodName)), (Jvm.Cond.instanceMethod ({ cls := "JoinedLeavesModel", name := "add", desc := "(IIII)Z" } : Jvm.MethodName)), (Jvm.Cond.selects "JoinedLeavesModel" ({ cls := "JoinedLeavesModel", name := "add", desc := "(IIII)Z" } : Jvm.MethodName) ({ cls := "JoinedLeavesModel", name := "add", desc := "(IIII)Z" } : Jvm.MethodName)), (Jvm.Cond.code ({ cls := "JoinedLeavesModel", name := "add", desc := "(IIII)Z" } : Jvm.MethodName) prog_8_method_8_code (8 : Nat) (Option.some Jvm.ClassFile.FieldType.boolean)), (Jvm.Cond.methodLink "JoinedLeavesModel" (63 : Nat) ({ cls := "JoinedLeavesModel", name := "isRelation", desc := "(I)Z" } : Jvm.MethodName)), (Jvm.Cond.instanceMethod ({ cls := "JoinedLeavesModel", name := "isRelation", desc := "(I)Z" } : Jvm.MethodName)), (Jvm.Cond.code ({ cls := "JoinedLeavesModel", name := "isRelation", desc := "(I)Z" } : Jvm.MethodName) prog_8_method_3_code (2 : Nat) (Option.some Jvm.ClassFile.FieldType.boolean)), (Jvm.Cond.methodLink "JoinedLeavesModel" (67 : Nat) ({ cls := "JoinedLeavesModel", name := "placeOf", desc := "(IIII)I" } : Jvm.MethodName)), (Jvm.Cond.instanceMethod ({ cls := "JoinedLeavesModel", name := "placeOf", desc := "(IIII)I" } : Jvm.MethodName)), (Jvm.Cond.code ({ cls := "JoinedLeavesModel", name := "placeOf", desc := "(IIII)I" } : Jvm.MethodName) prog_8_method_7_code (9 : Nat) (Option.some Jvm.ClassFile.FieldType.int)), (Jvm.Cond.methodLink "JoinedLeavesModel" (59 : Nat) ({ cls := "JoinedLeavesModel", name := "pick", desc := "(IIII)I" } : Jvm.MethodName)), (Jvm.Cond.static ({ cls := "JoinedLeavesModel", name := "pick", desc := "(IIII)I" } : Jvm.MethodName)), (Jvm.Cond.code ({ cls := "JoinedLeavesModel", name := "pick", desc := "(IIII)I" } : Jvm.MethodName) prog_8_method_6_code (4 : Nat) (Option.some Jvm.ClassFile.FieldType.int)), (Jvm.Cond.methodLink "JoinedLeavesLaw" (49 : Nat) ({ cls := "JoinedLeavesModel", name := "drop", desc := "(IIII)Z" } : Jvm.MethodName)), (Jvm.Cond.instanceMethod ({ cls := "JoinedLeavesModel", name := "drop", desc := "(IIII)Z" } : Jvm.MethodName)), (Jvm.Cond.selects "JoinedLeavesModel" ({ cls := "JoinedLeavesModel", name := "drop", desc := "(IIII)Z" } : Jvm.MethodName) ({ cls := "JoinedLeavesModel", name := "drop", desc := "(IIII)Z" } : Jvm.MethodName)), (Jvm.Cond.code ({ cls := "JoinedLeavesModel", name := "drop", desc := "(IIII)Z" } : Jvm.MethodName) prog_8_method_9_code (7 : Nat) (Option.some Jvm.ClassFile.FieldType.boolean)), (Jvm.Cond.methodLink "JoinedLeavesLaw" (53 : Nat) ({ cls := "JoinedLeavesModel", name := "rows", desc := "(I)I" } : Jvm.MethodName)), (Jvm.Cond.instanceMethod ({ cls := "JoinedLeavesModel", name := "rows", desc := "(I)I" } : Jvm.MethodName)), (Jvm.Cond.selects "JoinedLeavesModel" ({ cls := "JoinedLeavesModel", name := "rows", desc := "(I)I" } : Jvm.MethodName) ({ cls := "JoinedLeavesModel", name := "rows", desc := "(I)I" } : Jvm.MethodName)), (Jvm.Cond.code ({ cls := "JoinedLeavesModel", name := "rows", desc := "(I)I" } : Jvm.MethodName) prog_8_method_10_code (2 : Nat) (Option.some Jvm.ClassFile.FieldType.int)), (Jvm.Cond.methodLink "JoinedLeavesLaw" (58 : Nat) ({ cls := "JoinedLeavesModel", name := "atom", desc := "(IIII)I" } : Jvm.MethodName)), (Jvm.Cond.instanceMethod ({ cls := "JoinedLeavesModel", name := "atom", desc := "(IIII)I" } : Jvm.MethodName)), (Jvm.Cond.selects "JoinedLeavesModel" ({ cls := "JoinedLeavesModel", name := "atom", desc := "(IIII)I" } : Jvm.MethodName) ({ cls := "JoinedLeavesModel", name := "atom", desc := "(IIII)I" } : Jvm.MethodName)), (Jvm.Cond.code ({ cls := "JoinedLeavesModel", name := "atom", desc := "(IIII)I" } : Jvm.MethodName) prog_8_method_11_code (8 : Nat) (Option.some Jvm.ClassFile.FieldType.int)), (Jvm.Cond.methodLink "JoinedLeavesLaw" (62 : Nat) ({ cls := "JoinedLeavesModel", name := "head", desc := "(I)I" } : Jvm.MethodName)), (Jvm.Cond.instanceMethod ({ cls := "JoinedLeavesModel", name := "head", desc := "(I)I" } : Jvm.MethodName)), (Jvm.Cond.selects "JoinedLeavesModel" ({ cls := "JoinedLeavesModel", name := "head", desc := "(I)I" } : Jvm.MethodName) ({ cls := "JoinedLeavesModel", name := "head", desc := "(I)I" } : Jvm.MethodName)), (Jvm.Cond.code ({ cls := "JoinedLeavesModel", name := "head", desc := "(I)I" } : Jvm.MethodName) prog_8_method_12_code (4 : Nat) (Option.some Jvm.ClassFile.FieldType.int)), (Jvm.Cond.methodLink "JoinedLeavesLaw" (66 : Nat) ({ cls := "JoinedLeavesModel", name := "clear", desc := "()I" } : Jvm.MethodName)), (Jvm.Cond.instanceMethod ({ cls := "JoinedLeavesModel", name := "clear", desc := "()I" } : Jvm.MethodName)), (Jvm.Cond.selects "JoinedLeavesModel" ({ cls := "JoinedLeavesModel", name := "clear", desc := "()I" } : Jvm.MethodName) ({ cls := "JoinedLeavesModel", name := "clear", desc := "()I" } : Jvm.MethodName)), (Jvm.Cond.code ({ cls := "JoinedLeavesModel", name := "clear", desc := "()I" } : Jvm.MethodName) prog_8_method_13_code (2 : Nat) (Option.some Jvm.ClassFile.FieldType.int)), (Jvm.Cond.methodLink "JoinedLeavesLaw" (71 : Nat) ({ cls := "JoinedLeavesModel", name := "tree", desc := "()Z" } : Jvm.MethodName))]
def jW_10 : List Cond := [(Jvm.Cond.instanceMethod ({ cls := "JoinedLeavesModel", name := "tree", desc := "()Z" } : Jvm.MethodName)), (Jvm.Cond.selects "JoinedLeavesModel" ({ cls := "JoinedLeavesModel", name := "tree", desc := "()Z" } : Jvm.MethodName) ({ cls := "JoinedLeavesModel", name := "tree", desc := "()Z" } : Jvm.MethodName)), (Jvm.Cond.code ({ cls := "JoinedLeavesModel", name := "tree", desc := "()Z" } : Jvm.MethodName) prog_8_method_19_code (1 : Nat) (Option.some Jvm.ClassFile.FieldType.boolean)), (Jvm.Cond.methodLink "JoinedLeavesModel" (93 : Nat) ({ cls := "JoinedLeavesModel", name := "isTree", desc := "()Z" } : Jvm.MethodName)), (Jvm.Cond.instanceMethod ({ cls := "JoinedLeavesModel", name := "isTree", desc := "()Z" } : Jvm.MethodName)), (Jvm.Cond.code ({ cls := "JoinedLeavesModel", name := "isTree", desc := "()Z" } : Jvm.MethodName) prog_8_method_18_code (1 : Nat) (Option.some Jvm.ClassFile.FieldType.boolean)), (Jvm.Cond.methodLink "JoinedLeavesModel" (90 : Nat) ({ cls := "JoinedLeavesModel", name := "hang", desc := "()V" } : Jvm.MethodName)), (Jvm.Cond.instanceMethod ({ cls := "JoinedLeavesModel", name := "hang", desc := "()V" } : Jvm.MethodName)), (Jvm.Cond.code ({ cls := "JoinedLeavesModel", name := "hang", desc := "()V" } : Jvm.MethodName) prog_8_method_17_code (4 : Nat) (Option.none : Option Jvm.ClassFile.FieldType)), (Jvm.Cond.methodLink "JoinedLeavesModel" (80 : Nat) ({ cls := "JoinedLeavesModel", name := "isLeft", desc := "(I)Z" } : Jvm.MethodName)), (Jvm.Cond.instanceMethod ({ cls := "JoinedLeavesModel", name := "isLeft", desc := "(I)Z" } : Jvm.MethodName)), (Jvm.Cond.code ({ cls := "JoinedLeavesModel", name := "isLeft", desc := "(I)Z" } : Jvm.MethodName) prog_8_method_15_code (2 : Nat) (Option.some Jvm.ClassFile.FieldType.boolean)), (Jvm.Cond.methodLink "JoinedLeavesModel" (87 : Nat) ({ cls := "JoinedLeavesModel", name := "holder", desc := "(I)I" } : Jvm.MethodName)), (Jvm.Cond.instanceMethod ({ cls := "JoinedLeavesModel", name := "holder", desc := "(I)I" } : Jvm.MethodName)), (Jvm.Cond.code ({ cls := "JoinedLeavesModel", name := "holder", desc := "(I)I" } : Jvm.MethodName) prog_8_method_16_code (5 : Nat) (Option.some Jvm.ClassFile.FieldType.int)), (Jvm.Cond.methodLink "JoinedLeavesModel" (83 : Nat) ({ cls := "JoinedLeavesModel", name := "setOf", desc := "(I)I" } : Jvm.MethodName)), (Jvm.Cond.instanceMethod ({ cls := "JoinedLeavesModel", name := "setOf", desc := "(I)I" } : Jvm.MethodName)), (Jvm.Cond.code ({ cls := "JoinedLeavesModel", name := "setOf", desc := "(I)I" } : Jvm.MethodName) prog_8_method_14_code (4 : Nat) (Option.some Jvm.ClassFile.FieldType.int)), (Jvm.Cond.methodLink "JoinedLeavesLaw" (75 : Nat) ({ cls := "JoinedLeavesModel", name := "parent", desc := "(I)I" } : Jvm.MethodName)), (Jvm.Cond.instanceMethod ({ cls := "JoinedLeavesModel", name := "parent", desc := "(I)I" } : Jvm.MethodName)), (Jvm.Cond.selects "JoinedLeavesModel" ({ cls := "JoinedLeavesModel", name := "parent", desc := "(I)I" } : Jvm.MethodName) ({ cls := "JoinedLeavesModel", name := "parent", desc := "(I)I" } : Jvm.MethodName)), (Jvm.Cond.code ({ cls := "JoinedLeavesModel", name := "parent", desc := "(I)I" } : Jvm.MethodName) prog_8_method_20_code (2 : Nat) (Option.some Jvm.ClassFile.FieldType.int)), (Jvm.Cond.methodLink "JoinedLeavesModel" (97 : Nat) ({ cls := "JoinedLeavesModel", name := "isAtom", desc := "(I)Z" } : Jvm.MethodName)), (Jvm.Cond.instanceMethod ({ cls := "JoinedLeavesModel", name := "isAtom", desc := "(I)Z" } : Jvm.MethodName)), (Jvm.Cond.code ({ cls := "JoinedLeavesModel", name := "isAtom", desc := "(I)Z" } : Jvm.MethodName) prog_8_method_4_code (2 : Nat) (Option.some Jvm.ClassFile.FieldType.boolean)), (Jvm.Cond.methodLink "JoinedLeavesLaw" (79 : Nat) ({ cls := "JoinedLeavesModel", name := "turn", desc := "(I)I" } : Jvm.MethodName)), (Jvm.Cond.instanceMethod ({ cls := "JoinedLeavesModel", name := "turn", desc := "(I)I" } : Jvm.MethodName)), (Jvm.Cond.selects "JoinedLeavesModel" ({ cls := "JoinedLeavesModel", name := "turn", desc := "(I)I" } : Jvm.MethodName) ({ cls := "JoinedLeavesModel", name := "turn", desc := "(I)I" } : Jvm.MethodName)), (Jvm.Cond.code ({ cls := "JoinedLeavesModel", name := "turn", desc := "(I)I" } : Jvm.MethodName) prog_8_method_21_code (2 : Nat) (Option.some Jvm.ClassFile.FieldType.int)), (Jvm.Cond.methodLink "JoinedLeavesLaw" (85 : Nat) ({ cls := "JoinedLeavesModel", name := "ways", desc := "()J" } : Jvm.MethodName)), (Jvm.Cond.instanceMethod ({ cls := "JoinedLeavesModel", name := "ways", desc := "()J" } : Jvm.MethodName)), (Jvm.Cond.selects "JoinedLeavesModel" ({ cls := "JoinedLeavesModel", name := "ways", desc := "()J" } : Jvm.MethodName) ({ cls := "JoinedLeavesModel", name := "ways", desc := "()J" } : Jvm.MethodName)), (Jvm.Cond.code ({ cls := "JoinedLeavesModel", name := "ways", desc := "()J" } : Jvm.MethodName) prog_8_method_26_code (1 : Nat) (Option.some Jvm.ClassFile.FieldType.long)), (Jvm.Cond.methodLink "JoinedLeavesModel" (118 : Nat) ({ cls := "JoinedLeavesModel", name := "look", desc := "()V" } : Jvm.MethodName)), (Jvm.Cond.instanceMethod ({ cls := "JoinedLeavesModel", name := "look", desc := "()V" } : Jvm.MethodName)), (Jvm.Cond.code ({ cls := "JoinedLeavesModel", name := "look", desc := "()V" } : Jvm.MethodName) prog_8_method_25_code (3 : Nat) (Option.none : Option Jvm.ClassFile.FieldType)), (Jvm.Cond.methodLink "JoinedLeavesModel" (107 : Nat) ({ cls := "JoinedLeavesModel", name := "note", desc := "()V" } : Jvm.MethodName)), (Jvm.Cond.instanceMethod ({ cls := "JoinedLeavesModel", name := "note", desc := "()V" } : Jvm.MethodName)), (Jvm.Cond.code ({ cls := "JoinedLeavesModel", name := "note", desc := "()V" } : Jvm.MethodName) prog_8_method_24_code (3 : Nat) (Option.none : Option Jvm.ClassFile.FieldType)), (Jvm.Cond.methodLink "JoinedLeavesModel" (110 : Nat) ({ cls := "JoinedLeavesModel", name := "fits", desc := "(II)Z" } : Jvm.MethodName)), (Jvm.Cond.instanceMethod ({ cls := "JoinedLeavesModel", name := "fits", desc := "(II)Z" } : Jvm.MethodName)), (Jvm.Cond.code ({ cls := "JoinedLeavesModel", name := "fits", desc := "(II)Z" } : Jvm.MethodName) prog_8_method_23_code (9 : Nat) (Option.some Jvm.ClassFile.FieldType.boolean)), (Jvm.Cond.methodLink "JoinedLeavesModel" (100 : Nat) ({ cls := "JoinedLeavesModel", name := "before", desc := "(I)I" } : Jvm.MethodName)), (Jvm.Cond.instanceMethod ({ cls := "JoinedLeavesModel", name := "before", desc := "(I)I" } : Jvm.MethodName)), (Jvm.Cond.code ({ cls := "JoinedLeavesModel", name := "before", desc := "(I)I" } : Jvm.MethodName) prog_8_method_22_code (4 : Nat) (Option.some Jvm.ClassFile.FieldType.int)), (Jvm.Cond.constant "JoinedLeavesModel" (117 : Nat) (65536 : Int32)), (Jvm.Cond.methodLink "JoinedLeavesLaw" (92 : Nat) ({ cls := "JoinedLeavesModel", name := "live", desc := "(I)I" } : Jvm.MethodName)), (Jvm.Cond.instanceMethod ({ cls := "JoinedLeavesModel", name := "live", desc := "(I)I" } : Jvm.MethodName))]
def jW_11 : List Cond := [(Jvm.Cond.selects "JoinedLeavesModel" ({ cls := "JoinedLeavesModel", name := "live", desc := "(I)I" } : Jvm.MethodName) ({ cls := "JoinedLeavesModel", name := "live", desc := "(I)I" } : Jvm.MethodName)), (Jvm.Cond.code ({ cls := "JoinedLeavesModel", name := "live", desc := "(I)I" } : Jvm.MethodName) prog_8_method_27_code (4 : Nat) (Option.some Jvm.ClassFile.FieldType.int)), (Jvm.Cond.methodLink "JoinedLeavesLaw" (95 : Nat) ({ cls := "JoinedLeavesModel", name := "answers", desc := "()I" } : Jvm.MethodName)), (Jvm.Cond.instanceMethod ({ cls := "JoinedLeavesModel", name := "answers", desc := "()I" } : Jvm.MethodName)), (Jvm.Cond.selects "JoinedLeavesModel" ({ cls := "JoinedLeavesModel", name := "answers", desc := "()I" } : Jvm.MethodName) ({ cls := "JoinedLeavesModel", name := "answers", desc := "()I" } : Jvm.MethodName)), (Jvm.Cond.code ({ cls := "JoinedLeavesModel", name := "answers", desc := "()I" } : Jvm.MethodName) prog_8_method_30_code (1 : Nat) (Option.some Jvm.ClassFile.FieldType.int)), (Jvm.Cond.methodLink "JoinedLeavesModel" (124 : Nat) ({ cls := "JoinedLeavesModel", name := "codeOfAnswers", desc := "()I" } : Jvm.MethodName)), (Jvm.Cond.instanceMethod ({ cls := "JoinedLeavesModel", name := "codeOfAnswers", desc := "()I" } : Jvm.MethodName)), (Jvm.Cond.code ({ cls := "JoinedLeavesModel", name := "codeOfAnswers", desc := "()I" } : Jvm.MethodName) prog_8_method_29_code (1 : Nat) (Option.some Jvm.ClassFile.FieldType.int)), (Jvm.Cond.methodLink "JoinedLeavesModel" (121 : Nat) ({ cls := "JoinedLeavesModel", name := "isHeadBound", desc := "()Z" } : Jvm.MethodName)), (Jvm.Cond.instanceMethod ({ cls := "JoinedLeavesModel", name := "isHeadBound", desc := "()Z" } : Jvm.MethodName)), (Jvm.Cond.code ({ cls := "JoinedLeavesModel", name := "isHeadBound", desc := "()Z" } : Jvm.MethodName) prog_8_method_28_code (3 : Nat) (Option.some Jvm.ClassFile.FieldType.boolean)), (Jvm.Cond.methodLink "JoinedLeavesLaw" (99 : Nat) ({ cls := "JoinedLeavesModel", name := "answer", desc := "(II)I" } : Jvm.MethodName)), (Jvm.Cond.instanceMethod ({ cls := "JoinedLeavesModel", name := "answer", desc := "(II)I" } : Jvm.MethodName)), (Jvm.Cond.selects "JoinedLeavesModel" ({ cls := "JoinedLeavesModel", name := "answer", desc := "(II)I" } : Jvm.MethodName) ({ cls := "JoinedLeavesModel", name := "answer", desc := "(II)I" } : Jvm.MethodName)), (Jvm.Cond.code ({ cls := "JoinedLeavesModel", name := "answer", desc := "(II)I" } : Jvm.MethodName) prog_8_method_31_code (3 : Nat) (Option.some Jvm.ClassFile.FieldType.int)), (Jvm.Cond.selects "JoinedLeaves$Relation" ({ cls := "JoinedLeaves$Relation", name := "put", desc := "(III)Z" } : Jvm.MethodName) ({ cls := "JoinedLeaves$Relation", name := "put", desc := "(III)Z" } : Jvm.MethodName)), (Jvm.Cond.selects "JoinedLeaves$Relation" ({ cls := "JoinedLeaves$Relation", name := "pack", desc := "(III)I" } : Jvm.MethodName) ({ cls := "JoinedLeaves$Relation", name := "pack", desc := "(III)I" } : Jvm.MethodName)), (Jvm.Cond.selects "JoinedLeaves$Relation" ({ cls := "JoinedLeaves$Relation", name := "placeOf", desc := "(I)I" } : Jvm.MethodName) ({ cls := "JoinedLeaves$Relation", name := "placeOf", desc := "(I)I" } : Jvm.MethodName)), (Jvm.Cond.selects "JoinedLeaves$Relation" ({ cls := "JoinedLeaves$Relation", name := "take", desc := "(III)Z" } : Jvm.MethodName) ({ cls := "JoinedLeaves$Relation", name := "take", desc := "(III)Z" } : Jvm.MethodName)), (Jvm.Cond.selects "JoinedLeaves$Question" ({ cls := "JoinedLeaves$Question", name := "putAtom", desc := "(LJoinedLeaves$Relation;III)Z" } : Jvm.MethodName) ({ cls := "JoinedLeaves$Question", name := "putAtom", desc := "(LJoinedLeaves$Relation;III)Z" } : Jvm.MethodName)), (Jvm.Cond.selects "JoinedLeaves$Atom" ({ cls := "JoinedLeaves$Atom", name := "bind", desc := "(LJoinedLeaves$Relation;III)Z" } : Jvm.MethodName) ({ cls := "JoinedLeaves$Atom", name := "bind", desc := "(LJoinedLeaves$Relation;III)Z" } : Jvm.MethodName)), (Jvm.Cond.selects "JoinedLeaves$Hanging" ({ cls := "JoinedLeaves$Hanging", name := "hangAtoms", desc := "()V" } : Jvm.MethodName) ({ cls := "JoinedLeaves$Hanging", name := "hangAtoms", desc := "()V" } : Jvm.MethodName)), (Jvm.Cond.selects "JoinedLeaves$Hanging" ({ cls := "JoinedLeaves$Hanging", name := "hangLeastEar", desc := "()V" } : Jvm.MethodName) ({ cls := "JoinedLeaves$Hanging", name := "hangLeastEar", desc := "()V" } : Jvm.MethodName)), (Jvm.Cond.selects "JoinedLeaves$Hanging" ({ cls := "JoinedLeaves$Hanging", name := "leastHolderOf", desc := "(I)I" } : Jvm.MethodName) ({ cls := "JoinedLeaves$Hanging", name := "leastHolderOf", desc := "(I)I" } : Jvm.MethodName)), (Jvm.Cond.selects "JoinedLeaves$Hanging" ({ cls := "JoinedLeaves$Hanging", name := "variablesOf", desc := "(I)I" } : Jvm.MethodName) ({ cls := "JoinedLeaves$Hanging", name := "variablesOf", desc := "(I)I" } : Jvm.MethodName)), (Jvm.Cond.selects "JoinedLeaves$Question" ({ cls := "JoinedLeaves$Question", name := "putInHead", desc := "(I)Z" } : Jvm.MethodName) ({ cls := "JoinedLeaves$Question", name := "putInHead", desc := "(I)Z" } : Jvm.MethodName)), (Jvm.Cond.selects "JoinedLeaves$Question" ({ cls := "JoinedLeaves$Question", name := "empty", desc := "()V" } : Jvm.MethodName) ({ cls := "JoinedLeaves$Question", name := "empty", desc := "()V" } : Jvm.MethodName)), (Jvm.Cond.selects "JoinedLeaves$Hanging" ({ cls := "JoinedLeaves$Hanging", name := "isTree", desc := "()Z" } : Jvm.MethodName) ({ cls := "JoinedLeaves$Hanging", name := "isTree", desc := "()Z" } : Jvm.MethodName)), (Jvm.Cond.selects "JoinedLeaves" ({ cls := "JoinedLeaves", name := "requireTree", desc := "()V" } : Jvm.MethodName) ({ cls := "JoinedLeaves", name := "requireTree", desc := "()V" } : Jvm.MethodName)), (Jvm.Cond.selects "java/lang/Throwable" ({ cls := "java/lang/Throwable", name := "fillInStackTrace", desc := "(I)Ljava/lang/Throwable;" } : Jvm.MethodName) ({ cls := "java/lang/Throwable", name := "fillInStackTrace", desc := "(I)Ljava/lang/Throwable;" } : Jvm.MethodName)), (Jvm.Cond.selects "JoinedLeaves$Join" ({ cls := "JoinedLeaves$Join", name := "countWays", desc := "()J" } : Jvm.MethodName) ({ cls := "JoinedLeaves$Join", name := "countWays", desc := "()J" } : Jvm.MethodName)), (Jvm.Cond.selects "JoinedLeaves$Hanging" ({ cls := "JoinedLeaves$Hanging", name := "root", desc := "()I" } : Jvm.MethodName) ({ cls := "JoinedLeaves$Hanging", name := "root", desc := "()I" } : Jvm.MethodName)), (Jvm.Cond.selects "JoinedLeaves$Join" ({ cls := "JoinedLeaves$Join", name := "compareRows", desc := "()V" } : Jvm.MethodName) ({ cls := "JoinedLeaves$Join", name := "compareRows", desc := "()V" } : Jvm.MethodName)), (Jvm.Cond.selects "JoinedLeaves$Atom" ({ cls := "JoinedLeaves$Atom", name := "rowsAgreeingWithThemselves", desc := "()I" } : Jvm.MethodName) ({ cls := "JoinedLeaves$Atom", name := "rowsAgreeingWithThemselves", desc := "()I" } : Jvm.MethodName)), (Jvm.Cond.selects "JoinedLeaves$Atom" ({ cls := "JoinedLeaves$Atom", name := "agreesWithItself", desc := "(I)Z" } : Jvm.MethodName) ({ cls := "JoinedLeaves$Atom", name := "agreesWithItself", desc := "(I)Z" } : Jvm.MethodName)), (Jvm.Cond.selects "JoinedLeaves$Relation" ({ cls := "JoinedLeaves$Relation", name := "valueAt", desc := "(II)I" } : Jvm.MethodName) ({ cls := "JoinedLeaves$Relation", name := "valueAt", desc := "(II)I" } : Jvm.MethodName)), (Jvm.Cond.selects "JoinedLeaves$Atom" ({ cls := "JoinedLeaves$Atom", name := "rowsAgreeingWith", desc := "(LJoinedLeaves$Atom;I)I" } : Jvm.MethodName) ({ cls := "JoinedLeaves$Atom", name := "rowsAgreeingWith", desc := "(LJoinedLeaves$Atom;I)I" } : Jvm.MethodName)), (Jvm.Cond.selects "JoinedLeaves$Atom" ({ cls := "JoinedLeaves$Atom", name := "rowsAllowing", desc := "(II)I" } : Jvm.MethodName) ({ cls := "JoinedLeaves$Atom", name := "rowsAllowing", desc := "(II)I" } : Jvm.MethodName)), (Jvm.Cond.selects "JoinedLeaves$Join" ({ cls := "JoinedLeaves$Join", name := "startWeights", desc := "()V" } : Jvm.MethodName) ({ cls := "JoinedLeaves$Join", name := "startWeights", desc := "()V" } : Jvm.MethodName)), (Jvm.Cond.selects "JoinedLeaves$Join" ({ cls := "JoinedLeaves$Join", name := "weighIntoParent", desc := "(I)V" } : Jvm.MethodName) ({ cls := "JoinedLeaves$Join", name := "weighIntoParent", desc := "(I)V" } : Jvm.MethodName)), (Jvm.Cond.selects "JoinedLeaves$Join" ({ cls := "JoinedLeaves$Join", name := "weightOf", desc := "(II)J" } : Jvm.MethodName) ({ cls := "JoinedLeaves$Join", name := "weightOf", desc := "(II)J" } : Jvm.MethodName)), (Jvm.Cond.selects "JoinedLeaves$Join" ({ cls := "JoinedLeaves$Join", name := "countLiveRows", desc := "(I)I" } : Jvm.MethodName) ({ cls := "JoinedLeaves$Join", name := "countLiveRows", desc := "(I)I" } : Jvm.MethodName)), (Jvm.Cond.selects "JoinedLeaves$Join" ({ cls := "JoinedLeaves$Join", name := "keepLiveRows", desc := "([I)V" } : Jvm.MethodName) ({ cls := "JoinedLeaves$Join", name := "keepLiveRows", desc := "([I)V" } : Jvm.MethodName)), (Jvm.Cond.selects "JoinedLeaves$Join" ({ cls := "JoinedLeaves$Join", name := "keepRowsOfParent", desc := "([II)V" } : Jvm.MethodName) ({ cls := "JoinedLeaves$Join", name := "keepRowsOfParent", desc := "([II)V" } : Jvm.MethodName)), (Jvm.Cond.selects "JoinedLeaves$Join" ({ cls := "JoinedLeaves$Join", name := "keepRowsOfChild", desc := "([II)V" } : Jvm.MethodName) ({ cls := "JoinedLeaves$Join", name := "keepRowsOfChild", desc := "([II)V" } : Jvm.MethodName)), (Jvm.Cond.selects "JoinedLeaves" ({ cls := "JoinedLeaves", name := "findAnswers", desc := "()V" } : Jvm.MethodName) ({ cls := "JoinedLeaves", name := "findAnswers", desc := "()V" } : Jvm.MethodName)), (Jvm.Cond.selects "JoinedLeaves$Question" ({ cls := "JoinedLeaves$Question", name := "bindsHead", desc := "()Z" } : Jvm.MethodName) ({ cls := "JoinedLeaves$Question", name := "bindsHead", desc := "()Z" } : Jvm.MethodName))]
def jW_12 : List Cond := [(Jvm.Cond.selects "JoinedLeaves$Join" ({ cls := "JoinedLeaves$Join", name := "search", desc := "()V" } : Jvm.MethodName) ({ cls := "JoinedLeaves$Join", name := "search", desc := "()V" } : Jvm.MethodName)), (Jvm.Cond.selects "JoinedLeaves$Join" ({ cls := "JoinedLeaves$Join", name := "hasWay", desc := "([I)Z" } : Jvm.MethodName) ({ cls := "JoinedLeaves$Join", name := "hasWay", desc := "([I)Z" } : Jvm.MethodName)), (Jvm.Cond.selects "JoinedLeaves$Join" ({ cls := "JoinedLeaves$Join", name := "choose", desc := "(II)V" } : Jvm.MethodName) ({ cls := "JoinedLeaves$Join", name := "choose", desc := "(II)V" } : Jvm.MethodName)), (Jvm.Cond.selects "JoinedLeaves$Join" ({ cls := "JoinedLeaves$Join", name := "storeAnswer", desc := "(I)V" } : Jvm.MethodName) ({ cls := "JoinedLeaves$Join", name := "storeAnswer", desc := "(I)V" } : Jvm.MethodName)), (Jvm.Cond.selects "JoinedLeaves$Join" ({ cls := "JoinedLeaves$Join", name := "liveValuesOf", desc := "(I[I)I" } : Jvm.MethodName) ({ cls := "JoinedLeaves$Join", name := "liveValuesOf", desc := "(I[I)I" } : Jvm.MethodName)), (Jvm.Cond.selects "JoinedLeaves$Question" ({ cls := "JoinedLeaves$Question", name := "atomWith", desc := "(I)I" } : Jvm.MethodName) ({ cls := "JoinedLeaves$Question", name := "atomWith", desc := "(I)I" } : Jvm.MethodName)), (Jvm.Cond.selects "JoinedLeaves$Atom" ({ cls := "JoinedLeaves$Atom", name := "valuesOf", desc := "(II)I" } : Jvm.MethodName) ({ cls := "JoinedLeaves$Atom", name := "valuesOf", desc := "(II)I" } : Jvm.MethodName)), (Jvm.Cond.selects "JoinedLeaves$Join" ({ cls := "JoinedLeaves$Join", name := "keepRowsWith", desc := "(III)V" } : Jvm.MethodName) ({ cls := "JoinedLeaves$Join", name := "keepRowsWith", desc := "(III)V" } : Jvm.MethodName)), (Jvm.Cond.selects "JoinedLeaves$Join" ({ cls := "JoinedLeaves$Join", name := "valueInAnswer", desc := "(II)I" } : Jvm.MethodName) ({ cls := "JoinedLeaves$Join", name := "valueInAnswer", desc := "(II)I" } : Jvm.MethodName)), (Jvm.Cond.selects "JoinedLeavesModel" ({ cls := "JoinedLeavesModel", name := "isRelation", desc := "(I)Z" } : Jvm.MethodName) ({ cls := "JoinedLeavesModel", name := "isRelation", desc := "(I)Z" } : Jvm.MethodName)), (Jvm.Cond.selects "JoinedLeavesModel" ({ cls := "JoinedLeavesModel", name := "placeOf", desc := "(IIII)I" } : Jvm.MethodName) ({ cls := "JoinedLeavesModel", name := "placeOf", desc := "(IIII)I" } : Jvm.MethodName)), (Jvm.Cond.selects "JoinedLeavesModel" ({ cls := "JoinedLeavesModel", name := "isTree", desc := "()Z" } : Jvm.MethodName) ({ cls := "JoinedLeavesModel", name := "isTree", desc := "()Z" } : Jvm.MethodName)), (Jvm.Cond.selects "JoinedLeavesModel" ({ cls := "JoinedLeavesModel", name := "hang", desc := "()V" } : Jvm.MethodName) ({ cls := "JoinedLeavesModel", name := "hang", desc := "()V" } : Jvm.MethodName)), (Jvm.Cond.selects "JoinedLeavesModel" ({ cls := "JoinedLeavesModel", name := "isLeft", desc := "(I)Z" } : Jvm.MethodName) ({ cls := "JoinedLeavesModel", name := "isLeft", desc := "(I)Z" } : Jvm.MethodName)), (Jvm.Cond.selects "JoinedLeavesModel" ({ cls := "JoinedLeavesModel", name := "holder", desc := "(I)I" } : Jvm.MethodName) ({ cls := "JoinedLeavesModel", name := "holder", desc := "(I)I" } : Jvm.MethodName)), (Jvm.Cond.selects "JoinedLeavesModel" ({ cls := "JoinedLeavesModel", name := "setOf", desc := "(I)I" } : Jvm.MethodName) ({ cls := "JoinedLeavesModel", name := "setOf", desc := "(I)I" } : Jvm.MethodName)), (Jvm.Cond.selects "JoinedLeavesModel" ({ cls := "JoinedLeavesModel", name := "isAtom", desc := "(I)Z" } : Jvm.MethodName) ({ cls := "JoinedLeavesModel", name := "isAtom", desc := "(I)Z" } : Jvm.MethodName)), (Jvm.Cond.selects "JoinedLeavesModel" ({ cls := "JoinedLeavesModel", name := "look", desc := "()V" } : Jvm.MethodName) ({ cls := "JoinedLeavesModel", name := "look", desc := "()V" } : Jvm.MethodName)), (Jvm.Cond.selects "JoinedLeavesModel" ({ cls := "JoinedLeavesModel", name := "note", desc := "()V" } : Jvm.MethodName) ({ cls := "JoinedLeavesModel", name := "note", desc := "()V" } : Jvm.MethodName)), (Jvm.Cond.selects "JoinedLeavesModel" ({ cls := "JoinedLeavesModel", name := "fits", desc := "(II)Z" } : Jvm.MethodName) ({ cls := "JoinedLeavesModel", name := "fits", desc := "(II)Z" } : Jvm.MethodName)), (Jvm.Cond.selects "JoinedLeavesModel" ({ cls := "JoinedLeavesModel", name := "before", desc := "(I)I" } : Jvm.MethodName) ({ cls := "JoinedLeavesModel", name := "before", desc := "(I)I" } : Jvm.MethodName)), (Jvm.Cond.selects "JoinedLeavesModel" ({ cls := "JoinedLeavesModel", name := "codeOfAnswers", desc := "()I" } : Jvm.MethodName) ({ cls := "JoinedLeavesModel", name := "codeOfAnswers", desc := "()I" } : Jvm.MethodName)), (Jvm.Cond.selects "JoinedLeavesModel" ({ cls := "JoinedLeavesModel", name := "isHeadBound", desc := "()Z" } : Jvm.MethodName) ({ cls := "JoinedLeavesModel", name := "isHeadBound", desc := "()Z" } : Jvm.MethodName))]
def jW : List Cond := jW_0 ++ (jW_1 ++ (jW_2 ++ (jW_3 ++ (jW_4 ++ (jW_5 ++ (jW_6 ++ (jW_7 ++ (jW_8 ++ (jW_9 ++ (jW_10 ++ (jW_11 ++ (jW_12))))))))))))
theorem jC_0 : ∀ w ∈ jW_0, w ∈ jW := fun _ h => List.mem_append_left _ h
theorem jC_1 : ∀ w ∈ jW_1, w ∈ jW := fun _ h => List.mem_append_right _ (List.mem_append_left _ h)
theorem jC_2 : ∀ w ∈ jW_2, w ∈ jW := fun _ h => List.mem_append_right _ (List.mem_append_right _ (List.mem_append_left _ h))
theorem jC_3 : ∀ w ∈ jW_3, w ∈ jW := fun _ h => List.mem_append_right _ (List.mem_append_right _ (List.mem_append_right _ (List.mem_append_left _ h)))
theorem jC_4 : ∀ w ∈ jW_4, w ∈ jW := fun _ h => List.mem_append_right _ (List.mem_append_right _ (List.mem_append_right _ (List.mem_append_right _ (List.mem_append_left _ h))))
theorem jC_5 : ∀ w ∈ jW_5, w ∈ jW := fun _ h => List.mem_append_right _ (List.mem_append_right _ (List.mem_append_right _ (List.mem_append_right _ (List.mem_append_right _ (List.mem_append_left _ h)))))
theorem jC_6 : ∀ w ∈ jW_6, w ∈ jW := fun _ h => List.mem_append_right _ (List.mem_append_right _ (List.mem_append_right _ (List.mem_append_right _ (List.mem_append_right _ (List.mem_append_right _ (List.mem_append_left _ h))))))
theorem jC_7 : ∀ w ∈ jW_7, w ∈ jW := fun _ h => List.mem_append_right _ (List.mem_append_right _ (List.mem_append_right _ (List.mem_append_right _ (List.mem_append_right _ (List.mem_append_right _ (List.mem_append_right _ (List.mem_append_left _ h)))))))
theorem jC_8 : ∀ w ∈ jW_8, w ∈ jW := fun _ h => List.mem_append_right _ (List.mem_append_right _ (List.mem_append_right _ (List.mem_append_right _ (List.mem_append_right _ (List.mem_append_right _ (List.mem_append_right _ (List.mem_append_right _ (List.mem_append_left _ h))))))))
theorem jC_9 : ∀ w ∈ jW_9, w ∈ jW := fun _ h => List.mem_append_right _ (List.mem_append_right _ (List.mem_append_right _ (List.mem_append_right _ (List.mem_append_right _ (List.mem_append_right _ (List.mem_append_right _ (List.mem_append_right _ (List.mem_append_right _ (List.mem_append_left _ h)))))))))
theorem jC_10 : ∀ w ∈ jW_10, w ∈ jW := fun _ h => List.mem_append_right _ (List.mem_append_right _ (List.mem_append_right _ (List.mem_append_right _ (List.mem_append_right _ (List.mem_append_right _ (List.mem_append_right _ (List.mem_append_right _ (List.mem_append_right _ (List.mem_append_right _ (List.mem_append_left _ h))))))))))
theorem jC_11 : ∀ w ∈ jW_11, w ∈ jW := fun _ h => List.mem_append_right _ (List.mem_append_right _ (List.mem_append_right _ (List.mem_append_right _ (List.mem_append_right _ (List.mem_append_right _ (List.mem_append_right _ (List.mem_append_right _ (List.mem_append_right _ (List.mem_append_right _ (List.mem_append_right _ (List.mem_append_left _ h)))))))))))
theorem jC_12 : ∀ w ∈ jW_12, w ∈ jW := fun _ h => List.mem_append_right _ (List.mem_append_right _ (List.mem_append_right _ (List.mem_append_right _ (List.mem_append_right _ (List.mem_append_right _ (List.mem_append_right _ (List.mem_append_right _ (List.mem_append_right _ (List.mem_append_right _ (List.mem_append_right _ (List.mem_append_right _ (h))))))))))))
theorem jW_good : jW.all goodWord = true := by decide +kernel
theorem goodIn_g {w : Cond} (h : w ∈ jW) : GoodIn jW (w :: jW) := fun v hv => by
  have hm : v ∈ jW := by
    rcases List.mem_cons.mp hv with e | e
    · rw [e]; exact h
    · exact e
  exact ⟨hm, good_of_word (List.all_eq_true.mp jW_good v hm)⟩
def jNest : List Cond := [(Jvm.Cond.methodLinkNest "JoinedLeaves" (15 : Nat) ({ cls := "JoinedLeaves$Relation", name := "<init>", desc := "()V" } : Jvm.MethodName) "JoinedLeaves"), (Jvm.Cond.fieldLinkNest "JoinedLeaves$Atom" (19 : Nat) "JoinedLeaves$Relation" "width" "I" "JoinedLeaves"), (Jvm.Cond.fieldLinkNest "JoinedLeaves" (47 : Nat) "JoinedLeaves$Relation" "width" "I" "JoinedLeaves"), (Jvm.Cond.fieldLinkNest "JoinedLeaves$Atom" (32 : Nat) "JoinedLeaves$Relation" "size" "I" "JoinedLeaves"), (Jvm.Cond.fieldLinkNest "JoinedLeaves" (61 : Nat) "JoinedLeaves$Relation" "size" "I" "JoinedLeaves"), (Jvm.Cond.fieldLinkNest "JoinedLeaves$Join" (108 : Nat) "JoinedLeaves$Relation" "size" "I" "JoinedLeaves"), (Jvm.Cond.methodLinkNest "JoinedLeaves" (18 : Nat) ({ cls := "JoinedLeaves$Question", name := "<init>", desc := "(LJoinedLeaves$Relation;)V" } : Jvm.MethodName) "JoinedLeaves"), (Jvm.Cond.methodLinkNest "JoinedLeaves$Question" (21 : Nat) ({ cls := "JoinedLeaves$Atom", name := "<init>", desc := "(LJoinedLeaves$Relation;)V" } : Jvm.MethodName) "JoinedLeaves"), (Jvm.Cond.fieldLinkNest "JoinedLeaves$Question" (45 : Nat) "JoinedLeaves$Atom" "variableSet" "I" "JoinedLeaves"), (Jvm.Cond.fieldLinkNest "JoinedLeaves$Hanging" (52 : Nat) "JoinedLeaves$Atom" "variableSet" "I" "JoinedLeaves"), (Jvm.Cond.fieldLinkNest "JoinedLeaves$Join" (104 : Nat) "JoinedLeaves$Atom" "relation" "LJoinedLeaves$Relation;" "JoinedLeaves"), (Jvm.Cond.fieldLinkNest "JoinedLeaves$Join" (92 : Nat) "JoinedLeaves$Question" "atoms" "[LJoinedLeaves$Atom;" "JoinedLeaves"), (Jvm.Cond.fieldLinkNest "JoinedLeaves$Hanging" (48 : Nat) "JoinedLeaves$Question" "atoms" "[LJoinedLeaves$Atom;" "JoinedLeaves"), (Jvm.Cond.fieldLinkNest "JoinedLeaves$Hanging" (25 : Nat) "JoinedLeaves$Question" "atomCount" "I" "JoinedLeaves"), (Jvm.Cond.fieldLinkNest "JoinedLeaves$Join" (89 : Nat) "JoinedLeaves$Question" "atomCount" "I" "JoinedLeaves"), (Jvm.Cond.fieldLinkNest "JoinedLeaves" (71 : Nat) "JoinedLeaves$Question" "atomCount" "I" "JoinedLeaves"), (Jvm.Cond.fieldLinkNest "JoinedLeaves$Join" (131 : Nat) "JoinedLeaves$Question" "headVariables" "[I" "JoinedLeaves"), (Jvm.Cond.fieldLinkNest "JoinedLeaves$Join" (84 : Nat) "JoinedLeaves$Question" "headSize" "I" "JoinedLeaves"), (Jvm.Cond.fieldLinkNest "JoinedLeaves" (78 : Nat) "JoinedLeaves$Question" "headSize" "I" "JoinedLeaves"), (Jvm.Cond.methodLinkNest "JoinedLeaves" (27 : Nat) ({ cls := "JoinedLeaves$Hanging", name := "<init>", desc := "(LJoinedLeaves$Question;)V" } : Jvm.MethodName) "JoinedLeaves"), (Jvm.Cond.fieldLinkNest "JoinedLeaves$Join" (101 : Nat) "JoinedLeaves$Hanging" "parents" "[I" "JoinedLeaves"), (Jvm.Cond.fieldLinkNest "JoinedLeaves" (88 : Nat) "JoinedLeaves$Hanging" "parents" "[I" "JoinedLeaves"), (Jvm.Cond.fieldLinkNest "JoinedLeaves" (92 : Nat) "JoinedLeaves$Hanging" "turns" "[I" "JoinedLeaves"), (Jvm.Cond.fieldLinkNest "JoinedLeaves$Join" (62 : Nat) "JoinedLeaves$Hanging" "order" "[I" "JoinedLeaves"), (Jvm.Cond.fieldLinkNest "JoinedLeaves$Join" (58 : Nat) "JoinedLeaves$Hanging" "hungCount" "I" "JoinedLeaves"), (Jvm.Cond.methodLinkNest "JoinedLeaves" (36 : Nat) ({ cls := "JoinedLeaves$Join", name := "<init>", desc := "(LJoinedLeaves$Question;LJoinedLeaves$Hanging;)V" } : Jvm.MethodName) "JoinedLeaves"), (Jvm.Cond.fieldLinkNest "JoinedLeaves" (116 : Nat) "JoinedLeaves$Join" "found" "I" "JoinedLeaves"), (Jvm.Cond.methodLinkNest "JoinedLeaves" (54 : Nat) ({ cls := "JoinedLeaves$Relation", name := "put", desc := "(III)Z" } : Jvm.MethodName) "JoinedLeaves"), (Jvm.Cond.methodLinkNest "JoinedLeaves$Relation" (30 : Nat) ({ cls := "JoinedLeaves", name := "isBelow", desc := "(II)Z" } : Jvm.MethodName) "JoinedLeaves"), (Jvm.Cond.methodLinkNest "JoinedLeaves" (58 : Nat) ({ cls := "JoinedLeaves$Relation", name := "take", desc := "(III)Z" } : Jvm.MethodName) "JoinedLeaves"), (Jvm.Cond.methodLinkNest "JoinedLeaves" (64 : Nat) ({ cls := "JoinedLeaves$Question", name := "putAtom", desc := "(LJoinedLeaves$Relation;III)Z" } : Jvm.MethodName) "JoinedLeaves"), (Jvm.Cond.methodLinkNest "JoinedLeaves$Question" (28 : Nat) ({ cls := "JoinedLeaves$Atom", name := "bind", desc := "(LJoinedLeaves$Relation;III)Z" } : Jvm.MethodName) "JoinedLeaves"), (Jvm.Cond.methodLinkNest "JoinedLeaves$Atom" (25 : Nat) ({ cls := "JoinedLeaves", name := "isBelow", desc := "(II)Z" } : Jvm.MethodName) "JoinedLeaves"), (Jvm.Cond.methodLinkNest "JoinedLeaves" (68 : Nat) ({ cls := "JoinedLeaves$Hanging", name := "hangAtoms", desc := "()V" } : Jvm.MethodName) "JoinedLeaves"), (Jvm.Cond.methodLinkNest "JoinedLeaves$Hanging" (37 : Nat) ({ cls := "JoinedLeaves", name := "isIn", desc := "(II)Z" } : Jvm.MethodName) "JoinedLeaves"), (Jvm.Cond.methodLinkNest "JoinedLeaves" (74 : Nat) ({ cls := "JoinedLeaves$Question", name := "putInHead", desc := "(I)Z" } : Jvm.MethodName) "JoinedLeaves"), (Jvm.Cond.methodLinkNest "JoinedLeaves$Question" (32 : Nat) ({ cls := "JoinedLeaves", name := "isBelow", desc := "(II)Z" } : Jvm.MethodName) "JoinedLeaves"), (Jvm.Cond.methodLinkNest "JoinedLeaves$Question" (39 : Nat) ({ cls := "JoinedLeaves", name := "isIn", desc := "(II)Z" } : Jvm.MethodName) "JoinedLeaves"), (Jvm.Cond.methodLinkNest "JoinedLeaves" (81 : Nat) ({ cls := "JoinedLeaves$Question", name := "empty", desc := "()V" } : Jvm.MethodName) "JoinedLeaves"), (Jvm.Cond.methodLinkNest "JoinedLeaves" (84 : Nat) ({ cls := "JoinedLeaves$Hanging", name := "isTree", desc := "()Z" } : Jvm.MethodName) "JoinedLeaves"), (Jvm.Cond.castable "java/lang/IllegalStateException" "java/lang/IllegalStateException"), (Jvm.Cond.methodLinkNest "JoinedLeaves" (98 : Nat) ({ cls := "JoinedLeaves$Join", name := "countWays", desc := "()J" } : Jvm.MethodName) "JoinedLeaves"), (Jvm.Cond.methodLinkNest "JoinedLeaves$Join" (49 : Nat) ({ cls := "JoinedLeaves$Hanging", name := "root", desc := "()I" } : Jvm.MethodName) "JoinedLeaves"), (Jvm.Cond.methodLinkNest "JoinedLeaves$Join" (96 : Nat) ({ cls := "JoinedLeaves$Atom", name := "rowsAgreeingWithThemselves", desc := "()I" } : Jvm.MethodName) "JoinedLeaves"), (Jvm.Cond.methodLinkNest "JoinedLeaves$Atom" (39 : Nat) ({ cls := "JoinedLeaves$Relation", name := "valueAt", desc := "(II)I" } : Jvm.MethodName) "JoinedLeaves"), (Jvm.Cond.methodLinkNest "JoinedLeaves$Join" (113 : Nat) ({ cls := "JoinedLeaves$Atom", name := "rowsAgreeingWith", desc := "(LJoinedLeaves$Atom;I)I" } : Jvm.MethodName) "JoinedLeaves"), (Jvm.Cond.methodLinkNest "JoinedLeaves$Join" (124 : Nat) ({ cls := "JoinedLeaves", name := "isIn", desc := "(II)Z" } : Jvm.MethodName) "JoinedLeaves"), (Jvm.Cond.castable "java/lang/IndexOutOfBoundsException" "java/lang/IndexOutOfBoundsException"), (Jvm.Cond.methodLinkNest "JoinedLeaves" (109 : Nat) ({ cls := "JoinedLeaves$Join", name := "countLiveRows", desc := "(I)I" } : Jvm.MethodName) "JoinedLeaves"), (Jvm.Cond.methodLinkNest "JoinedLeaves" (125 : Nat) ({ cls := "JoinedLeaves$Question", name := "bindsHead", desc := "()Z" } : Jvm.MethodName) "JoinedLeaves"), (Jvm.Cond.castable "java/lang/IllegalArgumentException" "java/lang/IllegalArgumentException"), (Jvm.Cond.methodLinkNest "JoinedLeaves" (133 : Nat) ({ cls := "JoinedLeaves$Join", name := "search", desc := "()V" } : Jvm.MethodName) "JoinedLeaves"), (Jvm.Cond.methodLinkNest "JoinedLeaves$Join" (142 : Nat) ({ cls := "JoinedLeaves$Question", name := "atomWith", desc := "(I)I" } : Jvm.MethodName) "JoinedLeaves"), (Jvm.Cond.methodLinkNest "JoinedLeaves$Join" (145 : Nat) ({ cls := "JoinedLeaves$Atom", name := "valuesOf", desc := "(II)I" } : Jvm.MethodName) "JoinedLeaves"), (Jvm.Cond.methodLinkNest "JoinedLeaves$Atom" (46 : Nat) ({ cls := "JoinedLeaves", name := "isIn", desc := "(II)Z" } : Jvm.MethodName) "JoinedLeaves"), (Jvm.Cond.methodLinkNest "JoinedLeaves$Join" (149 : Nat) ({ cls := "JoinedLeaves$Atom", name := "rowsAllowing", desc := "(II)I" } : Jvm.MethodName) "JoinedLeaves"), (Jvm.Cond.castable "java/lang/UnsupportedOperationException" "java/lang/UnsupportedOperationException"), (Jvm.Cond.methodLinkNest "JoinedLeaves" (121 : Nat) ({ cls := "JoinedLeaves$Join", name := "valueInAnswer", desc := "(II)I" } : Jvm.MethodName) "JoinedLeaves")]
end
section
theorem jm_0_0 : (Jvm.Cond.initialized "JoinedLeavesLaw") ∈ jW := jC_0 _ (List.mem_of_getElem? (i := 0) rfl)
theorem jm_0_1 : (Jvm.Cond.initialized "JoinedLeaves") ∈ jW := jC_0 _ (List.mem_of_getElem? (i := 1) rfl)
theorem jm_0_2 : (Jvm.Cond.initialized "JoinedLeaves$Relation") ∈ jW := jC_0 _ (List.mem_of_getElem? (i := 2) rfl)
theorem jm_0_3 : (Jvm.Cond.initialized "JoinedLeaves$Question") ∈ jW := jC_0 _ (List.mem_of_getElem? (i := 3) rfl)
theorem jm_0_4 : (Jvm.Cond.initialized "JoinedLeaves$Atom") ∈ jW := jC_0 _ (List.mem_of_getElem? (i := 4) rfl)
theorem jm_0_5 : (Jvm.Cond.initialized "JoinedLeaves$Hanging") ∈ jW := jC_0 _ (List.mem_of_getElem? (i := 5) rfl)
theorem jm_0_6 : (Jvm.Cond.initialized "JoinedLeaves$Join") ∈ jW := jC_0 _ (List.mem_of_getElem? (i := 6) rfl)
theorem jm_0_7 : (Jvm.Cond.initialized "JoinedLeavesModel") ∈ jW := jC_0 _ (List.mem_of_getElem? (i := 7) rfl)
theorem jm_0_8 : (Jvm.Cond.initialized "java/lang/Throwable") ∈ jW := jC_0 _ (List.mem_of_getElem? (i := 8) rfl)
theorem jm_0_9 : (Jvm.Cond.initialized "java/lang/Exception") ∈ jW := jC_0 _ (List.mem_of_getElem? (i := 9) rfl)
theorem jm_0_10 : (Jvm.Cond.initialized "java/lang/RuntimeException") ∈ jW := jC_0 _ (List.mem_of_getElem? (i := 10) rfl)
theorem jm_0_11 : (Jvm.Cond.initialized "java/lang/IllegalStateException") ∈ jW := jC_0 _ (List.mem_of_getElem? (i := 11) rfl)
theorem jm_0_12 : (Jvm.Cond.initialized "java/lang/IndexOutOfBoundsException") ∈ jW := jC_0 _ (List.mem_of_getElem? (i := 12) rfl)
theorem jm_0_13 : (Jvm.Cond.initialized "java/lang/Integer") ∈ jW := jC_0 _ (List.mem_of_getElem? (i := 13) rfl)
theorem jm_0_14 : (Jvm.Cond.initialized "java/lang/IllegalArgumentException") ∈ jW := jC_0 _ (List.mem_of_getElem? (i := 14) rfl)
theorem jm_0_15 : (Jvm.Cond.initialized "java/lang/UnsupportedOperationException") ∈ jW := jC_0 _ (List.mem_of_getElem? (i := 15) rfl)
theorem jm_0_16 : (Jvm.Cond.classLink "JoinedLeavesLaw" (8 : Nat) "JoinedLeaves") ∈ jW := jC_0 _ (List.mem_of_getElem? (i := 16) rfl)
theorem jm_0_17 : (Jvm.Cond.instantiable "JoinedLeaves" (5 : Nat)) ∈ jW := jC_0 _ (List.mem_of_getElem? (i := 17) rfl)
theorem jm_0_18 : (Jvm.Cond.methodLink "JoinedLeavesLaw" (33 : Nat) ({ cls := "JoinedLeaves", name := "<init>", desc := "()V" } : Jvm.MethodName)) ∈ jW := jC_0 _ (List.mem_of_getElem? (i := 18) rfl)
theorem jm_0_19 : (Jvm.Cond.instanceMethod ({ cls := "JoinedLeaves", name := "<init>", desc := "()V" } : Jvm.MethodName)) ∈ jW := jC_0 _ (List.mem_of_getElem? (i := 19) rfl)
theorem jm_0_20 : (Jvm.Cond.code ({ cls := "JoinedLeaves", name := "<init>", desc := "()V" } : Jvm.MethodName) prog_1_method_1_code (2 : Nat) (Option.none : Option Jvm.ClassFile.FieldType)) ∈ jW := jC_0 _ (List.mem_of_getElem? (i := 20) rfl)
theorem jm_0_21 : (Jvm.Cond.methodLink "JoinedLeaves" (1 : Nat) ({ cls := "java/lang/Object", name := "<init>", desc := "()V" } : Jvm.MethodName)) ∈ jW := jC_0 _ (List.mem_of_getElem? (i := 21) rfl)
theorem jm_0_22 : (Jvm.Cond.instanceMethod ({ cls := "java/lang/Object", name := "<init>", desc := "()V" } : Jvm.MethodName)) ∈ jW := jC_0 _ (List.mem_of_getElem? (i := 22) rfl)
theorem jm_0_23 : (Jvm.Cond.code ({ cls := "java/lang/Object", name := "<init>", desc := "()V" } : Jvm.MethodName) object_method_1_code (1 : Nat) (Option.none : Option Jvm.ClassFile.FieldType)) ∈ jW := jC_0 _ (List.mem_of_getElem? (i := 23) rfl)
theorem jm_0_24 : (Jvm.Cond.classLink "JoinedLeaves" (9 : Nat) "JoinedLeaves$Relation") ∈ jW := jC_0 _ (List.mem_of_getElem? (i := 24) rfl)
theorem jm_0_25 : (Jvm.Cond.instantiable "JoinedLeaves$Relation" (3 : Nat)) ∈ jW := jC_0 _ (List.mem_of_getElem? (i := 25) rfl)
theorem jm_0_26 : (Jvm.Cond.instanceMethod ({ cls := "JoinedLeaves$Relation", name := "<init>", desc := "()V" } : Jvm.MethodName)) ∈ jW := jC_0 _ (List.mem_of_getElem? (i := 26) rfl)
theorem jm_0_27 : (Jvm.Cond.code ({ cls := "JoinedLeaves$Relation", name := "<init>", desc := "()V" } : Jvm.MethodName) prog_6_method_1_code (1 : Nat) (Option.none : Option Jvm.ClassFile.FieldType)) ∈ jW := jC_0 _ (List.mem_of_getElem? (i := 27) rfl)
theorem jm_0_28 : (Jvm.Cond.methodLink "JoinedLeaves$Relation" (3 : Nat) ({ cls := "java/lang/Object", name := "<init>", desc := "()V" } : Jvm.MethodName)) ∈ jW := jC_0 _ (List.mem_of_getElem? (i := 28) rfl)
theorem jm_0_29 : (Jvm.Cond.fieldLink "JoinedLeaves$Relation" (9 : Nat) "JoinedLeaves$Relation" "packedRows" "[I") ∈ jW := jC_0 _ (List.mem_of_getElem? (i := 29) rfl)
theorem jm_0_30 : (Jvm.Cond.fieldLink "JoinedLeaves$Relation" (27 : Nat) "JoinedLeaves$Relation" "width" "I") ∈ jW := jC_0 _ (List.mem_of_getElem? (i := 30) rfl)
theorem jm_0_31 : (Jvm.Cond.fieldLink "JoinedLeaves$Relation" (19 : Nat) "JoinedLeaves$Relation" "size" "I") ∈ jW := jC_0 _ (List.mem_of_getElem? (i := 31) rfl)
theorem jm_0_32 : (Jvm.Cond.laysFinal "JoinedLeaves$Relation" "JoinedLeaves$Relation" "packedRows" "[I") ∈ jW := jC_0 _ (List.mem_of_getElem? (i := 32) rfl)
theorem jm_0_33 : (Jvm.Cond.lays "JoinedLeaves$Relation" "JoinedLeaves$Relation" "width" "I") ∈ jW := jC_0 _ (List.mem_of_getElem? (i := 33) rfl)
theorem jm_0_34 : (Jvm.Cond.lays "JoinedLeaves$Relation" "JoinedLeaves$Relation" "size" "I") ∈ jW := jC_0 _ (List.mem_of_getElem? (i := 34) rfl)
theorem jm_0_35 : (Jvm.Cond.superclass "JoinedLeaves$Relation" "java/lang/Object") ∈ jW := jC_0 _ (List.mem_of_getElem? (i := 35) rfl)
theorem jm_0_36 : (Jvm.Cond.arrayClass Jvm.ClassFile.FieldType.int) ∈ jW := jC_0 _ (List.mem_of_getElem? (i := 36) rfl)
theorem jm_0_37 : (Jvm.Cond.classLink "JoinedLeaves" (16 : Nat) "JoinedLeaves$Question") ∈ jW := jC_0 _ (List.mem_of_getElem? (i := 37) rfl)
theorem jm_0_38 : (Jvm.Cond.instantiable "JoinedLeaves$Question" (5 : Nat)) ∈ jW := jC_0 _ (List.mem_of_getElem? (i := 38) rfl)
theorem jm_0_39 : (Jvm.Cond.instanceMethod ({ cls := "JoinedLeaves$Question", name := "<init>", desc := "(LJoinedLeaves$Relation;)V" } : Jvm.MethodName)) ∈ jW := jC_0 _ (List.mem_of_getElem? (i := 39) rfl)
theorem jm_0_40 : (Jvm.Cond.code ({ cls := "JoinedLeaves$Question", name := "<init>", desc := "(LJoinedLeaves$Relation;)V" } : Jvm.MethodName) prog_5_method_1_code (3 : Nat) (Option.none : Option Jvm.ClassFile.FieldType)) ∈ jW := jC_0 _ (List.mem_of_getElem? (i := 40) rfl)
theorem jm_0_41 : (Jvm.Cond.methodLink "JoinedLeaves$Question" (3 : Nat) ({ cls := "java/lang/Object", name := "<init>", desc := "()V" } : Jvm.MethodName)) ∈ jW := jC_0 _ (List.mem_of_getElem? (i := 41) rfl)
theorem jm_0_42 : (Jvm.Cond.classLink "JoinedLeaves$Question" (9 : Nat) "JoinedLeaves$Atom") ∈ jW := jC_0 _ (List.mem_of_getElem? (i := 42) rfl)
theorem jm_0_43 : (Jvm.Cond.instantiable "JoinedLeaves$Atom" (3 : Nat)) ∈ jW := jC_0 _ (List.mem_of_getElem? (i := 43) rfl)
theorem jm_0_44 : (Jvm.Cond.instanceMethod ({ cls := "JoinedLeaves$Atom", name := "<init>", desc := "(LJoinedLeaves$Relation;)V" } : Jvm.MethodName)) ∈ jW := jC_0 _ (List.mem_of_getElem? (i := 44) rfl)
theorem jm_0_45 : (Jvm.Cond.code ({ cls := "JoinedLeaves$Atom", name := "<init>", desc := "(LJoinedLeaves$Relation;)V" } : Jvm.MethodName) prog_2_method_1_code (2 : Nat) (Option.none : Option Jvm.ClassFile.FieldType)) ∈ jW := jC_0 _ (List.mem_of_getElem? (i := 45) rfl)
theorem jm_0_46 : (Jvm.Cond.methodLink "JoinedLeaves$Atom" (3 : Nat) ({ cls := "java/lang/Object", name := "<init>", desc := "()V" } : Jvm.MethodName)) ∈ jW := jC_0 _ (List.mem_of_getElem? (i := 46) rfl)
theorem jm_0_47 : (Jvm.Cond.fieldLink "JoinedLeaves$Atom" (9 : Nat) "JoinedLeaves$Atom" "variables" "[I") ∈ jW := jC_0 _ (List.mem_of_getElem? (i := 47) rfl)
theorem jm_1_0 : (Jvm.Cond.fieldLink "JoinedLeaves$Atom" (29 : Nat) "JoinedLeaves$Atom" "variableSet" "I") ∈ jW := jC_1 _ (List.mem_of_getElem? (i := 0) rfl)
theorem jm_1_1 : (Jvm.Cond.fieldLink "JoinedLeaves$Atom" (15 : Nat) "JoinedLeaves$Atom" "relation" "LJoinedLeaves$Relation;") ∈ jW := jC_1 _ (List.mem_of_getElem? (i := 1) rfl)
theorem jm_1_2 : (Jvm.Cond.laysFinal "JoinedLeaves$Atom" "JoinedLeaves$Atom" "variables" "[I") ∈ jW := jC_1 _ (List.mem_of_getElem? (i := 2) rfl)
theorem jm_1_3 : (Jvm.Cond.lays "JoinedLeaves$Atom" "JoinedLeaves$Atom" "variableSet" "I") ∈ jW := jC_1 _ (List.mem_of_getElem? (i := 3) rfl)
theorem jm_1_4 : (Jvm.Cond.lays "JoinedLeaves$Atom" "JoinedLeaves$Atom" "relation" "LJoinedLeaves$Relation;") ∈ jW := jC_1 _ (List.mem_of_getElem? (i := 4) rfl)
theorem jm_1_5 : (Jvm.Cond.superclass "JoinedLeaves$Atom" "java/lang/Object") ∈ jW := jC_1 _ (List.mem_of_getElem? (i := 5) rfl)
theorem jm_1_6 : (Jvm.Cond.fieldLink "JoinedLeaves$Question" (11 : Nat) "JoinedLeaves$Question" "atoms" "[LJoinedLeaves$Atom;") ∈ jW := jC_1 _ (List.mem_of_getElem? (i := 6) rfl)
theorem jm_1_7 : (Jvm.Cond.fieldLink "JoinedLeaves$Question" (24 : Nat) "JoinedLeaves$Question" "atomCount" "I") ∈ jW := jC_1 _ (List.mem_of_getElem? (i := 7) rfl)
theorem jm_1_8 : (Jvm.Cond.fieldLink "JoinedLeaves$Question" (17 : Nat) "JoinedLeaves$Question" "headVariables" "[I") ∈ jW := jC_1 _ (List.mem_of_getElem? (i := 8) rfl)
theorem jm_1_9 : (Jvm.Cond.fieldLink "JoinedLeaves$Question" (42 : Nat) "JoinedLeaves$Question" "headSize" "I") ∈ jW := jC_1 _ (List.mem_of_getElem? (i := 9) rfl)
theorem jm_1_10 : (Jvm.Cond.fieldLink "JoinedLeaves$Question" (36 : Nat) "JoinedLeaves$Question" "headSet" "I") ∈ jW := jC_1 _ (List.mem_of_getElem? (i := 10) rfl)
theorem jm_1_11 : (Jvm.Cond.laysFinal "JoinedLeaves$Question" "JoinedLeaves$Question" "atoms" "[LJoinedLeaves$Atom;") ∈ jW := jC_1 _ (List.mem_of_getElem? (i := 11) rfl)
theorem jm_1_12 : (Jvm.Cond.lays "JoinedLeaves$Question" "JoinedLeaves$Question" "atomCount" "I") ∈ jW := jC_1 _ (List.mem_of_getElem? (i := 12) rfl)
theorem jm_1_13 : (Jvm.Cond.laysFinal "JoinedLeaves$Question" "JoinedLeaves$Question" "headVariables" "[I") ∈ jW := jC_1 _ (List.mem_of_getElem? (i := 13) rfl)
theorem jm_1_14 : (Jvm.Cond.lays "JoinedLeaves$Question" "JoinedLeaves$Question" "headSize" "I") ∈ jW := jC_1 _ (List.mem_of_getElem? (i := 14) rfl)
theorem jm_1_15 : (Jvm.Cond.lays "JoinedLeaves$Question" "JoinedLeaves$Question" "headSet" "I") ∈ jW := jC_1 _ (List.mem_of_getElem? (i := 15) rfl)
theorem jm_1_16 : (Jvm.Cond.superclass "JoinedLeaves$Question" "java/lang/Object") ∈ jW := jC_1 _ (List.mem_of_getElem? (i := 16) rfl)
theorem jm_1_17 : (Jvm.Cond.classLink "JoinedLeaves" (25 : Nat) "JoinedLeaves$Hanging") ∈ jW := jC_1 _ (List.mem_of_getElem? (i := 17) rfl)
theorem jm_1_18 : (Jvm.Cond.instantiable "JoinedLeaves$Hanging" (6 : Nat)) ∈ jW := jC_1 _ (List.mem_of_getElem? (i := 18) rfl)
theorem jm_1_19 : (Jvm.Cond.instanceMethod ({ cls := "JoinedLeaves$Hanging", name := "<init>", desc := "(LJoinedLeaves$Question;)V" } : Jvm.MethodName)) ∈ jW := jC_1 _ (List.mem_of_getElem? (i := 19) rfl)
theorem jm_1_20 : (Jvm.Cond.code ({ cls := "JoinedLeaves$Hanging", name := "<init>", desc := "(LJoinedLeaves$Question;)V" } : Jvm.MethodName) prog_3_method_1_code (2 : Nat) (Option.none : Option Jvm.ClassFile.FieldType)) ∈ jW := jC_1 _ (List.mem_of_getElem? (i := 20) rfl)
theorem jm_1_21 : (Jvm.Cond.methodLink "JoinedLeaves$Hanging" (3 : Nat) ({ cls := "java/lang/Object", name := "<init>", desc := "()V" } : Jvm.MethodName)) ∈ jW := jC_1 _ (List.mem_of_getElem? (i := 21) rfl)
theorem jm_1_22 : (Jvm.Cond.fieldLink "JoinedLeaves$Hanging" (21 : Nat) "JoinedLeaves$Hanging" "question" "LJoinedLeaves$Question;") ∈ jW := jC_1 _ (List.mem_of_getElem? (i := 22) rfl)
theorem jm_1_23 : (Jvm.Cond.fieldLink "JoinedLeaves$Hanging" (9 : Nat) "JoinedLeaves$Hanging" "parents" "[I") ∈ jW := jC_1 _ (List.mem_of_getElem? (i := 23) rfl)
theorem jm_1_24 : (Jvm.Cond.fieldLink "JoinedLeaves$Hanging" (15 : Nat) "JoinedLeaves$Hanging" "turns" "[I") ∈ jW := jC_1 _ (List.mem_of_getElem? (i := 24) rfl)
theorem jm_1_25 : (Jvm.Cond.fieldLink "JoinedLeaves$Hanging" (18 : Nat) "JoinedLeaves$Hanging" "order" "[I") ∈ jW := jC_1 _ (List.mem_of_getElem? (i := 25) rfl)
theorem jm_1_26 : (Jvm.Cond.fieldLink "JoinedLeaves$Hanging" (31 : Nat) "JoinedLeaves$Hanging" "hungCount" "I") ∈ jW := jC_1 _ (List.mem_of_getElem? (i := 26) rfl)
theorem jm_1_27 : (Jvm.Cond.fieldLink "JoinedLeaves$Hanging" (34 : Nat) "JoinedLeaves$Hanging" "left" "I") ∈ jW := jC_1 _ (List.mem_of_getElem? (i := 27) rfl)
theorem jm_1_28 : (Jvm.Cond.laysFinal "JoinedLeaves$Hanging" "JoinedLeaves$Hanging" "question" "LJoinedLeaves$Question;") ∈ jW := jC_1 _ (List.mem_of_getElem? (i := 28) rfl)
theorem jm_1_29 : (Jvm.Cond.laysFinal "JoinedLeaves$Hanging" "JoinedLeaves$Hanging" "parents" "[I") ∈ jW := jC_1 _ (List.mem_of_getElem? (i := 29) rfl)
theorem jm_1_30 : (Jvm.Cond.laysFinal "JoinedLeaves$Hanging" "JoinedLeaves$Hanging" "turns" "[I") ∈ jW := jC_1 _ (List.mem_of_getElem? (i := 30) rfl)
theorem jm_1_31 : (Jvm.Cond.laysFinal "JoinedLeaves$Hanging" "JoinedLeaves$Hanging" "order" "[I") ∈ jW := jC_1 _ (List.mem_of_getElem? (i := 31) rfl)
theorem jm_1_32 : (Jvm.Cond.lays "JoinedLeaves$Hanging" "JoinedLeaves$Hanging" "hungCount" "I") ∈ jW := jC_1 _ (List.mem_of_getElem? (i := 32) rfl)
theorem jm_1_33 : (Jvm.Cond.lays "JoinedLeaves$Hanging" "JoinedLeaves$Hanging" "left" "I") ∈ jW := jC_1 _ (List.mem_of_getElem? (i := 33) rfl)
theorem jm_1_34 : (Jvm.Cond.superclass "JoinedLeaves$Hanging" "java/lang/Object") ∈ jW := jC_1 _ (List.mem_of_getElem? (i := 34) rfl)
theorem jm_1_35 : (Jvm.Cond.classLink "JoinedLeaves" (34 : Nat) "JoinedLeaves$Join") ∈ jW := jC_1 _ (List.mem_of_getElem? (i := 35) rfl)
theorem jm_1_36 : (Jvm.Cond.instantiable "JoinedLeaves$Join" (7 : Nat)) ∈ jW := jC_1 _ (List.mem_of_getElem? (i := 36) rfl)
theorem jm_1_37 : (Jvm.Cond.instanceMethod ({ cls := "JoinedLeaves$Join", name := "<init>", desc := "(LJoinedLeaves$Question;LJoinedLeaves$Hanging;)V" } : Jvm.MethodName)) ∈ jW := jC_1 _ (List.mem_of_getElem? (i := 37) rfl)
theorem jm_1_38 : (Jvm.Cond.code ({ cls := "JoinedLeaves$Join", name := "<init>", desc := "(LJoinedLeaves$Question;LJoinedLeaves$Hanging;)V" } : Jvm.MethodName) prog_4_method_1_code (3 : Nat) (Option.none : Option Jvm.ClassFile.FieldType)) ∈ jW := jC_1 _ (List.mem_of_getElem? (i := 38) rfl)
theorem jm_1_39 : (Jvm.Cond.methodLink "JoinedLeaves$Join" (3 : Nat) ({ cls := "java/lang/Object", name := "<init>", desc := "()V" } : Jvm.MethodName)) ∈ jW := jC_1 _ (List.mem_of_getElem? (i := 39) rfl)
theorem jm_1_40 : (Jvm.Cond.classLink "JoinedLeaves$Join" (9 : Nat) "[[I") ∈ jW := jC_1 _ (List.mem_of_getElem? (i := 40) rfl)
theorem jm_1_41 : (Jvm.Cond.classLink "JoinedLeaves$Join" (19 : Nat) "[[J") ∈ jW := jC_1 _ (List.mem_of_getElem? (i := 41) rfl)
theorem jm_1_42 : (Jvm.Cond.fieldLink "JoinedLeaves$Join" (28 : Nat) "JoinedLeaves$Join" "question" "LJoinedLeaves$Question;") ∈ jW := jC_1 _ (List.mem_of_getElem? (i := 42) rfl)
theorem jm_1_43 : (Jvm.Cond.fieldLink "JoinedLeaves$Join" (32 : Nat) "JoinedLeaves$Join" "hanging" "LJoinedLeaves$Hanging;") ∈ jW := jC_1 _ (List.mem_of_getElem? (i := 43) rfl)
theorem jm_1_44 : (Jvm.Cond.fieldLink "JoinedLeaves$Join" (11 : Nat) "JoinedLeaves$Join" "agreeing" "[[I") ∈ jW := jC_1 _ (List.mem_of_getElem? (i := 44) rfl)
theorem jm_1_45 : (Jvm.Cond.fieldLink "JoinedLeaves$Join" (16 : Nat) "JoinedLeaves$Join" "kept" "[[I") ∈ jW := jC_1 _ (List.mem_of_getElem? (i := 45) rfl)
theorem jm_1_46 : (Jvm.Cond.fieldLink "JoinedLeaves$Join" (21 : Nat) "JoinedLeaves$Join" "weights" "[[J") ∈ jW := jC_1 _ (List.mem_of_getElem? (i := 46) rfl)
theorem jm_1_47 : (Jvm.Cond.fieldLink "JoinedLeaves$Join" (24 : Nat) "JoinedLeaves$Join" "packedAnswers" "[I") ∈ jW := jC_1 _ (List.mem_of_getElem? (i := 47) rfl)
theorem jm_2_0 : (Jvm.Cond.fieldLink "JoinedLeaves$Join" (73 : Nat) "JoinedLeaves$Join" "found" "I") ∈ jW := jC_2 _ (List.mem_of_getElem? (i := 0) rfl)
theorem jm_2_1 : (Jvm.Cond.laysFinal "JoinedLeaves$Join" "JoinedLeaves$Join" "question" "LJoinedLeaves$Question;") ∈ jW := jC_2 _ (List.mem_of_getElem? (i := 1) rfl)
theorem jm_2_2 : (Jvm.Cond.laysFinal "JoinedLeaves$Join" "JoinedLeaves$Join" "hanging" "LJoinedLeaves$Hanging;") ∈ jW := jC_2 _ (List.mem_of_getElem? (i := 2) rfl)
theorem jm_2_3 : (Jvm.Cond.laysFinal "JoinedLeaves$Join" "JoinedLeaves$Join" "agreeing" "[[I") ∈ jW := jC_2 _ (List.mem_of_getElem? (i := 3) rfl)
theorem jm_2_4 : (Jvm.Cond.laysFinal "JoinedLeaves$Join" "JoinedLeaves$Join" "kept" "[[I") ∈ jW := jC_2 _ (List.mem_of_getElem? (i := 4) rfl)
theorem jm_2_5 : (Jvm.Cond.laysFinal "JoinedLeaves$Join" "JoinedLeaves$Join" "weights" "[[J") ∈ jW := jC_2 _ (List.mem_of_getElem? (i := 5) rfl)
theorem jm_2_6 : (Jvm.Cond.laysFinal "JoinedLeaves$Join" "JoinedLeaves$Join" "packedAnswers" "[I") ∈ jW := jC_2 _ (List.mem_of_getElem? (i := 6) rfl)
theorem jm_2_7 : (Jvm.Cond.lays "JoinedLeaves$Join" "JoinedLeaves$Join" "found" "I") ∈ jW := jC_2 _ (List.mem_of_getElem? (i := 7) rfl)
theorem jm_2_8 : (Jvm.Cond.superclass "JoinedLeaves$Join" "java/lang/Object") ∈ jW := jC_2 _ (List.mem_of_getElem? (i := 8) rfl)
theorem jm_2_9 : (Jvm.Cond.arrayClass Jvm.ClassFile.FieldType.long) ∈ jW := jC_2 _ (List.mem_of_getElem? (i := 9) rfl)
theorem jm_2_10 : (Jvm.Cond.fieldLink "JoinedLeaves" (11 : Nat) "JoinedLeaves" "relations" "[LJoinedLeaves$Relation;") ∈ jW := jC_2 _ (List.mem_of_getElem? (i := 10) rfl)
theorem jm_2_11 : (Jvm.Cond.fieldLink "JoinedLeaves" (43 : Nat) "JoinedLeaves" "relationCount" "I") ∈ jW := jC_2 _ (List.mem_of_getElem? (i := 11) rfl)
theorem jm_2_12 : (Jvm.Cond.fieldLink "JoinedLeaves" (21 : Nat) "JoinedLeaves" "question" "LJoinedLeaves$Question;") ∈ jW := jC_2 _ (List.mem_of_getElem? (i := 12) rfl)
theorem jm_2_13 : (Jvm.Cond.fieldLink "JoinedLeaves" (30 : Nat) "JoinedLeaves" "hanging" "LJoinedLeaves$Hanging;") ∈ jW := jC_2 _ (List.mem_of_getElem? (i := 13) rfl)
theorem jm_2_14 : (Jvm.Cond.fieldLink "JoinedLeaves" (39 : Nat) "JoinedLeaves" "join" "LJoinedLeaves$Join;") ∈ jW := jC_2 _ (List.mem_of_getElem? (i := 14) rfl)
theorem jm_2_15 : (Jvm.Cond.laysFinal "JoinedLeaves" "JoinedLeaves" "relations" "[LJoinedLeaves$Relation;") ∈ jW := jC_2 _ (List.mem_of_getElem? (i := 15) rfl)
theorem jm_2_16 : (Jvm.Cond.lays "JoinedLeaves" "JoinedLeaves" "relationCount" "I") ∈ jW := jC_2 _ (List.mem_of_getElem? (i := 16) rfl)
theorem jm_2_17 : (Jvm.Cond.laysFinal "JoinedLeaves" "JoinedLeaves" "question" "LJoinedLeaves$Question;") ∈ jW := jC_2 _ (List.mem_of_getElem? (i := 17) rfl)
theorem jm_2_18 : (Jvm.Cond.laysFinal "JoinedLeaves" "JoinedLeaves" "hanging" "LJoinedLeaves$Hanging;") ∈ jW := jC_2 _ (List.mem_of_getElem? (i := 18) rfl)
theorem jm_2_19 : (Jvm.Cond.laysFinal "JoinedLeaves" "JoinedLeaves" "join" "LJoinedLeaves$Join;") ∈ jW := jC_2 _ (List.mem_of_getElem? (i := 19) rfl)
theorem jm_2_20 : (Jvm.Cond.superclass "JoinedLeaves" "java/lang/Object") ∈ jW := jC_2 _ (List.mem_of_getElem? (i := 20) rfl)
theorem jm_2_21 : (Jvm.Cond.methodLink "JoinedLeavesLaw" (37 : Nat) ({ cls := "JoinedLeaves", name := "relation", desc := "(I)I" } : Jvm.MethodName)) ∈ jW := jC_2 _ (List.mem_of_getElem? (i := 21) rfl)
theorem jm_2_22 : (Jvm.Cond.instanceMethod ({ cls := "JoinedLeaves", name := "relation", desc := "(I)I" } : Jvm.MethodName)) ∈ jW := jC_2 _ (List.mem_of_getElem? (i := 22) rfl)
theorem jm_2_23 : (Jvm.Cond.selects "JoinedLeaves" ({ cls := "JoinedLeaves", name := "relation", desc := "(I)I" } : Jvm.MethodName) ({ cls := "JoinedLeaves", name := "relation", desc := "(I)I" } : Jvm.MethodName)) ∈ jW := jC_2 _ (List.mem_of_getElem? (i := 23) rfl)
theorem jm_2_24 : (Jvm.Cond.code ({ cls := "JoinedLeaves", name := "relation", desc := "(I)I" } : Jvm.MethodName) prog_1_method_2_code (2 : Nat) (Option.some Jvm.ClassFile.FieldType.int)) ∈ jW := jC_2 _ (List.mem_of_getElem? (i := 24) rfl)
theorem jm_2_25 : (Jvm.Cond.methodLink "JoinedLeavesLaw" (41 : Nat) ({ cls := "JoinedLeaves", name := "add", desc := "(IIII)Z" } : Jvm.MethodName)) ∈ jW := jC_2 _ (List.mem_of_getElem? (i := 25) rfl)
theorem jm_2_26 : (Jvm.Cond.instanceMethod ({ cls := "JoinedLeaves", name := "add", desc := "(IIII)Z" } : Jvm.MethodName)) ∈ jW := jC_2 _ (List.mem_of_getElem? (i := 26) rfl)
theorem jm_2_27 : (Jvm.Cond.selects "JoinedLeaves" ({ cls := "JoinedLeaves", name := "add", desc := "(IIII)Z" } : Jvm.MethodName) ({ cls := "JoinedLeaves", name := "add", desc := "(IIII)Z" } : Jvm.MethodName)) ∈ jW := jC_2 _ (List.mem_of_getElem? (i := 27) rfl)
theorem jm_2_28 : (Jvm.Cond.code ({ cls := "JoinedLeaves", name := "add", desc := "(IIII)Z" } : Jvm.MethodName) prog_1_method_3_code (5 : Nat) (Option.some Jvm.ClassFile.FieldType.boolean)) ∈ jW := jC_2 _ (List.mem_of_getElem? (i := 28) rfl)
theorem jm_2_29 : (Jvm.Cond.methodLink "JoinedLeaves" (50 : Nat) ({ cls := "JoinedLeaves", name := "isBelow", desc := "(II)Z" } : Jvm.MethodName)) ∈ jW := jC_2 _ (List.mem_of_getElem? (i := 29) rfl)
theorem jm_2_30 : (Jvm.Cond.static ({ cls := "JoinedLeaves", name := "isBelow", desc := "(II)Z" } : Jvm.MethodName)) ∈ jW := jC_2 _ (List.mem_of_getElem? (i := 30) rfl)
theorem jm_2_31 : (Jvm.Cond.code ({ cls := "JoinedLeaves", name := "isBelow", desc := "(II)Z" } : Jvm.MethodName) prog_1_method_18_code (2 : Nat) (Option.some Jvm.ClassFile.FieldType.boolean)) ∈ jW := jC_2 _ (List.mem_of_getElem? (i := 31) rfl)
theorem jm_2_32 : (Jvm.Cond.instanceMethod ({ cls := "JoinedLeaves$Relation", name := "put", desc := "(III)Z" } : Jvm.MethodName)) ∈ jW := jC_2 _ (List.mem_of_getElem? (i := 32) rfl)
theorem jm_2_33 : (Jvm.Cond.code ({ cls := "JoinedLeaves$Relation", name := "put", desc := "(III)Z" } : Jvm.MethodName) prog_6_method_2_code (5 : Nat) (Option.some Jvm.ClassFile.FieldType.boolean)) ∈ jW := jC_2 _ (List.mem_of_getElem? (i := 33) rfl)
theorem jm_2_34 : (Jvm.Cond.methodLink "JoinedLeaves$Relation" (15 : Nat) ({ cls := "JoinedLeaves$Relation", name := "pack", desc := "(III)I" } : Jvm.MethodName)) ∈ jW := jC_2 _ (List.mem_of_getElem? (i := 34) rfl)
theorem jm_2_35 : (Jvm.Cond.instanceMethod ({ cls := "JoinedLeaves$Relation", name := "pack", desc := "(III)I" } : Jvm.MethodName)) ∈ jW := jC_2 _ (List.mem_of_getElem? (i := 35) rfl)
theorem jm_2_36 : (Jvm.Cond.code ({ cls := "JoinedLeaves$Relation", name := "pack", desc := "(III)I" } : Jvm.MethodName) prog_6_method_5_code (6 : Nat) (Option.some Jvm.ClassFile.FieldType.int)) ∈ jW := jC_2 _ (List.mem_of_getElem? (i := 36) rfl)
theorem jm_2_37 : (Jvm.Cond.methodLink "JoinedLeaves$Relation" (23 : Nat) ({ cls := "JoinedLeaves$Relation", name := "placeOf", desc := "(I)I" } : Jvm.MethodName)) ∈ jW := jC_2 _ (List.mem_of_getElem? (i := 37) rfl)
theorem jm_2_38 : (Jvm.Cond.instanceMethod ({ cls := "JoinedLeaves$Relation", name := "placeOf", desc := "(I)I" } : Jvm.MethodName)) ∈ jW := jC_2 _ (List.mem_of_getElem? (i := 38) rfl)
theorem jm_2_39 : (Jvm.Cond.code ({ cls := "JoinedLeaves$Relation", name := "placeOf", desc := "(I)I" } : Jvm.MethodName) prog_6_method_6_code (3 : Nat) (Option.some Jvm.ClassFile.FieldType.int)) ∈ jW := jC_2 _ (List.mem_of_getElem? (i := 39) rfl)
theorem jm_2_40 : (Jvm.Cond.methodLink "JoinedLeavesLaw" (46 : Nat) ({ cls := "JoinedLeaves", name := "drop", desc := "(IIII)Z" } : Jvm.MethodName)) ∈ jW := jC_2 _ (List.mem_of_getElem? (i := 40) rfl)
theorem jm_2_41 : (Jvm.Cond.instanceMethod ({ cls := "JoinedLeaves", name := "drop", desc := "(IIII)Z" } : Jvm.MethodName)) ∈ jW := jC_2 _ (List.mem_of_getElem? (i := 41) rfl)
theorem jm_2_42 : (Jvm.Cond.selects "JoinedLeaves" ({ cls := "JoinedLeaves", name := "drop", desc := "(IIII)Z" } : Jvm.MethodName) ({ cls := "JoinedLeaves", name := "drop", desc := "(IIII)Z" } : Jvm.MethodName)) ∈ jW := jC_2 _ (List.mem_of_getElem? (i := 42) rfl)
theorem jm_2_43 : (Jvm.Cond.code ({ cls := "JoinedLeaves", name := "drop", desc := "(IIII)Z" } : Jvm.MethodName) prog_1_method_4_code (5 : Nat) (Option.some Jvm.ClassFile.FieldType.boolean)) ∈ jW := jC_2 _ (List.mem_of_getElem? (i := 43) rfl)
theorem jm_2_44 : (Jvm.Cond.instanceMethod ({ cls := "JoinedLeaves$Relation", name := "take", desc := "(III)Z" } : Jvm.MethodName)) ∈ jW := jC_2 _ (List.mem_of_getElem? (i := 44) rfl)
theorem jm_2_45 : (Jvm.Cond.code ({ cls := "JoinedLeaves$Relation", name := "take", desc := "(III)Z" } : Jvm.MethodName) prog_6_method_3_code (5 : Nat) (Option.some Jvm.ClassFile.FieldType.boolean)) ∈ jW := jC_2 _ (List.mem_of_getElem? (i := 45) rfl)
theorem jm_2_46 : (Jvm.Cond.methodLink "JoinedLeavesLaw" (50 : Nat) ({ cls := "JoinedLeaves", name := "rows", desc := "(I)I" } : Jvm.MethodName)) ∈ jW := jC_2 _ (List.mem_of_getElem? (i := 46) rfl)
theorem jm_2_47 : (Jvm.Cond.instanceMethod ({ cls := "JoinedLeaves", name := "rows", desc := "(I)I" } : Jvm.MethodName)) ∈ jW := jC_2 _ (List.mem_of_getElem? (i := 47) rfl)
theorem jm_3_0 : (Jvm.Cond.selects "JoinedLeaves" ({ cls := "JoinedLeaves", name := "rows", desc := "(I)I" } : Jvm.MethodName) ({ cls := "JoinedLeaves", name := "rows", desc := "(I)I" } : Jvm.MethodName)) ∈ jW := jC_3 _ (List.mem_of_getElem? (i := 0) rfl)
theorem jm_3_1 : (Jvm.Cond.code ({ cls := "JoinedLeaves", name := "rows", desc := "(I)I" } : Jvm.MethodName) prog_1_method_5_code (2 : Nat) (Option.some Jvm.ClassFile.FieldType.int)) ∈ jW := jC_3 _ (List.mem_of_getElem? (i := 1) rfl)
theorem jm_3_2 : (Jvm.Cond.methodLink "JoinedLeavesLaw" (54 : Nat) ({ cls := "JoinedLeaves", name := "atom", desc := "(IIII)I" } : Jvm.MethodName)) ∈ jW := jC_3 _ (List.mem_of_getElem? (i := 2) rfl)
theorem jm_3_3 : (Jvm.Cond.instanceMethod ({ cls := "JoinedLeaves", name := "atom", desc := "(IIII)I" } : Jvm.MethodName)) ∈ jW := jC_3 _ (List.mem_of_getElem? (i := 3) rfl)
theorem jm_3_4 : (Jvm.Cond.selects "JoinedLeaves" ({ cls := "JoinedLeaves", name := "atom", desc := "(IIII)I" } : Jvm.MethodName) ({ cls := "JoinedLeaves", name := "atom", desc := "(IIII)I" } : Jvm.MethodName)) ∈ jW := jC_3 _ (List.mem_of_getElem? (i := 4) rfl)
theorem jm_3_5 : (Jvm.Cond.code ({ cls := "JoinedLeaves", name := "atom", desc := "(IIII)I" } : Jvm.MethodName) prog_1_method_6_code (5 : Nat) (Option.some Jvm.ClassFile.FieldType.int)) ∈ jW := jC_3 _ (List.mem_of_getElem? (i := 5) rfl)
theorem jm_3_6 : (Jvm.Cond.instanceMethod ({ cls := "JoinedLeaves$Question", name := "putAtom", desc := "(LJoinedLeaves$Relation;III)Z" } : Jvm.MethodName)) ∈ jW := jC_3 _ (List.mem_of_getElem? (i := 6) rfl)
theorem jm_3_7 : (Jvm.Cond.code ({ cls := "JoinedLeaves$Question", name := "putAtom", desc := "(LJoinedLeaves$Relation;III)Z" } : Jvm.MethodName) prog_5_method_2_code (5 : Nat) (Option.some Jvm.ClassFile.FieldType.boolean)) ∈ jW := jC_3 _ (List.mem_of_getElem? (i := 7) rfl)
theorem jm_3_8 : (Jvm.Cond.instanceMethod ({ cls := "JoinedLeaves$Atom", name := "bind", desc := "(LJoinedLeaves$Relation;III)Z" } : Jvm.MethodName)) ∈ jW := jC_3 _ (List.mem_of_getElem? (i := 8) rfl)
theorem jm_3_9 : (Jvm.Cond.code ({ cls := "JoinedLeaves$Atom", name := "bind", desc := "(LJoinedLeaves$Relation;III)Z" } : Jvm.MethodName) prog_2_method_2_code (7 : Nat) (Option.some Jvm.ClassFile.FieldType.boolean)) ∈ jW := jC_3 _ (List.mem_of_getElem? (i := 9) rfl)
theorem jm_3_10 : (Jvm.Cond.instanceMethod ({ cls := "JoinedLeaves$Hanging", name := "hangAtoms", desc := "()V" } : Jvm.MethodName)) ∈ jW := jC_3 _ (List.mem_of_getElem? (i := 10) rfl)
theorem jm_3_11 : (Jvm.Cond.code ({ cls := "JoinedLeaves$Hanging", name := "hangAtoms", desc := "()V" } : Jvm.MethodName) prog_3_method_4_code (2 : Nat) (Option.none : Option Jvm.ClassFile.FieldType)) ∈ jW := jC_3 _ (List.mem_of_getElem? (i := 11) rfl)
theorem jm_3_12 : (Jvm.Cond.methodLink "JoinedLeaves$Hanging" (41 : Nat) ({ cls := "JoinedLeaves$Hanging", name := "hangLeastEar", desc := "()V" } : Jvm.MethodName)) ∈ jW := jC_3 _ (List.mem_of_getElem? (i := 12) rfl)
theorem jm_3_13 : (Jvm.Cond.instanceMethod ({ cls := "JoinedLeaves$Hanging", name := "hangLeastEar", desc := "()V" } : Jvm.MethodName)) ∈ jW := jC_3 _ (List.mem_of_getElem? (i := 13) rfl)
theorem jm_3_14 : (Jvm.Cond.code ({ cls := "JoinedLeaves$Hanging", name := "hangLeastEar", desc := "()V" } : Jvm.MethodName) prog_3_method_5_code (3 : Nat) (Option.none : Option Jvm.ClassFile.FieldType)) ∈ jW := jC_3 _ (List.mem_of_getElem? (i := 14) rfl)
theorem jm_3_15 : (Jvm.Cond.methodLink "JoinedLeaves$Hanging" (44 : Nat) ({ cls := "JoinedLeaves$Hanging", name := "leastHolderOf", desc := "(I)I" } : Jvm.MethodName)) ∈ jW := jC_3 _ (List.mem_of_getElem? (i := 15) rfl)
theorem jm_3_16 : (Jvm.Cond.instanceMethod ({ cls := "JoinedLeaves$Hanging", name := "leastHolderOf", desc := "(I)I" } : Jvm.MethodName)) ∈ jW := jC_3 _ (List.mem_of_getElem? (i := 16) rfl)
theorem jm_3_17 : (Jvm.Cond.code ({ cls := "JoinedLeaves$Hanging", name := "leastHolderOf", desc := "(I)I" } : Jvm.MethodName) prog_3_method_6_code (5 : Nat) (Option.some Jvm.ClassFile.FieldType.int)) ∈ jW := jC_3 _ (List.mem_of_getElem? (i := 17) rfl)
theorem jm_3_18 : (Jvm.Cond.static ({ cls := "JoinedLeaves", name := "isIn", desc := "(II)Z" } : Jvm.MethodName)) ∈ jW := jC_3 _ (List.mem_of_getElem? (i := 18) rfl)
theorem jm_3_19 : (Jvm.Cond.code ({ cls := "JoinedLeaves", name := "isIn", desc := "(II)Z" } : Jvm.MethodName) prog_1_method_19_code (2 : Nat) (Option.some Jvm.ClassFile.FieldType.boolean)) ∈ jW := jC_3 _ (List.mem_of_getElem? (i := 19) rfl)
theorem jm_3_20 : (Jvm.Cond.methodLink "JoinedLeaves$Hanging" (57 : Nat) ({ cls := "JoinedLeaves$Hanging", name := "variablesOf", desc := "(I)I" } : Jvm.MethodName)) ∈ jW := jC_3 _ (List.mem_of_getElem? (i := 20) rfl)
theorem jm_3_21 : (Jvm.Cond.instanceMethod ({ cls := "JoinedLeaves$Hanging", name := "variablesOf", desc := "(I)I" } : Jvm.MethodName)) ∈ jW := jC_3 _ (List.mem_of_getElem? (i := 21) rfl)
theorem jm_3_22 : (Jvm.Cond.code ({ cls := "JoinedLeaves$Hanging", name := "variablesOf", desc := "(I)I" } : Jvm.MethodName) prog_3_method_7_code (4 : Nat) (Option.some Jvm.ClassFile.FieldType.int)) ∈ jW := jC_3 _ (List.mem_of_getElem? (i := 22) rfl)
theorem jm_3_23 : (Jvm.Cond.methodLink "JoinedLeavesLaw" (59 : Nat) ({ cls := "JoinedLeaves", name := "head", desc := "(I)I" } : Jvm.MethodName)) ∈ jW := jC_3 _ (List.mem_of_getElem? (i := 23) rfl)
theorem jm_3_24 : (Jvm.Cond.instanceMethod ({ cls := "JoinedLeaves", name := "head", desc := "(I)I" } : Jvm.MethodName)) ∈ jW := jC_3 _ (List.mem_of_getElem? (i := 24) rfl)
theorem jm_3_25 : (Jvm.Cond.selects "JoinedLeaves" ({ cls := "JoinedLeaves", name := "head", desc := "(I)I" } : Jvm.MethodName) ({ cls := "JoinedLeaves", name := "head", desc := "(I)I" } : Jvm.MethodName)) ∈ jW := jC_3 _ (List.mem_of_getElem? (i := 25) rfl)
theorem jm_3_26 : (Jvm.Cond.code ({ cls := "JoinedLeaves", name := "head", desc := "(I)I" } : Jvm.MethodName) prog_1_method_7_code (2 : Nat) (Option.some Jvm.ClassFile.FieldType.int)) ∈ jW := jC_3 _ (List.mem_of_getElem? (i := 26) rfl)
theorem jm_3_27 : (Jvm.Cond.instanceMethod ({ cls := "JoinedLeaves$Question", name := "putInHead", desc := "(I)Z" } : Jvm.MethodName)) ∈ jW := jC_3 _ (List.mem_of_getElem? (i := 27) rfl)
theorem jm_3_28 : (Jvm.Cond.code ({ cls := "JoinedLeaves$Question", name := "putInHead", desc := "(I)Z" } : Jvm.MethodName) prog_5_method_3_code (2 : Nat) (Option.some Jvm.ClassFile.FieldType.boolean)) ∈ jW := jC_3 _ (List.mem_of_getElem? (i := 28) rfl)
theorem jm_3_29 : (Jvm.Cond.methodLink "JoinedLeavesLaw" (63 : Nat) ({ cls := "JoinedLeaves", name := "clear", desc := "()I" } : Jvm.MethodName)) ∈ jW := jC_3 _ (List.mem_of_getElem? (i := 29) rfl)
theorem jm_3_30 : (Jvm.Cond.instanceMethod ({ cls := "JoinedLeaves", name := "clear", desc := "()I" } : Jvm.MethodName)) ∈ jW := jC_3 _ (List.mem_of_getElem? (i := 30) rfl)
theorem jm_3_31 : (Jvm.Cond.selects "JoinedLeaves" ({ cls := "JoinedLeaves", name := "clear", desc := "()I" } : Jvm.MethodName) ({ cls := "JoinedLeaves", name := "clear", desc := "()I" } : Jvm.MethodName)) ∈ jW := jC_3 _ (List.mem_of_getElem? (i := 31) rfl)
theorem jm_3_32 : (Jvm.Cond.code ({ cls := "JoinedLeaves", name := "clear", desc := "()I" } : Jvm.MethodName) prog_1_method_8_code (2 : Nat) (Option.some Jvm.ClassFile.FieldType.int)) ∈ jW := jC_3 _ (List.mem_of_getElem? (i := 32) rfl)
theorem jm_3_33 : (Jvm.Cond.instanceMethod ({ cls := "JoinedLeaves$Question", name := "empty", desc := "()V" } : Jvm.MethodName)) ∈ jW := jC_3 _ (List.mem_of_getElem? (i := 33) rfl)
theorem jm_3_34 : (Jvm.Cond.code ({ cls := "JoinedLeaves$Question", name := "empty", desc := "()V" } : Jvm.MethodName) prog_5_method_4_code (1 : Nat) (Option.none : Option Jvm.ClassFile.FieldType)) ∈ jW := jC_3 _ (List.mem_of_getElem? (i := 34) rfl)
theorem jm_3_35 : (Jvm.Cond.methodLink "JoinedLeavesLaw" (67 : Nat) ({ cls := "JoinedLeaves", name := "tree", desc := "()Z" } : Jvm.MethodName)) ∈ jW := jC_3 _ (List.mem_of_getElem? (i := 35) rfl)
theorem jm_3_36 : (Jvm.Cond.instanceMethod ({ cls := "JoinedLeaves", name := "tree", desc := "()Z" } : Jvm.MethodName)) ∈ jW := jC_3 _ (List.mem_of_getElem? (i := 36) rfl)
theorem jm_3_37 : (Jvm.Cond.selects "JoinedLeaves" ({ cls := "JoinedLeaves", name := "tree", desc := "()Z" } : Jvm.MethodName) ({ cls := "JoinedLeaves", name := "tree", desc := "()Z" } : Jvm.MethodName)) ∈ jW := jC_3 _ (List.mem_of_getElem? (i := 37) rfl)
theorem jm_3_38 : (Jvm.Cond.code ({ cls := "JoinedLeaves", name := "tree", desc := "()Z" } : Jvm.MethodName) prog_1_method_9_code (1 : Nat) (Option.some Jvm.ClassFile.FieldType.boolean)) ∈ jW := jC_3 _ (List.mem_of_getElem? (i := 38) rfl)
theorem jm_3_39 : (Jvm.Cond.instanceMethod ({ cls := "JoinedLeaves$Hanging", name := "isTree", desc := "()Z" } : Jvm.MethodName)) ∈ jW := jC_3 _ (List.mem_of_getElem? (i := 39) rfl)
theorem jm_3_40 : (Jvm.Cond.code ({ cls := "JoinedLeaves$Hanging", name := "isTree", desc := "()Z" } : Jvm.MethodName) prog_3_method_2_code (1 : Nat) (Option.some Jvm.ClassFile.FieldType.boolean)) ∈ jW := jC_3 _ (List.mem_of_getElem? (i := 40) rfl)
theorem jm_3_41 : (Jvm.Cond.methodLink "JoinedLeavesLaw" (72 : Nat) ({ cls := "JoinedLeaves", name := "parent", desc := "(I)I" } : Jvm.MethodName)) ∈ jW := jC_3 _ (List.mem_of_getElem? (i := 41) rfl)
theorem jm_3_42 : (Jvm.Cond.instanceMethod ({ cls := "JoinedLeaves", name := "parent", desc := "(I)I" } : Jvm.MethodName)) ∈ jW := jC_3 _ (List.mem_of_getElem? (i := 42) rfl)
theorem jm_3_43 : (Jvm.Cond.selects "JoinedLeaves" ({ cls := "JoinedLeaves", name := "parent", desc := "(I)I" } : Jvm.MethodName) ({ cls := "JoinedLeaves", name := "parent", desc := "(I)I" } : Jvm.MethodName)) ∈ jW := jC_3 _ (List.mem_of_getElem? (i := 43) rfl)
theorem jm_3_44 : (Jvm.Cond.code ({ cls := "JoinedLeaves", name := "parent", desc := "(I)I" } : Jvm.MethodName) prog_1_method_10_code (2 : Nat) (Option.some Jvm.ClassFile.FieldType.int)) ∈ jW := jC_3 _ (List.mem_of_getElem? (i := 44) rfl)
theorem jm_3_45 : (Jvm.Cond.methodLink "JoinedLeavesLaw" (76 : Nat) ({ cls := "JoinedLeaves", name := "turn", desc := "(I)I" } : Jvm.MethodName)) ∈ jW := jC_3 _ (List.mem_of_getElem? (i := 45) rfl)
theorem jm_3_46 : (Jvm.Cond.instanceMethod ({ cls := "JoinedLeaves", name := "turn", desc := "(I)I" } : Jvm.MethodName)) ∈ jW := jC_3 _ (List.mem_of_getElem? (i := 46) rfl)
theorem jm_3_47 : (Jvm.Cond.selects "JoinedLeaves" ({ cls := "JoinedLeaves", name := "turn", desc := "(I)I" } : Jvm.MethodName) ({ cls := "JoinedLeaves", name := "turn", desc := "(I)I" } : Jvm.MethodName)) ∈ jW := jC_3 _ (List.mem_of_getElem? (i := 47) rfl)
theorem jm_4_0 : (Jvm.Cond.code ({ cls := "JoinedLeaves", name := "turn", desc := "(I)I" } : Jvm.MethodName) prog_1_method_11_code (2 : Nat) (Option.some Jvm.ClassFile.FieldType.int)) ∈ jW := jC_4 _ (List.mem_of_getElem? (i := 0) rfl)
theorem jm_4_1 : (Jvm.Cond.methodLink "JoinedLeavesLaw" (80 : Nat) ({ cls := "JoinedLeavesLaw", name := "ways", desc := "(LJoinedLeaves;[J)I" } : Jvm.MethodName)) ∈ jW := jC_4 _ (List.mem_of_getElem? (i := 1) rfl)
theorem jm_4_2 : (Jvm.Cond.static ({ cls := "JoinedLeavesLaw", name := "ways", desc := "(LJoinedLeaves;[J)I" } : Jvm.MethodName)) ∈ jW := jC_4 _ (List.mem_of_getElem? (i := 2) rfl)
theorem jm_4_3 : (Jvm.Cond.classLink "JoinedLeavesLaw" (13 : Nat) "java/lang/IllegalStateException") ∈ jW := jC_4 _ (List.mem_of_getElem? (i := 3) rfl)
theorem jm_4_4 : (Jvm.Cond.methodLink "JoinedLeavesLaw" (7 : Nat) ({ cls := "JoinedLeaves", name := "ways", desc := "()J" } : Jvm.MethodName)) ∈ jW := jC_4 _ (List.mem_of_getElem? (i := 4) rfl)
theorem jm_4_5 : (Jvm.Cond.instanceMethod ({ cls := "JoinedLeaves", name := "ways", desc := "()J" } : Jvm.MethodName)) ∈ jW := jC_4 _ (List.mem_of_getElem? (i := 5) rfl)
theorem jm_4_6 : (Jvm.Cond.selects "JoinedLeaves" ({ cls := "JoinedLeaves", name := "ways", desc := "()J" } : Jvm.MethodName) ({ cls := "JoinedLeaves", name := "ways", desc := "()J" } : Jvm.MethodName)) ∈ jW := jC_4 _ (List.mem_of_getElem? (i := 6) rfl)
theorem jm_4_7 : (Jvm.Cond.code ({ cls := "JoinedLeaves", name := "ways", desc := "()J" } : Jvm.MethodName) prog_1_method_12_code (1 : Nat) (Option.some Jvm.ClassFile.FieldType.long)) ∈ jW := jC_4 _ (List.mem_of_getElem? (i := 7) rfl)
theorem jm_4_8 : (Jvm.Cond.methodLink "JoinedLeaves" (95 : Nat) ({ cls := "JoinedLeaves", name := "requireTree", desc := "()V" } : Jvm.MethodName)) ∈ jW := jC_4 _ (List.mem_of_getElem? (i := 8) rfl)
theorem jm_4_9 : (Jvm.Cond.instanceMethod ({ cls := "JoinedLeaves", name := "requireTree", desc := "()V" } : Jvm.MethodName)) ∈ jW := jC_4 _ (List.mem_of_getElem? (i := 9) rfl)
theorem jm_4_10 : (Jvm.Cond.code ({ cls := "JoinedLeaves", name := "requireTree", desc := "()V" } : Jvm.MethodName) prog_1_method_17_code (1 : Nat) (Option.none : Option Jvm.ClassFile.FieldType)) ∈ jW := jC_4 _ (List.mem_of_getElem? (i := 10) rfl)
theorem jm_4_11 : (Jvm.Cond.classLink "JoinedLeaves" (141 : Nat) "java/lang/IllegalStateException") ∈ jW := jC_4 _ (List.mem_of_getElem? (i := 11) rfl)
theorem jm_4_12 : (Jvm.Cond.instantiable "java/lang/IllegalStateException" (6 : Nat)) ∈ jW := jC_4 _ (List.mem_of_getElem? (i := 12) rfl)
theorem jm_4_13 : (Jvm.Cond.selects "java/lang/IllegalStateException" ({ cls := "java/lang/Throwable", name := "fillInStackTrace", desc := "(I)Ljava/lang/Throwable;" } : Jvm.MethodName) ({ cls := "java/lang/Throwable", name := "fillInStackTrace", desc := "(I)Ljava/lang/Throwable;" } : Jvm.MethodName)) ∈ jW := jC_4 _ (List.mem_of_getElem? (i := 13) rfl)
theorem jm_4_14 : (Jvm.Cond.selects "java/lang/IllegalStateException" ({ cls := "java/lang/Throwable", name := "fillInStackTrace", desc := "()Ljava/lang/Throwable;" } : Jvm.MethodName) ({ cls := "java/lang/Throwable", name := "fillInStackTrace", desc := "()Ljava/lang/Throwable;" } : Jvm.MethodName)) ∈ jW := jC_4 _ (List.mem_of_getElem? (i := 14) rfl)
theorem jm_4_15 : (Jvm.Cond.lays "java/lang/IllegalStateException" "java/lang/Throwable" "cause" "Ljava/lang/Throwable;") ∈ jW := jC_4 _ (List.mem_of_getElem? (i := 15) rfl)
theorem jm_4_16 : (Jvm.Cond.lays "java/lang/Throwable" "java/lang/Throwable" "cause" "Ljava/lang/Throwable;") ∈ jW := jC_4 _ (List.mem_of_getElem? (i := 16) rfl)
theorem jm_4_17 : (Jvm.Cond.lays "java/lang/IllegalStateException" "java/lang/Throwable" "stackTrace" "[Ljava/lang/StackTraceElement;") ∈ jW := jC_4 _ (List.mem_of_getElem? (i := 17) rfl)
theorem jm_4_18 : (Jvm.Cond.lays "java/lang/Throwable" "java/lang/Throwable" "stackTrace" "[Ljava/lang/StackTraceElement;") ∈ jW := jC_4 _ (List.mem_of_getElem? (i := 18) rfl)
theorem jm_4_19 : (Jvm.Cond.lays "java/lang/IllegalStateException" "java/lang/Throwable" "suppressedExceptions" "Ljava/util/List;") ∈ jW := jC_4 _ (List.mem_of_getElem? (i := 19) rfl)
theorem jm_4_20 : (Jvm.Cond.lays "java/lang/Throwable" "java/lang/Throwable" "suppressedExceptions" "Ljava/util/List;") ∈ jW := jC_4 _ (List.mem_of_getElem? (i := 20) rfl)
theorem jm_4_21 : (Jvm.Cond.lays "java/lang/IllegalStateException" "java/lang/Throwable" "detailMessage" "Ljava/lang/String;") ∈ jW := jC_4 _ (List.mem_of_getElem? (i := 21) rfl)
theorem jm_4_22 : (Jvm.Cond.lays "java/lang/Throwable" "java/lang/Throwable" "detailMessage" "Ljava/lang/String;") ∈ jW := jC_4 _ (List.mem_of_getElem? (i := 22) rfl)
theorem jm_4_23 : (Jvm.Cond.lays "java/lang/IllegalStateException" "java/lang/Throwable" "backtrace" "Ljava/lang/Object;") ∈ jW := jC_4 _ (List.mem_of_getElem? (i := 23) rfl)
theorem jm_4_24 : (Jvm.Cond.lays "java/lang/Throwable" "java/lang/Throwable" "backtrace" "Ljava/lang/Object;") ∈ jW := jC_4 _ (List.mem_of_getElem? (i := 24) rfl)
theorem jm_4_25 : (Jvm.Cond.fieldLink "java/lang/Throwable" (198 : Nat) "java/lang/Throwable" "backtrace" "Ljava/lang/Object;") ∈ jW := jC_4 _ (List.mem_of_getElem? (i := 25) rfl)
theorem jm_4_26 : (Jvm.Cond.superclass "java/lang/Throwable" "java/lang/Object") ∈ jW := jC_4 _ (List.mem_of_getElem? (i := 26) rfl)
theorem jm_4_27 : (Jvm.Cond.instanceMethod ({ cls := "java/lang/Throwable", name := "<init>", desc := "()V" } : Jvm.MethodName)) ∈ jW := jC_4 _ (List.mem_of_getElem? (i := 27) rfl)
theorem jm_4_28 : (Jvm.Cond.code ({ cls := "java/lang/Throwable", name := "<init>", desc := "()V" } : Jvm.MethodName) prog_16_method_1_code (1 : Nat) (Option.none : Option Jvm.ClassFile.FieldType)) ∈ jW := jC_4 _ (List.mem_of_getElem? (i := 28) rfl)
theorem jm_4_29 : (Jvm.Cond.methodLink "java/lang/Throwable" (1 : Nat) ({ cls := "java/lang/Object", name := "<init>", desc := "()V" } : Jvm.MethodName)) ∈ jW := jC_4 _ (List.mem_of_getElem? (i := 29) rfl)
theorem jm_4_30 : (Jvm.Cond.fieldLink "java/lang/Throwable" (13 : Nat) "java/lang/Throwable" "UNASSIGNED_STACK" "[Ljava/lang/StackTraceElement;") ∈ jW := jC_4 _ (List.mem_of_getElem? (i := 30) rfl)
theorem jm_4_31 : (Jvm.Cond.fieldLink "java/lang/Throwable" (20 : Nat) "java/lang/Throwable" "SUPPRESSED_SENTINEL" "Ljava/util/List;") ∈ jW := jC_4 _ (List.mem_of_getElem? (i := 31) rfl)
theorem jm_4_32 : (Jvm.Cond.methodLink "java/lang/Throwable" (27 : Nat) ({ cls := "java/lang/Throwable", name := "fillInStackTrace", desc := "()Ljava/lang/Throwable;" } : Jvm.MethodName)) ∈ jW := jC_4 _ (List.mem_of_getElem? (i := 32) rfl)
theorem jm_4_33 : (Jvm.Cond.instanceMethod ({ cls := "java/lang/Throwable", name := "fillInStackTrace", desc := "()Ljava/lang/Throwable;" } : Jvm.MethodName)) ∈ jW := jC_4 _ (List.mem_of_getElem? (i := 33) rfl)
theorem jm_4_34 : (Jvm.Cond.selects "java/lang/IllegalArgumentException" ({ cls := "java/lang/Throwable", name := "fillInStackTrace", desc := "()Ljava/lang/Throwable;" } : Jvm.MethodName) ({ cls := "java/lang/Throwable", name := "fillInStackTrace", desc := "()Ljava/lang/Throwable;" } : Jvm.MethodName)) ∈ jW := jC_4 _ (List.mem_of_getElem? (i := 34) rfl)
theorem jm_4_35 : (Jvm.Cond.selects "java/lang/IndexOutOfBoundsException" ({ cls := "java/lang/Throwable", name := "fillInStackTrace", desc := "()Ljava/lang/Throwable;" } : Jvm.MethodName) ({ cls := "java/lang/Throwable", name := "fillInStackTrace", desc := "()Ljava/lang/Throwable;" } : Jvm.MethodName)) ∈ jW := jC_4 _ (List.mem_of_getElem? (i := 35) rfl)
theorem jm_4_36 : (Jvm.Cond.selects "java/lang/UnsupportedOperationException" ({ cls := "java/lang/Throwable", name := "fillInStackTrace", desc := "()Ljava/lang/Throwable;" } : Jvm.MethodName) ({ cls := "java/lang/Throwable", name := "fillInStackTrace", desc := "()Ljava/lang/Throwable;" } : Jvm.MethodName)) ∈ jW := jC_4 _ (List.mem_of_getElem? (i := 36) rfl)
theorem jm_4_37 : (Jvm.Cond.codeSync ({ cls := "java/lang/Throwable", name := "fillInStackTrace", desc := "()Ljava/lang/Throwable;" } : Jvm.MethodName) prog_16_method_18_code (1 : Nat) (Option.some (Jvm.ClassFile.FieldType.object "java/lang/Throwable"))) ∈ jW := jC_4 _ (List.mem_of_getElem? (i := 37) rfl)
theorem jm_4_38 : (Jvm.Cond.methodLink "java/lang/Throwable" (202 : Nat) ({ cls := "java/lang/Throwable", name := "fillInStackTrace", desc := "(I)Ljava/lang/Throwable;" } : Jvm.MethodName)) ∈ jW := jC_4 _ (List.mem_of_getElem? (i := 38) rfl)
theorem jm_4_39 : (Jvm.Cond.instanceMethod ({ cls := "java/lang/Throwable", name := "fillInStackTrace", desc := "(I)Ljava/lang/Throwable;" } : Jvm.MethodName)) ∈ jW := jC_4 _ (List.mem_of_getElem? (i := 39) rfl)
theorem jm_4_40 : (Jvm.Cond.instantiable "java/lang/Throwable" (6 : Nat)) ∈ jW := jC_4 _ (List.mem_of_getElem? (i := 40) rfl)
theorem jm_4_41 : (Jvm.Cond.native ({ cls := "java/lang/Throwable", name := "fillInStackTrace", desc := "(I)Ljava/lang/Throwable;" } : Jvm.MethodName)) ∈ jW := jC_4 _ (List.mem_of_getElem? (i := 41) rfl)
theorem jm_4_42 : (Jvm.Cond.methodLink "JoinedLeaves" (145 : Nat) ({ cls := "java/lang/IllegalStateException", name := "<init>", desc := "(Ljava/lang/String;)V" } : Jvm.MethodName)) ∈ jW := jC_4 _ (List.mem_of_getElem? (i := 42) rfl)
theorem jm_4_43 : (Jvm.Cond.instanceMethod ({ cls := "java/lang/IllegalStateException", name := "<init>", desc := "(Ljava/lang/String;)V" } : Jvm.MethodName)) ∈ jW := jC_4 _ (List.mem_of_getElem? (i := 43) rfl)
theorem jm_4_44 : (Jvm.Cond.code ({ cls := "java/lang/IllegalStateException", name := "<init>", desc := "(Ljava/lang/String;)V" } : Jvm.MethodName) prog_11_method_2_code (2 : Nat) (Option.none : Option Jvm.ClassFile.FieldType)) ∈ jW := jC_4 _ (List.mem_of_getElem? (i := 44) rfl)
theorem jm_4_45 : (Jvm.Cond.methodLink "java/lang/IllegalStateException" (7 : Nat) ({ cls := "java/lang/RuntimeException", name := "<init>", desc := "(Ljava/lang/String;)V" } : Jvm.MethodName)) ∈ jW := jC_4 _ (List.mem_of_getElem? (i := 45) rfl)
theorem jm_4_46 : (Jvm.Cond.instanceMethod ({ cls := "java/lang/RuntimeException", name := "<init>", desc := "(Ljava/lang/String;)V" } : Jvm.MethodName)) ∈ jW := jC_4 _ (List.mem_of_getElem? (i := 46) rfl)
theorem jm_4_47 : (Jvm.Cond.code ({ cls := "java/lang/RuntimeException", name := "<init>", desc := "(Ljava/lang/String;)V" } : Jvm.MethodName) prog_14_method_2_code (2 : Nat) (Option.none : Option Jvm.ClassFile.FieldType)) ∈ jW := jC_4 _ (List.mem_of_getElem? (i := 47) rfl)
theorem jm_5_0 : (Jvm.Cond.methodLink "java/lang/RuntimeException" (7 : Nat) ({ cls := "java/lang/Exception", name := "<init>", desc := "(Ljava/lang/String;)V" } : Jvm.MethodName)) ∈ jW := jC_5 _ (List.mem_of_getElem? (i := 0) rfl)
theorem jm_5_1 : (Jvm.Cond.instanceMethod ({ cls := "java/lang/Exception", name := "<init>", desc := "(Ljava/lang/String;)V" } : Jvm.MethodName)) ∈ jW := jC_5 _ (List.mem_of_getElem? (i := 1) rfl)
theorem jm_5_2 : (Jvm.Cond.code ({ cls := "java/lang/Exception", name := "<init>", desc := "(Ljava/lang/String;)V" } : Jvm.MethodName) prog_9_method_2_code (2 : Nat) (Option.none : Option Jvm.ClassFile.FieldType)) ∈ jW := jC_5 _ (List.mem_of_getElem? (i := 2) rfl)
theorem jm_5_3 : (Jvm.Cond.methodLink "java/lang/Exception" (7 : Nat) ({ cls := "java/lang/Throwable", name := "<init>", desc := "(Ljava/lang/String;)V" } : Jvm.MethodName)) ∈ jW := jC_5 _ (List.mem_of_getElem? (i := 3) rfl)
theorem jm_5_4 : (Jvm.Cond.instanceMethod ({ cls := "java/lang/Throwable", name := "<init>", desc := "(Ljava/lang/String;)V" } : Jvm.MethodName)) ∈ jW := jC_5 _ (List.mem_of_getElem? (i := 4) rfl)
theorem jm_5_5 : (Jvm.Cond.code ({ cls := "java/lang/Throwable", name := "<init>", desc := "(Ljava/lang/String;)V" } : Jvm.MethodName) prog_16_method_2_code (2 : Nat) (Option.none : Option Jvm.ClassFile.FieldType)) ∈ jW := jC_5 _ (List.mem_of_getElem? (i := 5) rfl)
theorem jm_5_6 : (Jvm.Cond.fieldLink "java/lang/Throwable" (31 : Nat) "java/lang/Throwable" "detailMessage" "Ljava/lang/String;") ∈ jW := jC_5 _ (List.mem_of_getElem? (i := 6) rfl)
theorem jm_5_7 : (Jvm.Cond.fieldLink "java/lang/Throwable" (7 : Nat) "java/lang/Throwable" "cause" "Ljava/lang/Throwable;") ∈ jW := jC_5 _ (List.mem_of_getElem? (i := 7) rfl)
theorem jm_5_8 : (Jvm.Cond.fieldLink "java/lang/Throwable" (17 : Nat) "java/lang/Throwable" "stackTrace" "[Ljava/lang/StackTraceElement;") ∈ jW := jC_5 _ (List.mem_of_getElem? (i := 8) rfl)
theorem jm_5_9 : (Jvm.Cond.fieldLink "java/lang/Throwable" (24 : Nat) "java/lang/Throwable" "suppressedExceptions" "Ljava/util/List;") ∈ jW := jC_5 _ (List.mem_of_getElem? (i := 9) rfl)
theorem jm_5_10 : (Jvm.Cond.lays "java/lang/IllegalStateException" "java/lang/Throwable" "depth" "I") ∈ jW := jC_5 _ (List.mem_of_getElem? (i := 10) rfl)
theorem jm_5_11 : (Jvm.Cond.superclass "java/lang/IllegalStateException" "java/lang/RuntimeException") ∈ jW := jC_5 _ (List.mem_of_getElem? (i := 11) rfl)
theorem jm_5_12 : (Jvm.Cond.arrayClass Jvm.ClassFile.FieldType.byte) ∈ jW := jC_5 _ (List.mem_of_getElem? (i := 12) rfl)
theorem jm_5_13 : (Jvm.Cond.instanceMethod ({ cls := "JoinedLeaves$Join", name := "countWays", desc := "()J" } : Jvm.MethodName)) ∈ jW := jC_5 _ (List.mem_of_getElem? (i := 13) rfl)
theorem jm_5_14 : (Jvm.Cond.code ({ cls := "JoinedLeaves$Join", name := "countWays", desc := "()J" } : Jvm.MethodName) prog_4_method_3_code (3 : Nat) (Option.some Jvm.ClassFile.FieldType.long)) ∈ jW := jC_5 _ (List.mem_of_getElem? (i := 14) rfl)
theorem jm_5_15 : (Jvm.Cond.instanceMethod ({ cls := "JoinedLeaves$Hanging", name := "root", desc := "()I" } : Jvm.MethodName)) ∈ jW := jC_5 _ (List.mem_of_getElem? (i := 15) rfl)
theorem jm_5_16 : (Jvm.Cond.code ({ cls := "JoinedLeaves$Hanging", name := "root", desc := "()I" } : Jvm.MethodName) prog_3_method_3_code (2 : Nat) (Option.some Jvm.ClassFile.FieldType.int)) ∈ jW := jC_5 _ (List.mem_of_getElem? (i := 16) rfl)
theorem jm_5_17 : (Jvm.Cond.methodLink "JoinedLeaves$Join" (36 : Nat) ({ cls := "JoinedLeaves$Join", name := "compareRows", desc := "()V" } : Jvm.MethodName)) ∈ jW := jC_5 _ (List.mem_of_getElem? (i := 17) rfl)
theorem jm_5_18 : (Jvm.Cond.instanceMethod ({ cls := "JoinedLeaves$Join", name := "compareRows", desc := "()V" } : Jvm.MethodName)) ∈ jW := jC_5 _ (List.mem_of_getElem? (i := 18) rfl)
theorem jm_5_19 : (Jvm.Cond.code ({ cls := "JoinedLeaves$Join", name := "compareRows", desc := "()V" } : Jvm.MethodName) prog_4_method_6_code (5 : Nat) (Option.none : Option Jvm.ClassFile.FieldType)) ∈ jW := jC_5 _ (List.mem_of_getElem? (i := 19) rfl)
theorem jm_5_20 : (Jvm.Cond.instanceMethod ({ cls := "JoinedLeaves$Atom", name := "rowsAgreeingWithThemselves", desc := "()I" } : Jvm.MethodName)) ∈ jW := jC_5 _ (List.mem_of_getElem? (i := 20) rfl)
theorem jm_5_21 : (Jvm.Cond.code ({ cls := "JoinedLeaves$Atom", name := "rowsAgreeingWithThemselves", desc := "()I" } : Jvm.MethodName) prog_2_method_3_code (3 : Nat) (Option.some Jvm.ClassFile.FieldType.int)) ∈ jW := jC_5 _ (List.mem_of_getElem? (i := 21) rfl)
theorem jm_5_22 : (Jvm.Cond.methodLink "JoinedLeaves$Atom" (35 : Nat) ({ cls := "JoinedLeaves$Atom", name := "agreesWithItself", desc := "(I)Z" } : Jvm.MethodName)) ∈ jW := jC_5 _ (List.mem_of_getElem? (i := 22) rfl)
theorem jm_5_23 : (Jvm.Cond.instanceMethod ({ cls := "JoinedLeaves$Atom", name := "agreesWithItself", desc := "(I)Z" } : Jvm.MethodName)) ∈ jW := jC_5 _ (List.mem_of_getElem? (i := 23) rfl)
theorem jm_5_24 : (Jvm.Cond.code ({ cls := "JoinedLeaves$Atom", name := "agreesWithItself", desc := "(I)Z" } : Jvm.MethodName) prog_2_method_4_code (4 : Nat) (Option.some Jvm.ClassFile.FieldType.boolean)) ∈ jW := jC_5 _ (List.mem_of_getElem? (i := 24) rfl)
theorem jm_5_25 : (Jvm.Cond.instanceMethod ({ cls := "JoinedLeaves$Relation", name := "valueAt", desc := "(II)I" } : Jvm.MethodName)) ∈ jW := jC_5 _ (List.mem_of_getElem? (i := 25) rfl)
theorem jm_5_26 : (Jvm.Cond.code ({ cls := "JoinedLeaves$Relation", name := "valueAt", desc := "(II)I" } : Jvm.MethodName) prog_6_method_4_code (3 : Nat) (Option.some Jvm.ClassFile.FieldType.int)) ∈ jW := jC_5 _ (List.mem_of_getElem? (i := 26) rfl)
theorem jm_5_27 : (Jvm.Cond.instanceMethod ({ cls := "JoinedLeaves$Atom", name := "rowsAgreeingWith", desc := "(LJoinedLeaves$Atom;I)I" } : Jvm.MethodName)) ∈ jW := jC_5 _ (List.mem_of_getElem? (i := 27) rfl)
theorem jm_5_28 : (Jvm.Cond.code ({ cls := "JoinedLeaves$Atom", name := "rowsAgreeingWith", desc := "(LJoinedLeaves$Atom;I)I" } : Jvm.MethodName) prog_2_method_5_code (6 : Nat) (Option.some Jvm.ClassFile.FieldType.int)) ∈ jW := jC_5 _ (List.mem_of_getElem? (i := 28) rfl)
theorem jm_5_29 : (Jvm.Cond.methodLink "JoinedLeaves$Atom" (43 : Nat) ({ cls := "JoinedLeaves$Atom", name := "rowsAllowing", desc := "(II)I" } : Jvm.MethodName)) ∈ jW := jC_5 _ (List.mem_of_getElem? (i := 29) rfl)
theorem jm_5_30 : (Jvm.Cond.instanceMethod ({ cls := "JoinedLeaves$Atom", name := "rowsAllowing", desc := "(II)I" } : Jvm.MethodName)) ∈ jW := jC_5 _ (List.mem_of_getElem? (i := 30) rfl)
theorem jm_5_31 : (Jvm.Cond.code ({ cls := "JoinedLeaves$Atom", name := "rowsAllowing", desc := "(II)I" } : Jvm.MethodName) prog_2_method_6_code (6 : Nat) (Option.some Jvm.ClassFile.FieldType.int)) ∈ jW := jC_5 _ (List.mem_of_getElem? (i := 31) rfl)
theorem jm_5_32 : (Jvm.Cond.methodLink "JoinedLeaves$Join" (55 : Nat) ({ cls := "JoinedLeaves$Join", name := "startWeights", desc := "()V" } : Jvm.MethodName)) ∈ jW := jC_5 _ (List.mem_of_getElem? (i := 32) rfl)
theorem jm_5_33 : (Jvm.Cond.instanceMethod ({ cls := "JoinedLeaves$Join", name := "startWeights", desc := "()V" } : Jvm.MethodName)) ∈ jW := jC_5 _ (List.mem_of_getElem? (i := 33) rfl)
theorem jm_5_34 : (Jvm.Cond.code ({ cls := "JoinedLeaves$Join", name := "startWeights", desc := "()V" } : Jvm.MethodName) prog_4_method_11_code (3 : Nat) (Option.none : Option Jvm.ClassFile.FieldType)) ∈ jW := jC_5 _ (List.mem_of_getElem? (i := 34) rfl)
theorem jm_5_35 : (Jvm.Cond.methodLink "JoinedLeaves$Join" (65 : Nat) ({ cls := "JoinedLeaves$Join", name := "weighIntoParent", desc := "(I)V" } : Jvm.MethodName)) ∈ jW := jC_5 _ (List.mem_of_getElem? (i := 35) rfl)
theorem jm_5_36 : (Jvm.Cond.instanceMethod ({ cls := "JoinedLeaves$Join", name := "weighIntoParent", desc := "(I)V" } : Jvm.MethodName)) ∈ jW := jC_5 _ (List.mem_of_getElem? (i := 36) rfl)
theorem jm_5_37 : (Jvm.Cond.code ({ cls := "JoinedLeaves$Join", name := "weighIntoParent", desc := "(I)V" } : Jvm.MethodName) prog_4_method_12_code (4 : Nat) (Option.none : Option Jvm.ClassFile.FieldType)) ∈ jW := jC_5 _ (List.mem_of_getElem? (i := 37) rfl)
theorem jm_5_38 : (Jvm.Cond.methodLink "JoinedLeaves$Join" (69 : Nat) ({ cls := "JoinedLeaves$Join", name := "weightOf", desc := "(II)J" } : Jvm.MethodName)) ∈ jW := jC_5 _ (List.mem_of_getElem? (i := 38) rfl)
theorem jm_5_39 : (Jvm.Cond.instanceMethod ({ cls := "JoinedLeaves$Join", name := "weightOf", desc := "(II)J" } : Jvm.MethodName)) ∈ jW := jC_5 _ (List.mem_of_getElem? (i := 39) rfl)
theorem jm_5_40 : (Jvm.Cond.code ({ cls := "JoinedLeaves$Join", name := "weightOf", desc := "(II)J" } : Jvm.MethodName) prog_4_method_13_code (6 : Nat) (Option.some Jvm.ClassFile.FieldType.long)) ∈ jW := jC_5 _ (List.mem_of_getElem? (i := 40) rfl)
theorem jm_5_41 : (Jvm.Cond.methodLink "JoinedLeavesLaw" (89 : Nat) ({ cls := "JoinedLeavesLaw", name := "live", desc := "(LJoinedLeaves;I[J)I" } : Jvm.MethodName)) ∈ jW := jC_5 _ (List.mem_of_getElem? (i := 41) rfl)
theorem jm_5_42 : (Jvm.Cond.static ({ cls := "JoinedLeavesLaw", name := "live", desc := "(LJoinedLeaves;I[J)I" } : Jvm.MethodName)) ∈ jW := jC_5 _ (List.mem_of_getElem? (i := 42) rfl)
theorem jm_5_43 : (Jvm.Cond.classLink "JoinedLeavesLaw" (19 : Nat) "java/lang/IndexOutOfBoundsException") ∈ jW := jC_5 _ (List.mem_of_getElem? (i := 43) rfl)
theorem jm_5_44 : (Jvm.Cond.methodLink "JoinedLeavesLaw" (15 : Nat) ({ cls := "JoinedLeaves", name := "live", desc := "(I)I" } : Jvm.MethodName)) ∈ jW := jC_5 _ (List.mem_of_getElem? (i := 44) rfl)
theorem jm_5_45 : (Jvm.Cond.instanceMethod ({ cls := "JoinedLeaves", name := "live", desc := "(I)I" } : Jvm.MethodName)) ∈ jW := jC_5 _ (List.mem_of_getElem? (i := 45) rfl)
theorem jm_5_46 : (Jvm.Cond.selects "JoinedLeaves" ({ cls := "JoinedLeaves", name := "live", desc := "(I)I" } : Jvm.MethodName) ({ cls := "JoinedLeaves", name := "live", desc := "(I)I" } : Jvm.MethodName)) ∈ jW := jC_5 _ (List.mem_of_getElem? (i := 46) rfl)
theorem jm_5_47 : (Jvm.Cond.code ({ cls := "JoinedLeaves", name := "live", desc := "(I)I" } : Jvm.MethodName) prog_1_method_13_code (2 : Nat) (Option.some Jvm.ClassFile.FieldType.int)) ∈ jW := jC_5 _ (List.mem_of_getElem? (i := 47) rfl)
theorem jm_6_0 : (Jvm.Cond.classLink "JoinedLeaves" (102 : Nat) "java/lang/IndexOutOfBoundsException") ∈ jW := jC_6 _ (List.mem_of_getElem? (i := 0) rfl)
theorem jm_6_1 : (Jvm.Cond.instantiable "java/lang/IndexOutOfBoundsException" (6 : Nat)) ∈ jW := jC_6 _ (List.mem_of_getElem? (i := 1) rfl)
theorem jm_6_2 : (Jvm.Cond.selects "java/lang/IndexOutOfBoundsException" ({ cls := "java/lang/Throwable", name := "fillInStackTrace", desc := "(I)Ljava/lang/Throwable;" } : Jvm.MethodName) ({ cls := "java/lang/Throwable", name := "fillInStackTrace", desc := "(I)Ljava/lang/Throwable;" } : Jvm.MethodName)) ∈ jW := jC_6 _ (List.mem_of_getElem? (i := 2) rfl)
theorem jm_6_3 : (Jvm.Cond.lays "java/lang/IndexOutOfBoundsException" "java/lang/Throwable" "cause" "Ljava/lang/Throwable;") ∈ jW := jC_6 _ (List.mem_of_getElem? (i := 3) rfl)
theorem jm_6_4 : (Jvm.Cond.lays "java/lang/IndexOutOfBoundsException" "java/lang/Throwable" "stackTrace" "[Ljava/lang/StackTraceElement;") ∈ jW := jC_6 _ (List.mem_of_getElem? (i := 4) rfl)
theorem jm_6_5 : (Jvm.Cond.lays "java/lang/IndexOutOfBoundsException" "java/lang/Throwable" "suppressedExceptions" "Ljava/util/List;") ∈ jW := jC_6 _ (List.mem_of_getElem? (i := 5) rfl)
theorem jm_6_6 : (Jvm.Cond.lays "java/lang/IndexOutOfBoundsException" "java/lang/Throwable" "detailMessage" "Ljava/lang/String;") ∈ jW := jC_6 _ (List.mem_of_getElem? (i := 6) rfl)
theorem jm_6_7 : (Jvm.Cond.lays "java/lang/IndexOutOfBoundsException" "java/lang/Throwable" "backtrace" "Ljava/lang/Object;") ∈ jW := jC_6 _ (List.mem_of_getElem? (i := 7) rfl)
theorem jm_6_8 : (Jvm.Cond.methodLink "JoinedLeaves" (106 : Nat) ({ cls := "java/lang/IndexOutOfBoundsException", name := "<init>", desc := "(Ljava/lang/String;)V" } : Jvm.MethodName)) ∈ jW := jC_6 _ (List.mem_of_getElem? (i := 8) rfl)
theorem jm_6_9 : (Jvm.Cond.instanceMethod ({ cls := "java/lang/IndexOutOfBoundsException", name := "<init>", desc := "(Ljava/lang/String;)V" } : Jvm.MethodName)) ∈ jW := jC_6 _ (List.mem_of_getElem? (i := 9) rfl)
theorem jm_6_10 : (Jvm.Cond.code ({ cls := "java/lang/IndexOutOfBoundsException", name := "<init>", desc := "(Ljava/lang/String;)V" } : Jvm.MethodName) prog_12_method_2_code (2 : Nat) (Option.none : Option Jvm.ClassFile.FieldType)) ∈ jW := jC_6 _ (List.mem_of_getElem? (i := 10) rfl)
theorem jm_6_11 : (Jvm.Cond.methodLink "java/lang/IndexOutOfBoundsException" (7 : Nat) ({ cls := "java/lang/RuntimeException", name := "<init>", desc := "(Ljava/lang/String;)V" } : Jvm.MethodName)) ∈ jW := jC_6 _ (List.mem_of_getElem? (i := 11) rfl)
theorem jm_6_12 : (Jvm.Cond.lays "java/lang/IndexOutOfBoundsException" "java/lang/Throwable" "depth" "I") ∈ jW := jC_6 _ (List.mem_of_getElem? (i := 12) rfl)
theorem jm_6_13 : (Jvm.Cond.superclass "java/lang/IndexOutOfBoundsException" "java/lang/RuntimeException") ∈ jW := jC_6 _ (List.mem_of_getElem? (i := 13) rfl)
theorem jm_6_14 : (Jvm.Cond.instanceMethod ({ cls := "JoinedLeaves$Join", name := "countLiveRows", desc := "(I)I" } : Jvm.MethodName)) ∈ jW := jC_6 _ (List.mem_of_getElem? (i := 14) rfl)
theorem jm_6_15 : (Jvm.Cond.code ({ cls := "JoinedLeaves$Join", name := "countLiveRows", desc := "(I)I" } : Jvm.MethodName) prog_4_method_2_code (2 : Nat) (Option.some Jvm.ClassFile.FieldType.int)) ∈ jW := jC_6 _ (List.mem_of_getElem? (i := 15) rfl)
theorem jm_6_16 : (Jvm.Cond.methodLink "JoinedLeaves$Join" (39 : Nat) ({ cls := "JoinedLeaves$Join", name := "keepLiveRows", desc := "([I)V" } : Jvm.MethodName)) ∈ jW := jC_6 _ (List.mem_of_getElem? (i := 16) rfl)
theorem jm_6_17 : (Jvm.Cond.instanceMethod ({ cls := "JoinedLeaves$Join", name := "keepLiveRows", desc := "([I)V" } : Jvm.MethodName)) ∈ jW := jC_6 _ (List.mem_of_getElem? (i := 17) rfl)
theorem jm_6_18 : (Jvm.Cond.code ({ cls := "JoinedLeaves$Join", name := "keepLiveRows", desc := "([I)V" } : Jvm.MethodName) prog_4_method_7_code (3 : Nat) (Option.none : Option Jvm.ClassFile.FieldType)) ∈ jW := jC_6 _ (List.mem_of_getElem? (i := 18) rfl)
theorem jm_6_19 : (Jvm.Cond.methodLink "JoinedLeaves$Join" (117 : Nat) ({ cls := "JoinedLeaves$Join", name := "keepRowsOfParent", desc := "([II)V" } : Jvm.MethodName)) ∈ jW := jC_6 _ (List.mem_of_getElem? (i := 19) rfl)
theorem jm_6_20 : (Jvm.Cond.instanceMethod ({ cls := "JoinedLeaves$Join", name := "keepRowsOfParent", desc := "([II)V" } : Jvm.MethodName)) ∈ jW := jC_6 _ (List.mem_of_getElem? (i := 20) rfl)
theorem jm_6_21 : (Jvm.Cond.code ({ cls := "JoinedLeaves$Join", name := "keepRowsOfParent", desc := "([II)V" } : Jvm.MethodName) prog_4_method_8_code (5 : Nat) (Option.none : Option Jvm.ClassFile.FieldType)) ∈ jW := jC_6 _ (List.mem_of_getElem? (i := 21) rfl)
theorem jm_6_22 : (Jvm.Cond.methodLink "JoinedLeaves$Join" (121 : Nat) ({ cls := "JoinedLeaves$Join", name := "keepRowsOfChild", desc := "([II)V" } : Jvm.MethodName)) ∈ jW := jC_6 _ (List.mem_of_getElem? (i := 22) rfl)
theorem jm_6_23 : (Jvm.Cond.instanceMethod ({ cls := "JoinedLeaves$Join", name := "keepRowsOfChild", desc := "([II)V" } : Jvm.MethodName)) ∈ jW := jC_6 _ (List.mem_of_getElem? (i := 23) rfl)
theorem jm_6_24 : (Jvm.Cond.code ({ cls := "JoinedLeaves$Join", name := "keepRowsOfChild", desc := "([II)V" } : Jvm.MethodName) prog_4_method_9_code (6 : Nat) (Option.none : Option Jvm.ClassFile.FieldType)) ∈ jW := jC_6 _ (List.mem_of_getElem? (i := 24) rfl)
theorem jm_6_25 : (Jvm.Cond.methodLink "JoinedLeaves$Join" (43 : Nat) ({ cls := "java/lang/Integer", name := "bitCount", desc := "(I)I" } : Jvm.MethodName)) ∈ jW := jC_6 _ (List.mem_of_getElem? (i := 25) rfl)
theorem jm_6_26 : (Jvm.Cond.static ({ cls := "java/lang/Integer", name := "bitCount", desc := "(I)I" } : Jvm.MethodName)) ∈ jW := jC_6 _ (List.mem_of_getElem? (i := 26) rfl)
theorem jm_6_27 : (Jvm.Cond.code ({ cls := "java/lang/Integer", name := "bitCount", desc := "(I)I" } : Jvm.MethodName) prog_13_method_49_code (1 : Nat) (Option.some Jvm.ClassFile.FieldType.int)) ∈ jW := jC_6 _ (List.mem_of_getElem? (i := 27) rfl)
theorem jm_6_28 : (Jvm.Cond.constant "java/lang/Integer" (265 : Nat) (1431655765 : Int32)) ∈ jW := jC_6 _ (List.mem_of_getElem? (i := 28) rfl)
theorem jm_6_29 : (Jvm.Cond.constant "java/lang/Integer" (266 : Nat) (858993459 : Int32)) ∈ jW := jC_6 _ (List.mem_of_getElem? (i := 29) rfl)
theorem jm_6_30 : (Jvm.Cond.constant "java/lang/Integer" (267 : Nat) (252645135 : Int32)) ∈ jW := jC_6 _ (List.mem_of_getElem? (i := 30) rfl)
theorem jm_6_31 : (Jvm.Cond.methodLink "JoinedLeavesLaw" (93 : Nat) ({ cls := "JoinedLeavesLaw", name := "answers", desc := "(LJoinedLeaves;[J)I" } : Jvm.MethodName)) ∈ jW := jC_6 _ (List.mem_of_getElem? (i := 31) rfl)
theorem jm_6_32 : (Jvm.Cond.static ({ cls := "JoinedLeavesLaw", name := "answers", desc := "(LJoinedLeaves;[J)I" } : Jvm.MethodName)) ∈ jW := jC_6 _ (List.mem_of_getElem? (i := 32) rfl)
theorem jm_6_33 : (Jvm.Cond.classLink "JoinedLeavesLaw" (25 : Nat) "java/lang/IllegalArgumentException") ∈ jW := jC_6 _ (List.mem_of_getElem? (i := 33) rfl)
theorem jm_6_34 : (Jvm.Cond.classLink "JoinedLeavesLaw" (27 : Nat) "java/lang/UnsupportedOperationException") ∈ jW := jC_6 _ (List.mem_of_getElem? (i := 34) rfl)
theorem jm_6_35 : (Jvm.Cond.methodLink "JoinedLeavesLaw" (21 : Nat) ({ cls := "JoinedLeaves", name := "answers", desc := "()I" } : Jvm.MethodName)) ∈ jW := jC_6 _ (List.mem_of_getElem? (i := 35) rfl)
theorem jm_6_36 : (Jvm.Cond.instanceMethod ({ cls := "JoinedLeaves", name := "answers", desc := "()I" } : Jvm.MethodName)) ∈ jW := jC_6 _ (List.mem_of_getElem? (i := 36) rfl)
theorem jm_6_37 : (Jvm.Cond.selects "JoinedLeaves" ({ cls := "JoinedLeaves", name := "answers", desc := "()I" } : Jvm.MethodName) ({ cls := "JoinedLeaves", name := "answers", desc := "()I" } : Jvm.MethodName)) ∈ jW := jC_6 _ (List.mem_of_getElem? (i := 37) rfl)
theorem jm_6_38 : (Jvm.Cond.code ({ cls := "JoinedLeaves", name := "answers", desc := "()I" } : Jvm.MethodName) prog_1_method_14_code (1 : Nat) (Option.some Jvm.ClassFile.FieldType.int)) ∈ jW := jC_6 _ (List.mem_of_getElem? (i := 38) rfl)
theorem jm_6_39 : (Jvm.Cond.methodLink "JoinedLeaves" (113 : Nat) ({ cls := "JoinedLeaves", name := "findAnswers", desc := "()V" } : Jvm.MethodName)) ∈ jW := jC_6 _ (List.mem_of_getElem? (i := 39) rfl)
theorem jm_6_40 : (Jvm.Cond.instanceMethod ({ cls := "JoinedLeaves", name := "findAnswers", desc := "()V" } : Jvm.MethodName)) ∈ jW := jC_6 _ (List.mem_of_getElem? (i := 40) rfl)
theorem jm_6_41 : (Jvm.Cond.code ({ cls := "JoinedLeaves", name := "findAnswers", desc := "()V" } : Jvm.MethodName) prog_1_method_16_code (1 : Nat) (Option.none : Option Jvm.ClassFile.FieldType)) ∈ jW := jC_6 _ (List.mem_of_getElem? (i := 41) rfl)
theorem jm_6_42 : (Jvm.Cond.instanceMethod ({ cls := "JoinedLeaves$Question", name := "bindsHead", desc := "()Z" } : Jvm.MethodName)) ∈ jW := jC_6 _ (List.mem_of_getElem? (i := 42) rfl)
theorem jm_6_43 : (Jvm.Cond.code ({ cls := "JoinedLeaves$Question", name := "bindsHead", desc := "()Z" } : Jvm.MethodName) prog_5_method_5_code (3 : Nat) (Option.some Jvm.ClassFile.FieldType.boolean)) ∈ jW := jC_6 _ (List.mem_of_getElem? (i := 43) rfl)
theorem jm_6_44 : (Jvm.Cond.classLink "JoinedLeaves" (128 : Nat) "java/lang/IllegalArgumentException") ∈ jW := jC_6 _ (List.mem_of_getElem? (i := 44) rfl)
theorem jm_6_45 : (Jvm.Cond.instantiable "java/lang/IllegalArgumentException" (6 : Nat)) ∈ jW := jC_6 _ (List.mem_of_getElem? (i := 45) rfl)
theorem jm_6_46 : (Jvm.Cond.selects "java/lang/IllegalArgumentException" ({ cls := "java/lang/Throwable", name := "fillInStackTrace", desc := "(I)Ljava/lang/Throwable;" } : Jvm.MethodName) ({ cls := "java/lang/Throwable", name := "fillInStackTrace", desc := "(I)Ljava/lang/Throwable;" } : Jvm.MethodName)) ∈ jW := jC_6 _ (List.mem_of_getElem? (i := 46) rfl)
theorem jm_6_47 : (Jvm.Cond.lays "java/lang/IllegalArgumentException" "java/lang/Throwable" "cause" "Ljava/lang/Throwable;") ∈ jW := jC_6 _ (List.mem_of_getElem? (i := 47) rfl)
theorem jm_7_0 : (Jvm.Cond.lays "java/lang/IllegalArgumentException" "java/lang/Throwable" "stackTrace" "[Ljava/lang/StackTraceElement;") ∈ jW := jC_7 _ (List.mem_of_getElem? (i := 0) rfl)
theorem jm_7_1 : (Jvm.Cond.lays "java/lang/IllegalArgumentException" "java/lang/Throwable" "suppressedExceptions" "Ljava/util/List;") ∈ jW := jC_7 _ (List.mem_of_getElem? (i := 1) rfl)
theorem jm_7_2 : (Jvm.Cond.lays "java/lang/IllegalArgumentException" "java/lang/Throwable" "detailMessage" "Ljava/lang/String;") ∈ jW := jC_7 _ (List.mem_of_getElem? (i := 2) rfl)
theorem jm_7_3 : (Jvm.Cond.lays "java/lang/IllegalArgumentException" "java/lang/Throwable" "backtrace" "Ljava/lang/Object;") ∈ jW := jC_7 _ (List.mem_of_getElem? (i := 3) rfl)
theorem jm_7_4 : (Jvm.Cond.methodLink "JoinedLeaves" (132 : Nat) ({ cls := "java/lang/IllegalArgumentException", name := "<init>", desc := "(Ljava/lang/String;)V" } : Jvm.MethodName)) ∈ jW := jC_7 _ (List.mem_of_getElem? (i := 4) rfl)
theorem jm_7_5 : (Jvm.Cond.instanceMethod ({ cls := "java/lang/IllegalArgumentException", name := "<init>", desc := "(Ljava/lang/String;)V" } : Jvm.MethodName)) ∈ jW := jC_7 _ (List.mem_of_getElem? (i := 5) rfl)
theorem jm_7_6 : (Jvm.Cond.code ({ cls := "java/lang/IllegalArgumentException", name := "<init>", desc := "(Ljava/lang/String;)V" } : Jvm.MethodName) prog_10_method_2_code (2 : Nat) (Option.none : Option Jvm.ClassFile.FieldType)) ∈ jW := jC_7 _ (List.mem_of_getElem? (i := 6) rfl)
theorem jm_7_7 : (Jvm.Cond.methodLink "java/lang/IllegalArgumentException" (7 : Nat) ({ cls := "java/lang/RuntimeException", name := "<init>", desc := "(Ljava/lang/String;)V" } : Jvm.MethodName)) ∈ jW := jC_7 _ (List.mem_of_getElem? (i := 7) rfl)
theorem jm_7_8 : (Jvm.Cond.lays "java/lang/IllegalArgumentException" "java/lang/Throwable" "depth" "I") ∈ jW := jC_7 _ (List.mem_of_getElem? (i := 8) rfl)
theorem jm_7_9 : (Jvm.Cond.superclass "java/lang/IllegalArgumentException" "java/lang/RuntimeException") ∈ jW := jC_7 _ (List.mem_of_getElem? (i := 9) rfl)
theorem jm_7_10 : (Jvm.Cond.instanceMethod ({ cls := "JoinedLeaves$Join", name := "search", desc := "()V" } : Jvm.MethodName)) ∈ jW := jC_7 _ (List.mem_of_getElem? (i := 10) rfl)
theorem jm_7_11 : (Jvm.Cond.code ({ cls := "JoinedLeaves$Join", name := "search", desc := "()V" } : Jvm.MethodName) prog_4_method_4_code (1 : Nat) (Option.none : Option Jvm.ClassFile.FieldType)) ∈ jW := jC_7 _ (List.mem_of_getElem? (i := 11) rfl)
theorem jm_7_12 : (Jvm.Cond.methodLink "JoinedLeaves$Join" (76 : Nat) ({ cls := "JoinedLeaves$Join", name := "hasWay", desc := "([I)Z" } : Jvm.MethodName)) ∈ jW := jC_7 _ (List.mem_of_getElem? (i := 12) rfl)
theorem jm_7_13 : (Jvm.Cond.instanceMethod ({ cls := "JoinedLeaves$Join", name := "hasWay", desc := "([I)Z" } : Jvm.MethodName)) ∈ jW := jC_7 _ (List.mem_of_getElem? (i := 13) rfl)
theorem jm_7_14 : (Jvm.Cond.code ({ cls := "JoinedLeaves$Join", name := "hasWay", desc := "([I)Z" } : Jvm.MethodName) prog_4_method_10_code (3 : Nat) (Option.some Jvm.ClassFile.FieldType.boolean)) ∈ jW := jC_7 _ (List.mem_of_getElem? (i := 14) rfl)
theorem jm_7_15 : (Jvm.Cond.methodLink "JoinedLeaves$Join" (80 : Nat) ({ cls := "JoinedLeaves$Join", name := "choose", desc := "(II)V" } : Jvm.MethodName)) ∈ jW := jC_7 _ (List.mem_of_getElem? (i := 15) rfl)
theorem jm_7_16 : (Jvm.Cond.instanceMethod ({ cls := "JoinedLeaves$Join", name := "choose", desc := "(II)V" } : Jvm.MethodName)) ∈ jW := jC_7 _ (List.mem_of_getElem? (i := 16) rfl)
theorem jm_7_17 : (Jvm.Cond.code ({ cls := "JoinedLeaves$Join", name := "choose", desc := "(II)V" } : Jvm.MethodName) prog_4_method_14_code (6 : Nat) (Option.none : Option Jvm.ClassFile.FieldType)) ∈ jW := jC_7 _ (List.mem_of_getElem? (i := 17) rfl)
theorem jm_7_18 : (Jvm.Cond.methodLink "JoinedLeaves$Join" (128 : Nat) ({ cls := "JoinedLeaves$Join", name := "storeAnswer", desc := "(I)V" } : Jvm.MethodName)) ∈ jW := jC_7 _ (List.mem_of_getElem? (i := 18) rfl)
theorem jm_7_19 : (Jvm.Cond.instanceMethod ({ cls := "JoinedLeaves$Join", name := "storeAnswer", desc := "(I)V" } : Jvm.MethodName)) ∈ jW := jC_7 _ (List.mem_of_getElem? (i := 19) rfl)
theorem jm_7_20 : (Jvm.Cond.code ({ cls := "JoinedLeaves$Join", name := "storeAnswer", desc := "(I)V" } : Jvm.MethodName) prog_4_method_15_code (2 : Nat) (Option.none : Option Jvm.ClassFile.FieldType)) ∈ jW := jC_7 _ (List.mem_of_getElem? (i := 20) rfl)
theorem jm_7_21 : (Jvm.Cond.methodLink "JoinedLeaves$Join" (134 : Nat) ({ cls := "JoinedLeaves$Join", name := "liveValuesOf", desc := "(I[I)I" } : Jvm.MethodName)) ∈ jW := jC_7 _ (List.mem_of_getElem? (i := 21) rfl)
theorem jm_7_22 : (Jvm.Cond.instanceMethod ({ cls := "JoinedLeaves$Join", name := "liveValuesOf", desc := "(I[I)I" } : Jvm.MethodName)) ∈ jW := jC_7 _ (List.mem_of_getElem? (i := 22) rfl)
theorem jm_7_23 : (Jvm.Cond.code ({ cls := "JoinedLeaves$Join", name := "liveValuesOf", desc := "(I[I)I" } : Jvm.MethodName) prog_4_method_16_code (4 : Nat) (Option.some Jvm.ClassFile.FieldType.int)) ∈ jW := jC_7 _ (List.mem_of_getElem? (i := 23) rfl)
theorem jm_7_24 : (Jvm.Cond.instanceMethod ({ cls := "JoinedLeaves$Question", name := "atomWith", desc := "(I)I" } : Jvm.MethodName)) ∈ jW := jC_7 _ (List.mem_of_getElem? (i := 24) rfl)
theorem jm_7_25 : (Jvm.Cond.code ({ cls := "JoinedLeaves$Question", name := "atomWith", desc := "(I)I" } : Jvm.MethodName) prog_5_method_6_code (3 : Nat) (Option.some Jvm.ClassFile.FieldType.int)) ∈ jW := jC_7 _ (List.mem_of_getElem? (i := 25) rfl)
theorem jm_7_26 : (Jvm.Cond.instanceMethod ({ cls := "JoinedLeaves$Atom", name := "valuesOf", desc := "(II)I" } : Jvm.MethodName)) ∈ jW := jC_7 _ (List.mem_of_getElem? (i := 26) rfl)
theorem jm_7_27 : (Jvm.Cond.code ({ cls := "JoinedLeaves$Atom", name := "valuesOf", desc := "(II)I" } : Jvm.MethodName) prog_2_method_7_code (6 : Nat) (Option.some Jvm.ClassFile.FieldType.int)) ∈ jW := jC_7 _ (List.mem_of_getElem? (i := 27) rfl)
theorem jm_7_28 : (Jvm.Cond.methodLink "JoinedLeaves$Join" (138 : Nat) ({ cls := "JoinedLeaves$Join", name := "keepRowsWith", desc := "(III)V" } : Jvm.MethodName)) ∈ jW := jC_7 _ (List.mem_of_getElem? (i := 28) rfl)
theorem jm_7_29 : (Jvm.Cond.instanceMethod ({ cls := "JoinedLeaves$Join", name := "keepRowsWith", desc := "(III)V" } : Jvm.MethodName)) ∈ jW := jC_7 _ (List.mem_of_getElem? (i := 29) rfl)
theorem jm_7_30 : (Jvm.Cond.code ({ cls := "JoinedLeaves$Join", name := "keepRowsWith", desc := "(III)V" } : Jvm.MethodName) prog_4_method_17_code (7 : Nat) (Option.none : Option Jvm.ClassFile.FieldType)) ∈ jW := jC_7 _ (List.mem_of_getElem? (i := 30) rfl)
theorem jm_7_31 : (Jvm.Cond.classLink "JoinedLeaves" (136 : Nat) "java/lang/UnsupportedOperationException") ∈ jW := jC_7 _ (List.mem_of_getElem? (i := 31) rfl)
theorem jm_7_32 : (Jvm.Cond.instantiable "java/lang/UnsupportedOperationException" (6 : Nat)) ∈ jW := jC_7 _ (List.mem_of_getElem? (i := 32) rfl)
theorem jm_7_33 : (Jvm.Cond.selects "java/lang/UnsupportedOperationException" ({ cls := "java/lang/Throwable", name := "fillInStackTrace", desc := "(I)Ljava/lang/Throwable;" } : Jvm.MethodName) ({ cls := "java/lang/Throwable", name := "fillInStackTrace", desc := "(I)Ljava/lang/Throwable;" } : Jvm.MethodName)) ∈ jW := jC_7 _ (List.mem_of_getElem? (i := 33) rfl)
theorem jm_7_34 : (Jvm.Cond.lays "java/lang/UnsupportedOperationException" "java/lang/Throwable" "cause" "Ljava/lang/Throwable;") ∈ jW := jC_7 _ (List.mem_of_getElem? (i := 34) rfl)
theorem jm_7_35 : (Jvm.Cond.lays "java/lang/UnsupportedOperationException" "java/lang/Throwable" "stackTrace" "[Ljava/lang/StackTraceElement;") ∈ jW := jC_7 _ (List.mem_of_getElem? (i := 35) rfl)
theorem jm_7_36 : (Jvm.Cond.lays "java/lang/UnsupportedOperationException" "java/lang/Throwable" "suppressedExceptions" "Ljava/util/List;") ∈ jW := jC_7 _ (List.mem_of_getElem? (i := 36) rfl)
theorem jm_7_37 : (Jvm.Cond.lays "java/lang/UnsupportedOperationException" "java/lang/Throwable" "detailMessage" "Ljava/lang/String;") ∈ jW := jC_7 _ (List.mem_of_getElem? (i := 37) rfl)
theorem jm_7_38 : (Jvm.Cond.lays "java/lang/UnsupportedOperationException" "java/lang/Throwable" "backtrace" "Ljava/lang/Object;") ∈ jW := jC_7 _ (List.mem_of_getElem? (i := 38) rfl)
theorem jm_7_39 : (Jvm.Cond.methodLink "JoinedLeaves" (140 : Nat) ({ cls := "java/lang/UnsupportedOperationException", name := "<init>", desc := "(Ljava/lang/String;)V" } : Jvm.MethodName)) ∈ jW := jC_7 _ (List.mem_of_getElem? (i := 39) rfl)
theorem jm_7_40 : (Jvm.Cond.instanceMethod ({ cls := "java/lang/UnsupportedOperationException", name := "<init>", desc := "(Ljava/lang/String;)V" } : Jvm.MethodName)) ∈ jW := jC_7 _ (List.mem_of_getElem? (i := 40) rfl)
theorem jm_7_41 : (Jvm.Cond.code ({ cls := "java/lang/UnsupportedOperationException", name := "<init>", desc := "(Ljava/lang/String;)V" } : Jvm.MethodName) prog_17_method_2_code (2 : Nat) (Option.none : Option Jvm.ClassFile.FieldType)) ∈ jW := jC_7 _ (List.mem_of_getElem? (i := 41) rfl)
theorem jm_7_42 : (Jvm.Cond.methodLink "java/lang/UnsupportedOperationException" (7 : Nat) ({ cls := "java/lang/RuntimeException", name := "<init>", desc := "(Ljava/lang/String;)V" } : Jvm.MethodName)) ∈ jW := jC_7 _ (List.mem_of_getElem? (i := 42) rfl)
theorem jm_7_43 : (Jvm.Cond.lays "java/lang/UnsupportedOperationException" "java/lang/Throwable" "depth" "I") ∈ jW := jC_7 _ (List.mem_of_getElem? (i := 43) rfl)
theorem jm_7_44 : (Jvm.Cond.superclass "java/lang/UnsupportedOperationException" "java/lang/RuntimeException") ∈ jW := jC_7 _ (List.mem_of_getElem? (i := 44) rfl)
theorem jm_7_45 : (Jvm.Cond.methodLink "JoinedLeavesLaw" (96 : Nat) ({ cls := "JoinedLeavesLaw", name := "answer", desc := "(LJoinedLeaves;II[J)I" } : Jvm.MethodName)) ∈ jW := jC_7 _ (List.mem_of_getElem? (i := 45) rfl)
theorem jm_7_46 : (Jvm.Cond.static ({ cls := "JoinedLeavesLaw", name := "answer", desc := "(LJoinedLeaves;II[J)I" } : Jvm.MethodName)) ∈ jW := jC_7 _ (List.mem_of_getElem? (i := 46) rfl)
theorem jm_7_47 : (Jvm.Cond.methodLink "JoinedLeavesLaw" (29 : Nat) ({ cls := "JoinedLeaves", name := "answer", desc := "(II)I" } : Jvm.MethodName)) ∈ jW := jC_7 _ (List.mem_of_getElem? (i := 47) rfl)
theorem jm_8_0 : (Jvm.Cond.instanceMethod ({ cls := "JoinedLeaves", name := "answer", desc := "(II)I" } : Jvm.MethodName)) ∈ jW := jC_8 _ (List.mem_of_getElem? (i := 0) rfl)
theorem jm_8_1 : (Jvm.Cond.selects "JoinedLeaves" ({ cls := "JoinedLeaves", name := "answer", desc := "(II)I" } : Jvm.MethodName) ({ cls := "JoinedLeaves", name := "answer", desc := "(II)I" } : Jvm.MethodName)) ∈ jW := jC_8 _ (List.mem_of_getElem? (i := 1) rfl)
theorem jm_8_2 : (Jvm.Cond.code ({ cls := "JoinedLeaves", name := "answer", desc := "(II)I" } : Jvm.MethodName) prog_1_method_15_code (3 : Nat) (Option.some Jvm.ClassFile.FieldType.int)) ∈ jW := jC_8 _ (List.mem_of_getElem? (i := 2) rfl)
theorem jm_8_3 : (Jvm.Cond.instanceMethod ({ cls := "JoinedLeaves$Join", name := "valueInAnswer", desc := "(II)I" } : Jvm.MethodName)) ∈ jW := jC_8 _ (List.mem_of_getElem? (i := 3) rfl)
theorem jm_8_4 : (Jvm.Cond.code ({ cls := "JoinedLeaves$Join", name := "valueInAnswer", desc := "(II)I" } : Jvm.MethodName) prog_4_method_5_code (3 : Nat) (Option.some Jvm.ClassFile.FieldType.int)) ∈ jW := jC_8 _ (List.mem_of_getElem? (i := 4) rfl)
theorem jm_8_5 : (Jvm.Cond.classLink "JoinedLeavesLaw" (34 : Nat) "JoinedLeavesModel") ∈ jW := jC_8 _ (List.mem_of_getElem? (i := 5) rfl)
theorem jm_8_6 : (Jvm.Cond.instantiable "JoinedLeavesModel" (21 : Nat)) ∈ jW := jC_8 _ (List.mem_of_getElem? (i := 6) rfl)
theorem jm_8_7 : (Jvm.Cond.methodLink "JoinedLeavesLaw" (36 : Nat) ({ cls := "JoinedLeavesModel", name := "<init>", desc := "()V" } : Jvm.MethodName)) ∈ jW := jC_8 _ (List.mem_of_getElem? (i := 7) rfl)
theorem jm_8_8 : (Jvm.Cond.instanceMethod ({ cls := "JoinedLeavesModel", name := "<init>", desc := "()V" } : Jvm.MethodName)) ∈ jW := jC_8 _ (List.mem_of_getElem? (i := 8) rfl)
theorem jm_8_9 : (Jvm.Cond.code ({ cls := "JoinedLeavesModel", name := "<init>", desc := "()V" } : Jvm.MethodName) prog_8_method_1_code (1 : Nat) (Option.none : Option Jvm.ClassFile.FieldType)) ∈ jW := jC_8 _ (List.mem_of_getElem? (i := 9) rfl)
theorem jm_8_10 : (Jvm.Cond.methodLink "JoinedLeavesModel" (1 : Nat) ({ cls := "java/lang/Object", name := "<init>", desc := "()V" } : Jvm.MethodName)) ∈ jW := jC_8 _ (List.mem_of_getElem? (i := 10) rfl)
theorem jm_8_11 : (Jvm.Cond.fieldLink "JoinedLeavesModel" (49 : Nat) "JoinedLeavesModel" "code" "I") ∈ jW := jC_8 _ (List.mem_of_getElem? (i := 11) rfl)
theorem jm_8_12 : (Jvm.Cond.fieldLink "JoinedLeavesModel" (53 : Nat) "JoinedLeavesModel" "relations" "I") ∈ jW := jC_8 _ (List.mem_of_getElem? (i := 12) rfl)
theorem jm_8_13 : (Jvm.Cond.fieldLink "JoinedLeavesModel" (7 : Nat) "JoinedLeavesModel" "widths" "[I") ∈ jW := jC_8 _ (List.mem_of_getElem? (i := 13) rfl)
theorem jm_8_14 : (Jvm.Cond.fieldLink "JoinedLeavesModel" (13 : Nat) "JoinedLeavesModel" "counts" "[I") ∈ jW := jC_8 _ (List.mem_of_getElem? (i := 14) rfl)
theorem jm_8_15 : (Jvm.Cond.fieldLink "JoinedLeavesModel" (16 : Nat) "JoinedLeavesModel" "values" "[I") ∈ jW := jC_8 _ (List.mem_of_getElem? (i := 15) rfl)
theorem jm_8_16 : (Jvm.Cond.fieldLink "JoinedLeavesModel" (56 : Nat) "JoinedLeavesModel" "atoms" "I") ∈ jW := jC_8 _ (List.mem_of_getElem? (i := 16) rfl)
theorem jm_8_17 : (Jvm.Cond.fieldLink "JoinedLeavesModel" (19 : Nat) "JoinedLeavesModel" "of" "[I") ∈ jW := jC_8 _ (List.mem_of_getElem? (i := 17) rfl)
theorem jm_8_18 : (Jvm.Cond.fieldLink "JoinedLeavesModel" (22 : Nat) "JoinedLeavesModel" "variables" "[I") ∈ jW := jC_8 _ (List.mem_of_getElem? (i := 18) rfl)
theorem jm_8_19 : (Jvm.Cond.fieldLink "JoinedLeavesModel" (74 : Nat) "JoinedLeavesModel" "headLength" "I") ∈ jW := jC_8 _ (List.mem_of_getElem? (i := 19) rfl)
theorem jm_8_20 : (Jvm.Cond.fieldLink "JoinedLeavesModel" (25 : Nat) "JoinedLeavesModel" "heads" "[I") ∈ jW := jC_8 _ (List.mem_of_getElem? (i := 20) rfl)
theorem jm_8_21 : (Jvm.Cond.fieldLink "JoinedLeavesModel" (77 : Nat) "JoinedLeavesModel" "left" "I") ∈ jW := jC_8 _ (List.mem_of_getElem? (i := 21) rfl)
theorem jm_8_22 : (Jvm.Cond.fieldLink "JoinedLeavesModel" (28 : Nat) "JoinedLeavesModel" "parents" "[I") ∈ jW := jC_8 _ (List.mem_of_getElem? (i := 22) rfl)
theorem jm_8_23 : (Jvm.Cond.fieldLink "JoinedLeavesModel" (31 : Nat) "JoinedLeavesModel" "turns" "[I") ∈ jW := jC_8 _ (List.mem_of_getElem? (i := 23) rfl)
theorem jm_8_24 : (Jvm.Cond.fieldLink "JoinedLeavesModel" (70 : Nat) "JoinedLeavesModel" "known" "Z") ∈ jW := jC_8 _ (List.mem_of_getElem? (i := 24) rfl)
theorem jm_8_25 : (Jvm.Cond.fieldLink "JoinedLeavesModel" (103 : Nat) "JoinedLeavesModel" "ways" "J") ∈ jW := jC_8 _ (List.mem_of_getElem? (i := 25) rfl)
theorem jm_8_26 : (Jvm.Cond.fieldLink "JoinedLeavesModel" (34 : Nat) "JoinedLeavesModel" "value" "[I") ∈ jW := jC_8 _ (List.mem_of_getElem? (i := 26) rfl)
theorem jm_8_27 : (Jvm.Cond.fieldLink "JoinedLeavesModel" (37 : Nat) "JoinedLeavesModel" "tries" "[I") ∈ jW := jC_8 _ (List.mem_of_getElem? (i := 27) rfl)
theorem jm_8_28 : (Jvm.Cond.fieldLink "JoinedLeavesModel" (40 : Nat) "JoinedLeavesModel" "lives" "[I") ∈ jW := jC_8 _ (List.mem_of_getElem? (i := 28) rfl)
theorem jm_8_29 : (Jvm.Cond.fieldLink "JoinedLeavesModel" (43 : Nat) "JoinedLeavesModel" "answered" "[I") ∈ jW := jC_8 _ (List.mem_of_getElem? (i := 29) rfl)
theorem jm_8_30 : (Jvm.Cond.fieldLink "JoinedLeavesModel" (114 : Nat) "JoinedLeavesModel" "answers" "I") ∈ jW := jC_8 _ (List.mem_of_getElem? (i := 30) rfl)
theorem jm_8_31 : (Jvm.Cond.fieldLink "JoinedLeavesModel" (46 : Nat) "JoinedLeavesModel" "firsts" "[I") ∈ jW := jC_8 _ (List.mem_of_getElem? (i := 31) rfl)
theorem jm_8_32 : (Jvm.Cond.lays "JoinedLeavesModel" "JoinedLeavesModel" "code" "I") ∈ jW := jC_8 _ (List.mem_of_getElem? (i := 32) rfl)
theorem jm_8_33 : (Jvm.Cond.lays "JoinedLeavesModel" "JoinedLeavesModel" "relations" "I") ∈ jW := jC_8 _ (List.mem_of_getElem? (i := 33) rfl)
theorem jm_8_34 : (Jvm.Cond.laysFinal "JoinedLeavesModel" "JoinedLeavesModel" "widths" "[I") ∈ jW := jC_8 _ (List.mem_of_getElem? (i := 34) rfl)
theorem jm_8_35 : (Jvm.Cond.laysFinal "JoinedLeavesModel" "JoinedLeavesModel" "counts" "[I") ∈ jW := jC_8 _ (List.mem_of_getElem? (i := 35) rfl)
theorem jm_8_36 : (Jvm.Cond.laysFinal "JoinedLeavesModel" "JoinedLeavesModel" "values" "[I") ∈ jW := jC_8 _ (List.mem_of_getElem? (i := 36) rfl)
theorem jm_8_37 : (Jvm.Cond.lays "JoinedLeavesModel" "JoinedLeavesModel" "atoms" "I") ∈ jW := jC_8 _ (List.mem_of_getElem? (i := 37) rfl)
theorem jm_8_38 : (Jvm.Cond.laysFinal "JoinedLeavesModel" "JoinedLeavesModel" "of" "[I") ∈ jW := jC_8 _ (List.mem_of_getElem? (i := 38) rfl)
theorem jm_8_39 : (Jvm.Cond.laysFinal "JoinedLeavesModel" "JoinedLeavesModel" "variables" "[I") ∈ jW := jC_8 _ (List.mem_of_getElem? (i := 39) rfl)
theorem jm_8_40 : (Jvm.Cond.lays "JoinedLeavesModel" "JoinedLeavesModel" "headLength" "I") ∈ jW := jC_8 _ (List.mem_of_getElem? (i := 40) rfl)
theorem jm_8_41 : (Jvm.Cond.laysFinal "JoinedLeavesModel" "JoinedLeavesModel" "heads" "[I") ∈ jW := jC_8 _ (List.mem_of_getElem? (i := 41) rfl)
theorem jm_8_42 : (Jvm.Cond.lays "JoinedLeavesModel" "JoinedLeavesModel" "left" "I") ∈ jW := jC_8 _ (List.mem_of_getElem? (i := 42) rfl)
theorem jm_8_43 : (Jvm.Cond.laysFinal "JoinedLeavesModel" "JoinedLeavesModel" "parents" "[I") ∈ jW := jC_8 _ (List.mem_of_getElem? (i := 43) rfl)
theorem jm_8_44 : (Jvm.Cond.laysFinal "JoinedLeavesModel" "JoinedLeavesModel" "turns" "[I") ∈ jW := jC_8 _ (List.mem_of_getElem? (i := 44) rfl)
theorem jm_8_45 : (Jvm.Cond.lays "JoinedLeavesModel" "JoinedLeavesModel" "known" "Z") ∈ jW := jC_8 _ (List.mem_of_getElem? (i := 45) rfl)
theorem jm_8_46 : (Jvm.Cond.lays "JoinedLeavesModel" "JoinedLeavesModel" "ways" "J") ∈ jW := jC_8 _ (List.mem_of_getElem? (i := 46) rfl)
theorem jm_8_47 : (Jvm.Cond.laysFinal "JoinedLeavesModel" "JoinedLeavesModel" "value" "[I") ∈ jW := jC_8 _ (List.mem_of_getElem? (i := 47) rfl)
theorem jm_9_0 : (Jvm.Cond.laysFinal "JoinedLeavesModel" "JoinedLeavesModel" "tries" "[I") ∈ jW := jC_9 _ (List.mem_of_getElem? (i := 0) rfl)
theorem jm_9_1 : (Jvm.Cond.laysFinal "JoinedLeavesModel" "JoinedLeavesModel" "lives" "[I") ∈ jW := jC_9 _ (List.mem_of_getElem? (i := 1) rfl)
theorem jm_9_2 : (Jvm.Cond.laysFinal "JoinedLeavesModel" "JoinedLeavesModel" "answered" "[I") ∈ jW := jC_9 _ (List.mem_of_getElem? (i := 2) rfl)
theorem jm_9_3 : (Jvm.Cond.lays "JoinedLeavesModel" "JoinedLeavesModel" "answers" "I") ∈ jW := jC_9 _ (List.mem_of_getElem? (i := 3) rfl)
theorem jm_9_4 : (Jvm.Cond.laysFinal "JoinedLeavesModel" "JoinedLeavesModel" "firsts" "[I") ∈ jW := jC_9 _ (List.mem_of_getElem? (i := 4) rfl)
theorem jm_9_5 : (Jvm.Cond.superclass "JoinedLeavesModel" "java/lang/Object") ∈ jW := jC_9 _ (List.mem_of_getElem? (i := 5) rfl)
theorem jm_9_6 : (Jvm.Cond.methodLink "JoinedLeavesLaw" (86 : Nat) ({ cls := "JoinedLeavesModel", name := "thrown", desc := "()I" } : Jvm.MethodName)) ∈ jW := jC_9 _ (List.mem_of_getElem? (i := 6) rfl)
theorem jm_9_7 : (Jvm.Cond.instanceMethod ({ cls := "JoinedLeavesModel", name := "thrown", desc := "()I" } : Jvm.MethodName)) ∈ jW := jC_9 _ (List.mem_of_getElem? (i := 7) rfl)
theorem jm_9_8 : (Jvm.Cond.selects "JoinedLeavesModel" ({ cls := "JoinedLeavesModel", name := "thrown", desc := "()I" } : Jvm.MethodName) ({ cls := "JoinedLeavesModel", name := "thrown", desc := "()I" } : Jvm.MethodName)) ∈ jW := jC_9 _ (List.mem_of_getElem? (i := 8) rfl)
theorem jm_9_9 : (Jvm.Cond.code ({ cls := "JoinedLeavesModel", name := "thrown", desc := "()I" } : Jvm.MethodName) prog_8_method_2_code (1 : Nat) (Option.some Jvm.ClassFile.FieldType.int)) ∈ jW := jC_9 _ (List.mem_of_getElem? (i := 9) rfl)
theorem jm_9_10 : (Jvm.Cond.methodLink "JoinedLeavesLaw" (40 : Nat) ({ cls := "JoinedLeavesModel", name := "relation", desc := "(I)I" } : Jvm.MethodName)) ∈ jW := jC_9 _ (List.mem_of_getElem? (i := 10) rfl)
theorem jm_9_11 : (Jvm.Cond.instanceMethod ({ cls := "JoinedLeavesModel", name := "relation", desc := "(I)I" } : Jvm.MethodName)) ∈ jW := jC_9 _ (List.mem_of_getElem? (i := 11) rfl)
theorem jm_9_12 : (Jvm.Cond.selects "JoinedLeavesModel" ({ cls := "JoinedLeavesModel", name := "relation", desc := "(I)I" } : Jvm.MethodName) ({ cls := "JoinedLeavesModel", name := "relation", desc := "(I)I" } : Jvm.MethodName)) ∈ jW := jC_9 _ (List.mem_of_getElem? (i := 12) rfl)
theorem jm_9_13 : (Jvm.Cond.code ({ cls := "JoinedLeavesModel", name := "relation", desc := "(I)I" } : Jvm.MethodName) prog_8_method_5_code (2 : Nat) (Option.some Jvm.ClassFile.FieldType.int)) ∈ jW := jC_9 _ (List.mem_of_getElem? (i := 13) rfl)
theorem jm_9_14 : (Jvm.Cond.methodLink "JoinedLeavesLaw" (45 : Nat) ({ cls := "JoinedLeavesModel", name := "add", desc := "(IIII)Z" } : Jvm.MethodName)) ∈ jW := jC_9 _ (List.mem_of_getElem? (i := 14) rfl)
theorem jm_9_15 : (Jvm.Cond.instanceMethod ({ cls := "JoinedLeavesModel", name := "add", desc := "(IIII)Z" } : Jvm.MethodName)) ∈ jW := jC_9 _ (List.mem_of_getElem? (i := 15) rfl)
theorem jm_9_16 : (Jvm.Cond.selects "JoinedLeavesModel" ({ cls := "JoinedLeavesModel", name := "add", desc := "(IIII)Z" } : Jvm.MethodName) ({ cls := "JoinedLeavesModel", name := "add", desc := "(IIII)Z" } : Jvm.MethodName)) ∈ jW := jC_9 _ (List.mem_of_getElem? (i := 16) rfl)
theorem jm_9_17 : (Jvm.Cond.code ({ cls := "JoinedLeavesModel", name := "add", desc := "(IIII)Z" } : Jvm.MethodName) prog_8_method_8_code (8 : Nat) (Option.some Jvm.ClassFile.FieldType.boolean)) ∈ jW := jC_9 _ (List.mem_of_getElem? (i := 17) rfl)
theorem jm_9_18 : (Jvm.Cond.methodLink "JoinedLeavesModel" (63 : Nat) ({ cls := "JoinedLeavesModel", name := "isRelation", desc := "(I)Z" } : Jvm.MethodName)) ∈ jW := jC_9 _ (List.mem_of_getElem? (i := 18) rfl)
theorem jm_9_19 : (Jvm.Cond.instanceMethod ({ cls := "JoinedLeavesModel", name := "isRelation", desc := "(I)Z" } : Jvm.MethodName)) ∈ jW := jC_9 _ (List.mem_of_getElem? (i := 19) rfl)
theorem jm_9_20 : (Jvm.Cond.code ({ cls := "JoinedLeavesModel", name := "isRelation", desc := "(I)Z" } : Jvm.MethodName) prog_8_method_3_code (2 : Nat) (Option.some Jvm.ClassFile.FieldType.boolean)) ∈ jW := jC_9 _ (List.mem_of_getElem? (i := 20) rfl)
theorem jm_9_21 : (Jvm.Cond.methodLink "JoinedLeavesModel" (67 : Nat) ({ cls := "JoinedLeavesModel", name := "placeOf", desc := "(IIII)I" } : Jvm.MethodName)) ∈ jW := jC_9 _ (List.mem_of_getElem? (i := 21) rfl)
theorem jm_9_22 : (Jvm.Cond.instanceMethod ({ cls := "JoinedLeavesModel", name := "placeOf", desc := "(IIII)I" } : Jvm.MethodName)) ∈ jW := jC_9 _ (List.mem_of_getElem? (i := 22) rfl)
theorem jm_9_23 : (Jvm.Cond.code ({ cls := "JoinedLeavesModel", name := "placeOf", desc := "(IIII)I" } : Jvm.MethodName) prog_8_method_7_code (9 : Nat) (Option.some Jvm.ClassFile.FieldType.int)) ∈ jW := jC_9 _ (List.mem_of_getElem? (i := 23) rfl)
theorem jm_9_24 : (Jvm.Cond.methodLink "JoinedLeavesModel" (59 : Nat) ({ cls := "JoinedLeavesModel", name := "pick", desc := "(IIII)I" } : Jvm.MethodName)) ∈ jW := jC_9 _ (List.mem_of_getElem? (i := 24) rfl)
theorem jm_9_25 : (Jvm.Cond.static ({ cls := "JoinedLeavesModel", name := "pick", desc := "(IIII)I" } : Jvm.MethodName)) ∈ jW := jC_9 _ (List.mem_of_getElem? (i := 25) rfl)
theorem jm_9_26 : (Jvm.Cond.code ({ cls := "JoinedLeavesModel", name := "pick", desc := "(IIII)I" } : Jvm.MethodName) prog_8_method_6_code (4 : Nat) (Option.some Jvm.ClassFile.FieldType.int)) ∈ jW := jC_9 _ (List.mem_of_getElem? (i := 26) rfl)
theorem jm_9_27 : (Jvm.Cond.methodLink "JoinedLeavesLaw" (49 : Nat) ({ cls := "JoinedLeavesModel", name := "drop", desc := "(IIII)Z" } : Jvm.MethodName)) ∈ jW := jC_9 _ (List.mem_of_getElem? (i := 27) rfl)
theorem jm_9_28 : (Jvm.Cond.instanceMethod ({ cls := "JoinedLeavesModel", name := "drop", desc := "(IIII)Z" } : Jvm.MethodName)) ∈ jW := jC_9 _ (List.mem_of_getElem? (i := 28) rfl)
theorem jm_9_29 : (Jvm.Cond.selects "JoinedLeavesModel" ({ cls := "JoinedLeavesModel", name := "drop", desc := "(IIII)Z" } : Jvm.MethodName) ({ cls := "JoinedLeavesModel", name := "drop", desc := "(IIII)Z" } : Jvm.MethodName)) ∈ jW := jC_9 _ (List.mem_of_getElem? (i := 29) rfl)
theorem jm_9_30 : (Jvm.Cond.code ({ cls := "JoinedLeavesModel", name := "drop", desc := "(IIII)Z" } : Jvm.MethodName) prog_8_method_9_code (7 : Nat) (Option.some Jvm.ClassFile.FieldType.boolean)) ∈ jW := jC_9 _ (List.mem_of_getElem? (i := 30) rfl)
theorem jm_9_31 : (Jvm.Cond.methodLink "JoinedLeavesLaw" (53 : Nat) ({ cls := "JoinedLeavesModel", name := "rows", desc := "(I)I" } : Jvm.MethodName)) ∈ jW := jC_9 _ (List.mem_of_getElem? (i := 31) rfl)
theorem jm_9_32 : (Jvm.Cond.instanceMethod ({ cls := "JoinedLeavesModel", name := "rows", desc := "(I)I" } : Jvm.MethodName)) ∈ jW := jC_9 _ (List.mem_of_getElem? (i := 32) rfl)
theorem jm_9_33 : (Jvm.Cond.selects "JoinedLeavesModel" ({ cls := "JoinedLeavesModel", name := "rows", desc := "(I)I" } : Jvm.MethodName) ({ cls := "JoinedLeavesModel", name := "rows", desc := "(I)I" } : Jvm.MethodName)) ∈ jW := jC_9 _ (List.mem_of_getElem? (i := 33) rfl)
theorem jm_9_34 : (Jvm.Cond.code ({ cls := "JoinedLeavesModel", name := "rows", desc := "(I)I" } : Jvm.MethodName) prog_8_method_10_code (2 : Nat) (Option.some Jvm.ClassFile.FieldType.int)) ∈ jW := jC_9 _ (List.mem_of_getElem? (i := 34) rfl)
theorem jm_9_35 : (Jvm.Cond.methodLink "JoinedLeavesLaw" (58 : Nat) ({ cls := "JoinedLeavesModel", name := "atom", desc := "(IIII)I" } : Jvm.MethodName)) ∈ jW := jC_9 _ (List.mem_of_getElem? (i := 35) rfl)
theorem jm_9_36 : (Jvm.Cond.instanceMethod ({ cls := "JoinedLeavesModel", name := "atom", desc := "(IIII)I" } : Jvm.MethodName)) ∈ jW := jC_9 _ (List.mem_of_getElem? (i := 36) rfl)
theorem jm_9_37 : (Jvm.Cond.selects "JoinedLeavesModel" ({ cls := "JoinedLeavesModel", name := "atom", desc := "(IIII)I" } : Jvm.MethodName) ({ cls := "JoinedLeavesModel", name := "atom", desc := "(IIII)I" } : Jvm.MethodName)) ∈ jW := jC_9 _ (List.mem_of_getElem? (i := 37) rfl)
theorem jm_9_38 : (Jvm.Cond.code ({ cls := "JoinedLeavesModel", name := "atom", desc := "(IIII)I" } : Jvm.MethodName) prog_8_method_11_code (8 : Nat) (Option.some Jvm.ClassFile.FieldType.int)) ∈ jW := jC_9 _ (List.mem_of_getElem? (i := 38) rfl)
theorem jm_9_39 : (Jvm.Cond.methodLink "JoinedLeavesLaw" (62 : Nat) ({ cls := "JoinedLeavesModel", name := "head", desc := "(I)I" } : Jvm.MethodName)) ∈ jW := jC_9 _ (List.mem_of_getElem? (i := 39) rfl)
theorem jm_9_40 : (Jvm.Cond.instanceMethod ({ cls := "JoinedLeavesModel", name := "head", desc := "(I)I" } : Jvm.MethodName)) ∈ jW := jC_9 _ (List.mem_of_getElem? (i := 40) rfl)
theorem jm_9_41 : (Jvm.Cond.selects "JoinedLeavesModel" ({ cls := "JoinedLeavesModel", name := "head", desc := "(I)I" } : Jvm.MethodName) ({ cls := "JoinedLeavesModel", name := "head", desc := "(I)I" } : Jvm.MethodName)) ∈ jW := jC_9 _ (List.mem_of_getElem? (i := 41) rfl)
theorem jm_9_42 : (Jvm.Cond.code ({ cls := "JoinedLeavesModel", name := "head", desc := "(I)I" } : Jvm.MethodName) prog_8_method_12_code (4 : Nat) (Option.some Jvm.ClassFile.FieldType.int)) ∈ jW := jC_9 _ (List.mem_of_getElem? (i := 42) rfl)
theorem jm_9_43 : (Jvm.Cond.methodLink "JoinedLeavesLaw" (66 : Nat) ({ cls := "JoinedLeavesModel", name := "clear", desc := "()I" } : Jvm.MethodName)) ∈ jW := jC_9 _ (List.mem_of_getElem? (i := 43) rfl)
theorem jm_9_44 : (Jvm.Cond.instanceMethod ({ cls := "JoinedLeavesModel", name := "clear", desc := "()I" } : Jvm.MethodName)) ∈ jW := jC_9 _ (List.mem_of_getElem? (i := 44) rfl)
theorem jm_9_45 : (Jvm.Cond.selects "JoinedLeavesModel" ({ cls := "JoinedLeavesModel", name := "clear", desc := "()I" } : Jvm.MethodName) ({ cls := "JoinedLeavesModel", name := "clear", desc := "()I" } : Jvm.MethodName)) ∈ jW := jC_9 _ (List.mem_of_getElem? (i := 45) rfl)
theorem jm_9_46 : (Jvm.Cond.code ({ cls := "JoinedLeavesModel", name := "clear", desc := "()I" } : Jvm.MethodName) prog_8_method_13_code (2 : Nat) (Option.some Jvm.ClassFile.FieldType.int)) ∈ jW := jC_9 _ (List.mem_of_getElem? (i := 46) rfl)
theorem jm_9_47 : (Jvm.Cond.methodLink "JoinedLeavesLaw" (71 : Nat) ({ cls := "JoinedLeavesModel", name := "tree", desc := "()Z" } : Jvm.MethodName)) ∈ jW := jC_9 _ (List.mem_of_getElem? (i := 47) rfl)
theorem jm_10_0 : (Jvm.Cond.instanceMethod ({ cls := "JoinedLeavesModel", name := "tree", desc := "()Z" } : Jvm.MethodName)) ∈ jW := jC_10 _ (List.mem_of_getElem? (i := 0) rfl)
theorem jm_10_1 : (Jvm.Cond.selects "JoinedLeavesModel" ({ cls := "JoinedLeavesModel", name := "tree", desc := "()Z" } : Jvm.MethodName) ({ cls := "JoinedLeavesModel", name := "tree", desc := "()Z" } : Jvm.MethodName)) ∈ jW := jC_10 _ (List.mem_of_getElem? (i := 1) rfl)
theorem jm_10_2 : (Jvm.Cond.code ({ cls := "JoinedLeavesModel", name := "tree", desc := "()Z" } : Jvm.MethodName) prog_8_method_19_code (1 : Nat) (Option.some Jvm.ClassFile.FieldType.boolean)) ∈ jW := jC_10 _ (List.mem_of_getElem? (i := 2) rfl)
theorem jm_10_3 : (Jvm.Cond.methodLink "JoinedLeavesModel" (93 : Nat) ({ cls := "JoinedLeavesModel", name := "isTree", desc := "()Z" } : Jvm.MethodName)) ∈ jW := jC_10 _ (List.mem_of_getElem? (i := 3) rfl)
theorem jm_10_4 : (Jvm.Cond.instanceMethod ({ cls := "JoinedLeavesModel", name := "isTree", desc := "()Z" } : Jvm.MethodName)) ∈ jW := jC_10 _ (List.mem_of_getElem? (i := 4) rfl)
theorem jm_10_5 : (Jvm.Cond.code ({ cls := "JoinedLeavesModel", name := "isTree", desc := "()Z" } : Jvm.MethodName) prog_8_method_18_code (1 : Nat) (Option.some Jvm.ClassFile.FieldType.boolean)) ∈ jW := jC_10 _ (List.mem_of_getElem? (i := 5) rfl)
theorem jm_10_6 : (Jvm.Cond.methodLink "JoinedLeavesModel" (90 : Nat) ({ cls := "JoinedLeavesModel", name := "hang", desc := "()V" } : Jvm.MethodName)) ∈ jW := jC_10 _ (List.mem_of_getElem? (i := 6) rfl)
theorem jm_10_7 : (Jvm.Cond.instanceMethod ({ cls := "JoinedLeavesModel", name := "hang", desc := "()V" } : Jvm.MethodName)) ∈ jW := jC_10 _ (List.mem_of_getElem? (i := 7) rfl)
theorem jm_10_8 : (Jvm.Cond.code ({ cls := "JoinedLeavesModel", name := "hang", desc := "()V" } : Jvm.MethodName) prog_8_method_17_code (4 : Nat) (Option.none : Option Jvm.ClassFile.FieldType)) ∈ jW := jC_10 _ (List.mem_of_getElem? (i := 8) rfl)
theorem jm_10_9 : (Jvm.Cond.methodLink "JoinedLeavesModel" (80 : Nat) ({ cls := "JoinedLeavesModel", name := "isLeft", desc := "(I)Z" } : Jvm.MethodName)) ∈ jW := jC_10 _ (List.mem_of_getElem? (i := 9) rfl)
theorem jm_10_10 : (Jvm.Cond.instanceMethod ({ cls := "JoinedLeavesModel", name := "isLeft", desc := "(I)Z" } : Jvm.MethodName)) ∈ jW := jC_10 _ (List.mem_of_getElem? (i := 10) rfl)
theorem jm_10_11 : (Jvm.Cond.code ({ cls := "JoinedLeavesModel", name := "isLeft", desc := "(I)Z" } : Jvm.MethodName) prog_8_method_15_code (2 : Nat) (Option.some Jvm.ClassFile.FieldType.boolean)) ∈ jW := jC_10 _ (List.mem_of_getElem? (i := 11) rfl)
theorem jm_10_12 : (Jvm.Cond.methodLink "JoinedLeavesModel" (87 : Nat) ({ cls := "JoinedLeavesModel", name := "holder", desc := "(I)I" } : Jvm.MethodName)) ∈ jW := jC_10 _ (List.mem_of_getElem? (i := 12) rfl)
theorem jm_10_13 : (Jvm.Cond.instanceMethod ({ cls := "JoinedLeavesModel", name := "holder", desc := "(I)I" } : Jvm.MethodName)) ∈ jW := jC_10 _ (List.mem_of_getElem? (i := 13) rfl)
theorem jm_10_14 : (Jvm.Cond.code ({ cls := "JoinedLeavesModel", name := "holder", desc := "(I)I" } : Jvm.MethodName) prog_8_method_16_code (5 : Nat) (Option.some Jvm.ClassFile.FieldType.int)) ∈ jW := jC_10 _ (List.mem_of_getElem? (i := 14) rfl)
theorem jm_10_15 : (Jvm.Cond.methodLink "JoinedLeavesModel" (83 : Nat) ({ cls := "JoinedLeavesModel", name := "setOf", desc := "(I)I" } : Jvm.MethodName)) ∈ jW := jC_10 _ (List.mem_of_getElem? (i := 15) rfl)
theorem jm_10_16 : (Jvm.Cond.instanceMethod ({ cls := "JoinedLeavesModel", name := "setOf", desc := "(I)I" } : Jvm.MethodName)) ∈ jW := jC_10 _ (List.mem_of_getElem? (i := 16) rfl)
theorem jm_10_17 : (Jvm.Cond.code ({ cls := "JoinedLeavesModel", name := "setOf", desc := "(I)I" } : Jvm.MethodName) prog_8_method_14_code (4 : Nat) (Option.some Jvm.ClassFile.FieldType.int)) ∈ jW := jC_10 _ (List.mem_of_getElem? (i := 17) rfl)
theorem jm_10_18 : (Jvm.Cond.methodLink "JoinedLeavesLaw" (75 : Nat) ({ cls := "JoinedLeavesModel", name := "parent", desc := "(I)I" } : Jvm.MethodName)) ∈ jW := jC_10 _ (List.mem_of_getElem? (i := 18) rfl)
theorem jm_10_19 : (Jvm.Cond.instanceMethod ({ cls := "JoinedLeavesModel", name := "parent", desc := "(I)I" } : Jvm.MethodName)) ∈ jW := jC_10 _ (List.mem_of_getElem? (i := 19) rfl)
theorem jm_10_20 : (Jvm.Cond.selects "JoinedLeavesModel" ({ cls := "JoinedLeavesModel", name := "parent", desc := "(I)I" } : Jvm.MethodName) ({ cls := "JoinedLeavesModel", name := "parent", desc := "(I)I" } : Jvm.MethodName)) ∈ jW := jC_10 _ (List.mem_of_getElem? (i := 20) rfl)
theorem jm_10_21 : (Jvm.Cond.code ({ cls := "JoinedLeavesModel", name := "parent", desc := "(I)I" } : Jvm.MethodName) prog_8_method_20_code (2 : Nat) (Option.some Jvm.ClassFile.FieldType.int)) ∈ jW := jC_10 _ (List.mem_of_getElem? (i := 21) rfl)
theorem jm_10_22 : (Jvm.Cond.methodLink "JoinedLeavesModel" (97 : Nat) ({ cls := "JoinedLeavesModel", name := "isAtom", desc := "(I)Z" } : Jvm.MethodName)) ∈ jW := jC_10 _ (List.mem_of_getElem? (i := 22) rfl)
theorem jm_10_23 : (Jvm.Cond.instanceMethod ({ cls := "JoinedLeavesModel", name := "isAtom", desc := "(I)Z" } : Jvm.MethodName)) ∈ jW := jC_10 _ (List.mem_of_getElem? (i := 23) rfl)
theorem jm_10_24 : (Jvm.Cond.code ({ cls := "JoinedLeavesModel", name := "isAtom", desc := "(I)Z" } : Jvm.MethodName) prog_8_method_4_code (2 : Nat) (Option.some Jvm.ClassFile.FieldType.boolean)) ∈ jW := jC_10 _ (List.mem_of_getElem? (i := 24) rfl)
theorem jm_10_25 : (Jvm.Cond.methodLink "JoinedLeavesLaw" (79 : Nat) ({ cls := "JoinedLeavesModel", name := "turn", desc := "(I)I" } : Jvm.MethodName)) ∈ jW := jC_10 _ (List.mem_of_getElem? (i := 25) rfl)
theorem jm_10_26 : (Jvm.Cond.instanceMethod ({ cls := "JoinedLeavesModel", name := "turn", desc := "(I)I" } : Jvm.MethodName)) ∈ jW := jC_10 _ (List.mem_of_getElem? (i := 26) rfl)
theorem jm_10_27 : (Jvm.Cond.selects "JoinedLeavesModel" ({ cls := "JoinedLeavesModel", name := "turn", desc := "(I)I" } : Jvm.MethodName) ({ cls := "JoinedLeavesModel", name := "turn", desc := "(I)I" } : Jvm.MethodName)) ∈ jW := jC_10 _ (List.mem_of_getElem? (i := 27) rfl)
theorem jm_10_28 : (Jvm.Cond.code ({ cls := "JoinedLeavesModel", name := "turn", desc := "(I)I" } : Jvm.MethodName) prog_8_method_21_code (2 : Nat) (Option.some Jvm.ClassFile.FieldType.int)) ∈ jW := jC_10 _ (List.mem_of_getElem? (i := 28) rfl)
theorem jm_10_29 : (Jvm.Cond.methodLink "JoinedLeavesLaw" (85 : Nat) ({ cls := "JoinedLeavesModel", name := "ways", desc := "()J" } : Jvm.MethodName)) ∈ jW := jC_10 _ (List.mem_of_getElem? (i := 29) rfl)
theorem jm_10_30 : (Jvm.Cond.instanceMethod ({ cls := "JoinedLeavesModel", name := "ways", desc := "()J" } : Jvm.MethodName)) ∈ jW := jC_10 _ (List.mem_of_getElem? (i := 30) rfl)
theorem jm_10_31 : (Jvm.Cond.selects "JoinedLeavesModel" ({ cls := "JoinedLeavesModel", name := "ways", desc := "()J" } : Jvm.MethodName) ({ cls := "JoinedLeavesModel", name := "ways", desc := "()J" } : Jvm.MethodName)) ∈ jW := jC_10 _ (List.mem_of_getElem? (i := 31) rfl)
theorem jm_10_32 : (Jvm.Cond.code ({ cls := "JoinedLeavesModel", name := "ways", desc := "()J" } : Jvm.MethodName) prog_8_method_26_code (1 : Nat) (Option.some Jvm.ClassFile.FieldType.long)) ∈ jW := jC_10 _ (List.mem_of_getElem? (i := 32) rfl)
theorem jm_10_33 : (Jvm.Cond.methodLink "JoinedLeavesModel" (118 : Nat) ({ cls := "JoinedLeavesModel", name := "look", desc := "()V" } : Jvm.MethodName)) ∈ jW := jC_10 _ (List.mem_of_getElem? (i := 33) rfl)
theorem jm_10_34 : (Jvm.Cond.instanceMethod ({ cls := "JoinedLeavesModel", name := "look", desc := "()V" } : Jvm.MethodName)) ∈ jW := jC_10 _ (List.mem_of_getElem? (i := 34) rfl)
theorem jm_10_35 : (Jvm.Cond.code ({ cls := "JoinedLeavesModel", name := "look", desc := "()V" } : Jvm.MethodName) prog_8_method_25_code (3 : Nat) (Option.none : Option Jvm.ClassFile.FieldType)) ∈ jW := jC_10 _ (List.mem_of_getElem? (i := 35) rfl)
theorem jm_10_36 : (Jvm.Cond.methodLink "JoinedLeavesModel" (107 : Nat) ({ cls := "JoinedLeavesModel", name := "note", desc := "()V" } : Jvm.MethodName)) ∈ jW := jC_10 _ (List.mem_of_getElem? (i := 36) rfl)
theorem jm_10_37 : (Jvm.Cond.instanceMethod ({ cls := "JoinedLeavesModel", name := "note", desc := "()V" } : Jvm.MethodName)) ∈ jW := jC_10 _ (List.mem_of_getElem? (i := 37) rfl)
theorem jm_10_38 : (Jvm.Cond.code ({ cls := "JoinedLeavesModel", name := "note", desc := "()V" } : Jvm.MethodName) prog_8_method_24_code (3 : Nat) (Option.none : Option Jvm.ClassFile.FieldType)) ∈ jW := jC_10 _ (List.mem_of_getElem? (i := 38) rfl)
theorem jm_10_39 : (Jvm.Cond.methodLink "JoinedLeavesModel" (110 : Nat) ({ cls := "JoinedLeavesModel", name := "fits", desc := "(II)Z" } : Jvm.MethodName)) ∈ jW := jC_10 _ (List.mem_of_getElem? (i := 39) rfl)
theorem jm_10_40 : (Jvm.Cond.instanceMethod ({ cls := "JoinedLeavesModel", name := "fits", desc := "(II)Z" } : Jvm.MethodName)) ∈ jW := jC_10 _ (List.mem_of_getElem? (i := 40) rfl)
theorem jm_10_41 : (Jvm.Cond.code ({ cls := "JoinedLeavesModel", name := "fits", desc := "(II)Z" } : Jvm.MethodName) prog_8_method_23_code (9 : Nat) (Option.some Jvm.ClassFile.FieldType.boolean)) ∈ jW := jC_10 _ (List.mem_of_getElem? (i := 41) rfl)
theorem jm_10_42 : (Jvm.Cond.methodLink "JoinedLeavesModel" (100 : Nat) ({ cls := "JoinedLeavesModel", name := "before", desc := "(I)I" } : Jvm.MethodName)) ∈ jW := jC_10 _ (List.mem_of_getElem? (i := 42) rfl)
theorem jm_10_43 : (Jvm.Cond.instanceMethod ({ cls := "JoinedLeavesModel", name := "before", desc := "(I)I" } : Jvm.MethodName)) ∈ jW := jC_10 _ (List.mem_of_getElem? (i := 43) rfl)
theorem jm_10_44 : (Jvm.Cond.code ({ cls := "JoinedLeavesModel", name := "before", desc := "(I)I" } : Jvm.MethodName) prog_8_method_22_code (4 : Nat) (Option.some Jvm.ClassFile.FieldType.int)) ∈ jW := jC_10 _ (List.mem_of_getElem? (i := 44) rfl)
theorem jm_10_45 : (Jvm.Cond.constant "JoinedLeavesModel" (117 : Nat) (65536 : Int32)) ∈ jW := jC_10 _ (List.mem_of_getElem? (i := 45) rfl)
theorem jm_10_46 : (Jvm.Cond.methodLink "JoinedLeavesLaw" (92 : Nat) ({ cls := "JoinedLeavesModel", name := "live", desc := "(I)I" } : Jvm.MethodName)) ∈ jW := jC_10 _ (List.mem_of_getElem? (i := 46) rfl)
theorem jm_10_47 : (Jvm.Cond.instanceMethod ({ cls := "JoinedLeavesModel", name := "live", desc := "(I)I" } : Jvm.MethodName)) ∈ jW := jC_10 _ (List.mem_of_getElem? (i := 47) rfl)
theorem jm_11_0 : (Jvm.Cond.selects "JoinedLeavesModel" ({ cls := "JoinedLeavesModel", name := "live", desc := "(I)I" } : Jvm.MethodName) ({ cls := "JoinedLeavesModel", name := "live", desc := "(I)I" } : Jvm.MethodName)) ∈ jW := jC_11 _ (List.mem_of_getElem? (i := 0) rfl)
theorem jm_11_1 : (Jvm.Cond.code ({ cls := "JoinedLeavesModel", name := "live", desc := "(I)I" } : Jvm.MethodName) prog_8_method_27_code (4 : Nat) (Option.some Jvm.ClassFile.FieldType.int)) ∈ jW := jC_11 _ (List.mem_of_getElem? (i := 1) rfl)
theorem jm_11_2 : (Jvm.Cond.methodLink "JoinedLeavesLaw" (95 : Nat) ({ cls := "JoinedLeavesModel", name := "answers", desc := "()I" } : Jvm.MethodName)) ∈ jW := jC_11 _ (List.mem_of_getElem? (i := 2) rfl)
theorem jm_11_3 : (Jvm.Cond.instanceMethod ({ cls := "JoinedLeavesModel", name := "answers", desc := "()I" } : Jvm.MethodName)) ∈ jW := jC_11 _ (List.mem_of_getElem? (i := 3) rfl)
theorem jm_11_4 : (Jvm.Cond.selects "JoinedLeavesModel" ({ cls := "JoinedLeavesModel", name := "answers", desc := "()I" } : Jvm.MethodName) ({ cls := "JoinedLeavesModel", name := "answers", desc := "()I" } : Jvm.MethodName)) ∈ jW := jC_11 _ (List.mem_of_getElem? (i := 4) rfl)
theorem jm_11_5 : (Jvm.Cond.code ({ cls := "JoinedLeavesModel", name := "answers", desc := "()I" } : Jvm.MethodName) prog_8_method_30_code (1 : Nat) (Option.some Jvm.ClassFile.FieldType.int)) ∈ jW := jC_11 _ (List.mem_of_getElem? (i := 5) rfl)
theorem jm_11_6 : (Jvm.Cond.methodLink "JoinedLeavesModel" (124 : Nat) ({ cls := "JoinedLeavesModel", name := "codeOfAnswers", desc := "()I" } : Jvm.MethodName)) ∈ jW := jC_11 _ (List.mem_of_getElem? (i := 6) rfl)
theorem jm_11_7 : (Jvm.Cond.instanceMethod ({ cls := "JoinedLeavesModel", name := "codeOfAnswers", desc := "()I" } : Jvm.MethodName)) ∈ jW := jC_11 _ (List.mem_of_getElem? (i := 7) rfl)
theorem jm_11_8 : (Jvm.Cond.code ({ cls := "JoinedLeavesModel", name := "codeOfAnswers", desc := "()I" } : Jvm.MethodName) prog_8_method_29_code (1 : Nat) (Option.some Jvm.ClassFile.FieldType.int)) ∈ jW := jC_11 _ (List.mem_of_getElem? (i := 8) rfl)
theorem jm_11_9 : (Jvm.Cond.methodLink "JoinedLeavesModel" (121 : Nat) ({ cls := "JoinedLeavesModel", name := "isHeadBound", desc := "()Z" } : Jvm.MethodName)) ∈ jW := jC_11 _ (List.mem_of_getElem? (i := 9) rfl)
theorem jm_11_10 : (Jvm.Cond.instanceMethod ({ cls := "JoinedLeavesModel", name := "isHeadBound", desc := "()Z" } : Jvm.MethodName)) ∈ jW := jC_11 _ (List.mem_of_getElem? (i := 10) rfl)
theorem jm_11_11 : (Jvm.Cond.code ({ cls := "JoinedLeavesModel", name := "isHeadBound", desc := "()Z" } : Jvm.MethodName) prog_8_method_28_code (3 : Nat) (Option.some Jvm.ClassFile.FieldType.boolean)) ∈ jW := jC_11 _ (List.mem_of_getElem? (i := 11) rfl)
theorem jm_11_12 : (Jvm.Cond.methodLink "JoinedLeavesLaw" (99 : Nat) ({ cls := "JoinedLeavesModel", name := "answer", desc := "(II)I" } : Jvm.MethodName)) ∈ jW := jC_11 _ (List.mem_of_getElem? (i := 12) rfl)
theorem jm_11_13 : (Jvm.Cond.instanceMethod ({ cls := "JoinedLeavesModel", name := "answer", desc := "(II)I" } : Jvm.MethodName)) ∈ jW := jC_11 _ (List.mem_of_getElem? (i := 13) rfl)
theorem jm_11_14 : (Jvm.Cond.selects "JoinedLeavesModel" ({ cls := "JoinedLeavesModel", name := "answer", desc := "(II)I" } : Jvm.MethodName) ({ cls := "JoinedLeavesModel", name := "answer", desc := "(II)I" } : Jvm.MethodName)) ∈ jW := jC_11 _ (List.mem_of_getElem? (i := 14) rfl)
theorem jm_11_15 : (Jvm.Cond.code ({ cls := "JoinedLeavesModel", name := "answer", desc := "(II)I" } : Jvm.MethodName) prog_8_method_31_code (3 : Nat) (Option.some Jvm.ClassFile.FieldType.int)) ∈ jW := jC_11 _ (List.mem_of_getElem? (i := 15) rfl)
theorem jm_11_16 : (Jvm.Cond.selects "JoinedLeaves$Relation" ({ cls := "JoinedLeaves$Relation", name := "put", desc := "(III)Z" } : Jvm.MethodName) ({ cls := "JoinedLeaves$Relation", name := "put", desc := "(III)Z" } : Jvm.MethodName)) ∈ jW := jC_11 _ (List.mem_of_getElem? (i := 16) rfl)
theorem jm_11_17 : (Jvm.Cond.selects "JoinedLeaves$Relation" ({ cls := "JoinedLeaves$Relation", name := "pack", desc := "(III)I" } : Jvm.MethodName) ({ cls := "JoinedLeaves$Relation", name := "pack", desc := "(III)I" } : Jvm.MethodName)) ∈ jW := jC_11 _ (List.mem_of_getElem? (i := 17) rfl)
theorem jm_11_18 : (Jvm.Cond.selects "JoinedLeaves$Relation" ({ cls := "JoinedLeaves$Relation", name := "placeOf", desc := "(I)I" } : Jvm.MethodName) ({ cls := "JoinedLeaves$Relation", name := "placeOf", desc := "(I)I" } : Jvm.MethodName)) ∈ jW := jC_11 _ (List.mem_of_getElem? (i := 18) rfl)
theorem jm_11_19 : (Jvm.Cond.selects "JoinedLeaves$Relation" ({ cls := "JoinedLeaves$Relation", name := "take", desc := "(III)Z" } : Jvm.MethodName) ({ cls := "JoinedLeaves$Relation", name := "take", desc := "(III)Z" } : Jvm.MethodName)) ∈ jW := jC_11 _ (List.mem_of_getElem? (i := 19) rfl)
theorem jm_11_20 : (Jvm.Cond.selects "JoinedLeaves$Question" ({ cls := "JoinedLeaves$Question", name := "putAtom", desc := "(LJoinedLeaves$Relation;III)Z" } : Jvm.MethodName) ({ cls := "JoinedLeaves$Question", name := "putAtom", desc := "(LJoinedLeaves$Relation;III)Z" } : Jvm.MethodName)) ∈ jW := jC_11 _ (List.mem_of_getElem? (i := 20) rfl)
theorem jm_11_21 : (Jvm.Cond.selects "JoinedLeaves$Atom" ({ cls := "JoinedLeaves$Atom", name := "bind", desc := "(LJoinedLeaves$Relation;III)Z" } : Jvm.MethodName) ({ cls := "JoinedLeaves$Atom", name := "bind", desc := "(LJoinedLeaves$Relation;III)Z" } : Jvm.MethodName)) ∈ jW := jC_11 _ (List.mem_of_getElem? (i := 21) rfl)
theorem jm_11_22 : (Jvm.Cond.selects "JoinedLeaves$Hanging" ({ cls := "JoinedLeaves$Hanging", name := "hangAtoms", desc := "()V" } : Jvm.MethodName) ({ cls := "JoinedLeaves$Hanging", name := "hangAtoms", desc := "()V" } : Jvm.MethodName)) ∈ jW := jC_11 _ (List.mem_of_getElem? (i := 22) rfl)
theorem jm_11_23 : (Jvm.Cond.selects "JoinedLeaves$Hanging" ({ cls := "JoinedLeaves$Hanging", name := "hangLeastEar", desc := "()V" } : Jvm.MethodName) ({ cls := "JoinedLeaves$Hanging", name := "hangLeastEar", desc := "()V" } : Jvm.MethodName)) ∈ jW := jC_11 _ (List.mem_of_getElem? (i := 23) rfl)
theorem jm_11_24 : (Jvm.Cond.selects "JoinedLeaves$Hanging" ({ cls := "JoinedLeaves$Hanging", name := "leastHolderOf", desc := "(I)I" } : Jvm.MethodName) ({ cls := "JoinedLeaves$Hanging", name := "leastHolderOf", desc := "(I)I" } : Jvm.MethodName)) ∈ jW := jC_11 _ (List.mem_of_getElem? (i := 24) rfl)
theorem jm_11_25 : (Jvm.Cond.selects "JoinedLeaves$Hanging" ({ cls := "JoinedLeaves$Hanging", name := "variablesOf", desc := "(I)I" } : Jvm.MethodName) ({ cls := "JoinedLeaves$Hanging", name := "variablesOf", desc := "(I)I" } : Jvm.MethodName)) ∈ jW := jC_11 _ (List.mem_of_getElem? (i := 25) rfl)
theorem jm_11_26 : (Jvm.Cond.selects "JoinedLeaves$Question" ({ cls := "JoinedLeaves$Question", name := "putInHead", desc := "(I)Z" } : Jvm.MethodName) ({ cls := "JoinedLeaves$Question", name := "putInHead", desc := "(I)Z" } : Jvm.MethodName)) ∈ jW := jC_11 _ (List.mem_of_getElem? (i := 26) rfl)
theorem jm_11_27 : (Jvm.Cond.selects "JoinedLeaves$Question" ({ cls := "JoinedLeaves$Question", name := "empty", desc := "()V" } : Jvm.MethodName) ({ cls := "JoinedLeaves$Question", name := "empty", desc := "()V" } : Jvm.MethodName)) ∈ jW := jC_11 _ (List.mem_of_getElem? (i := 27) rfl)
theorem jm_11_28 : (Jvm.Cond.selects "JoinedLeaves$Hanging" ({ cls := "JoinedLeaves$Hanging", name := "isTree", desc := "()Z" } : Jvm.MethodName) ({ cls := "JoinedLeaves$Hanging", name := "isTree", desc := "()Z" } : Jvm.MethodName)) ∈ jW := jC_11 _ (List.mem_of_getElem? (i := 28) rfl)
theorem jm_11_29 : (Jvm.Cond.selects "JoinedLeaves" ({ cls := "JoinedLeaves", name := "requireTree", desc := "()V" } : Jvm.MethodName) ({ cls := "JoinedLeaves", name := "requireTree", desc := "()V" } : Jvm.MethodName)) ∈ jW := jC_11 _ (List.mem_of_getElem? (i := 29) rfl)
theorem jm_11_30 : (Jvm.Cond.selects "java/lang/Throwable" ({ cls := "java/lang/Throwable", name := "fillInStackTrace", desc := "(I)Ljava/lang/Throwable;" } : Jvm.MethodName) ({ cls := "java/lang/Throwable", name := "fillInStackTrace", desc := "(I)Ljava/lang/Throwable;" } : Jvm.MethodName)) ∈ jW := jC_11 _ (List.mem_of_getElem? (i := 30) rfl)
theorem jm_11_31 : (Jvm.Cond.selects "JoinedLeaves$Join" ({ cls := "JoinedLeaves$Join", name := "countWays", desc := "()J" } : Jvm.MethodName) ({ cls := "JoinedLeaves$Join", name := "countWays", desc := "()J" } : Jvm.MethodName)) ∈ jW := jC_11 _ (List.mem_of_getElem? (i := 31) rfl)
theorem jm_11_32 : (Jvm.Cond.selects "JoinedLeaves$Hanging" ({ cls := "JoinedLeaves$Hanging", name := "root", desc := "()I" } : Jvm.MethodName) ({ cls := "JoinedLeaves$Hanging", name := "root", desc := "()I" } : Jvm.MethodName)) ∈ jW := jC_11 _ (List.mem_of_getElem? (i := 32) rfl)
theorem jm_11_33 : (Jvm.Cond.selects "JoinedLeaves$Join" ({ cls := "JoinedLeaves$Join", name := "compareRows", desc := "()V" } : Jvm.MethodName) ({ cls := "JoinedLeaves$Join", name := "compareRows", desc := "()V" } : Jvm.MethodName)) ∈ jW := jC_11 _ (List.mem_of_getElem? (i := 33) rfl)
theorem jm_11_34 : (Jvm.Cond.selects "JoinedLeaves$Atom" ({ cls := "JoinedLeaves$Atom", name := "rowsAgreeingWithThemselves", desc := "()I" } : Jvm.MethodName) ({ cls := "JoinedLeaves$Atom", name := "rowsAgreeingWithThemselves", desc := "()I" } : Jvm.MethodName)) ∈ jW := jC_11 _ (List.mem_of_getElem? (i := 34) rfl)
theorem jm_11_35 : (Jvm.Cond.selects "JoinedLeaves$Atom" ({ cls := "JoinedLeaves$Atom", name := "agreesWithItself", desc := "(I)Z" } : Jvm.MethodName) ({ cls := "JoinedLeaves$Atom", name := "agreesWithItself", desc := "(I)Z" } : Jvm.MethodName)) ∈ jW := jC_11 _ (List.mem_of_getElem? (i := 35) rfl)
theorem jm_11_36 : (Jvm.Cond.selects "JoinedLeaves$Relation" ({ cls := "JoinedLeaves$Relation", name := "valueAt", desc := "(II)I" } : Jvm.MethodName) ({ cls := "JoinedLeaves$Relation", name := "valueAt", desc := "(II)I" } : Jvm.MethodName)) ∈ jW := jC_11 _ (List.mem_of_getElem? (i := 36) rfl)
theorem jm_11_37 : (Jvm.Cond.selects "JoinedLeaves$Atom" ({ cls := "JoinedLeaves$Atom", name := "rowsAgreeingWith", desc := "(LJoinedLeaves$Atom;I)I" } : Jvm.MethodName) ({ cls := "JoinedLeaves$Atom", name := "rowsAgreeingWith", desc := "(LJoinedLeaves$Atom;I)I" } : Jvm.MethodName)) ∈ jW := jC_11 _ (List.mem_of_getElem? (i := 37) rfl)
theorem jm_11_38 : (Jvm.Cond.selects "JoinedLeaves$Atom" ({ cls := "JoinedLeaves$Atom", name := "rowsAllowing", desc := "(II)I" } : Jvm.MethodName) ({ cls := "JoinedLeaves$Atom", name := "rowsAllowing", desc := "(II)I" } : Jvm.MethodName)) ∈ jW := jC_11 _ (List.mem_of_getElem? (i := 38) rfl)
theorem jm_11_39 : (Jvm.Cond.selects "JoinedLeaves$Join" ({ cls := "JoinedLeaves$Join", name := "startWeights", desc := "()V" } : Jvm.MethodName) ({ cls := "JoinedLeaves$Join", name := "startWeights", desc := "()V" } : Jvm.MethodName)) ∈ jW := jC_11 _ (List.mem_of_getElem? (i := 39) rfl)
theorem jm_11_40 : (Jvm.Cond.selects "JoinedLeaves$Join" ({ cls := "JoinedLeaves$Join", name := "weighIntoParent", desc := "(I)V" } : Jvm.MethodName) ({ cls := "JoinedLeaves$Join", name := "weighIntoParent", desc := "(I)V" } : Jvm.MethodName)) ∈ jW := jC_11 _ (List.mem_of_getElem? (i := 40) rfl)
theorem jm_11_41 : (Jvm.Cond.selects "JoinedLeaves$Join" ({ cls := "JoinedLeaves$Join", name := "weightOf", desc := "(II)J" } : Jvm.MethodName) ({ cls := "JoinedLeaves$Join", name := "weightOf", desc := "(II)J" } : Jvm.MethodName)) ∈ jW := jC_11 _ (List.mem_of_getElem? (i := 41) rfl)
theorem jm_11_42 : (Jvm.Cond.selects "JoinedLeaves$Join" ({ cls := "JoinedLeaves$Join", name := "countLiveRows", desc := "(I)I" } : Jvm.MethodName) ({ cls := "JoinedLeaves$Join", name := "countLiveRows", desc := "(I)I" } : Jvm.MethodName)) ∈ jW := jC_11 _ (List.mem_of_getElem? (i := 42) rfl)
theorem jm_11_43 : (Jvm.Cond.selects "JoinedLeaves$Join" ({ cls := "JoinedLeaves$Join", name := "keepLiveRows", desc := "([I)V" } : Jvm.MethodName) ({ cls := "JoinedLeaves$Join", name := "keepLiveRows", desc := "([I)V" } : Jvm.MethodName)) ∈ jW := jC_11 _ (List.mem_of_getElem? (i := 43) rfl)
theorem jm_11_44 : (Jvm.Cond.selects "JoinedLeaves$Join" ({ cls := "JoinedLeaves$Join", name := "keepRowsOfParent", desc := "([II)V" } : Jvm.MethodName) ({ cls := "JoinedLeaves$Join", name := "keepRowsOfParent", desc := "([II)V" } : Jvm.MethodName)) ∈ jW := jC_11 _ (List.mem_of_getElem? (i := 44) rfl)
theorem jm_11_45 : (Jvm.Cond.selects "JoinedLeaves$Join" ({ cls := "JoinedLeaves$Join", name := "keepRowsOfChild", desc := "([II)V" } : Jvm.MethodName) ({ cls := "JoinedLeaves$Join", name := "keepRowsOfChild", desc := "([II)V" } : Jvm.MethodName)) ∈ jW := jC_11 _ (List.mem_of_getElem? (i := 45) rfl)
theorem jm_11_46 : (Jvm.Cond.selects "JoinedLeaves" ({ cls := "JoinedLeaves", name := "findAnswers", desc := "()V" } : Jvm.MethodName) ({ cls := "JoinedLeaves", name := "findAnswers", desc := "()V" } : Jvm.MethodName)) ∈ jW := jC_11 _ (List.mem_of_getElem? (i := 46) rfl)
theorem jm_11_47 : (Jvm.Cond.selects "JoinedLeaves$Question" ({ cls := "JoinedLeaves$Question", name := "bindsHead", desc := "()Z" } : Jvm.MethodName) ({ cls := "JoinedLeaves$Question", name := "bindsHead", desc := "()Z" } : Jvm.MethodName)) ∈ jW := jC_11 _ (List.mem_of_getElem? (i := 47) rfl)
theorem jm_12_0 : (Jvm.Cond.selects "JoinedLeaves$Join" ({ cls := "JoinedLeaves$Join", name := "search", desc := "()V" } : Jvm.MethodName) ({ cls := "JoinedLeaves$Join", name := "search", desc := "()V" } : Jvm.MethodName)) ∈ jW := jC_12 _ (List.mem_of_getElem? (i := 0) rfl)
theorem jm_12_1 : (Jvm.Cond.selects "JoinedLeaves$Join" ({ cls := "JoinedLeaves$Join", name := "hasWay", desc := "([I)Z" } : Jvm.MethodName) ({ cls := "JoinedLeaves$Join", name := "hasWay", desc := "([I)Z" } : Jvm.MethodName)) ∈ jW := jC_12 _ (List.mem_of_getElem? (i := 1) rfl)
theorem jm_12_2 : (Jvm.Cond.selects "JoinedLeaves$Join" ({ cls := "JoinedLeaves$Join", name := "choose", desc := "(II)V" } : Jvm.MethodName) ({ cls := "JoinedLeaves$Join", name := "choose", desc := "(II)V" } : Jvm.MethodName)) ∈ jW := jC_12 _ (List.mem_of_getElem? (i := 2) rfl)
theorem jm_12_3 : (Jvm.Cond.selects "JoinedLeaves$Join" ({ cls := "JoinedLeaves$Join", name := "storeAnswer", desc := "(I)V" } : Jvm.MethodName) ({ cls := "JoinedLeaves$Join", name := "storeAnswer", desc := "(I)V" } : Jvm.MethodName)) ∈ jW := jC_12 _ (List.mem_of_getElem? (i := 3) rfl)
theorem jm_12_4 : (Jvm.Cond.selects "JoinedLeaves$Join" ({ cls := "JoinedLeaves$Join", name := "liveValuesOf", desc := "(I[I)I" } : Jvm.MethodName) ({ cls := "JoinedLeaves$Join", name := "liveValuesOf", desc := "(I[I)I" } : Jvm.MethodName)) ∈ jW := jC_12 _ (List.mem_of_getElem? (i := 4) rfl)
theorem jm_12_5 : (Jvm.Cond.selects "JoinedLeaves$Question" ({ cls := "JoinedLeaves$Question", name := "atomWith", desc := "(I)I" } : Jvm.MethodName) ({ cls := "JoinedLeaves$Question", name := "atomWith", desc := "(I)I" } : Jvm.MethodName)) ∈ jW := jC_12 _ (List.mem_of_getElem? (i := 5) rfl)
theorem jm_12_6 : (Jvm.Cond.selects "JoinedLeaves$Atom" ({ cls := "JoinedLeaves$Atom", name := "valuesOf", desc := "(II)I" } : Jvm.MethodName) ({ cls := "JoinedLeaves$Atom", name := "valuesOf", desc := "(II)I" } : Jvm.MethodName)) ∈ jW := jC_12 _ (List.mem_of_getElem? (i := 6) rfl)
theorem jm_12_7 : (Jvm.Cond.selects "JoinedLeaves$Join" ({ cls := "JoinedLeaves$Join", name := "keepRowsWith", desc := "(III)V" } : Jvm.MethodName) ({ cls := "JoinedLeaves$Join", name := "keepRowsWith", desc := "(III)V" } : Jvm.MethodName)) ∈ jW := jC_12 _ (List.mem_of_getElem? (i := 7) rfl)
theorem jm_12_8 : (Jvm.Cond.selects "JoinedLeaves$Join" ({ cls := "JoinedLeaves$Join", name := "valueInAnswer", desc := "(II)I" } : Jvm.MethodName) ({ cls := "JoinedLeaves$Join", name := "valueInAnswer", desc := "(II)I" } : Jvm.MethodName)) ∈ jW := jC_12 _ (List.mem_of_getElem? (i := 8) rfl)
theorem jm_12_9 : (Jvm.Cond.selects "JoinedLeavesModel" ({ cls := "JoinedLeavesModel", name := "isRelation", desc := "(I)Z" } : Jvm.MethodName) ({ cls := "JoinedLeavesModel", name := "isRelation", desc := "(I)Z" } : Jvm.MethodName)) ∈ jW := jC_12 _ (List.mem_of_getElem? (i := 9) rfl)
theorem jm_12_10 : (Jvm.Cond.selects "JoinedLeavesModel" ({ cls := "JoinedLeavesModel", name := "placeOf", desc := "(IIII)I" } : Jvm.MethodName) ({ cls := "JoinedLeavesModel", name := "placeOf", desc := "(IIII)I" } : Jvm.MethodName)) ∈ jW := jC_12 _ (List.mem_of_getElem? (i := 10) rfl)
theorem jm_12_11 : (Jvm.Cond.selects "JoinedLeavesModel" ({ cls := "JoinedLeavesModel", name := "isTree", desc := "()Z" } : Jvm.MethodName) ({ cls := "JoinedLeavesModel", name := "isTree", desc := "()Z" } : Jvm.MethodName)) ∈ jW := jC_12 _ (List.mem_of_getElem? (i := 11) rfl)
theorem jm_12_12 : (Jvm.Cond.selects "JoinedLeavesModel" ({ cls := "JoinedLeavesModel", name := "hang", desc := "()V" } : Jvm.MethodName) ({ cls := "JoinedLeavesModel", name := "hang", desc := "()V" } : Jvm.MethodName)) ∈ jW := jC_12 _ (List.mem_of_getElem? (i := 12) rfl)
theorem jm_12_13 : (Jvm.Cond.selects "JoinedLeavesModel" ({ cls := "JoinedLeavesModel", name := "isLeft", desc := "(I)Z" } : Jvm.MethodName) ({ cls := "JoinedLeavesModel", name := "isLeft", desc := "(I)Z" } : Jvm.MethodName)) ∈ jW := jC_12 _ (List.mem_of_getElem? (i := 13) rfl)
theorem jm_12_14 : (Jvm.Cond.selects "JoinedLeavesModel" ({ cls := "JoinedLeavesModel", name := "holder", desc := "(I)I" } : Jvm.MethodName) ({ cls := "JoinedLeavesModel", name := "holder", desc := "(I)I" } : Jvm.MethodName)) ∈ jW := jC_12 _ (List.mem_of_getElem? (i := 14) rfl)
theorem jm_12_15 : (Jvm.Cond.selects "JoinedLeavesModel" ({ cls := "JoinedLeavesModel", name := "setOf", desc := "(I)I" } : Jvm.MethodName) ({ cls := "JoinedLeavesModel", name := "setOf", desc := "(I)I" } : Jvm.MethodName)) ∈ jW := jC_12 _ (List.mem_of_getElem? (i := 15) rfl)
theorem jm_12_16 : (Jvm.Cond.selects "JoinedLeavesModel" ({ cls := "JoinedLeavesModel", name := "isAtom", desc := "(I)Z" } : Jvm.MethodName) ({ cls := "JoinedLeavesModel", name := "isAtom", desc := "(I)Z" } : Jvm.MethodName)) ∈ jW := jC_12 _ (List.mem_of_getElem? (i := 16) rfl)
theorem jm_12_17 : (Jvm.Cond.selects "JoinedLeavesModel" ({ cls := "JoinedLeavesModel", name := "look", desc := "()V" } : Jvm.MethodName) ({ cls := "JoinedLeavesModel", name := "look", desc := "()V" } : Jvm.MethodName)) ∈ jW := jC_12 _ (List.mem_of_getElem? (i := 17) rfl)
theorem jm_12_18 : (Jvm.Cond.selects "JoinedLeavesModel" ({ cls := "JoinedLeavesModel", name := "note", desc := "()V" } : Jvm.MethodName) ({ cls := "JoinedLeavesModel", name := "note", desc := "()V" } : Jvm.MethodName)) ∈ jW := jC_12 _ (List.mem_of_getElem? (i := 18) rfl)
theorem jm_12_19 : (Jvm.Cond.selects "JoinedLeavesModel" ({ cls := "JoinedLeavesModel", name := "fits", desc := "(II)Z" } : Jvm.MethodName) ({ cls := "JoinedLeavesModel", name := "fits", desc := "(II)Z" } : Jvm.MethodName)) ∈ jW := jC_12 _ (List.mem_of_getElem? (i := 19) rfl)
theorem jm_12_20 : (Jvm.Cond.selects "JoinedLeavesModel" ({ cls := "JoinedLeavesModel", name := "before", desc := "(I)I" } : Jvm.MethodName) ({ cls := "JoinedLeavesModel", name := "before", desc := "(I)I" } : Jvm.MethodName)) ∈ jW := jC_12 _ (List.mem_of_getElem? (i := 20) rfl)
theorem jm_12_21 : (Jvm.Cond.selects "JoinedLeavesModel" ({ cls := "JoinedLeavesModel", name := "codeOfAnswers", desc := "()I" } : Jvm.MethodName) ({ cls := "JoinedLeavesModel", name := "codeOfAnswers", desc := "()I" } : Jvm.MethodName)) ∈ jW := jC_12 _ (List.mem_of_getElem? (i := 21) rfl)
theorem jm_12_22 : (Jvm.Cond.selects "JoinedLeavesModel" ({ cls := "JoinedLeavesModel", name := "isHeadBound", desc := "()Z" } : Jvm.MethodName) ({ cls := "JoinedLeavesModel", name := "isHeadBound", desc := "()Z" } : Jvm.MethodName)) ∈ jW := jC_12 _ (List.mem_of_getElem? (i := 22) rfl)
theorem jF_RE : ∀ w ∈ u_ws "JoinedLeaves$Relation" T_RE 3, w ∈ jW := by decide +kernel
theorem jF_AT : ∀ w ∈ u_ws "JoinedLeaves$Atom" T_AT 3, w ∈ jW := by decide +kernel
theorem jF_QU : ∀ w ∈ u_ws "JoinedLeaves$Question" T_QU 5, w ∈ jW := by decide +kernel
theorem jF_HA : ∀ w ∈ u_ws "JoinedLeaves$Hanging" T_HA 6, w ∈ jW := by decide +kernel
theorem jF_JO : ∀ w ∈ u_ws "JoinedLeaves$Join" T_JO 7, w ∈ jW := by decide +kernel
theorem jF_JL : ∀ w ∈ u_ws "JoinedLeaves" T_JL 5, w ∈ jW := by decide +kernel
theorem jF_MO : ∀ w ∈ u_ws "JoinedLeavesModel" T_MO 21, w ∈ jW := by decide +kernel
theorem jn_0 : (Jvm.Cond.methodLinkNest "JoinedLeaves" (15 : Nat) ({ cls := "JoinedLeaves$Relation", name := "<init>", desc := "()V" } : Jvm.MethodName) "JoinedLeaves") ∈ jNest := List.mem_of_getElem? (i := 0) rfl
theorem jn_1 : (Jvm.Cond.fieldLinkNest "JoinedLeaves$Atom" (19 : Nat) "JoinedLeaves$Relation" "width" "I" "JoinedLeaves") ∈ jNest := List.mem_of_getElem? (i := 1) rfl
theorem jn_2 : (Jvm.Cond.fieldLinkNest "JoinedLeaves" (47 : Nat) "JoinedLeaves$Relation" "width" "I" "JoinedLeaves") ∈ jNest := List.mem_of_getElem? (i := 2) rfl
theorem jn_3 : (Jvm.Cond.fieldLinkNest "JoinedLeaves$Atom" (32 : Nat) "JoinedLeaves$Relation" "size" "I" "JoinedLeaves") ∈ jNest := List.mem_of_getElem? (i := 3) rfl
theorem jn_4 : (Jvm.Cond.fieldLinkNest "JoinedLeaves" (61 : Nat) "JoinedLeaves$Relation" "size" "I" "JoinedLeaves") ∈ jNest := List.mem_of_getElem? (i := 4) rfl
theorem jn_5 : (Jvm.Cond.fieldLinkNest "JoinedLeaves$Join" (108 : Nat) "JoinedLeaves$Relation" "size" "I" "JoinedLeaves") ∈ jNest := List.mem_of_getElem? (i := 5) rfl
theorem jn_6 : (Jvm.Cond.methodLinkNest "JoinedLeaves" (18 : Nat) ({ cls := "JoinedLeaves$Question", name := "<init>", desc := "(LJoinedLeaves$Relation;)V" } : Jvm.MethodName) "JoinedLeaves") ∈ jNest := List.mem_of_getElem? (i := 6) rfl
theorem jn_7 : (Jvm.Cond.methodLinkNest "JoinedLeaves$Question" (21 : Nat) ({ cls := "JoinedLeaves$Atom", name := "<init>", desc := "(LJoinedLeaves$Relation;)V" } : Jvm.MethodName) "JoinedLeaves") ∈ jNest := List.mem_of_getElem? (i := 7) rfl
theorem jn_8 : (Jvm.Cond.fieldLinkNest "JoinedLeaves$Question" (45 : Nat) "JoinedLeaves$Atom" "variableSet" "I" "JoinedLeaves") ∈ jNest := List.mem_of_getElem? (i := 8) rfl
theorem jn_9 : (Jvm.Cond.fieldLinkNest "JoinedLeaves$Hanging" (52 : Nat) "JoinedLeaves$Atom" "variableSet" "I" "JoinedLeaves") ∈ jNest := List.mem_of_getElem? (i := 9) rfl
theorem jn_10 : (Jvm.Cond.fieldLinkNest "JoinedLeaves$Join" (104 : Nat) "JoinedLeaves$Atom" "relation" "LJoinedLeaves$Relation;" "JoinedLeaves") ∈ jNest := List.mem_of_getElem? (i := 10) rfl
theorem jn_11 : (Jvm.Cond.fieldLinkNest "JoinedLeaves$Join" (92 : Nat) "JoinedLeaves$Question" "atoms" "[LJoinedLeaves$Atom;" "JoinedLeaves") ∈ jNest := List.mem_of_getElem? (i := 11) rfl
theorem jn_12 : (Jvm.Cond.fieldLinkNest "JoinedLeaves$Hanging" (48 : Nat) "JoinedLeaves$Question" "atoms" "[LJoinedLeaves$Atom;" "JoinedLeaves") ∈ jNest := List.mem_of_getElem? (i := 12) rfl
theorem jn_13 : (Jvm.Cond.fieldLinkNest "JoinedLeaves$Hanging" (25 : Nat) "JoinedLeaves$Question" "atomCount" "I" "JoinedLeaves") ∈ jNest := List.mem_of_getElem? (i := 13) rfl
theorem jn_14 : (Jvm.Cond.fieldLinkNest "JoinedLeaves$Join" (89 : Nat) "JoinedLeaves$Question" "atomCount" "I" "JoinedLeaves") ∈ jNest := List.mem_of_getElem? (i := 14) rfl
theorem jn_15 : (Jvm.Cond.fieldLinkNest "JoinedLeaves" (71 : Nat) "JoinedLeaves$Question" "atomCount" "I" "JoinedLeaves") ∈ jNest := List.mem_of_getElem? (i := 15) rfl
theorem jn_16 : (Jvm.Cond.fieldLinkNest "JoinedLeaves$Join" (131 : Nat) "JoinedLeaves$Question" "headVariables" "[I" "JoinedLeaves") ∈ jNest := List.mem_of_getElem? (i := 16) rfl
theorem jn_17 : (Jvm.Cond.fieldLinkNest "JoinedLeaves$Join" (84 : Nat) "JoinedLeaves$Question" "headSize" "I" "JoinedLeaves") ∈ jNest := List.mem_of_getElem? (i := 17) rfl
theorem jn_18 : (Jvm.Cond.fieldLinkNest "JoinedLeaves" (78 : Nat) "JoinedLeaves$Question" "headSize" "I" "JoinedLeaves") ∈ jNest := List.mem_of_getElem? (i := 18) rfl
theorem jn_19 : (Jvm.Cond.methodLinkNest "JoinedLeaves" (27 : Nat) ({ cls := "JoinedLeaves$Hanging", name := "<init>", desc := "(LJoinedLeaves$Question;)V" } : Jvm.MethodName) "JoinedLeaves") ∈ jNest := List.mem_of_getElem? (i := 19) rfl
theorem jn_20 : (Jvm.Cond.fieldLinkNest "JoinedLeaves$Join" (101 : Nat) "JoinedLeaves$Hanging" "parents" "[I" "JoinedLeaves") ∈ jNest := List.mem_of_getElem? (i := 20) rfl
theorem jn_21 : (Jvm.Cond.fieldLinkNest "JoinedLeaves" (88 : Nat) "JoinedLeaves$Hanging" "parents" "[I" "JoinedLeaves") ∈ jNest := List.mem_of_getElem? (i := 21) rfl
theorem jn_22 : (Jvm.Cond.fieldLinkNest "JoinedLeaves" (92 : Nat) "JoinedLeaves$Hanging" "turns" "[I" "JoinedLeaves") ∈ jNest := List.mem_of_getElem? (i := 22) rfl
theorem jn_23 : (Jvm.Cond.fieldLinkNest "JoinedLeaves$Join" (62 : Nat) "JoinedLeaves$Hanging" "order" "[I" "JoinedLeaves") ∈ jNest := List.mem_of_getElem? (i := 23) rfl
theorem jn_24 : (Jvm.Cond.fieldLinkNest "JoinedLeaves$Join" (58 : Nat) "JoinedLeaves$Hanging" "hungCount" "I" "JoinedLeaves") ∈ jNest := List.mem_of_getElem? (i := 24) rfl
theorem jn_25 : (Jvm.Cond.methodLinkNest "JoinedLeaves" (36 : Nat) ({ cls := "JoinedLeaves$Join", name := "<init>", desc := "(LJoinedLeaves$Question;LJoinedLeaves$Hanging;)V" } : Jvm.MethodName) "JoinedLeaves") ∈ jNest := List.mem_of_getElem? (i := 25) rfl
theorem jn_26 : (Jvm.Cond.fieldLinkNest "JoinedLeaves" (116 : Nat) "JoinedLeaves$Join" "found" "I" "JoinedLeaves") ∈ jNest := List.mem_of_getElem? (i := 26) rfl
theorem jn_27 : (Jvm.Cond.methodLinkNest "JoinedLeaves" (54 : Nat) ({ cls := "JoinedLeaves$Relation", name := "put", desc := "(III)Z" } : Jvm.MethodName) "JoinedLeaves") ∈ jNest := List.mem_of_getElem? (i := 27) rfl
theorem jn_28 : (Jvm.Cond.methodLinkNest "JoinedLeaves$Relation" (30 : Nat) ({ cls := "JoinedLeaves", name := "isBelow", desc := "(II)Z" } : Jvm.MethodName) "JoinedLeaves") ∈ jNest := List.mem_of_getElem? (i := 28) rfl
theorem jn_29 : (Jvm.Cond.methodLinkNest "JoinedLeaves" (58 : Nat) ({ cls := "JoinedLeaves$Relation", name := "take", desc := "(III)Z" } : Jvm.MethodName) "JoinedLeaves") ∈ jNest := List.mem_of_getElem? (i := 29) rfl
theorem jn_30 : (Jvm.Cond.methodLinkNest "JoinedLeaves" (64 : Nat) ({ cls := "JoinedLeaves$Question", name := "putAtom", desc := "(LJoinedLeaves$Relation;III)Z" } : Jvm.MethodName) "JoinedLeaves") ∈ jNest := List.mem_of_getElem? (i := 30) rfl
theorem jn_31 : (Jvm.Cond.methodLinkNest "JoinedLeaves$Question" (28 : Nat) ({ cls := "JoinedLeaves$Atom", name := "bind", desc := "(LJoinedLeaves$Relation;III)Z" } : Jvm.MethodName) "JoinedLeaves") ∈ jNest := List.mem_of_getElem? (i := 31) rfl
theorem jn_32 : (Jvm.Cond.methodLinkNest "JoinedLeaves$Atom" (25 : Nat) ({ cls := "JoinedLeaves", name := "isBelow", desc := "(II)Z" } : Jvm.MethodName) "JoinedLeaves") ∈ jNest := List.mem_of_getElem? (i := 32) rfl
theorem jn_33 : (Jvm.Cond.methodLinkNest "JoinedLeaves" (68 : Nat) ({ cls := "JoinedLeaves$Hanging", name := "hangAtoms", desc := "()V" } : Jvm.MethodName) "JoinedLeaves") ∈ jNest := List.mem_of_getElem? (i := 33) rfl
theorem jn_34 : (Jvm.Cond.methodLinkNest "JoinedLeaves$Hanging" (37 : Nat) ({ cls := "JoinedLeaves", name := "isIn", desc := "(II)Z" } : Jvm.MethodName) "JoinedLeaves") ∈ jNest := List.mem_of_getElem? (i := 34) rfl
theorem jn_35 : (Jvm.Cond.methodLinkNest "JoinedLeaves" (74 : Nat) ({ cls := "JoinedLeaves$Question", name := "putInHead", desc := "(I)Z" } : Jvm.MethodName) "JoinedLeaves") ∈ jNest := List.mem_of_getElem? (i := 35) rfl
theorem jn_36 : (Jvm.Cond.methodLinkNest "JoinedLeaves$Question" (32 : Nat) ({ cls := "JoinedLeaves", name := "isBelow", desc := "(II)Z" } : Jvm.MethodName) "JoinedLeaves") ∈ jNest := List.mem_of_getElem? (i := 36) rfl
theorem jn_37 : (Jvm.Cond.methodLinkNest "JoinedLeaves$Question" (39 : Nat) ({ cls := "JoinedLeaves", name := "isIn", desc := "(II)Z" } : Jvm.MethodName) "JoinedLeaves") ∈ jNest := List.mem_of_getElem? (i := 37) rfl
theorem jn_38 : (Jvm.Cond.methodLinkNest "JoinedLeaves" (81 : Nat) ({ cls := "JoinedLeaves$Question", name := "empty", desc := "()V" } : Jvm.MethodName) "JoinedLeaves") ∈ jNest := List.mem_of_getElem? (i := 38) rfl
theorem jn_39 : (Jvm.Cond.methodLinkNest "JoinedLeaves" (84 : Nat) ({ cls := "JoinedLeaves$Hanging", name := "isTree", desc := "()Z" } : Jvm.MethodName) "JoinedLeaves") ∈ jNest := List.mem_of_getElem? (i := 39) rfl
theorem jn_40 : (Jvm.Cond.castable "java/lang/IllegalStateException" "java/lang/IllegalStateException") ∈ jNest := List.mem_of_getElem? (i := 40) rfl
theorem jn_41 : (Jvm.Cond.methodLinkNest "JoinedLeaves" (98 : Nat) ({ cls := "JoinedLeaves$Join", name := "countWays", desc := "()J" } : Jvm.MethodName) "JoinedLeaves") ∈ jNest := List.mem_of_getElem? (i := 41) rfl
theorem jn_42 : (Jvm.Cond.methodLinkNest "JoinedLeaves$Join" (49 : Nat) ({ cls := "JoinedLeaves$Hanging", name := "root", desc := "()I" } : Jvm.MethodName) "JoinedLeaves") ∈ jNest := List.mem_of_getElem? (i := 42) rfl
theorem jn_43 : (Jvm.Cond.methodLinkNest "JoinedLeaves$Join" (96 : Nat) ({ cls := "JoinedLeaves$Atom", name := "rowsAgreeingWithThemselves", desc := "()I" } : Jvm.MethodName) "JoinedLeaves") ∈ jNest := List.mem_of_getElem? (i := 43) rfl
theorem jn_44 : (Jvm.Cond.methodLinkNest "JoinedLeaves$Atom" (39 : Nat) ({ cls := "JoinedLeaves$Relation", name := "valueAt", desc := "(II)I" } : Jvm.MethodName) "JoinedLeaves") ∈ jNest := List.mem_of_getElem? (i := 44) rfl
theorem jn_45 : (Jvm.Cond.methodLinkNest "JoinedLeaves$Join" (113 : Nat) ({ cls := "JoinedLeaves$Atom", name := "rowsAgreeingWith", desc := "(LJoinedLeaves$Atom;I)I" } : Jvm.MethodName) "JoinedLeaves") ∈ jNest := List.mem_of_getElem? (i := 45) rfl
theorem jn_46 : (Jvm.Cond.methodLinkNest "JoinedLeaves$Join" (124 : Nat) ({ cls := "JoinedLeaves", name := "isIn", desc := "(II)Z" } : Jvm.MethodName) "JoinedLeaves") ∈ jNest := List.mem_of_getElem? (i := 46) rfl
theorem jn_47 : (Jvm.Cond.castable "java/lang/IndexOutOfBoundsException" "java/lang/IndexOutOfBoundsException") ∈ jNest := List.mem_of_getElem? (i := 47) rfl
theorem jn_48 : (Jvm.Cond.methodLinkNest "JoinedLeaves" (109 : Nat) ({ cls := "JoinedLeaves$Join", name := "countLiveRows", desc := "(I)I" } : Jvm.MethodName) "JoinedLeaves") ∈ jNest := List.mem_of_getElem? (i := 48) rfl
theorem jn_49 : (Jvm.Cond.methodLinkNest "JoinedLeaves" (125 : Nat) ({ cls := "JoinedLeaves$Question", name := "bindsHead", desc := "()Z" } : Jvm.MethodName) "JoinedLeaves") ∈ jNest := List.mem_of_getElem? (i := 49) rfl
theorem jn_50 : (Jvm.Cond.castable "java/lang/IllegalArgumentException" "java/lang/IllegalArgumentException") ∈ jNest := List.mem_of_getElem? (i := 50) rfl
theorem jn_51 : (Jvm.Cond.methodLinkNest "JoinedLeaves" (133 : Nat) ({ cls := "JoinedLeaves$Join", name := "search", desc := "()V" } : Jvm.MethodName) "JoinedLeaves") ∈ jNest := List.mem_of_getElem? (i := 51) rfl
theorem jn_52 : (Jvm.Cond.methodLinkNest "JoinedLeaves$Join" (142 : Nat) ({ cls := "JoinedLeaves$Question", name := "atomWith", desc := "(I)I" } : Jvm.MethodName) "JoinedLeaves") ∈ jNest := List.mem_of_getElem? (i := 52) rfl
theorem jn_53 : (Jvm.Cond.methodLinkNest "JoinedLeaves$Join" (145 : Nat) ({ cls := "JoinedLeaves$Atom", name := "valuesOf", desc := "(II)I" } : Jvm.MethodName) "JoinedLeaves") ∈ jNest := List.mem_of_getElem? (i := 53) rfl
theorem jn_54 : (Jvm.Cond.methodLinkNest "JoinedLeaves$Atom" (46 : Nat) ({ cls := "JoinedLeaves", name := "isIn", desc := "(II)Z" } : Jvm.MethodName) "JoinedLeaves") ∈ jNest := List.mem_of_getElem? (i := 54) rfl
theorem jn_55 : (Jvm.Cond.methodLinkNest "JoinedLeaves$Join" (149 : Nat) ({ cls := "JoinedLeaves$Atom", name := "rowsAllowing", desc := "(II)I" } : Jvm.MethodName) "JoinedLeaves") ∈ jNest := List.mem_of_getElem? (i := 55) rfl
theorem jn_56 : (Jvm.Cond.castable "java/lang/UnsupportedOperationException" "java/lang/UnsupportedOperationException") ∈ jNest := List.mem_of_getElem? (i := 56) rfl
theorem jn_57 : (Jvm.Cond.methodLinkNest "JoinedLeaves" (121 : Nat) ({ cls := "JoinedLeaves$Join", name := "valueInAnswer", desc := "(II)I" } : Jvm.MethodName) "JoinedLeaves") ∈ jNest := List.mem_of_getElem? (i := 57) rfl
end
section
/-! decode rows, by program -/
theorem d_JL_init_0 : decode b_JL_init 0 = .ok (.aload_n 0, 1) := by decide +kernel
theorem d_JL_init_1 : decode b_JL_init 1 = .ok (.invokespecial 1, 3) := by decide +kernel
theorem d_JL_init_4 : decode b_JL_init 4 = .ok (.aload_n 0, 1) := by decide +kernel
theorem d_JL_init_5 : decode b_JL_init 5 = .ok (.bipush 6, 2) := by decide +kernel
theorem d_JL_init_7 : decode b_JL_init 7 = .ok (.anewarray 9, 3) := by decide +kernel
theorem d_JL_init_10 : decode b_JL_init 10 = .ok (.putfield 11, 3) := by decide +kernel
theorem d_JL_init_13 : decode b_JL_init 13 = .ok (.iconst 0, 1) := by decide +kernel
theorem d_JL_init_14 : decode b_JL_init 14 = .ok (.istore_n 1, 1) := by decide +kernel
theorem d_JL_init_15 : decode b_JL_init 15 = .ok (.iload_n 1, 1) := by decide +kernel
theorem d_JL_init_16 : decode b_JL_init 16 = .ok (.bipush 6, 2) := by decide +kernel
theorem d_JL_init_18 : decode b_JL_init 18 = .ok (.if_icmp .ge 22, 3) := by decide +kernel
theorem d_JL_init_21 : decode b_JL_init 21 = .ok (.aload_n 0, 1) := by decide +kernel
theorem d_JL_init_22 : decode b_JL_init 22 = .ok (.getfield 11, 3) := by decide +kernel
theorem d_JL_init_25 : decode b_JL_init 25 = .ok (.iload_n 1, 1) := by decide +kernel
theorem d_JL_init_26 : decode b_JL_init 26 = .ok (.new 9, 3) := by decide +kernel
theorem d_JL_init_29 : decode b_JL_init 29 = .ok (.dup, 1) := by decide +kernel
theorem d_JL_init_30 : decode b_JL_init 30 = .ok (.invokespecial 15, 3) := by decide +kernel
theorem d_JL_init_33 : decode b_JL_init 33 = .ok (.aastore, 1) := by decide +kernel
theorem d_JL_init_34 : decode b_JL_init 34 = .ok (.iinc 1 1, 3) := by decide +kernel
theorem d_JL_init_37 : decode b_JL_init 37 = .ok (.goto (-22), 3) := by decide +kernel
theorem d_JL_init_40 : decode b_JL_init 40 = .ok (.aload_n 0, 1) := by decide +kernel
theorem d_JL_init_41 : decode b_JL_init 41 = .ok (.new 16, 3) := by decide +kernel
theorem d_JL_init_44 : decode b_JL_init 44 = .ok (.dup, 1) := by decide +kernel
theorem d_JL_init_45 : decode b_JL_init 45 = .ok (.aload_n 0, 1) := by decide +kernel
theorem d_JL_init_46 : decode b_JL_init 46 = .ok (.getfield 11, 3) := by decide +kernel
theorem d_JL_init_49 : decode b_JL_init 49 = .ok (.iconst 0, 1) := by decide +kernel
theorem d_JL_init_50 : decode b_JL_init 50 = .ok (.aaload, 1) := by decide +kernel
theorem d_JL_init_51 : decode b_JL_init 51 = .ok (.invokespecial 18, 3) := by decide +kernel
theorem d_JL_init_54 : decode b_JL_init 54 = .ok (.putfield 21, 3) := by decide +kernel
theorem d_JL_init_57 : decode b_JL_init 57 = .ok (.aload_n 0, 1) := by decide +kernel
theorem d_JL_init_58 : decode b_JL_init 58 = .ok (.new 25, 3) := by decide +kernel
theorem d_JL_init_61 : decode b_JL_init 61 = .ok (.dup, 1) := by decide +kernel
theorem d_JL_init_62 : decode b_JL_init 62 = .ok (.aload_n 0, 1) := by decide +kernel
theorem d_JL_init_63 : decode b_JL_init 63 = .ok (.getfield 21, 3) := by decide +kernel
theorem d_JL_init_66 : decode b_JL_init 66 = .ok (.invokespecial 27, 3) := by decide +kernel
theorem d_JL_init_69 : decode b_JL_init 69 = .ok (.putfield 30, 3) := by decide +kernel
theorem d_JL_init_72 : decode b_JL_init 72 = .ok (.aload_n 0, 1) := by decide +kernel
theorem d_JL_init_73 : decode b_JL_init 73 = .ok (.new 34, 3) := by decide +kernel
theorem d_JL_init_76 : decode b_JL_init 76 = .ok (.dup, 1) := by decide +kernel
theorem d_JL_init_77 : decode b_JL_init 77 = .ok (.aload_n 0, 1) := by decide +kernel
theorem d_JL_init_78 : decode b_JL_init 78 = .ok (.getfield 21, 3) := by decide +kernel
theorem d_JL_init_81 : decode b_JL_init 81 = .ok (.aload_n 0, 1) := by decide +kernel
theorem d_JL_init_82 : decode b_JL_init 82 = .ok (.getfield 30, 3) := by decide +kernel
theorem d_JL_init_85 : decode b_JL_init 85 = .ok (.invokespecial 36, 3) := by decide +kernel
theorem d_JL_init_88 : decode b_JL_init 88 = .ok (.putfield 39, 3) := by decide +kernel
theorem d_JL_init_91 : decode b_JL_init 91 = .ok (.return_, 1) := by decide +kernel
theorem d_RE_init_0 : decode b_RE_init 0 = .ok (.aload_n 0, 1) := by decide +kernel
theorem d_RE_init_1 : decode b_RE_init 1 = .ok (.invokespecial 3, 3) := by decide +kernel
theorem d_RE_init_4 : decode b_RE_init 4 = .ok (.aload_n 0, 1) := by decide +kernel
theorem d_RE_init_5 : decode b_RE_init 5 = .ok (.bipush 12, 2) := by decide +kernel
theorem d_RE_init_7 : decode b_RE_init 7 = .ok (.newarray .int, 2) := by decide +kernel
theorem d_RE_init_9 : decode b_RE_init 9 = .ok (.putfield 9, 3) := by decide +kernel
theorem d_RE_init_12 : decode b_RE_init 12 = .ok (.return_, 1) := by decide +kernel
theorem d_QU_init_0 : decode b_QU_init 0 = .ok (.aload_n 0, 1) := by decide +kernel
theorem d_QU_init_1 : decode b_QU_init 1 = .ok (.invokespecial 3, 3) := by decide +kernel
theorem d_QU_init_4 : decode b_QU_init 4 = .ok (.aload_n 0, 1) := by decide +kernel
theorem d_QU_init_5 : decode b_QU_init 5 = .ok (.bipush 6, 2) := by decide +kernel
theorem d_QU_init_7 : decode b_QU_init 7 = .ok (.anewarray 9, 3) := by decide +kernel
theorem d_QU_init_10 : decode b_QU_init 10 = .ok (.putfield 11, 3) := by decide +kernel
theorem d_QU_init_13 : decode b_QU_init 13 = .ok (.aload_n 0, 1) := by decide +kernel
theorem d_QU_init_14 : decode b_QU_init 14 = .ok (.iconst 4, 1) := by decide +kernel
theorem d_QU_init_15 : decode b_QU_init 15 = .ok (.newarray .int, 2) := by decide +kernel
theorem d_QU_init_17 : decode b_QU_init 17 = .ok (.putfield 17, 3) := by decide +kernel
theorem d_QU_init_20 : decode b_QU_init 20 = .ok (.iconst 0, 1) := by decide +kernel
theorem d_QU_init_21 : decode b_QU_init 21 = .ok (.istore_n 2, 1) := by decide +kernel
theorem d_QU_init_22 : decode b_QU_init 22 = .ok (.iload_n 2, 1) := by decide +kernel
theorem d_QU_init_23 : decode b_QU_init 23 = .ok (.bipush 6, 2) := by decide +kernel
theorem d_QU_init_25 : decode b_QU_init 25 = .ok (.if_icmp .ge 23, 3) := by decide +kernel
theorem d_QU_init_28 : decode b_QU_init 28 = .ok (.aload_n 0, 1) := by decide +kernel
theorem d_QU_init_29 : decode b_QU_init 29 = .ok (.getfield 11, 3) := by decide +kernel
theorem d_QU_init_32 : decode b_QU_init 32 = .ok (.iload_n 2, 1) := by decide +kernel
theorem d_QU_init_33 : decode b_QU_init 33 = .ok (.new 9, 3) := by decide +kernel
theorem d_QU_init_36 : decode b_QU_init 36 = .ok (.dup, 1) := by decide +kernel
theorem d_QU_init_37 : decode b_QU_init 37 = .ok (.aload_n 1, 1) := by decide +kernel
theorem d_QU_init_38 : decode b_QU_init 38 = .ok (.invokespecial 21, 3) := by decide +kernel
theorem d_QU_init_41 : decode b_QU_init 41 = .ok (.aastore, 1) := by decide +kernel
theorem d_QU_init_42 : decode b_QU_init 42 = .ok (.iinc 2 1, 3) := by decide +kernel
theorem d_QU_init_45 : decode b_QU_init 45 = .ok (.goto (-23), 3) := by decide +kernel
theorem d_QU_init_48 : decode b_QU_init 48 = .ok (.return_, 1) := by decide +kernel
theorem d_AT_init_0 : decode b_AT_init 0 = .ok (.aload_n 0, 1) := by decide +kernel
theorem d_AT_init_1 : decode b_AT_init 1 = .ok (.invokespecial 3, 3) := by decide +kernel
theorem d_AT_init_4 : decode b_AT_init 4 = .ok (.aload_n 0, 1) := by decide +kernel
theorem d_AT_init_5 : decode b_AT_init 5 = .ok (.iconst 3, 1) := by decide +kernel
theorem d_AT_init_6 : decode b_AT_init 6 = .ok (.newarray .int, 2) := by decide +kernel
theorem d_AT_init_8 : decode b_AT_init 8 = .ok (.putfield 9, 3) := by decide +kernel
theorem d_AT_init_11 : decode b_AT_init 11 = .ok (.aload_n 0, 1) := by decide +kernel
theorem d_AT_init_12 : decode b_AT_init 12 = .ok (.aload_n 1, 1) := by decide +kernel
theorem d_AT_init_13 : decode b_AT_init 13 = .ok (.putfield 15, 3) := by decide +kernel
theorem d_AT_init_16 : decode b_AT_init 16 = .ok (.return_, 1) := by decide +kernel
theorem d_HA_init_0 : decode b_HA_init 0 = .ok (.aload_n 0, 1) := by decide +kernel
theorem d_HA_init_1 : decode b_HA_init 1 = .ok (.invokespecial 3, 3) := by decide +kernel
theorem d_HA_init_4 : decode b_HA_init 4 = .ok (.aload_n 0, 1) := by decide +kernel
theorem d_HA_init_5 : decode b_HA_init 5 = .ok (.bipush 6, 2) := by decide +kernel
theorem d_HA_init_7 : decode b_HA_init 7 = .ok (.newarray .int, 2) := by decide +kernel
theorem d_HA_init_9 : decode b_HA_init 9 = .ok (.putfield 9, 3) := by decide +kernel
theorem d_HA_init_12 : decode b_HA_init 12 = .ok (.aload_n 0, 1) := by decide +kernel
theorem d_HA_init_13 : decode b_HA_init 13 = .ok (.bipush 6, 2) := by decide +kernel
theorem d_HA_init_15 : decode b_HA_init 15 = .ok (.newarray .int, 2) := by decide +kernel
theorem d_HA_init_17 : decode b_HA_init 17 = .ok (.putfield 15, 3) := by decide +kernel
theorem d_HA_init_20 : decode b_HA_init 20 = .ok (.aload_n 0, 1) := by decide +kernel
theorem d_HA_init_21 : decode b_HA_init 21 = .ok (.bipush 6, 2) := by decide +kernel
theorem d_HA_init_23 : decode b_HA_init 23 = .ok (.newarray .int, 2) := by decide +kernel
theorem d_HA_init_25 : decode b_HA_init 25 = .ok (.putfield 18, 3) := by decide +kernel
theorem d_HA_init_28 : decode b_HA_init 28 = .ok (.aload_n 0, 1) := by decide +kernel
theorem d_HA_init_29 : decode b_HA_init 29 = .ok (.aload_n 1, 1) := by decide +kernel
theorem d_HA_init_30 : decode b_HA_init 30 = .ok (.putfield 21, 3) := by decide +kernel
theorem d_HA_init_33 : decode b_HA_init 33 = .ok (.return_, 1) := by decide +kernel
theorem d_JO_init_0 : decode b_JO_init 0 = .ok (.aload_n 0, 1) := by decide +kernel
theorem d_JO_init_1 : decode b_JO_init 1 = .ok (.invokespecial 3, 3) := by decide +kernel
theorem d_JO_init_4 : decode b_JO_init 4 = .ok (.aload_n 0, 1) := by decide +kernel
theorem d_JO_init_5 : decode b_JO_init 5 = .ok (.bipush 6, 2) := by decide +kernel
theorem d_JO_init_7 : decode b_JO_init 7 = .ok (.bipush 12, 2) := by decide +kernel
theorem d_JO_init_9 : decode b_JO_init 9 = .ok (.multianewarray 9 2, 4) := by decide +kernel
theorem d_JO_init_13 : decode b_JO_init 13 = .ok (.putfield 11, 3) := by decide +kernel
theorem d_JO_init_16 : decode b_JO_init 16 = .ok (.aload_n 0, 1) := by decide +kernel
theorem d_JO_init_17 : decode b_JO_init 17 = .ok (.iconst 5, 1) := by decide +kernel
theorem d_JO_init_18 : decode b_JO_init 18 = .ok (.bipush 6, 2) := by decide +kernel
theorem d_JO_init_20 : decode b_JO_init 20 = .ok (.multianewarray 9 2, 4) := by decide +kernel
theorem d_JO_init_24 : decode b_JO_init 24 = .ok (.putfield 16, 3) := by decide +kernel
theorem d_JO_init_27 : decode b_JO_init 27 = .ok (.aload_n 0, 1) := by decide +kernel
theorem d_JO_init_28 : decode b_JO_init 28 = .ok (.bipush 6, 2) := by decide +kernel
theorem d_JO_init_30 : decode b_JO_init 30 = .ok (.bipush 12, 2) := by decide +kernel
theorem d_JO_init_32 : decode b_JO_init 32 = .ok (.multianewarray 19 2, 4) := by decide +kernel
theorem d_JO_init_36 : decode b_JO_init 36 = .ok (.putfield 21, 3) := by decide +kernel
theorem d_JO_init_39 : decode b_JO_init 39 = .ok (.aload_n 0, 1) := by decide +kernel
theorem d_JO_init_40 : decode b_JO_init 40 = .ok (.bipush 64, 2) := by decide +kernel
theorem d_JO_init_42 : decode b_JO_init 42 = .ok (.newarray .int, 2) := by decide +kernel
theorem d_JO_init_44 : decode b_JO_init 44 = .ok (.putfield 24, 3) := by decide +kernel
theorem d_JO_init_47 : decode b_JO_init 47 = .ok (.aload_n 0, 1) := by decide +kernel
theorem d_JO_init_48 : decode b_JO_init 48 = .ok (.aload_n 1, 1) := by decide +kernel
theorem d_JO_init_49 : decode b_JO_init 49 = .ok (.putfield 28, 3) := by decide +kernel
theorem d_JO_init_52 : decode b_JO_init 52 = .ok (.aload_n 0, 1) := by decide +kernel
theorem d_JO_init_53 : decode b_JO_init 53 = .ok (.aload_n 2, 1) := by decide +kernel
theorem d_JO_init_54 : decode b_JO_init 54 = .ok (.putfield 32, 3) := by decide +kernel
theorem d_JO_init_57 : decode b_JO_init 57 = .ok (.return_, 1) := by decide +kernel
theorem d_JL_relation_0 : decode b_JL_relation 0 = .ok (.iload_n 1, 1) := by decide +kernel
theorem d_JL_relation_1 : decode b_JL_relation 1 = .ok (.iconst 1, 1) := by decide +kernel
theorem d_JL_relation_2 : decode b_JL_relation 2 = .ok (.if_icmp .lt 17, 3) := by decide +kernel
theorem d_JL_relation_5 : decode b_JL_relation 5 = .ok (.iload_n 1, 1) := by decide +kernel
theorem d_JL_relation_6 : decode b_JL_relation 6 = .ok (.iconst 3, 1) := by decide +kernel
theorem d_JL_relation_7 : decode b_JL_relation 7 = .ok (.if_icmp .gt 12, 3) := by decide +kernel
theorem d_JL_relation_10 : decode b_JL_relation 10 = .ok (.aload_n 0, 1) := by decide +kernel
theorem d_JL_relation_11 : decode b_JL_relation 11 = .ok (.getfield 43, 3) := by decide +kernel
theorem d_JL_relation_14 : decode b_JL_relation 14 = .ok (.bipush 6, 2) := by decide +kernel
theorem d_JL_relation_16 : decode b_JL_relation 16 = .ok (.if_icmp .ne 5, 3) := by decide +kernel
theorem d_JL_relation_19 : decode b_JL_relation 19 = .ok (.iconst (-1), 1) := by decide +kernel
theorem d_JL_relation_20 : decode b_JL_relation 20 = .ok (.ireturn, 1) := by decide +kernel
theorem d_JL_relation_21 : decode b_JL_relation 21 = .ok (.aload_n 0, 1) := by decide +kernel
theorem d_JL_relation_22 : decode b_JL_relation 22 = .ok (.getfield 11, 3) := by decide +kernel
theorem d_JL_relation_25 : decode b_JL_relation 25 = .ok (.aload_n 0, 1) := by decide +kernel
theorem d_JL_relation_26 : decode b_JL_relation 26 = .ok (.getfield 43, 3) := by decide +kernel
theorem d_JL_relation_29 : decode b_JL_relation 29 = .ok (.aaload, 1) := by decide +kernel
theorem d_JL_relation_30 : decode b_JL_relation 30 = .ok (.iload_n 1, 1) := by decide +kernel
theorem d_JL_relation_31 : decode b_JL_relation 31 = .ok (.putfield 47, 3) := by decide +kernel
theorem d_JL_relation_34 : decode b_JL_relation 34 = .ok (.aload_n 0, 1) := by decide +kernel
theorem d_JL_relation_35 : decode b_JL_relation 35 = .ok (.dup, 1) := by decide +kernel
theorem d_JL_relation_36 : decode b_JL_relation 36 = .ok (.getfield 43, 3) := by decide +kernel
theorem d_JL_relation_39 : decode b_JL_relation 39 = .ok (.iconst 1, 1) := by decide +kernel
theorem d_JL_relation_40 : decode b_JL_relation 40 = .ok (.iadd, 1) := by decide +kernel
theorem d_JL_relation_41 : decode b_JL_relation 41 = .ok (.putfield 43, 3) := by decide +kernel
theorem d_JL_relation_44 : decode b_JL_relation 44 = .ok (.aload_n 0, 1) := by decide +kernel
theorem d_JL_relation_45 : decode b_JL_relation 45 = .ok (.getfield 43, 3) := by decide +kernel
theorem d_JL_relation_48 : decode b_JL_relation 48 = .ok (.iconst 1, 1) := by decide +kernel
theorem d_JL_relation_49 : decode b_JL_relation 49 = .ok (.isub, 1) := by decide +kernel
theorem d_JL_relation_50 : decode b_JL_relation 50 = .ok (.ireturn, 1) := by decide +kernel
theorem d_JL_add_0 : decode b_JL_add 0 = .ok (.iload_n 1, 1) := by decide +kernel
theorem d_JL_add_1 : decode b_JL_add 1 = .ok (.aload_n 0, 1) := by decide +kernel
theorem d_JL_add_2 : decode b_JL_add 2 = .ok (.getfield 43, 3) := by decide +kernel
theorem d_JL_add_5 : decode b_JL_add 5 = .ok (.invokestatic 50, 3) := by decide +kernel
theorem d_JL_add_8 : decode b_JL_add 8 = .ok (.ifCond .eq 23, 3) := by decide +kernel
theorem d_JL_add_11 : decode b_JL_add 11 = .ok (.aload_n 0, 1) := by decide +kernel
theorem d_JL_add_12 : decode b_JL_add 12 = .ok (.getfield 11, 3) := by decide +kernel
theorem d_JL_add_15 : decode b_JL_add 15 = .ok (.iload_n 1, 1) := by decide +kernel
theorem d_JL_add_16 : decode b_JL_add 16 = .ok (.aaload, 1) := by decide +kernel
theorem d_JL_add_17 : decode b_JL_add 17 = .ok (.iload_n 2, 1) := by decide +kernel
theorem d_JL_add_18 : decode b_JL_add 18 = .ok (.iload_n 3, 1) := by decide +kernel
theorem d_JL_add_19 : decode b_JL_add 19 = .ok (.iload 4, 2) := by decide +kernel
theorem d_JL_add_21 : decode b_JL_add 21 = .ok (.invokevirtual 54, 3) := by decide +kernel
theorem d_JL_add_24 : decode b_JL_add 24 = .ok (.ifCond .eq 7, 3) := by decide +kernel
theorem d_JL_add_27 : decode b_JL_add 27 = .ok (.iconst 1, 1) := by decide +kernel
theorem d_JL_add_28 : decode b_JL_add 28 = .ok (.goto 4, 3) := by decide +kernel
theorem d_JL_add_31 : decode b_JL_add 31 = .ok (.iconst 0, 1) := by decide +kernel
theorem d_JL_add_32 : decode b_JL_add 32 = .ok (.ireturn, 1) := by decide +kernel
theorem d_JL_isBelow_0 : decode b_JL_isBelow 0 = .ok (.iload_n 0, 1) := by decide +kernel
theorem d_JL_isBelow_1 : decode b_JL_isBelow 1 = .ok (.ifCond .lt 12, 3) := by decide +kernel
theorem d_JL_isBelow_4 : decode b_JL_isBelow 4 = .ok (.iload_n 0, 1) := by decide +kernel
theorem d_JL_isBelow_5 : decode b_JL_isBelow 5 = .ok (.iload_n 1, 1) := by decide +kernel
theorem d_JL_isBelow_6 : decode b_JL_isBelow 6 = .ok (.if_icmp .ge 7, 3) := by decide +kernel
theorem d_JL_isBelow_9 : decode b_JL_isBelow 9 = .ok (.iconst 1, 1) := by decide +kernel
theorem d_JL_isBelow_10 : decode b_JL_isBelow 10 = .ok (.goto 4, 3) := by decide +kernel
theorem d_JL_isBelow_13 : decode b_JL_isBelow 13 = .ok (.iconst 0, 1) := by decide +kernel
theorem d_JL_isBelow_14 : decode b_JL_isBelow 14 = .ok (.ireturn, 1) := by decide +kernel
theorem d_RE_put_0 : decode b_RE_put 0 = .ok (.aload_n 0, 1) := by decide +kernel
theorem d_RE_put_1 : decode b_RE_put 1 = .ok (.iload_n 1, 1) := by decide +kernel
theorem d_RE_put_2 : decode b_RE_put 2 = .ok (.iload_n 2, 1) := by decide +kernel
theorem d_RE_put_3 : decode b_RE_put 3 = .ok (.iload_n 3, 1) := by decide +kernel
theorem d_RE_put_4 : decode b_RE_put 4 = .ok (.invokevirtual 15, 3) := by decide +kernel
theorem d_RE_put_7 : decode b_RE_put 7 = .ok (.istore 4, 2) := by decide +kernel
theorem d_RE_put_9 : decode b_RE_put 9 = .ok (.iload 4, 2) := by decide +kernel
theorem d_RE_put_11 : decode b_RE_put 11 = .ok (.iconst (-1), 1) := by decide +kernel
theorem d_RE_put_12 : decode b_RE_put 12 = .ok (.if_icmp .eq 22, 3) := by decide +kernel
theorem d_RE_put_15 : decode b_RE_put 15 = .ok (.aload_n 0, 1) := by decide +kernel
theorem d_RE_put_16 : decode b_RE_put 16 = .ok (.getfield 19, 3) := by decide +kernel
theorem d_RE_put_19 : decode b_RE_put 19 = .ok (.bipush 12, 2) := by decide +kernel
theorem d_RE_put_21 : decode b_RE_put 21 = .ok (.if_icmp .eq 13, 3) := by decide +kernel
theorem d_RE_put_24 : decode b_RE_put 24 = .ok (.aload_n 0, 1) := by decide +kernel
theorem d_RE_put_25 : decode b_RE_put 25 = .ok (.iload 4, 2) := by decide +kernel
theorem d_RE_put_27 : decode b_RE_put 27 = .ok (.invokevirtual 23, 3) := by decide +kernel
theorem d_RE_put_30 : decode b_RE_put 30 = .ok (.iconst (-1), 1) := by decide +kernel
theorem d_RE_put_31 : decode b_RE_put 31 = .ok (.if_icmp .eq 5, 3) := by decide +kernel
theorem d_RE_put_34 : decode b_RE_put 34 = .ok (.iconst 0, 1) := by decide +kernel
theorem d_RE_put_35 : decode b_RE_put 35 = .ok (.ireturn, 1) := by decide +kernel
theorem d_RE_put_36 : decode b_RE_put 36 = .ok (.aload_n 0, 1) := by decide +kernel
theorem d_RE_put_37 : decode b_RE_put 37 = .ok (.getfield 9, 3) := by decide +kernel
theorem d_RE_put_40 : decode b_RE_put 40 = .ok (.aload_n 0, 1) := by decide +kernel
theorem d_RE_put_41 : decode b_RE_put 41 = .ok (.getfield 19, 3) := by decide +kernel
theorem d_RE_put_44 : decode b_RE_put 44 = .ok (.iload 4, 2) := by decide +kernel
theorem d_RE_put_46 : decode b_RE_put 46 = .ok (.iastore, 1) := by decide +kernel
theorem d_RE_put_47 : decode b_RE_put 47 = .ok (.aload_n 0, 1) := by decide +kernel
theorem d_RE_put_48 : decode b_RE_put 48 = .ok (.dup, 1) := by decide +kernel
theorem d_RE_put_49 : decode b_RE_put 49 = .ok (.getfield 19, 3) := by decide +kernel
theorem d_RE_put_52 : decode b_RE_put 52 = .ok (.iconst 1, 1) := by decide +kernel
theorem d_RE_put_53 : decode b_RE_put 53 = .ok (.iadd, 1) := by decide +kernel
theorem d_RE_put_54 : decode b_RE_put 54 = .ok (.putfield 19, 3) := by decide +kernel
theorem d_RE_put_57 : decode b_RE_put 57 = .ok (.iconst 1, 1) := by decide +kernel
theorem d_RE_put_58 : decode b_RE_put 58 = .ok (.ireturn, 1) := by decide +kernel
theorem d_RE_pack_0 : decode b_RE_pack 0 = .ok (.aload_n 0, 1) := by decide +kernel
theorem d_RE_pack_1 : decode b_RE_pack 1 = .ok (.getfield 27, 3) := by decide +kernel
theorem d_RE_pack_4 : decode b_RE_pack 4 = .ok (.iconst 1, 1) := by decide +kernel
theorem d_RE_pack_5 : decode b_RE_pack 5 = .ok (.if_icmp .le 7, 3) := by decide +kernel
theorem d_RE_pack_8 : decode b_RE_pack 8 = .ok (.iload_n 2, 1) := by decide +kernel
theorem d_RE_pack_9 : decode b_RE_pack 9 = .ok (.goto 4, 3) := by decide +kernel
theorem d_RE_pack_12 : decode b_RE_pack 12 = .ok (.iload_n 1, 1) := by decide +kernel
theorem d_RE_pack_13 : decode b_RE_pack 13 = .ok (.istore 4, 2) := by decide +kernel
theorem d_RE_pack_15 : decode b_RE_pack 15 = .ok (.aload_n 0, 1) := by decide +kernel
theorem d_RE_pack_16 : decode b_RE_pack 16 = .ok (.getfield 27, 3) := by decide +kernel
theorem d_RE_pack_19 : decode b_RE_pack 19 = .ok (.iconst 2, 1) := by decide +kernel
theorem d_RE_pack_20 : decode b_RE_pack 20 = .ok (.if_icmp .le 7, 3) := by decide +kernel
theorem d_RE_pack_23 : decode b_RE_pack 23 = .ok (.iload_n 3, 1) := by decide +kernel
theorem d_RE_pack_24 : decode b_RE_pack 24 = .ok (.goto 4, 3) := by decide +kernel
theorem d_RE_pack_27 : decode b_RE_pack 27 = .ok (.iload_n 1, 1) := by decide +kernel
theorem d_RE_pack_28 : decode b_RE_pack 28 = .ok (.istore 5, 2) := by decide +kernel
theorem d_RE_pack_30 : decode b_RE_pack 30 = .ok (.iload_n 1, 1) := by decide +kernel
theorem d_RE_pack_31 : decode b_RE_pack 31 = .ok (.bipush 16, 2) := by decide +kernel
theorem d_RE_pack_33 : decode b_RE_pack 33 = .ok (.invokestatic 30, 3) := by decide +kernel
theorem d_RE_pack_36 : decode b_RE_pack 36 = .ok (.ifCond .eq 23, 3) := by decide +kernel
theorem d_RE_pack_39 : decode b_RE_pack 39 = .ok (.iload 4, 2) := by decide +kernel
theorem d_RE_pack_41 : decode b_RE_pack 41 = .ok (.bipush 16, 2) := by decide +kernel
theorem d_RE_pack_43 : decode b_RE_pack 43 = .ok (.invokestatic 30, 3) := by decide +kernel
theorem d_RE_pack_46 : decode b_RE_pack 46 = .ok (.ifCond .eq 13, 3) := by decide +kernel
theorem d_RE_pack_49 : decode b_RE_pack 49 = .ok (.iload 5, 2) := by decide +kernel
theorem d_RE_pack_51 : decode b_RE_pack 51 = .ok (.bipush 16, 2) := by decide +kernel
theorem d_RE_pack_53 : decode b_RE_pack 53 = .ok (.invokestatic 30, 3) := by decide +kernel
theorem d_RE_pack_56 : decode b_RE_pack 56 = .ok (.ifCond .ne 5, 3) := by decide +kernel
theorem d_RE_pack_59 : decode b_RE_pack 59 = .ok (.iconst (-1), 1) := by decide +kernel
theorem d_RE_pack_60 : decode b_RE_pack 60 = .ok (.ireturn, 1) := by decide +kernel
theorem d_RE_pack_61 : decode b_RE_pack 61 = .ok (.iload_n 1, 1) := by decide +kernel
theorem d_RE_pack_62 : decode b_RE_pack 62 = .ok (.iload 4, 2) := by decide +kernel
theorem d_RE_pack_64 : decode b_RE_pack 64 = .ok (.iconst 4, 1) := by decide +kernel
theorem d_RE_pack_65 : decode b_RE_pack 65 = .ok (.ishl, 1) := by decide +kernel
theorem d_RE_pack_66 : decode b_RE_pack 66 = .ok (.ior, 1) := by decide +kernel
theorem d_RE_pack_67 : decode b_RE_pack 67 = .ok (.iload 5, 2) := by decide +kernel
theorem d_RE_pack_69 : decode b_RE_pack 69 = .ok (.bipush 8, 2) := by decide +kernel
theorem d_RE_pack_71 : decode b_RE_pack 71 = .ok (.ishl, 1) := by decide +kernel
theorem d_RE_pack_72 : decode b_RE_pack 72 = .ok (.ior, 1) := by decide +kernel
theorem d_RE_pack_73 : decode b_RE_pack 73 = .ok (.ireturn, 1) := by decide +kernel
theorem d_RE_placeOf_0 : decode b_RE_placeOf 0 = .ok (.iconst 0, 1) := by decide +kernel
theorem d_RE_placeOf_1 : decode b_RE_placeOf 1 = .ok (.istore_n 2, 1) := by decide +kernel
theorem d_RE_placeOf_2 : decode b_RE_placeOf 2 = .ok (.iload_n 2, 1) := by decide +kernel
theorem d_RE_placeOf_3 : decode b_RE_placeOf 3 = .ok (.aload_n 0, 1) := by decide +kernel
theorem d_RE_placeOf_4 : decode b_RE_placeOf 4 = .ok (.getfield 19, 3) := by decide +kernel
theorem d_RE_placeOf_7 : decode b_RE_placeOf 7 = .ok (.if_icmp .ge 21, 3) := by decide +kernel
theorem d_RE_placeOf_10 : decode b_RE_placeOf 10 = .ok (.aload_n 0, 1) := by decide +kernel
theorem d_RE_placeOf_11 : decode b_RE_placeOf 11 = .ok (.getfield 9, 3) := by decide +kernel
theorem d_RE_placeOf_14 : decode b_RE_placeOf 14 = .ok (.iload_n 2, 1) := by decide +kernel
theorem d_RE_placeOf_15 : decode b_RE_placeOf 15 = .ok (.iaload, 1) := by decide +kernel
theorem d_RE_placeOf_16 : decode b_RE_placeOf 16 = .ok (.iload_n 1, 1) := by decide +kernel
theorem d_RE_placeOf_17 : decode b_RE_placeOf 17 = .ok (.if_icmp .ne 5, 3) := by decide +kernel
theorem d_RE_placeOf_20 : decode b_RE_placeOf 20 = .ok (.iload_n 2, 1) := by decide +kernel
theorem d_RE_placeOf_21 : decode b_RE_placeOf 21 = .ok (.ireturn, 1) := by decide +kernel
theorem d_RE_placeOf_22 : decode b_RE_placeOf 22 = .ok (.iinc 2 1, 3) := by decide +kernel
theorem d_RE_placeOf_25 : decode b_RE_placeOf 25 = .ok (.goto (-23), 3) := by decide +kernel
theorem d_RE_placeOf_28 : decode b_RE_placeOf 28 = .ok (.iconst (-1), 1) := by decide +kernel
theorem d_RE_placeOf_29 : decode b_RE_placeOf 29 = .ok (.ireturn, 1) := by decide +kernel
theorem d_JL_drop_0 : decode b_JL_drop 0 = .ok (.iload_n 1, 1) := by decide +kernel
theorem d_JL_drop_1 : decode b_JL_drop 1 = .ok (.aload_n 0, 1) := by decide +kernel
theorem d_JL_drop_2 : decode b_JL_drop 2 = .ok (.getfield 43, 3) := by decide +kernel
theorem d_JL_drop_5 : decode b_JL_drop 5 = .ok (.invokestatic 50, 3) := by decide +kernel
theorem d_JL_drop_8 : decode b_JL_drop 8 = .ok (.ifCond .eq 23, 3) := by decide +kernel
theorem d_JL_drop_11 : decode b_JL_drop 11 = .ok (.aload_n 0, 1) := by decide +kernel
theorem d_JL_drop_12 : decode b_JL_drop 12 = .ok (.getfield 11, 3) := by decide +kernel
theorem d_JL_drop_15 : decode b_JL_drop 15 = .ok (.iload_n 1, 1) := by decide +kernel
theorem d_JL_drop_16 : decode b_JL_drop 16 = .ok (.aaload, 1) := by decide +kernel
theorem d_JL_drop_17 : decode b_JL_drop 17 = .ok (.iload_n 2, 1) := by decide +kernel
theorem d_JL_drop_18 : decode b_JL_drop 18 = .ok (.iload_n 3, 1) := by decide +kernel
theorem d_JL_drop_19 : decode b_JL_drop 19 = .ok (.iload 4, 2) := by decide +kernel
theorem d_JL_drop_21 : decode b_JL_drop 21 = .ok (.invokevirtual 58, 3) := by decide +kernel
theorem d_JL_drop_24 : decode b_JL_drop 24 = .ok (.ifCond .eq 7, 3) := by decide +kernel
theorem d_JL_drop_27 : decode b_JL_drop 27 = .ok (.iconst 1, 1) := by decide +kernel
theorem d_JL_drop_28 : decode b_JL_drop 28 = .ok (.goto 4, 3) := by decide +kernel
theorem d_JL_drop_31 : decode b_JL_drop 31 = .ok (.iconst 0, 1) := by decide +kernel
theorem d_JL_drop_32 : decode b_JL_drop 32 = .ok (.ireturn, 1) := by decide +kernel
theorem d_RE_take_0 : decode b_RE_take 0 = .ok (.aload_n 0, 1) := by decide +kernel
theorem d_RE_take_1 : decode b_RE_take 1 = .ok (.aload_n 0, 1) := by decide +kernel
theorem d_RE_take_2 : decode b_RE_take 2 = .ok (.iload_n 1, 1) := by decide +kernel
theorem d_RE_take_3 : decode b_RE_take 3 = .ok (.iload_n 2, 1) := by decide +kernel
theorem d_RE_take_4 : decode b_RE_take 4 = .ok (.iload_n 3, 1) := by decide +kernel
theorem d_RE_take_5 : decode b_RE_take 5 = .ok (.invokevirtual 15, 3) := by decide +kernel
theorem d_RE_take_8 : decode b_RE_take 8 = .ok (.invokevirtual 23, 3) := by decide +kernel
theorem d_RE_take_11 : decode b_RE_take 11 = .ok (.istore 4, 2) := by decide +kernel
theorem d_RE_take_13 : decode b_RE_take 13 = .ok (.iload 4, 2) := by decide +kernel
theorem d_RE_take_15 : decode b_RE_take 15 = .ok (.iconst (-1), 1) := by decide +kernel
theorem d_RE_take_16 : decode b_RE_take 16 = .ok (.if_icmp .ne 5, 3) := by decide +kernel
theorem d_RE_take_19 : decode b_RE_take 19 = .ok (.iconst 0, 1) := by decide +kernel
theorem d_RE_take_20 : decode b_RE_take 20 = .ok (.ireturn, 1) := by decide +kernel
theorem d_RE_take_21 : decode b_RE_take 21 = .ok (.aload_n 0, 1) := by decide +kernel
theorem d_RE_take_22 : decode b_RE_take 22 = .ok (.dup, 1) := by decide +kernel
theorem d_RE_take_23 : decode b_RE_take 23 = .ok (.getfield 19, 3) := by decide +kernel
theorem d_RE_take_26 : decode b_RE_take 26 = .ok (.iconst 1, 1) := by decide +kernel
theorem d_RE_take_27 : decode b_RE_take 27 = .ok (.isub, 1) := by decide +kernel
theorem d_RE_take_28 : decode b_RE_take 28 = .ok (.putfield 19, 3) := by decide +kernel
theorem d_RE_take_31 : decode b_RE_take 31 = .ok (.aload_n 0, 1) := by decide +kernel
theorem d_RE_take_32 : decode b_RE_take 32 = .ok (.getfield 9, 3) := by decide +kernel
theorem d_RE_take_35 : decode b_RE_take 35 = .ok (.iload 4, 2) := by decide +kernel
theorem d_RE_take_37 : decode b_RE_take 37 = .ok (.aload_n 0, 1) := by decide +kernel
theorem d_RE_take_38 : decode b_RE_take 38 = .ok (.getfield 9, 3) := by decide +kernel
theorem d_RE_take_41 : decode b_RE_take 41 = .ok (.aload_n 0, 1) := by decide +kernel
theorem d_RE_take_42 : decode b_RE_take 42 = .ok (.getfield 19, 3) := by decide +kernel
theorem d_RE_take_45 : decode b_RE_take 45 = .ok (.iaload, 1) := by decide +kernel
theorem d_RE_take_46 : decode b_RE_take 46 = .ok (.iastore, 1) := by decide +kernel
theorem d_RE_take_47 : decode b_RE_take 47 = .ok (.iconst 1, 1) := by decide +kernel
theorem d_RE_take_48 : decode b_RE_take 48 = .ok (.ireturn, 1) := by decide +kernel
theorem d_JL_rows_0 : decode b_JL_rows 0 = .ok (.iload_n 1, 1) := by decide +kernel
theorem d_JL_rows_1 : decode b_JL_rows 1 = .ok (.aload_n 0, 1) := by decide +kernel
theorem d_JL_rows_2 : decode b_JL_rows 2 = .ok (.getfield 43, 3) := by decide +kernel
theorem d_JL_rows_5 : decode b_JL_rows 5 = .ok (.invokestatic 50, 3) := by decide +kernel
theorem d_JL_rows_8 : decode b_JL_rows 8 = .ok (.ifCond .eq 15, 3) := by decide +kernel
theorem d_JL_rows_11 : decode b_JL_rows 11 = .ok (.aload_n 0, 1) := by decide +kernel
theorem d_JL_rows_12 : decode b_JL_rows 12 = .ok (.getfield 11, 3) := by decide +kernel
theorem d_JL_rows_15 : decode b_JL_rows 15 = .ok (.iload_n 1, 1) := by decide +kernel
theorem d_JL_rows_16 : decode b_JL_rows 16 = .ok (.aaload, 1) := by decide +kernel
theorem d_JL_rows_17 : decode b_JL_rows 17 = .ok (.getfield 61, 3) := by decide +kernel
theorem d_JL_rows_20 : decode b_JL_rows 20 = .ok (.goto 4, 3) := by decide +kernel
theorem d_JL_rows_23 : decode b_JL_rows 23 = .ok (.iconst (-1), 1) := by decide +kernel
theorem d_JL_rows_24 : decode b_JL_rows 24 = .ok (.ireturn, 1) := by decide +kernel
theorem d_JL_atom_0 : decode b_JL_atom 0 = .ok (.iload_n 1, 1) := by decide +kernel
theorem d_JL_atom_1 : decode b_JL_atom 1 = .ok (.aload_n 0, 1) := by decide +kernel
theorem d_JL_atom_2 : decode b_JL_atom 2 = .ok (.getfield 43, 3) := by decide +kernel
theorem d_JL_atom_5 : decode b_JL_atom 5 = .ok (.invokestatic 50, 3) := by decide +kernel
theorem d_JL_atom_8 : decode b_JL_atom 8 = .ok (.ifCond .eq 23, 3) := by decide +kernel
theorem d_JL_atom_11 : decode b_JL_atom 11 = .ok (.aload_n 0, 1) := by decide +kernel
theorem d_JL_atom_12 : decode b_JL_atom 12 = .ok (.getfield 21, 3) := by decide +kernel
theorem d_JL_atom_15 : decode b_JL_atom 15 = .ok (.aload_n 0, 1) := by decide +kernel
theorem d_JL_atom_16 : decode b_JL_atom 16 = .ok (.getfield 11, 3) := by decide +kernel
theorem d_JL_atom_19 : decode b_JL_atom 19 = .ok (.iload_n 1, 1) := by decide +kernel
theorem d_JL_atom_20 : decode b_JL_atom 20 = .ok (.aaload, 1) := by decide +kernel
theorem d_JL_atom_21 : decode b_JL_atom 21 = .ok (.iload_n 2, 1) := by decide +kernel
theorem d_JL_atom_22 : decode b_JL_atom 22 = .ok (.iload_n 3, 1) := by decide +kernel
theorem d_JL_atom_23 : decode b_JL_atom 23 = .ok (.iload 4, 2) := by decide +kernel
theorem d_JL_atom_25 : decode b_JL_atom 25 = .ok (.invokevirtual 64, 3) := by decide +kernel
theorem d_JL_atom_28 : decode b_JL_atom 28 = .ok (.ifCond .ne 5, 3) := by decide +kernel
theorem d_JL_atom_31 : decode b_JL_atom 31 = .ok (.iconst (-1), 1) := by decide +kernel
theorem d_JL_atom_32 : decode b_JL_atom 32 = .ok (.ireturn, 1) := by decide +kernel
theorem d_JL_atom_33 : decode b_JL_atom 33 = .ok (.aload_n 0, 1) := by decide +kernel
theorem d_JL_atom_34 : decode b_JL_atom 34 = .ok (.getfield 30, 3) := by decide +kernel
theorem d_JL_atom_37 : decode b_JL_atom 37 = .ok (.invokevirtual 68, 3) := by decide +kernel
theorem d_JL_atom_40 : decode b_JL_atom 40 = .ok (.aload_n 0, 1) := by decide +kernel
theorem d_JL_atom_41 : decode b_JL_atom 41 = .ok (.getfield 21, 3) := by decide +kernel
theorem d_JL_atom_44 : decode b_JL_atom 44 = .ok (.getfield 71, 3) := by decide +kernel
theorem d_JL_atom_47 : decode b_JL_atom 47 = .ok (.iconst 1, 1) := by decide +kernel
theorem d_JL_atom_48 : decode b_JL_atom 48 = .ok (.isub, 1) := by decide +kernel
theorem d_JL_atom_49 : decode b_JL_atom 49 = .ok (.ireturn, 1) := by decide +kernel
theorem d_QU_putAtom_0 : decode b_QU_putAtom 0 = .ok (.aload_n 0, 1) := by decide +kernel
theorem d_QU_putAtom_1 : decode b_QU_putAtom 1 = .ok (.getfield 24, 3) := by decide +kernel
theorem d_QU_putAtom_4 : decode b_QU_putAtom 4 = .ok (.bipush 6, 2) := by decide +kernel
theorem d_QU_putAtom_6 : decode b_QU_putAtom 6 = .ok (.if_icmp .eq 23, 3) := by decide +kernel
theorem d_QU_putAtom_9 : decode b_QU_putAtom 9 = .ok (.aload_n 0, 1) := by decide +kernel
theorem d_QU_putAtom_10 : decode b_QU_putAtom 10 = .ok (.getfield 11, 3) := by decide +kernel
theorem d_QU_putAtom_13 : decode b_QU_putAtom 13 = .ok (.aload_n 0, 1) := by decide +kernel
theorem d_QU_putAtom_14 : decode b_QU_putAtom 14 = .ok (.getfield 24, 3) := by decide +kernel
theorem d_QU_putAtom_17 : decode b_QU_putAtom 17 = .ok (.aaload, 1) := by decide +kernel
theorem d_QU_putAtom_18 : decode b_QU_putAtom 18 = .ok (.aload_n 1, 1) := by decide +kernel
theorem d_QU_putAtom_19 : decode b_QU_putAtom 19 = .ok (.iload_n 2, 1) := by decide +kernel
theorem d_QU_putAtom_20 : decode b_QU_putAtom 20 = .ok (.iload_n 3, 1) := by decide +kernel
theorem d_QU_putAtom_21 : decode b_QU_putAtom 21 = .ok (.iload 4, 2) := by decide +kernel
theorem d_QU_putAtom_23 : decode b_QU_putAtom 23 = .ok (.invokevirtual 28, 3) := by decide +kernel
theorem d_QU_putAtom_26 : decode b_QU_putAtom 26 = .ok (.ifCond .ne 5, 3) := by decide +kernel
theorem d_QU_putAtom_29 : decode b_QU_putAtom 29 = .ok (.iconst 0, 1) := by decide +kernel
theorem d_QU_putAtom_30 : decode b_QU_putAtom 30 = .ok (.ireturn, 1) := by decide +kernel
theorem d_QU_putAtom_31 : decode b_QU_putAtom 31 = .ok (.aload_n 0, 1) := by decide +kernel
theorem d_QU_putAtom_32 : decode b_QU_putAtom 32 = .ok (.dup, 1) := by decide +kernel
theorem d_QU_putAtom_33 : decode b_QU_putAtom 33 = .ok (.getfield 24, 3) := by decide +kernel
theorem d_QU_putAtom_36 : decode b_QU_putAtom 36 = .ok (.iconst 1, 1) := by decide +kernel
theorem d_QU_putAtom_37 : decode b_QU_putAtom 37 = .ok (.iadd, 1) := by decide +kernel
theorem d_QU_putAtom_38 : decode b_QU_putAtom 38 = .ok (.putfield 24, 3) := by decide +kernel
theorem d_QU_putAtom_41 : decode b_QU_putAtom 41 = .ok (.iconst 1, 1) := by decide +kernel
theorem d_QU_putAtom_42 : decode b_QU_putAtom 42 = .ok (.ireturn, 1) := by decide +kernel
theorem d_AT_bind_0 : decode b_AT_bind 0 = .ok (.aload_n 1, 1) := by decide +kernel
theorem d_AT_bind_1 : decode b_AT_bind 1 = .ok (.getfield 19, 3) := by decide +kernel
theorem d_AT_bind_4 : decode b_AT_bind 4 = .ok (.iconst 1, 1) := by decide +kernel
theorem d_AT_bind_5 : decode b_AT_bind 5 = .ok (.if_icmp .le 7, 3) := by decide +kernel
theorem d_AT_bind_8 : decode b_AT_bind 8 = .ok (.iload_n 3, 1) := by decide +kernel
theorem d_AT_bind_9 : decode b_AT_bind 9 = .ok (.goto 4, 3) := by decide +kernel
theorem d_AT_bind_12 : decode b_AT_bind 12 = .ok (.iload_n 2, 1) := by decide +kernel
theorem d_AT_bind_13 : decode b_AT_bind 13 = .ok (.istore 5, 2) := by decide +kernel
theorem d_AT_bind_15 : decode b_AT_bind 15 = .ok (.aload_n 1, 1) := by decide +kernel
theorem d_AT_bind_16 : decode b_AT_bind 16 = .ok (.getfield 19, 3) := by decide +kernel
theorem d_AT_bind_19 : decode b_AT_bind 19 = .ok (.iconst 2, 1) := by decide +kernel
theorem d_AT_bind_20 : decode b_AT_bind 20 = .ok (.if_icmp .le 8, 3) := by decide +kernel
theorem d_AT_bind_23 : decode b_AT_bind 23 = .ok (.iload 4, 2) := by decide +kernel
theorem d_AT_bind_25 : decode b_AT_bind 25 = .ok (.goto 4, 3) := by decide +kernel
theorem d_AT_bind_28 : decode b_AT_bind 28 = .ok (.iload_n 2, 1) := by decide +kernel
theorem d_AT_bind_29 : decode b_AT_bind 29 = .ok (.istore 6, 2) := by decide +kernel
theorem d_AT_bind_31 : decode b_AT_bind 31 = .ok (.iload_n 2, 1) := by decide +kernel
theorem d_AT_bind_32 : decode b_AT_bind 32 = .ok (.bipush 8, 2) := by decide +kernel
theorem d_AT_bind_34 : decode b_AT_bind 34 = .ok (.invokestatic 25, 3) := by decide +kernel
theorem d_AT_bind_37 : decode b_AT_bind 37 = .ok (.ifCond .eq 23, 3) := by decide +kernel
theorem d_AT_bind_40 : decode b_AT_bind 40 = .ok (.iload 5, 2) := by decide +kernel
theorem d_AT_bind_42 : decode b_AT_bind 42 = .ok (.bipush 8, 2) := by decide +kernel
theorem d_AT_bind_44 : decode b_AT_bind 44 = .ok (.invokestatic 25, 3) := by decide +kernel
theorem d_AT_bind_47 : decode b_AT_bind 47 = .ok (.ifCond .eq 13, 3) := by decide +kernel
theorem d_AT_bind_50 : decode b_AT_bind 50 = .ok (.iload 6, 2) := by decide +kernel
theorem d_AT_bind_52 : decode b_AT_bind 52 = .ok (.bipush 8, 2) := by decide +kernel
theorem d_AT_bind_54 : decode b_AT_bind 54 = .ok (.invokestatic 25, 3) := by decide +kernel
theorem d_AT_bind_57 : decode b_AT_bind 57 = .ok (.ifCond .ne 5, 3) := by decide +kernel
theorem d_AT_bind_60 : decode b_AT_bind 60 = .ok (.iconst 0, 1) := by decide +kernel
theorem d_AT_bind_61 : decode b_AT_bind 61 = .ok (.ireturn, 1) := by decide +kernel
theorem d_AT_bind_62 : decode b_AT_bind 62 = .ok (.aload_n 0, 1) := by decide +kernel
theorem d_AT_bind_63 : decode b_AT_bind 63 = .ok (.aload_n 1, 1) := by decide +kernel
theorem d_AT_bind_64 : decode b_AT_bind 64 = .ok (.putfield 15, 3) := by decide +kernel
theorem d_AT_bind_67 : decode b_AT_bind 67 = .ok (.aload_n 0, 1) := by decide +kernel
theorem d_AT_bind_68 : decode b_AT_bind 68 = .ok (.getfield 9, 3) := by decide +kernel
theorem d_AT_bind_71 : decode b_AT_bind 71 = .ok (.iconst 0, 1) := by decide +kernel
theorem d_AT_bind_72 : decode b_AT_bind 72 = .ok (.iload_n 2, 1) := by decide +kernel
theorem d_AT_bind_73 : decode b_AT_bind 73 = .ok (.iastore, 1) := by decide +kernel
theorem d_AT_bind_74 : decode b_AT_bind 74 = .ok (.aload_n 0, 1) := by decide +kernel
theorem d_AT_bind_75 : decode b_AT_bind 75 = .ok (.getfield 9, 3) := by decide +kernel
theorem d_AT_bind_78 : decode b_AT_bind 78 = .ok (.iconst 1, 1) := by decide +kernel
theorem d_AT_bind_79 : decode b_AT_bind 79 = .ok (.iload 5, 2) := by decide +kernel
theorem d_AT_bind_81 : decode b_AT_bind 81 = .ok (.iastore, 1) := by decide +kernel
theorem d_AT_bind_82 : decode b_AT_bind 82 = .ok (.aload_n 0, 1) := by decide +kernel
theorem d_AT_bind_83 : decode b_AT_bind 83 = .ok (.getfield 9, 3) := by decide +kernel
theorem d_AT_bind_86 : decode b_AT_bind 86 = .ok (.iconst 2, 1) := by decide +kernel
theorem d_AT_bind_87 : decode b_AT_bind 87 = .ok (.iload 6, 2) := by decide +kernel
theorem d_AT_bind_89 : decode b_AT_bind 89 = .ok (.iastore, 1) := by decide +kernel
theorem d_AT_bind_90 : decode b_AT_bind 90 = .ok (.aload_n 0, 1) := by decide +kernel
theorem d_AT_bind_91 : decode b_AT_bind 91 = .ok (.iconst 1, 1) := by decide +kernel
theorem d_AT_bind_92 : decode b_AT_bind 92 = .ok (.iload_n 2, 1) := by decide +kernel
theorem d_AT_bind_93 : decode b_AT_bind 93 = .ok (.ishl, 1) := by decide +kernel
theorem d_AT_bind_94 : decode b_AT_bind 94 = .ok (.iconst 1, 1) := by decide +kernel
theorem d_AT_bind_95 : decode b_AT_bind 95 = .ok (.iload 5, 2) := by decide +kernel
theorem d_AT_bind_97 : decode b_AT_bind 97 = .ok (.ishl, 1) := by decide +kernel
theorem d_AT_bind_98 : decode b_AT_bind 98 = .ok (.ior, 1) := by decide +kernel
theorem d_AT_bind_99 : decode b_AT_bind 99 = .ok (.iconst 1, 1) := by decide +kernel
theorem d_AT_bind_100 : decode b_AT_bind 100 = .ok (.iload 6, 2) := by decide +kernel
theorem d_AT_bind_102 : decode b_AT_bind 102 = .ok (.ishl, 1) := by decide +kernel
theorem d_AT_bind_103 : decode b_AT_bind 103 = .ok (.ior, 1) := by decide +kernel
theorem d_AT_bind_104 : decode b_AT_bind 104 = .ok (.putfield 29, 3) := by decide +kernel
theorem d_AT_bind_107 : decode b_AT_bind 107 = .ok (.iconst 1, 1) := by decide +kernel
theorem d_AT_bind_108 : decode b_AT_bind 108 = .ok (.ireturn, 1) := by decide +kernel
theorem d_HA_hangAtoms_0 : decode b_HA_hangAtoms 0 = .ok (.aload_n 0, 1) := by decide +kernel
theorem d_HA_hangAtoms_1 : decode b_HA_hangAtoms 1 = .ok (.iconst 1, 1) := by decide +kernel
theorem d_HA_hangAtoms_2 : decode b_HA_hangAtoms 2 = .ok (.aload_n 0, 1) := by decide +kernel
theorem d_HA_hangAtoms_3 : decode b_HA_hangAtoms 3 = .ok (.getfield 21, 3) := by decide +kernel
theorem d_HA_hangAtoms_6 : decode b_HA_hangAtoms 6 = .ok (.getfield 25, 3) := by decide +kernel
theorem d_HA_hangAtoms_9 : decode b_HA_hangAtoms 9 = .ok (.ishl, 1) := by decide +kernel
theorem d_HA_hangAtoms_10 : decode b_HA_hangAtoms 10 = .ok (.iconst 1, 1) := by decide +kernel
theorem d_HA_hangAtoms_11 : decode b_HA_hangAtoms 11 = .ok (.isub, 1) := by decide +kernel
theorem d_HA_hangAtoms_12 : decode b_HA_hangAtoms 12 = .ok (.putfield 34, 3) := by decide +kernel
theorem d_HA_hangAtoms_15 : decode b_HA_hangAtoms 15 = .ok (.aload_n 0, 1) := by decide +kernel
theorem d_HA_hangAtoms_16 : decode b_HA_hangAtoms 16 = .ok (.iconst 0, 1) := by decide +kernel
theorem d_HA_hangAtoms_17 : decode b_HA_hangAtoms 17 = .ok (.putfield 31, 3) := by decide +kernel
theorem d_HA_hangAtoms_20 : decode b_HA_hangAtoms 20 = .ok (.iconst 0, 1) := by decide +kernel
theorem d_HA_hangAtoms_21 : decode b_HA_hangAtoms 21 = .ok (.istore_n 1, 1) := by decide +kernel
theorem d_HA_hangAtoms_22 : decode b_HA_hangAtoms 22 = .ok (.iload_n 1, 1) := by decide +kernel
theorem d_HA_hangAtoms_23 : decode b_HA_hangAtoms 23 = .ok (.bipush 6, 2) := by decide +kernel
theorem d_HA_hangAtoms_25 : decode b_HA_hangAtoms 25 = .ok (.if_icmp .ge 23, 3) := by decide +kernel
theorem d_HA_hangAtoms_28 : decode b_HA_hangAtoms 28 = .ok (.aload_n 0, 1) := by decide +kernel
theorem d_HA_hangAtoms_29 : decode b_HA_hangAtoms 29 = .ok (.getfield 9, 3) := by decide +kernel
theorem d_HA_hangAtoms_32 : decode b_HA_hangAtoms 32 = .ok (.iload_n 1, 1) := by decide +kernel
theorem d_HA_hangAtoms_33 : decode b_HA_hangAtoms 33 = .ok (.iconst (-1), 1) := by decide +kernel
theorem d_HA_hangAtoms_34 : decode b_HA_hangAtoms 34 = .ok (.iastore, 1) := by decide +kernel
theorem d_HA_hangAtoms_35 : decode b_HA_hangAtoms 35 = .ok (.aload_n 0, 1) := by decide +kernel
theorem d_HA_hangAtoms_36 : decode b_HA_hangAtoms 36 = .ok (.getfield 15, 3) := by decide +kernel
theorem d_HA_hangAtoms_39 : decode b_HA_hangAtoms 39 = .ok (.iload_n 1, 1) := by decide +kernel
theorem d_HA_hangAtoms_40 : decode b_HA_hangAtoms 40 = .ok (.iconst (-1), 1) := by decide +kernel
theorem d_HA_hangAtoms_41 : decode b_HA_hangAtoms 41 = .ok (.iastore, 1) := by decide +kernel
theorem d_HA_hangAtoms_42 : decode b_HA_hangAtoms 42 = .ok (.iinc 1 1, 3) := by decide +kernel
theorem d_HA_hangAtoms_45 : decode b_HA_hangAtoms 45 = .ok (.goto (-23), 3) := by decide +kernel
theorem d_HA_hangAtoms_48 : decode b_HA_hangAtoms 48 = .ok (.iconst 0, 1) := by decide +kernel
theorem d_HA_hangAtoms_49 : decode b_HA_hangAtoms 49 = .ok (.istore_n 1, 1) := by decide +kernel
theorem d_HA_hangAtoms_50 : decode b_HA_hangAtoms 50 = .ok (.iload_n 1, 1) := by decide +kernel
theorem d_HA_hangAtoms_51 : decode b_HA_hangAtoms 51 = .ok (.aload_n 0, 1) := by decide +kernel
theorem d_HA_hangAtoms_52 : decode b_HA_hangAtoms 52 = .ok (.getfield 21, 3) := by decide +kernel
theorem d_HA_hangAtoms_55 : decode b_HA_hangAtoms 55 = .ok (.getfield 25, 3) := by decide +kernel
theorem d_HA_hangAtoms_58 : decode b_HA_hangAtoms 58 = .ok (.if_icmp .ge 13, 3) := by decide +kernel
theorem d_HA_hangAtoms_61 : decode b_HA_hangAtoms 61 = .ok (.aload_n 0, 1) := by decide +kernel
theorem d_HA_hangAtoms_62 : decode b_HA_hangAtoms 62 = .ok (.invokevirtual 41, 3) := by decide +kernel
theorem d_HA_hangAtoms_65 : decode b_HA_hangAtoms 65 = .ok (.iinc 1 1, 3) := by decide +kernel
theorem d_HA_hangAtoms_68 : decode b_HA_hangAtoms 68 = .ok (.goto (-18), 3) := by decide +kernel
theorem d_HA_hangAtoms_71 : decode b_HA_hangAtoms 71 = .ok (.return_, 1) := by decide +kernel
theorem d_HA_hangLeastEar_0 : decode b_HA_hangLeastEar 0 = .ok (.iconst 0, 1) := by decide +kernel
theorem d_HA_hangLeastEar_1 : decode b_HA_hangLeastEar 1 = .ok (.istore_n 1, 1) := by decide +kernel
theorem d_HA_hangLeastEar_2 : decode b_HA_hangLeastEar 2 = .ok (.iload_n 1, 1) := by decide +kernel
theorem d_HA_hangLeastEar_3 : decode b_HA_hangLeastEar 3 = .ok (.aload_n 0, 1) := by decide +kernel
theorem d_HA_hangLeastEar_4 : decode b_HA_hangLeastEar 4 = .ok (.getfield 21, 3) := by decide +kernel
theorem d_HA_hangLeastEar_7 : decode b_HA_hangLeastEar 7 = .ok (.getfield 25, 3) := by decide +kernel
theorem d_HA_hangLeastEar_10 : decode b_HA_hangLeastEar 10 = .ok (.if_icmp .ge 72, 3) := by decide +kernel
theorem d_HA_hangLeastEar_13 : decode b_HA_hangLeastEar 13 = .ok (.aload_n 0, 1) := by decide +kernel
theorem d_HA_hangLeastEar_14 : decode b_HA_hangLeastEar 14 = .ok (.iload_n 1, 1) := by decide +kernel
theorem d_HA_hangLeastEar_15 : decode b_HA_hangLeastEar 15 = .ok (.invokevirtual 44, 3) := by decide +kernel
theorem d_HA_hangLeastEar_18 : decode b_HA_hangLeastEar 18 = .ok (.istore_n 2, 1) := by decide +kernel
theorem d_HA_hangLeastEar_19 : decode b_HA_hangLeastEar 19 = .ok (.iload_n 2, 1) := by decide +kernel
theorem d_HA_hangLeastEar_20 : decode b_HA_hangLeastEar 20 = .ok (.iconst (-1), 1) := by decide +kernel
theorem d_HA_hangLeastEar_21 : decode b_HA_hangLeastEar 21 = .ok (.if_icmp .eq 55, 3) := by decide +kernel
theorem d_HA_hangLeastEar_24 : decode b_HA_hangLeastEar 24 = .ok (.aload_n 0, 1) := by decide +kernel
theorem d_HA_hangLeastEar_25 : decode b_HA_hangLeastEar 25 = .ok (.getfield 9, 3) := by decide +kernel
theorem d_HA_hangLeastEar_28 : decode b_HA_hangLeastEar 28 = .ok (.iload_n 1, 1) := by decide +kernel
theorem d_HA_hangLeastEar_29 : decode b_HA_hangLeastEar 29 = .ok (.iload_n 2, 1) := by decide +kernel
theorem d_HA_hangLeastEar_30 : decode b_HA_hangLeastEar 30 = .ok (.iastore, 1) := by decide +kernel
theorem d_HA_hangLeastEar_31 : decode b_HA_hangLeastEar 31 = .ok (.aload_n 0, 1) := by decide +kernel
theorem d_HA_hangLeastEar_32 : decode b_HA_hangLeastEar 32 = .ok (.getfield 15, 3) := by decide +kernel
theorem d_HA_hangLeastEar_35 : decode b_HA_hangLeastEar 35 = .ok (.iload_n 1, 1) := by decide +kernel
theorem d_HA_hangLeastEar_36 : decode b_HA_hangLeastEar 36 = .ok (.aload_n 0, 1) := by decide +kernel
theorem d_HA_hangLeastEar_37 : decode b_HA_hangLeastEar 37 = .ok (.getfield 31, 3) := by decide +kernel
theorem d_HA_hangLeastEar_40 : decode b_HA_hangLeastEar 40 = .ok (.iastore, 1) := by decide +kernel
theorem d_HA_hangLeastEar_41 : decode b_HA_hangLeastEar 41 = .ok (.aload_n 0, 1) := by decide +kernel
theorem d_HA_hangLeastEar_42 : decode b_HA_hangLeastEar 42 = .ok (.getfield 18, 3) := by decide +kernel
theorem d_HA_hangLeastEar_45 : decode b_HA_hangLeastEar 45 = .ok (.aload_n 0, 1) := by decide +kernel
theorem d_HA_hangLeastEar_46 : decode b_HA_hangLeastEar 46 = .ok (.getfield 31, 3) := by decide +kernel
theorem d_HA_hangLeastEar_49 : decode b_HA_hangLeastEar 49 = .ok (.iload_n 1, 1) := by decide +kernel
theorem d_HA_hangLeastEar_50 : decode b_HA_hangLeastEar 50 = .ok (.iastore, 1) := by decide +kernel
theorem d_HA_hangLeastEar_51 : decode b_HA_hangLeastEar 51 = .ok (.aload_n 0, 1) := by decide +kernel
theorem d_HA_hangLeastEar_52 : decode b_HA_hangLeastEar 52 = .ok (.dup, 1) := by decide +kernel
theorem d_HA_hangLeastEar_53 : decode b_HA_hangLeastEar 53 = .ok (.getfield 31, 3) := by decide +kernel
theorem d_HA_hangLeastEar_56 : decode b_HA_hangLeastEar 56 = .ok (.iconst 1, 1) := by decide +kernel
theorem d_HA_hangLeastEar_57 : decode b_HA_hangLeastEar 57 = .ok (.iadd, 1) := by decide +kernel
theorem d_HA_hangLeastEar_58 : decode b_HA_hangLeastEar 58 = .ok (.putfield 31, 3) := by decide +kernel
theorem d_HA_hangLeastEar_61 : decode b_HA_hangLeastEar 61 = .ok (.aload_n 0, 1) := by decide +kernel
theorem d_HA_hangLeastEar_62 : decode b_HA_hangLeastEar 62 = .ok (.dup, 1) := by decide +kernel
theorem d_HA_hangLeastEar_63 : decode b_HA_hangLeastEar 63 = .ok (.getfield 34, 3) := by decide +kernel
theorem d_HA_hangLeastEar_66 : decode b_HA_hangLeastEar 66 = .ok (.iconst 1, 1) := by decide +kernel
theorem d_HA_hangLeastEar_67 : decode b_HA_hangLeastEar 67 = .ok (.iload_n 1, 1) := by decide +kernel
theorem d_HA_hangLeastEar_68 : decode b_HA_hangLeastEar 68 = .ok (.ishl, 1) := by decide +kernel
theorem d_HA_hangLeastEar_69 : decode b_HA_hangLeastEar 69 = .ok (.iconst (-1), 1) := by decide +kernel
theorem d_HA_hangLeastEar_70 : decode b_HA_hangLeastEar 70 = .ok (.ixor, 1) := by decide +kernel
theorem d_HA_hangLeastEar_71 : decode b_HA_hangLeastEar 71 = .ok (.iand, 1) := by decide +kernel
theorem d_HA_hangLeastEar_72 : decode b_HA_hangLeastEar 72 = .ok (.putfield 34, 3) := by decide +kernel
theorem d_HA_hangLeastEar_75 : decode b_HA_hangLeastEar 75 = .ok (.return_, 1) := by decide +kernel
theorem d_HA_hangLeastEar_76 : decode b_HA_hangLeastEar 76 = .ok (.iinc 1 1, 3) := by decide +kernel
theorem d_HA_hangLeastEar_79 : decode b_HA_hangLeastEar 79 = .ok (.goto (-77), 3) := by decide +kernel
theorem d_HA_hangLeastEar_82 : decode b_HA_hangLeastEar 82 = .ok (.return_, 1) := by decide +kernel
theorem d_HA_leastHolderOf_0 : decode b_HA_leastHolderOf 0 = .ok (.iload_n 1, 1) := by decide +kernel
theorem d_HA_leastHolderOf_1 : decode b_HA_leastHolderOf 1 = .ok (.aload_n 0, 1) := by decide +kernel
theorem d_HA_leastHolderOf_2 : decode b_HA_leastHolderOf 2 = .ok (.getfield 34, 3) := by decide +kernel
theorem d_HA_leastHolderOf_5 : decode b_HA_leastHolderOf 5 = .ok (.invokestatic 37, 3) := by decide +kernel
theorem d_HA_leastHolderOf_8 : decode b_HA_leastHolderOf 8 = .ok (.ifCond .ne 5, 3) := by decide +kernel
theorem d_HA_leastHolderOf_11 : decode b_HA_leastHolderOf 11 = .ok (.iconst (-1), 1) := by decide +kernel
theorem d_HA_leastHolderOf_12 : decode b_HA_leastHolderOf 12 = .ok (.ireturn, 1) := by decide +kernel
theorem d_HA_leastHolderOf_13 : decode b_HA_leastHolderOf 13 = .ok (.aload_n 0, 1) := by decide +kernel
theorem d_HA_leastHolderOf_14 : decode b_HA_leastHolderOf 14 = .ok (.getfield 34, 3) := by decide +kernel
theorem d_HA_leastHolderOf_17 : decode b_HA_leastHolderOf 17 = .ok (.iconst 1, 1) := by decide +kernel
theorem d_HA_leastHolderOf_18 : decode b_HA_leastHolderOf 18 = .ok (.iload_n 1, 1) := by decide +kernel
theorem d_HA_leastHolderOf_19 : decode b_HA_leastHolderOf 19 = .ok (.ishl, 1) := by decide +kernel
theorem d_HA_leastHolderOf_20 : decode b_HA_leastHolderOf 20 = .ok (.iconst (-1), 1) := by decide +kernel
theorem d_HA_leastHolderOf_21 : decode b_HA_leastHolderOf 21 = .ok (.ixor, 1) := by decide +kernel
theorem d_HA_leastHolderOf_22 : decode b_HA_leastHolderOf 22 = .ok (.iand, 1) := by decide +kernel
theorem d_HA_leastHolderOf_23 : decode b_HA_leastHolderOf 23 = .ok (.istore_n 2, 1) := by decide +kernel
theorem d_HA_leastHolderOf_24 : decode b_HA_leastHolderOf 24 = .ok (.aload_n 0, 1) := by decide +kernel
theorem d_HA_leastHolderOf_25 : decode b_HA_leastHolderOf 25 = .ok (.getfield 21, 3) := by decide +kernel
theorem d_HA_leastHolderOf_28 : decode b_HA_leastHolderOf 28 = .ok (.getfield 48, 3) := by decide +kernel
theorem d_HA_leastHolderOf_31 : decode b_HA_leastHolderOf 31 = .ok (.iload_n 1, 1) := by decide +kernel
theorem d_HA_leastHolderOf_32 : decode b_HA_leastHolderOf 32 = .ok (.aaload, 1) := by decide +kernel
theorem d_HA_leastHolderOf_33 : decode b_HA_leastHolderOf 33 = .ok (.getfield 52, 3) := by decide +kernel
theorem d_HA_leastHolderOf_36 : decode b_HA_leastHolderOf 36 = .ok (.aload_n 0, 1) := by decide +kernel
theorem d_HA_leastHolderOf_37 : decode b_HA_leastHolderOf 37 = .ok (.iload_n 2, 1) := by decide +kernel
theorem d_HA_leastHolderOf_38 : decode b_HA_leastHolderOf 38 = .ok (.invokevirtual 57, 3) := by decide +kernel
theorem d_HA_leastHolderOf_41 : decode b_HA_leastHolderOf 41 = .ok (.iand, 1) := by decide +kernel
theorem d_HA_leastHolderOf_42 : decode b_HA_leastHolderOf 42 = .ok (.istore_n 3, 1) := by decide +kernel
theorem d_HA_leastHolderOf_43 : decode b_HA_leastHolderOf 43 = .ok (.iconst 0, 1) := by decide +kernel
theorem d_HA_leastHolderOf_44 : decode b_HA_leastHolderOf 44 = .ok (.istore 4, 2) := by decide +kernel
theorem d_HA_leastHolderOf_46 : decode b_HA_leastHolderOf 46 = .ok (.iload 4, 2) := by decide +kernel
theorem d_HA_leastHolderOf_48 : decode b_HA_leastHolderOf 48 = .ok (.aload_n 0, 1) := by decide +kernel
theorem d_HA_leastHolderOf_49 : decode b_HA_leastHolderOf 49 = .ok (.getfield 21, 3) := by decide +kernel
theorem d_HA_leastHolderOf_52 : decode b_HA_leastHolderOf 52 = .ok (.getfield 25, 3) := by decide +kernel
theorem d_HA_leastHolderOf_55 : decode b_HA_leastHolderOf 55 = .ok (.if_icmp .ge 41, 3) := by decide +kernel
theorem d_HA_leastHolderOf_58 : decode b_HA_leastHolderOf 58 = .ok (.iload 4, 2) := by decide +kernel
theorem d_HA_leastHolderOf_60 : decode b_HA_leastHolderOf 60 = .ok (.iload_n 2, 1) := by decide +kernel
theorem d_HA_leastHolderOf_61 : decode b_HA_leastHolderOf 61 = .ok (.invokestatic 37, 3) := by decide +kernel
theorem d_HA_leastHolderOf_64 : decode b_HA_leastHolderOf 64 = .ok (.ifCond .eq 26, 3) := by decide +kernel
theorem d_HA_leastHolderOf_67 : decode b_HA_leastHolderOf 67 = .ok (.iload_n 3, 1) := by decide +kernel
theorem d_HA_leastHolderOf_68 : decode b_HA_leastHolderOf 68 = .ok (.aload_n 0, 1) := by decide +kernel
theorem d_HA_leastHolderOf_69 : decode b_HA_leastHolderOf 69 = .ok (.getfield 21, 3) := by decide +kernel
theorem d_HA_leastHolderOf_72 : decode b_HA_leastHolderOf 72 = .ok (.getfield 48, 3) := by decide +kernel
theorem d_HA_leastHolderOf_75 : decode b_HA_leastHolderOf 75 = .ok (.iload 4, 2) := by decide +kernel
theorem d_HA_leastHolderOf_77 : decode b_HA_leastHolderOf 77 = .ok (.aaload, 1) := by decide +kernel
theorem d_HA_leastHolderOf_78 : decode b_HA_leastHolderOf 78 = .ok (.getfield 52, 3) := by decide +kernel
theorem d_HA_leastHolderOf_81 : decode b_HA_leastHolderOf 81 = .ok (.iconst (-1), 1) := by decide +kernel
theorem d_HA_leastHolderOf_82 : decode b_HA_leastHolderOf 82 = .ok (.ixor, 1) := by decide +kernel
theorem d_HA_leastHolderOf_83 : decode b_HA_leastHolderOf 83 = .ok (.iand, 1) := by decide +kernel
theorem d_HA_leastHolderOf_84 : decode b_HA_leastHolderOf 84 = .ok (.ifCond .ne 6, 3) := by decide +kernel
theorem d_HA_leastHolderOf_87 : decode b_HA_leastHolderOf 87 = .ok (.iload 4, 2) := by decide +kernel
theorem d_HA_leastHolderOf_89 : decode b_HA_leastHolderOf 89 = .ok (.ireturn, 1) := by decide +kernel
theorem d_HA_leastHolderOf_90 : decode b_HA_leastHolderOf 90 = .ok (.iinc 4 1, 3) := by decide +kernel
theorem d_HA_leastHolderOf_93 : decode b_HA_leastHolderOf 93 = .ok (.goto (-47), 3) := by decide +kernel
theorem d_HA_leastHolderOf_96 : decode b_HA_leastHolderOf 96 = .ok (.iconst (-1), 1) := by decide +kernel
theorem d_HA_leastHolderOf_97 : decode b_HA_leastHolderOf 97 = .ok (.ireturn, 1) := by decide +kernel
theorem d_JL_isIn_0 : decode b_JL_isIn 0 = .ok (.iload_n 1, 1) := by decide +kernel
theorem d_JL_isIn_1 : decode b_JL_isIn 1 = .ok (.iload_n 0, 1) := by decide +kernel
theorem d_JL_isIn_2 : decode b_JL_isIn 2 = .ok (.ishr, 1) := by decide +kernel
theorem d_JL_isIn_3 : decode b_JL_isIn 3 = .ok (.iconst 1, 1) := by decide +kernel
theorem d_JL_isIn_4 : decode b_JL_isIn 4 = .ok (.iand, 1) := by decide +kernel
theorem d_JL_isIn_5 : decode b_JL_isIn 5 = .ok (.ifCond .eq 7, 3) := by decide +kernel
theorem d_JL_isIn_8 : decode b_JL_isIn 8 = .ok (.iconst 1, 1) := by decide +kernel
theorem d_JL_isIn_9 : decode b_JL_isIn 9 = .ok (.goto 4, 3) := by decide +kernel
theorem d_JL_isIn_12 : decode b_JL_isIn 12 = .ok (.iconst 0, 1) := by decide +kernel
theorem d_JL_isIn_13 : decode b_JL_isIn 13 = .ok (.ireturn, 1) := by decide +kernel
theorem d_HA_variablesOf_0 : decode b_HA_variablesOf 0 = .ok (.iconst 0, 1) := by decide +kernel
theorem d_HA_variablesOf_1 : decode b_HA_variablesOf 1 = .ok (.istore_n 2, 1) := by decide +kernel
theorem d_HA_variablesOf_2 : decode b_HA_variablesOf 2 = .ok (.iconst 0, 1) := by decide +kernel
theorem d_HA_variablesOf_3 : decode b_HA_variablesOf 3 = .ok (.istore_n 3, 1) := by decide +kernel
theorem d_HA_variablesOf_4 : decode b_HA_variablesOf 4 = .ok (.iload_n 3, 1) := by decide +kernel
theorem d_HA_variablesOf_5 : decode b_HA_variablesOf 5 = .ok (.aload_n 0, 1) := by decide +kernel
theorem d_HA_variablesOf_6 : decode b_HA_variablesOf 6 = .ok (.getfield 21, 3) := by decide +kernel
theorem d_HA_variablesOf_9 : decode b_HA_variablesOf 9 = .ok (.getfield 25, 3) := by decide +kernel
theorem d_HA_variablesOf_12 : decode b_HA_variablesOf 12 = .ok (.if_icmp .ge 32, 3) := by decide +kernel
theorem d_HA_variablesOf_15 : decode b_HA_variablesOf 15 = .ok (.iload_n 3, 1) := by decide +kernel
theorem d_HA_variablesOf_16 : decode b_HA_variablesOf 16 = .ok (.iload_n 1, 1) := by decide +kernel
theorem d_HA_variablesOf_17 : decode b_HA_variablesOf 17 = .ok (.invokestatic 37, 3) := by decide +kernel
theorem d_HA_variablesOf_20 : decode b_HA_variablesOf 20 = .ok (.ifCond .eq 18, 3) := by decide +kernel
theorem d_HA_variablesOf_23 : decode b_HA_variablesOf 23 = .ok (.iload_n 2, 1) := by decide +kernel
theorem d_HA_variablesOf_24 : decode b_HA_variablesOf 24 = .ok (.aload_n 0, 1) := by decide +kernel
theorem d_HA_variablesOf_25 : decode b_HA_variablesOf 25 = .ok (.getfield 21, 3) := by decide +kernel
theorem d_HA_variablesOf_28 : decode b_HA_variablesOf 28 = .ok (.getfield 48, 3) := by decide +kernel
theorem d_HA_variablesOf_31 : decode b_HA_variablesOf 31 = .ok (.iload_n 3, 1) := by decide +kernel
theorem d_HA_variablesOf_32 : decode b_HA_variablesOf 32 = .ok (.aaload, 1) := by decide +kernel
theorem d_HA_variablesOf_33 : decode b_HA_variablesOf 33 = .ok (.getfield 52, 3) := by decide +kernel
theorem d_HA_variablesOf_36 : decode b_HA_variablesOf 36 = .ok (.ior, 1) := by decide +kernel
theorem d_HA_variablesOf_37 : decode b_HA_variablesOf 37 = .ok (.istore_n 2, 1) := by decide +kernel
theorem d_HA_variablesOf_38 : decode b_HA_variablesOf 38 = .ok (.iinc 3 1, 3) := by decide +kernel
theorem d_HA_variablesOf_41 : decode b_HA_variablesOf 41 = .ok (.goto (-37), 3) := by decide +kernel
theorem d_HA_variablesOf_44 : decode b_HA_variablesOf 44 = .ok (.iload_n 2, 1) := by decide +kernel
theorem d_HA_variablesOf_45 : decode b_HA_variablesOf 45 = .ok (.ireturn, 1) := by decide +kernel
theorem d_JL_head_0 : decode b_JL_head 0 = .ok (.aload_n 0, 1) := by decide +kernel
theorem d_JL_head_1 : decode b_JL_head 1 = .ok (.getfield 21, 3) := by decide +kernel
theorem d_JL_head_4 : decode b_JL_head 4 = .ok (.iload_n 1, 1) := by decide +kernel
theorem d_JL_head_5 : decode b_JL_head 5 = .ok (.invokevirtual 74, 3) := by decide +kernel
theorem d_JL_head_8 : decode b_JL_head 8 = .ok (.ifCond .eq 15, 3) := by decide +kernel
theorem d_JL_head_11 : decode b_JL_head 11 = .ok (.aload_n 0, 1) := by decide +kernel
theorem d_JL_head_12 : decode b_JL_head 12 = .ok (.getfield 21, 3) := by decide +kernel
theorem d_JL_head_15 : decode b_JL_head 15 = .ok (.getfield 78, 3) := by decide +kernel
theorem d_JL_head_18 : decode b_JL_head 18 = .ok (.iconst 1, 1) := by decide +kernel
theorem d_JL_head_19 : decode b_JL_head 19 = .ok (.isub, 1) := by decide +kernel
theorem d_JL_head_20 : decode b_JL_head 20 = .ok (.goto 4, 3) := by decide +kernel
theorem d_JL_head_23 : decode b_JL_head 23 = .ok (.iconst (-1), 1) := by decide +kernel
theorem d_JL_head_24 : decode b_JL_head 24 = .ok (.ireturn, 1) := by decide +kernel
theorem d_QU_putInHead_0 : decode b_QU_putInHead 0 = .ok (.iload_n 1, 1) := by decide +kernel
theorem d_QU_putInHead_1 : decode b_QU_putInHead 1 = .ok (.bipush 8, 2) := by decide +kernel
theorem d_QU_putInHead_3 : decode b_QU_putInHead 3 = .ok (.invokestatic 32, 3) := by decide +kernel
theorem d_QU_putInHead_6 : decode b_QU_putInHead 6 = .ok (.ifCond .eq 22, 3) := by decide +kernel
theorem d_QU_putInHead_9 : decode b_QU_putInHead 9 = .ok (.iload_n 1, 1) := by decide +kernel
theorem d_QU_putInHead_10 : decode b_QU_putInHead 10 = .ok (.aload_n 0, 1) := by decide +kernel
theorem d_QU_putInHead_11 : decode b_QU_putInHead 11 = .ok (.getfield 36, 3) := by decide +kernel
theorem d_QU_putInHead_14 : decode b_QU_putInHead 14 = .ok (.invokestatic 39, 3) := by decide +kernel
theorem d_QU_putInHead_17 : decode b_QU_putInHead 17 = .ok (.ifCond .ne 11, 3) := by decide +kernel
theorem d_QU_putInHead_20 : decode b_QU_putInHead 20 = .ok (.aload_n 0, 1) := by decide +kernel
theorem d_QU_putInHead_21 : decode b_QU_putInHead 21 = .ok (.getfield 42, 3) := by decide +kernel
theorem d_QU_putInHead_24 : decode b_QU_putInHead 24 = .ok (.iconst 4, 1) := by decide +kernel
theorem d_QU_putInHead_25 : decode b_QU_putInHead 25 = .ok (.if_icmp .ne 5, 3) := by decide +kernel
theorem d_QU_putInHead_28 : decode b_QU_putInHead 28 = .ok (.iconst 0, 1) := by decide +kernel
theorem d_QU_putInHead_29 : decode b_QU_putInHead 29 = .ok (.ireturn, 1) := by decide +kernel
theorem d_QU_putInHead_30 : decode b_QU_putInHead 30 = .ok (.aload_n 0, 1) := by decide +kernel
theorem d_QU_putInHead_31 : decode b_QU_putInHead 31 = .ok (.getfield 17, 3) := by decide +kernel
theorem d_QU_putInHead_34 : decode b_QU_putInHead 34 = .ok (.aload_n 0, 1) := by decide +kernel
theorem d_QU_putInHead_35 : decode b_QU_putInHead 35 = .ok (.getfield 42, 3) := by decide +kernel
theorem d_QU_putInHead_38 : decode b_QU_putInHead 38 = .ok (.iload_n 1, 1) := by decide +kernel
theorem d_QU_putInHead_39 : decode b_QU_putInHead 39 = .ok (.iastore, 1) := by decide +kernel
theorem d_QU_putInHead_40 : decode b_QU_putInHead 40 = .ok (.aload_n 0, 1) := by decide +kernel
theorem d_QU_putInHead_41 : decode b_QU_putInHead 41 = .ok (.dup, 1) := by decide +kernel
theorem d_QU_putInHead_42 : decode b_QU_putInHead 42 = .ok (.getfield 42, 3) := by decide +kernel
theorem d_QU_putInHead_45 : decode b_QU_putInHead 45 = .ok (.iconst 1, 1) := by decide +kernel
theorem d_QU_putInHead_46 : decode b_QU_putInHead 46 = .ok (.iadd, 1) := by decide +kernel
theorem d_QU_putInHead_47 : decode b_QU_putInHead 47 = .ok (.putfield 42, 3) := by decide +kernel
theorem d_QU_putInHead_50 : decode b_QU_putInHead 50 = .ok (.aload_n 0, 1) := by decide +kernel
theorem d_QU_putInHead_51 : decode b_QU_putInHead 51 = .ok (.dup, 1) := by decide +kernel
theorem d_QU_putInHead_52 : decode b_QU_putInHead 52 = .ok (.getfield 36, 3) := by decide +kernel
theorem d_QU_putInHead_55 : decode b_QU_putInHead 55 = .ok (.iconst 1, 1) := by decide +kernel
theorem d_QU_putInHead_56 : decode b_QU_putInHead 56 = .ok (.iload_n 1, 1) := by decide +kernel
theorem d_QU_putInHead_57 : decode b_QU_putInHead 57 = .ok (.ishl, 1) := by decide +kernel
theorem d_QU_putInHead_58 : decode b_QU_putInHead 58 = .ok (.ior, 1) := by decide +kernel
theorem d_QU_putInHead_59 : decode b_QU_putInHead 59 = .ok (.putfield 36, 3) := by decide +kernel
theorem d_QU_putInHead_62 : decode b_QU_putInHead 62 = .ok (.iconst 1, 1) := by decide +kernel
theorem d_QU_putInHead_63 : decode b_QU_putInHead 63 = .ok (.ireturn, 1) := by decide +kernel
theorem d_JL_clear_0 : decode b_JL_clear 0 = .ok (.aload_n 0, 1) := by decide +kernel
theorem d_JL_clear_1 : decode b_JL_clear 1 = .ok (.getfield 21, 3) := by decide +kernel
theorem d_JL_clear_4 : decode b_JL_clear 4 = .ok (.getfield 71, 3) := by decide +kernel
theorem d_JL_clear_7 : decode b_JL_clear 7 = .ok (.istore_n 1, 1) := by decide +kernel
theorem d_JL_clear_8 : decode b_JL_clear 8 = .ok (.aload_n 0, 1) := by decide +kernel
theorem d_JL_clear_9 : decode b_JL_clear 9 = .ok (.getfield 21, 3) := by decide +kernel
theorem d_JL_clear_12 : decode b_JL_clear 12 = .ok (.invokevirtual 81, 3) := by decide +kernel
end
section
/-! decode rows, by program -/
theorem d_JL_clear_15 : decode b_JL_clear 15 = .ok (.aload_n 0, 1) := by decide +kernel
theorem d_JL_clear_16 : decode b_JL_clear 16 = .ok (.getfield 30, 3) := by decide +kernel
theorem d_JL_clear_19 : decode b_JL_clear 19 = .ok (.invokevirtual 68, 3) := by decide +kernel
theorem d_JL_clear_22 : decode b_JL_clear 22 = .ok (.iload_n 1, 1) := by decide +kernel
theorem d_JL_clear_23 : decode b_JL_clear 23 = .ok (.ireturn, 1) := by decide +kernel
theorem d_QU_empty_0 : decode b_QU_empty 0 = .ok (.aload_n 0, 1) := by decide +kernel
theorem d_QU_empty_1 : decode b_QU_empty 1 = .ok (.iconst 0, 1) := by decide +kernel
theorem d_QU_empty_2 : decode b_QU_empty 2 = .ok (.putfield 24, 3) := by decide +kernel
theorem d_QU_empty_5 : decode b_QU_empty 5 = .ok (.aload_n 0, 1) := by decide +kernel
theorem d_QU_empty_6 : decode b_QU_empty 6 = .ok (.iconst 0, 1) := by decide +kernel
theorem d_QU_empty_7 : decode b_QU_empty 7 = .ok (.putfield 42, 3) := by decide +kernel
theorem d_QU_empty_10 : decode b_QU_empty 10 = .ok (.aload_n 0, 1) := by decide +kernel
theorem d_QU_empty_11 : decode b_QU_empty 11 = .ok (.iconst 0, 1) := by decide +kernel
theorem d_QU_empty_12 : decode b_QU_empty 12 = .ok (.putfield 36, 3) := by decide +kernel
theorem d_QU_empty_15 : decode b_QU_empty 15 = .ok (.return_, 1) := by decide +kernel
theorem d_JL_tree_0 : decode b_JL_tree 0 = .ok (.aload_n 0, 1) := by decide +kernel
theorem d_JL_tree_1 : decode b_JL_tree 1 = .ok (.getfield 30, 3) := by decide +kernel
theorem d_JL_tree_4 : decode b_JL_tree 4 = .ok (.invokevirtual 84, 3) := by decide +kernel
theorem d_JL_tree_7 : decode b_JL_tree 7 = .ok (.ireturn, 1) := by decide +kernel
theorem d_HA_isTree_0 : decode b_HA_isTree 0 = .ok (.aload_n 0, 1) := by decide +kernel
theorem d_HA_isTree_1 : decode b_HA_isTree 1 = .ok (.getfield 21, 3) := by decide +kernel
theorem d_HA_isTree_4 : decode b_HA_isTree 4 = .ok (.getfield 25, 3) := by decide +kernel
theorem d_HA_isTree_7 : decode b_HA_isTree 7 = .ok (.aload_n 0, 1) := by decide +kernel
theorem d_HA_isTree_8 : decode b_HA_isTree 8 = .ok (.getfield 31, 3) := by decide +kernel
theorem d_HA_isTree_11 : decode b_HA_isTree 11 = .ok (.isub, 1) := by decide +kernel
theorem d_HA_isTree_12 : decode b_HA_isTree 12 = .ok (.iconst 1, 1) := by decide +kernel
theorem d_HA_isTree_13 : decode b_HA_isTree 13 = .ok (.if_icmp .gt 7, 3) := by decide +kernel
theorem d_HA_isTree_16 : decode b_HA_isTree 16 = .ok (.iconst 1, 1) := by decide +kernel
theorem d_HA_isTree_17 : decode b_HA_isTree 17 = .ok (.goto 4, 3) := by decide +kernel
theorem d_HA_isTree_20 : decode b_HA_isTree 20 = .ok (.iconst 0, 1) := by decide +kernel
theorem d_HA_isTree_21 : decode b_HA_isTree 21 = .ok (.ireturn, 1) := by decide +kernel
theorem d_JL_parent_0 : decode b_JL_parent 0 = .ok (.iload_n 1, 1) := by decide +kernel
theorem d_JL_parent_1 : decode b_JL_parent 1 = .ok (.aload_n 0, 1) := by decide +kernel
theorem d_JL_parent_2 : decode b_JL_parent 2 = .ok (.getfield 21, 3) := by decide +kernel
theorem d_JL_parent_5 : decode b_JL_parent 5 = .ok (.getfield 71, 3) := by decide +kernel
theorem d_JL_parent_8 : decode b_JL_parent 8 = .ok (.invokestatic 50, 3) := by decide +kernel
theorem d_JL_parent_11 : decode b_JL_parent 11 = .ok (.ifCond .eq 15, 3) := by decide +kernel
theorem d_JL_parent_14 : decode b_JL_parent 14 = .ok (.aload_n 0, 1) := by decide +kernel
theorem d_JL_parent_15 : decode b_JL_parent 15 = .ok (.getfield 30, 3) := by decide +kernel
theorem d_JL_parent_18 : decode b_JL_parent 18 = .ok (.getfield 88, 3) := by decide +kernel
theorem d_JL_parent_21 : decode b_JL_parent 21 = .ok (.iload_n 1, 1) := by decide +kernel
theorem d_JL_parent_22 : decode b_JL_parent 22 = .ok (.iaload, 1) := by decide +kernel
theorem d_JL_parent_23 : decode b_JL_parent 23 = .ok (.goto 4, 3) := by decide +kernel
theorem d_JL_parent_26 : decode b_JL_parent 26 = .ok (.iconst (-1), 1) := by decide +kernel
theorem d_JL_parent_27 : decode b_JL_parent 27 = .ok (.ireturn, 1) := by decide +kernel
theorem d_JL_turn_0 : decode b_JL_turn 0 = .ok (.iload_n 1, 1) := by decide +kernel
theorem d_JL_turn_1 : decode b_JL_turn 1 = .ok (.aload_n 0, 1) := by decide +kernel
theorem d_JL_turn_2 : decode b_JL_turn 2 = .ok (.getfield 21, 3) := by decide +kernel
theorem d_JL_turn_5 : decode b_JL_turn 5 = .ok (.getfield 71, 3) := by decide +kernel
theorem d_JL_turn_8 : decode b_JL_turn 8 = .ok (.invokestatic 50, 3) := by decide +kernel
theorem d_JL_turn_11 : decode b_JL_turn 11 = .ok (.ifCond .eq 15, 3) := by decide +kernel
theorem d_JL_turn_14 : decode b_JL_turn 14 = .ok (.aload_n 0, 1) := by decide +kernel
theorem d_JL_turn_15 : decode b_JL_turn 15 = .ok (.getfield 30, 3) := by decide +kernel
theorem d_JL_turn_18 : decode b_JL_turn 18 = .ok (.getfield 92, 3) := by decide +kernel
theorem d_JL_turn_21 : decode b_JL_turn 21 = .ok (.iload_n 1, 1) := by decide +kernel
theorem d_JL_turn_22 : decode b_JL_turn 22 = .ok (.iaload, 1) := by decide +kernel
theorem d_JL_turn_23 : decode b_JL_turn 23 = .ok (.goto 4, 3) := by decide +kernel
theorem d_JL_turn_26 : decode b_JL_turn 26 = .ok (.iconst (-1), 1) := by decide +kernel
theorem d_JL_turn_27 : decode b_JL_turn 27 = .ok (.ireturn, 1) := by decide +kernel
theorem d_LA_ways_0 : decode b_LA_ways 0 = .ok (.aload_n 1, 1) := by decide +kernel
theorem d_LA_ways_1 : decode b_LA_ways 1 = .ok (.iconst 0, 1) := by decide +kernel
theorem d_LA_ways_2 : decode b_LA_ways 2 = .ok (.aload_n 0, 1) := by decide +kernel
theorem d_LA_ways_3 : decode b_LA_ways 3 = .ok (.invokevirtual 7, 3) := by decide +kernel
theorem d_LA_ways_6 : decode b_LA_ways 6 = .ok (.lastore, 1) := by decide +kernel
theorem d_LA_ways_7 : decode b_LA_ways 7 = .ok (.goto 6, 3) := by decide +kernel
theorem d_LA_ways_10 : decode b_LA_ways 10 = .ok (.astore_n 2, 1) := by decide +kernel
theorem d_LA_ways_11 : decode b_LA_ways 11 = .ok (.iconst 1, 1) := by decide +kernel
theorem d_LA_ways_12 : decode b_LA_ways 12 = .ok (.ireturn, 1) := by decide +kernel
theorem d_LA_ways_13 : decode b_LA_ways 13 = .ok (.iconst 0, 1) := by decide +kernel
theorem d_LA_ways_14 : decode b_LA_ways 14 = .ok (.ireturn, 1) := by decide +kernel
theorem d_JL_ways_0 : decode b_JL_ways 0 = .ok (.aload_n 0, 1) := by decide +kernel
theorem d_JL_ways_1 : decode b_JL_ways 1 = .ok (.invokevirtual 95, 3) := by decide +kernel
theorem d_JL_ways_4 : decode b_JL_ways 4 = .ok (.aload_n 0, 1) := by decide +kernel
theorem d_JL_ways_5 : decode b_JL_ways 5 = .ok (.getfield 39, 3) := by decide +kernel
theorem d_JL_ways_8 : decode b_JL_ways 8 = .ok (.invokevirtual 98, 3) := by decide +kernel
theorem d_JL_ways_11 : decode b_JL_ways 11 = .ok (.lreturn, 1) := by decide +kernel
theorem d_JL_requireTree_0 : decode b_JL_requireTree 0 = .ok (.aload_n 0, 1) := by decide +kernel
theorem d_JL_requireTree_1 : decode b_JL_requireTree 1 = .ok (.getfield 30, 3) := by decide +kernel
theorem d_JL_requireTree_4 : decode b_JL_requireTree 4 = .ok (.invokevirtual 84, 3) := by decide +kernel
theorem d_JL_requireTree_7 : decode b_JL_requireTree 7 = .ok (.ifCond .ne 13, 3) := by decide +kernel
theorem d_JL_requireTree_10 : decode b_JL_requireTree 10 = .ok (.new 141, 3) := by decide +kernel
theorem d_JL_requireTree_13 : decode b_JL_requireTree 13 = .ok (.dup, 1) := by decide +kernel
theorem d_JL_requireTree_14 : decode b_JL_requireTree 14 = .ok (.ldc 143, 2) := by decide +kernel
theorem d_JL_requireTree_16 : decode b_JL_requireTree 16 = .ok (.invokespecial 145, 3) := by decide +kernel
theorem d_JL_requireTree_19 : decode b_JL_requireTree 19 = .ok (.athrow, 1) := by decide +kernel
theorem d_JL_requireTree_20 : decode b_JL_requireTree 20 = .ok (.return_, 1) := by decide +kernel
theorem d_JO_countWays_0 : decode b_JO_countWays 0 = .ok (.aload_n 0, 1) := by decide +kernel
theorem d_JO_countWays_1 : decode b_JO_countWays 1 = .ok (.getfield 32, 3) := by decide +kernel
theorem d_JO_countWays_4 : decode b_JO_countWays 4 = .ok (.invokevirtual 49, 3) := by decide +kernel
theorem d_JO_countWays_7 : decode b_JO_countWays 7 = .ok (.istore_n 1, 1) := by decide +kernel
theorem d_JO_countWays_8 : decode b_JO_countWays 8 = .ok (.iload_n 1, 1) := by decide +kernel
theorem d_JO_countWays_9 : decode b_JO_countWays 9 = .ok (.iconst (-1), 1) := by decide +kernel
theorem d_JO_countWays_10 : decode b_JO_countWays 10 = .ok (.if_icmp .ne 5, 3) := by decide +kernel
theorem d_JO_countWays_13 : decode b_JO_countWays 13 = .ok (.lconst 1, 1) := by decide +kernel
theorem d_JO_countWays_14 : decode b_JO_countWays 14 = .ok (.lreturn, 1) := by decide +kernel
theorem d_JO_countWays_15 : decode b_JO_countWays 15 = .ok (.aload_n 0, 1) := by decide +kernel
theorem d_JO_countWays_16 : decode b_JO_countWays 16 = .ok (.invokevirtual 36, 3) := by decide +kernel
theorem d_JO_countWays_19 : decode b_JO_countWays 19 = .ok (.aload_n 0, 1) := by decide +kernel
theorem d_JO_countWays_20 : decode b_JO_countWays 20 = .ok (.invokevirtual 55, 3) := by decide +kernel
theorem d_JO_countWays_23 : decode b_JO_countWays 23 = .ok (.iconst 0, 1) := by decide +kernel
theorem d_JO_countWays_24 : decode b_JO_countWays 24 = .ok (.istore_n 2, 1) := by decide +kernel
theorem d_JO_countWays_25 : decode b_JO_countWays 25 = .ok (.iload_n 2, 1) := by decide +kernel
theorem d_JO_countWays_26 : decode b_JO_countWays 26 = .ok (.aload_n 0, 1) := by decide +kernel
theorem d_JO_countWays_27 : decode b_JO_countWays 27 = .ok (.getfield 32, 3) := by decide +kernel
theorem d_JO_countWays_30 : decode b_JO_countWays 30 = .ok (.getfield 58, 3) := by decide +kernel
theorem d_JO_countWays_33 : decode b_JO_countWays 33 = .ok (.if_icmp .ge 22, 3) := by decide +kernel
theorem d_JO_countWays_36 : decode b_JO_countWays 36 = .ok (.aload_n 0, 1) := by decide +kernel
theorem d_JO_countWays_37 : decode b_JO_countWays 37 = .ok (.aload_n 0, 1) := by decide +kernel
theorem d_JO_countWays_38 : decode b_JO_countWays 38 = .ok (.getfield 32, 3) := by decide +kernel
theorem d_JO_countWays_41 : decode b_JO_countWays 41 = .ok (.getfield 62, 3) := by decide +kernel
theorem d_JO_countWays_44 : decode b_JO_countWays 44 = .ok (.iload_n 2, 1) := by decide +kernel
theorem d_JO_countWays_45 : decode b_JO_countWays 45 = .ok (.iaload, 1) := by decide +kernel
theorem d_JO_countWays_46 : decode b_JO_countWays 46 = .ok (.invokevirtual 65, 3) := by decide +kernel
theorem d_JO_countWays_49 : decode b_JO_countWays 49 = .ok (.iinc 2 1, 3) := by decide +kernel
theorem d_JO_countWays_52 : decode b_JO_countWays 52 = .ok (.goto (-27), 3) := by decide +kernel
theorem d_JO_countWays_55 : decode b_JO_countWays 55 = .ok (.aload_n 0, 1) := by decide +kernel
theorem d_JO_countWays_56 : decode b_JO_countWays 56 = .ok (.iload_n 1, 1) := by decide +kernel
theorem d_JO_countWays_57 : decode b_JO_countWays 57 = .ok (.aload_n 0, 1) := by decide +kernel
theorem d_JO_countWays_58 : decode b_JO_countWays 58 = .ok (.getfield 16, 3) := by decide +kernel
theorem d_JO_countWays_61 : decode b_JO_countWays 61 = .ok (.iconst 0, 1) := by decide +kernel
theorem d_JO_countWays_62 : decode b_JO_countWays 62 = .ok (.aaload, 1) := by decide +kernel
theorem d_JO_countWays_63 : decode b_JO_countWays 63 = .ok (.iload_n 1, 1) := by decide +kernel
theorem d_JO_countWays_64 : decode b_JO_countWays 64 = .ok (.iaload, 1) := by decide +kernel
theorem d_JO_countWays_65 : decode b_JO_countWays 65 = .ok (.invokevirtual 69, 3) := by decide +kernel
theorem d_JO_countWays_68 : decode b_JO_countWays 68 = .ok (.lreturn, 1) := by decide +kernel
theorem d_HA_root_0 : decode b_HA_root 0 = .ok (.iconst 0, 1) := by decide +kernel
theorem d_HA_root_1 : decode b_HA_root 1 = .ok (.istore_n 1, 1) := by decide +kernel
theorem d_HA_root_2 : decode b_HA_root 2 = .ok (.iload_n 1, 1) := by decide +kernel
theorem d_HA_root_3 : decode b_HA_root 3 = .ok (.aload_n 0, 1) := by decide +kernel
theorem d_HA_root_4 : decode b_HA_root 4 = .ok (.getfield 21, 3) := by decide +kernel
theorem d_HA_root_7 : decode b_HA_root 7 = .ok (.getfield 25, 3) := by decide +kernel
theorem d_HA_root_10 : decode b_HA_root 10 = .ok (.if_icmp .ge 22, 3) := by decide +kernel
theorem d_HA_root_13 : decode b_HA_root 13 = .ok (.iload_n 1, 1) := by decide +kernel
theorem d_HA_root_14 : decode b_HA_root 14 = .ok (.aload_n 0, 1) := by decide +kernel
theorem d_HA_root_15 : decode b_HA_root 15 = .ok (.getfield 34, 3) := by decide +kernel
theorem d_HA_root_18 : decode b_HA_root 18 = .ok (.invokestatic 37, 3) := by decide +kernel
theorem d_HA_root_21 : decode b_HA_root 21 = .ok (.ifCond .eq 5, 3) := by decide +kernel
theorem d_HA_root_24 : decode b_HA_root 24 = .ok (.iload_n 1, 1) := by decide +kernel
theorem d_HA_root_25 : decode b_HA_root 25 = .ok (.ireturn, 1) := by decide +kernel
theorem d_HA_root_26 : decode b_HA_root 26 = .ok (.iinc 1 1, 3) := by decide +kernel
theorem d_HA_root_29 : decode b_HA_root 29 = .ok (.goto (-27), 3) := by decide +kernel
theorem d_HA_root_32 : decode b_HA_root 32 = .ok (.iconst (-1), 1) := by decide +kernel
theorem d_HA_root_33 : decode b_HA_root 33 = .ok (.ireturn, 1) := by decide +kernel
theorem d_JO_compareRows_0 : decode b_JO_compareRows 0 = .ok (.iconst 0, 1) := by decide +kernel
theorem d_JO_compareRows_1 : decode b_JO_compareRows 1 = .ok (.istore_n 1, 1) := by decide +kernel
theorem d_JO_compareRows_2 : decode b_JO_compareRows 2 = .ok (.iload_n 1, 1) := by decide +kernel
theorem d_JO_compareRows_3 : decode b_JO_compareRows 3 = .ok (.aload_n 0, 1) := by decide +kernel
theorem d_JO_compareRows_4 : decode b_JO_compareRows 4 = .ok (.getfield 28, 3) := by decide +kernel
theorem d_JO_compareRows_7 : decode b_JO_compareRows 7 = .ok (.getfield 89, 3) := by decide +kernel
theorem d_JO_compareRows_10 : decode b_JO_compareRows 10 = .ok (.if_icmp .ge 29, 3) := by decide +kernel
theorem d_JO_compareRows_13 : decode b_JO_compareRows 13 = .ok (.aload_n 0, 1) := by decide +kernel
theorem d_JO_compareRows_14 : decode b_JO_compareRows 14 = .ok (.getfield 16, 3) := by decide +kernel
theorem d_JO_compareRows_17 : decode b_JO_compareRows 17 = .ok (.iconst 0, 1) := by decide +kernel
theorem d_JO_compareRows_18 : decode b_JO_compareRows 18 = .ok (.aaload, 1) := by decide +kernel
theorem d_JO_compareRows_19 : decode b_JO_compareRows 19 = .ok (.iload_n 1, 1) := by decide +kernel
theorem d_JO_compareRows_20 : decode b_JO_compareRows 20 = .ok (.aload_n 0, 1) := by decide +kernel
theorem d_JO_compareRows_21 : decode b_JO_compareRows 21 = .ok (.getfield 28, 3) := by decide +kernel
theorem d_JO_compareRows_24 : decode b_JO_compareRows 24 = .ok (.getfield 92, 3) := by decide +kernel
theorem d_JO_compareRows_27 : decode b_JO_compareRows 27 = .ok (.iload_n 1, 1) := by decide +kernel
theorem d_JO_compareRows_28 : decode b_JO_compareRows 28 = .ok (.aaload, 1) := by decide +kernel
theorem d_JO_compareRows_29 : decode b_JO_compareRows 29 = .ok (.invokevirtual 96, 3) := by decide +kernel
theorem d_JO_compareRows_32 : decode b_JO_compareRows 32 = .ok (.iastore, 1) := by decide +kernel
theorem d_JO_compareRows_33 : decode b_JO_compareRows 33 = .ok (.iinc 1 1, 3) := by decide +kernel
theorem d_JO_compareRows_36 : decode b_JO_compareRows 36 = .ok (.goto (-34), 3) := by decide +kernel
theorem d_JO_compareRows_39 : decode b_JO_compareRows 39 = .ok (.iconst 0, 1) := by decide +kernel
theorem d_JO_compareRows_40 : decode b_JO_compareRows 40 = .ok (.istore_n 1, 1) := by decide +kernel
theorem d_JO_compareRows_41 : decode b_JO_compareRows 41 = .ok (.iload_n 1, 1) := by decide +kernel
theorem d_JO_compareRows_42 : decode b_JO_compareRows 42 = .ok (.aload_n 0, 1) := by decide +kernel
theorem d_JO_compareRows_43 : decode b_JO_compareRows 43 = .ok (.getfield 32, 3) := by decide +kernel
theorem d_JO_compareRows_46 : decode b_JO_compareRows 46 = .ok (.getfield 58, 3) := by decide +kernel
theorem d_JO_compareRows_49 : decode b_JO_compareRows 49 = .ok (.if_icmp .ge 82, 3) := by decide +kernel
theorem d_JO_compareRows_52 : decode b_JO_compareRows 52 = .ok (.aload_n 0, 1) := by decide +kernel
theorem d_JO_compareRows_53 : decode b_JO_compareRows 53 = .ok (.getfield 32, 3) := by decide +kernel
theorem d_JO_compareRows_56 : decode b_JO_compareRows 56 = .ok (.getfield 62, 3) := by decide +kernel
theorem d_JO_compareRows_59 : decode b_JO_compareRows 59 = .ok (.iload_n 1, 1) := by decide +kernel
theorem d_JO_compareRows_60 : decode b_JO_compareRows 60 = .ok (.iaload, 1) := by decide +kernel
theorem d_JO_compareRows_61 : decode b_JO_compareRows 61 = .ok (.istore_n 2, 1) := by decide +kernel
theorem d_JO_compareRows_62 : decode b_JO_compareRows 62 = .ok (.aload_n 0, 1) := by decide +kernel
theorem d_JO_compareRows_63 : decode b_JO_compareRows 63 = .ok (.getfield 28, 3) := by decide +kernel
theorem d_JO_compareRows_66 : decode b_JO_compareRows 66 = .ok (.getfield 92, 3) := by decide +kernel
theorem d_JO_compareRows_69 : decode b_JO_compareRows 69 = .ok (.aload_n 0, 1) := by decide +kernel
theorem d_JO_compareRows_70 : decode b_JO_compareRows 70 = .ok (.getfield 32, 3) := by decide +kernel
theorem d_JO_compareRows_73 : decode b_JO_compareRows 73 = .ok (.getfield 101, 3) := by decide +kernel
theorem d_JO_compareRows_76 : decode b_JO_compareRows 76 = .ok (.iload_n 2, 1) := by decide +kernel
theorem d_JO_compareRows_77 : decode b_JO_compareRows 77 = .ok (.iaload, 1) := by decide +kernel
theorem d_JO_compareRows_78 : decode b_JO_compareRows 78 = .ok (.aaload, 1) := by decide +kernel
theorem d_JO_compareRows_79 : decode b_JO_compareRows 79 = .ok (.astore_n 3, 1) := by decide +kernel
theorem d_JO_compareRows_80 : decode b_JO_compareRows 80 = .ok (.iconst 0, 1) := by decide +kernel
theorem d_JO_compareRows_81 : decode b_JO_compareRows 81 = .ok (.istore 4, 2) := by decide +kernel
theorem d_JO_compareRows_83 : decode b_JO_compareRows 83 = .ok (.iload 4, 2) := by decide +kernel
theorem d_JO_compareRows_85 : decode b_JO_compareRows 85 = .ok (.aload_n 3, 1) := by decide +kernel
theorem d_JO_compareRows_86 : decode b_JO_compareRows 86 = .ok (.getfield 104, 3) := by decide +kernel
theorem d_JO_compareRows_89 : decode b_JO_compareRows 89 = .ok (.getfield 108, 3) := by decide +kernel
theorem d_JO_compareRows_92 : decode b_JO_compareRows 92 = .ok (.if_icmp .ge 33, 3) := by decide +kernel
theorem d_JO_compareRows_95 : decode b_JO_compareRows 95 = .ok (.aload_n 0, 1) := by decide +kernel
theorem d_JO_compareRows_96 : decode b_JO_compareRows 96 = .ok (.getfield 11, 3) := by decide +kernel
theorem d_JO_compareRows_99 : decode b_JO_compareRows 99 = .ok (.iload_n 2, 1) := by decide +kernel
theorem d_JO_compareRows_100 : decode b_JO_compareRows 100 = .ok (.aaload, 1) := by decide +kernel
theorem d_JO_compareRows_101 : decode b_JO_compareRows 101 = .ok (.iload 4, 2) := by decide +kernel
theorem d_JO_compareRows_103 : decode b_JO_compareRows 103 = .ok (.aload_n 0, 1) := by decide +kernel
theorem d_JO_compareRows_104 : decode b_JO_compareRows 104 = .ok (.getfield 28, 3) := by decide +kernel
theorem d_JO_compareRows_107 : decode b_JO_compareRows 107 = .ok (.getfield 92, 3) := by decide +kernel
theorem d_JO_compareRows_110 : decode b_JO_compareRows 110 = .ok (.iload_n 2, 1) := by decide +kernel
theorem d_JO_compareRows_111 : decode b_JO_compareRows 111 = .ok (.aaload, 1) := by decide +kernel
theorem d_JO_compareRows_112 : decode b_JO_compareRows 112 = .ok (.aload_n 3, 1) := by decide +kernel
theorem d_JO_compareRows_113 : decode b_JO_compareRows 113 = .ok (.iload 4, 2) := by decide +kernel
theorem d_JO_compareRows_115 : decode b_JO_compareRows 115 = .ok (.invokevirtual 113, 3) := by decide +kernel
theorem d_JO_compareRows_118 : decode b_JO_compareRows 118 = .ok (.iastore, 1) := by decide +kernel
theorem d_JO_compareRows_119 : decode b_JO_compareRows 119 = .ok (.iinc 4 1, 3) := by decide +kernel
theorem d_JO_compareRows_122 : decode b_JO_compareRows 122 = .ok (.goto (-39), 3) := by decide +kernel
theorem d_JO_compareRows_125 : decode b_JO_compareRows 125 = .ok (.iinc 1 1, 3) := by decide +kernel
theorem d_JO_compareRows_128 : decode b_JO_compareRows 128 = .ok (.goto (-87), 3) := by decide +kernel
theorem d_JO_compareRows_131 : decode b_JO_compareRows 131 = .ok (.return_, 1) := by decide +kernel
theorem d_AT_rowsAgreeingWithThemselves_0 : decode b_AT_rowsAgreeingWithThemselves 0 = .ok (.iconst 0, 1) := by decide +kernel
theorem d_AT_rowsAgreeingWithThemselves_1 : decode b_AT_rowsAgreeingWithThemselves 1 = .ok (.istore_n 1, 1) := by decide +kernel
theorem d_AT_rowsAgreeingWithThemselves_2 : decode b_AT_rowsAgreeingWithThemselves 2 = .ok (.iconst 0, 1) := by decide +kernel
theorem d_AT_rowsAgreeingWithThemselves_3 : decode b_AT_rowsAgreeingWithThemselves 3 = .ok (.istore_n 2, 1) := by decide +kernel
theorem d_AT_rowsAgreeingWithThemselves_4 : decode b_AT_rowsAgreeingWithThemselves 4 = .ok (.iload_n 2, 1) := by decide +kernel
theorem d_AT_rowsAgreeingWithThemselves_5 : decode b_AT_rowsAgreeingWithThemselves 5 = .ok (.aload_n 0, 1) := by decide +kernel
theorem d_AT_rowsAgreeingWithThemselves_6 : decode b_AT_rowsAgreeingWithThemselves 6 = .ok (.getfield 15, 3) := by decide +kernel
theorem d_AT_rowsAgreeingWithThemselves_9 : decode b_AT_rowsAgreeingWithThemselves 9 = .ok (.getfield 32, 3) := by decide +kernel
theorem d_AT_rowsAgreeingWithThemselves_12 : decode b_AT_rowsAgreeingWithThemselves 12 = .ok (.if_icmp .ge 23, 3) := by decide +kernel
theorem d_AT_rowsAgreeingWithThemselves_15 : decode b_AT_rowsAgreeingWithThemselves 15 = .ok (.aload_n 0, 1) := by decide +kernel
theorem d_AT_rowsAgreeingWithThemselves_16 : decode b_AT_rowsAgreeingWithThemselves 16 = .ok (.iload_n 2, 1) := by decide +kernel
theorem d_AT_rowsAgreeingWithThemselves_17 : decode b_AT_rowsAgreeingWithThemselves 17 = .ok (.invokevirtual 35, 3) := by decide +kernel
theorem d_AT_rowsAgreeingWithThemselves_20 : decode b_AT_rowsAgreeingWithThemselves 20 = .ok (.ifCond .eq 9, 3) := by decide +kernel
theorem d_AT_rowsAgreeingWithThemselves_23 : decode b_AT_rowsAgreeingWithThemselves 23 = .ok (.iload_n 1, 1) := by decide +kernel
theorem d_AT_rowsAgreeingWithThemselves_24 : decode b_AT_rowsAgreeingWithThemselves 24 = .ok (.iconst 1, 1) := by decide +kernel
theorem d_AT_rowsAgreeingWithThemselves_25 : decode b_AT_rowsAgreeingWithThemselves 25 = .ok (.iload_n 2, 1) := by decide +kernel
theorem d_AT_rowsAgreeingWithThemselves_26 : decode b_AT_rowsAgreeingWithThemselves 26 = .ok (.ishl, 1) := by decide +kernel
theorem d_AT_rowsAgreeingWithThemselves_27 : decode b_AT_rowsAgreeingWithThemselves 27 = .ok (.ior, 1) := by decide +kernel
theorem d_AT_rowsAgreeingWithThemselves_28 : decode b_AT_rowsAgreeingWithThemselves 28 = .ok (.istore_n 1, 1) := by decide +kernel
theorem d_AT_rowsAgreeingWithThemselves_29 : decode b_AT_rowsAgreeingWithThemselves 29 = .ok (.iinc 2 1, 3) := by decide +kernel
theorem d_AT_rowsAgreeingWithThemselves_32 : decode b_AT_rowsAgreeingWithThemselves 32 = .ok (.goto (-28), 3) := by decide +kernel
theorem d_AT_rowsAgreeingWithThemselves_35 : decode b_AT_rowsAgreeingWithThemselves 35 = .ok (.iload_n 1, 1) := by decide +kernel
theorem d_AT_rowsAgreeingWithThemselves_36 : decode b_AT_rowsAgreeingWithThemselves 36 = .ok (.ireturn, 1) := by decide +kernel
theorem d_AT_agreesWithItself_0 : decode b_AT_agreesWithItself 0 = .ok (.iconst 1, 1) := by decide +kernel
theorem d_AT_agreesWithItself_1 : decode b_AT_agreesWithItself 1 = .ok (.istore_n 2, 1) := by decide +kernel
theorem d_AT_agreesWithItself_2 : decode b_AT_agreesWithItself 2 = .ok (.iload_n 2, 1) := by decide +kernel
theorem d_AT_agreesWithItself_3 : decode b_AT_agreesWithItself 3 = .ok (.iconst 3, 1) := by decide +kernel
theorem d_AT_agreesWithItself_4 : decode b_AT_agreesWithItself 4 = .ok (.if_icmp .ge 60, 3) := by decide +kernel
theorem d_AT_agreesWithItself_7 : decode b_AT_agreesWithItself 7 = .ok (.iconst 0, 1) := by decide +kernel
theorem d_AT_agreesWithItself_8 : decode b_AT_agreesWithItself 8 = .ok (.istore_n 3, 1) := by decide +kernel
theorem d_AT_agreesWithItself_9 : decode b_AT_agreesWithItself 9 = .ok (.iload_n 3, 1) := by decide +kernel
theorem d_AT_agreesWithItself_10 : decode b_AT_agreesWithItself 10 = .ok (.iload_n 2, 1) := by decide +kernel
theorem d_AT_agreesWithItself_11 : decode b_AT_agreesWithItself 11 = .ok (.if_icmp .ge 47, 3) := by decide +kernel
theorem d_AT_agreesWithItself_14 : decode b_AT_agreesWithItself 14 = .ok (.aload_n 0, 1) := by decide +kernel
theorem d_AT_agreesWithItself_15 : decode b_AT_agreesWithItself 15 = .ok (.getfield 9, 3) := by decide +kernel
theorem d_AT_agreesWithItself_18 : decode b_AT_agreesWithItself 18 = .ok (.iload_n 2, 1) := by decide +kernel
theorem d_AT_agreesWithItself_19 : decode b_AT_agreesWithItself 19 = .ok (.iaload, 1) := by decide +kernel
theorem d_AT_agreesWithItself_20 : decode b_AT_agreesWithItself 20 = .ok (.aload_n 0, 1) := by decide +kernel
theorem d_AT_agreesWithItself_21 : decode b_AT_agreesWithItself 21 = .ok (.getfield 9, 3) := by decide +kernel
theorem d_AT_agreesWithItself_24 : decode b_AT_agreesWithItself 24 = .ok (.iload_n 3, 1) := by decide +kernel
theorem d_AT_agreesWithItself_25 : decode b_AT_agreesWithItself 25 = .ok (.iaload, 1) := by decide +kernel
theorem d_AT_agreesWithItself_26 : decode b_AT_agreesWithItself 26 = .ok (.if_icmp .ne 26, 3) := by decide +kernel
theorem d_AT_agreesWithItself_29 : decode b_AT_agreesWithItself 29 = .ok (.aload_n 0, 1) := by decide +kernel
theorem d_AT_agreesWithItself_30 : decode b_AT_agreesWithItself 30 = .ok (.getfield 15, 3) := by decide +kernel
theorem d_AT_agreesWithItself_33 : decode b_AT_agreesWithItself 33 = .ok (.iload_n 1, 1) := by decide +kernel
theorem d_AT_agreesWithItself_34 : decode b_AT_agreesWithItself 34 = .ok (.iload_n 2, 1) := by decide +kernel
theorem d_AT_agreesWithItself_35 : decode b_AT_agreesWithItself 35 = .ok (.invokevirtual 39, 3) := by decide +kernel
theorem d_AT_agreesWithItself_38 : decode b_AT_agreesWithItself 38 = .ok (.aload_n 0, 1) := by decide +kernel
theorem d_AT_agreesWithItself_39 : decode b_AT_agreesWithItself 39 = .ok (.getfield 15, 3) := by decide +kernel
theorem d_AT_agreesWithItself_42 : decode b_AT_agreesWithItself 42 = .ok (.iload_n 1, 1) := by decide +kernel
theorem d_AT_agreesWithItself_43 : decode b_AT_agreesWithItself 43 = .ok (.iload_n 3, 1) := by decide +kernel
theorem d_AT_agreesWithItself_44 : decode b_AT_agreesWithItself 44 = .ok (.invokevirtual 39, 3) := by decide +kernel
theorem d_AT_agreesWithItself_47 : decode b_AT_agreesWithItself 47 = .ok (.if_icmp .eq 5, 3) := by decide +kernel
theorem d_AT_agreesWithItself_50 : decode b_AT_agreesWithItself 50 = .ok (.iconst 0, 1) := by decide +kernel
theorem d_AT_agreesWithItself_51 : decode b_AT_agreesWithItself 51 = .ok (.ireturn, 1) := by decide +kernel
theorem d_AT_agreesWithItself_52 : decode b_AT_agreesWithItself 52 = .ok (.iinc 3 1, 3) := by decide +kernel
theorem d_AT_agreesWithItself_55 : decode b_AT_agreesWithItself 55 = .ok (.goto (-46), 3) := by decide +kernel
theorem d_AT_agreesWithItself_58 : decode b_AT_agreesWithItself 58 = .ok (.iinc 2 1, 3) := by decide +kernel
theorem d_AT_agreesWithItself_61 : decode b_AT_agreesWithItself 61 = .ok (.goto (-59), 3) := by decide +kernel
theorem d_AT_agreesWithItself_64 : decode b_AT_agreesWithItself 64 = .ok (.iconst 1, 1) := by decide +kernel
theorem d_AT_agreesWithItself_65 : decode b_AT_agreesWithItself 65 = .ok (.ireturn, 1) := by decide +kernel
theorem d_RE_valueAt_0 : decode b_RE_valueAt 0 = .ok (.aload_n 0, 1) := by decide +kernel
theorem d_RE_valueAt_1 : decode b_RE_valueAt 1 = .ok (.getfield 9, 3) := by decide +kernel
theorem d_RE_valueAt_4 : decode b_RE_valueAt 4 = .ok (.iload_n 1, 1) := by decide +kernel
theorem d_RE_valueAt_5 : decode b_RE_valueAt 5 = .ok (.iaload, 1) := by decide +kernel
theorem d_RE_valueAt_6 : decode b_RE_valueAt 6 = .ok (.iconst 4, 1) := by decide +kernel
theorem d_RE_valueAt_7 : decode b_RE_valueAt 7 = .ok (.iload_n 2, 1) := by decide +kernel
theorem d_RE_valueAt_8 : decode b_RE_valueAt 8 = .ok (.imul, 1) := by decide +kernel
theorem d_RE_valueAt_9 : decode b_RE_valueAt 9 = .ok (.ishr, 1) := by decide +kernel
theorem d_RE_valueAt_10 : decode b_RE_valueAt 10 = .ok (.bipush 15, 2) := by decide +kernel
theorem d_RE_valueAt_12 : decode b_RE_valueAt 12 = .ok (.iand, 1) := by decide +kernel
theorem d_RE_valueAt_13 : decode b_RE_valueAt 13 = .ok (.ireturn, 1) := by decide +kernel
theorem d_AT_rowsAgreeingWith_0 : decode b_AT_rowsAgreeingWith 0 = .ok (.iconst 1, 1) := by decide +kernel
theorem d_AT_rowsAgreeingWith_1 : decode b_AT_rowsAgreeingWith 1 = .ok (.aload_n 0, 1) := by decide +kernel
theorem d_AT_rowsAgreeingWith_2 : decode b_AT_rowsAgreeingWith 2 = .ok (.getfield 15, 3) := by decide +kernel
theorem d_AT_rowsAgreeingWith_5 : decode b_AT_rowsAgreeingWith 5 = .ok (.getfield 32, 3) := by decide +kernel
theorem d_AT_rowsAgreeingWith_8 : decode b_AT_rowsAgreeingWith 8 = .ok (.ishl, 1) := by decide +kernel
theorem d_AT_rowsAgreeingWith_9 : decode b_AT_rowsAgreeingWith 9 = .ok (.iconst 1, 1) := by decide +kernel
theorem d_AT_rowsAgreeingWith_10 : decode b_AT_rowsAgreeingWith 10 = .ok (.isub, 1) := by decide +kernel
theorem d_AT_rowsAgreeingWith_11 : decode b_AT_rowsAgreeingWith 11 = .ok (.istore_n 3, 1) := by decide +kernel
theorem d_AT_rowsAgreeingWith_12 : decode b_AT_rowsAgreeingWith 12 = .ok (.iconst 0, 1) := by decide +kernel
theorem d_AT_rowsAgreeingWith_13 : decode b_AT_rowsAgreeingWith 13 = .ok (.istore 4, 2) := by decide +kernel
theorem d_AT_rowsAgreeingWith_15 : decode b_AT_rowsAgreeingWith 15 = .ok (.iload 4, 2) := by decide +kernel
theorem d_AT_rowsAgreeingWith_17 : decode b_AT_rowsAgreeingWith 17 = .ok (.iconst 3, 1) := by decide +kernel
theorem d_AT_rowsAgreeingWith_18 : decode b_AT_rowsAgreeingWith 18 = .ok (.if_icmp .ge 37, 3) := by decide +kernel
theorem d_AT_rowsAgreeingWith_21 : decode b_AT_rowsAgreeingWith 21 = .ok (.aload_n 1, 1) := by decide +kernel
theorem d_AT_rowsAgreeingWith_22 : decode b_AT_rowsAgreeingWith 22 = .ok (.getfield 15, 3) := by decide +kernel
theorem d_AT_rowsAgreeingWith_25 : decode b_AT_rowsAgreeingWith 25 = .ok (.iload_n 2, 1) := by decide +kernel
theorem d_AT_rowsAgreeingWith_26 : decode b_AT_rowsAgreeingWith 26 = .ok (.iload 4, 2) := by decide +kernel
theorem d_AT_rowsAgreeingWith_28 : decode b_AT_rowsAgreeingWith 28 = .ok (.invokevirtual 39, 3) := by decide +kernel
theorem d_AT_rowsAgreeingWith_31 : decode b_AT_rowsAgreeingWith 31 = .ok (.istore 5, 2) := by decide +kernel
theorem d_AT_rowsAgreeingWith_33 : decode b_AT_rowsAgreeingWith 33 = .ok (.iload_n 3, 1) := by decide +kernel
theorem d_AT_rowsAgreeingWith_34 : decode b_AT_rowsAgreeingWith 34 = .ok (.aload_n 0, 1) := by decide +kernel
theorem d_AT_rowsAgreeingWith_35 : decode b_AT_rowsAgreeingWith 35 = .ok (.aload_n 1, 1) := by decide +kernel
theorem d_AT_rowsAgreeingWith_36 : decode b_AT_rowsAgreeingWith 36 = .ok (.getfield 9, 3) := by decide +kernel
theorem d_AT_rowsAgreeingWith_39 : decode b_AT_rowsAgreeingWith 39 = .ok (.iload 4, 2) := by decide +kernel
theorem d_AT_rowsAgreeingWith_41 : decode b_AT_rowsAgreeingWith 41 = .ok (.iaload, 1) := by decide +kernel
theorem d_AT_rowsAgreeingWith_42 : decode b_AT_rowsAgreeingWith 42 = .ok (.iload 5, 2) := by decide +kernel
theorem d_AT_rowsAgreeingWith_44 : decode b_AT_rowsAgreeingWith 44 = .ok (.invokevirtual 43, 3) := by decide +kernel
theorem d_AT_rowsAgreeingWith_47 : decode b_AT_rowsAgreeingWith 47 = .ok (.iand, 1) := by decide +kernel
theorem d_AT_rowsAgreeingWith_48 : decode b_AT_rowsAgreeingWith 48 = .ok (.istore_n 3, 1) := by decide +kernel
theorem d_AT_rowsAgreeingWith_49 : decode b_AT_rowsAgreeingWith 49 = .ok (.iinc 4 1, 3) := by decide +kernel
theorem d_AT_rowsAgreeingWith_52 : decode b_AT_rowsAgreeingWith 52 = .ok (.goto (-37), 3) := by decide +kernel
theorem d_AT_rowsAgreeingWith_55 : decode b_AT_rowsAgreeingWith 55 = .ok (.iload_n 3, 1) := by decide +kernel
theorem d_AT_rowsAgreeingWith_56 : decode b_AT_rowsAgreeingWith 56 = .ok (.ireturn, 1) := by decide +kernel
theorem d_AT_rowsAllowing_0 : decode b_AT_rowsAllowing 0 = .ok (.iconst 1, 1) := by decide +kernel
theorem d_AT_rowsAllowing_1 : decode b_AT_rowsAllowing 1 = .ok (.aload_n 0, 1) := by decide +kernel
theorem d_AT_rowsAllowing_2 : decode b_AT_rowsAllowing 2 = .ok (.getfield 15, 3) := by decide +kernel
theorem d_AT_rowsAllowing_5 : decode b_AT_rowsAllowing 5 = .ok (.getfield 32, 3) := by decide +kernel
theorem d_AT_rowsAllowing_8 : decode b_AT_rowsAllowing 8 = .ok (.ishl, 1) := by decide +kernel
theorem d_AT_rowsAllowing_9 : decode b_AT_rowsAllowing 9 = .ok (.iconst 1, 1) := by decide +kernel
theorem d_AT_rowsAllowing_10 : decode b_AT_rowsAllowing 10 = .ok (.isub, 1) := by decide +kernel
theorem d_AT_rowsAllowing_11 : decode b_AT_rowsAllowing 11 = .ok (.istore_n 3, 1) := by decide +kernel
theorem d_AT_rowsAllowing_12 : decode b_AT_rowsAllowing 12 = .ok (.iconst 0, 1) := by decide +kernel
theorem d_AT_rowsAllowing_13 : decode b_AT_rowsAllowing 13 = .ok (.istore 4, 2) := by decide +kernel
theorem d_AT_rowsAllowing_15 : decode b_AT_rowsAllowing 15 = .ok (.iload 4, 2) := by decide +kernel
theorem d_AT_rowsAllowing_17 : decode b_AT_rowsAllowing 17 = .ok (.iconst 3, 1) := by decide +kernel
theorem d_AT_rowsAllowing_18 : decode b_AT_rowsAllowing 18 = .ok (.if_icmp .ge 65, 3) := by decide +kernel
theorem d_AT_rowsAllowing_21 : decode b_AT_rowsAllowing 21 = .ok (.iconst 0, 1) := by decide +kernel
theorem d_AT_rowsAllowing_22 : decode b_AT_rowsAllowing 22 = .ok (.istore 5, 2) := by decide +kernel
theorem d_AT_rowsAllowing_24 : decode b_AT_rowsAllowing 24 = .ok (.iload 5, 2) := by decide +kernel
theorem d_AT_rowsAllowing_26 : decode b_AT_rowsAllowing 26 = .ok (.aload_n 0, 1) := by decide +kernel
theorem d_AT_rowsAllowing_27 : decode b_AT_rowsAllowing 27 = .ok (.getfield 15, 3) := by decide +kernel
theorem d_AT_rowsAllowing_30 : decode b_AT_rowsAllowing 30 = .ok (.getfield 32, 3) := by decide +kernel
theorem d_AT_rowsAllowing_33 : decode b_AT_rowsAllowing 33 = .ok (.if_icmp .ge 44, 3) := by decide +kernel
theorem d_AT_rowsAllowing_36 : decode b_AT_rowsAllowing 36 = .ok (.aload_n 0, 1) := by decide +kernel
theorem d_AT_rowsAllowing_37 : decode b_AT_rowsAllowing 37 = .ok (.getfield 9, 3) := by decide +kernel
theorem d_AT_rowsAllowing_40 : decode b_AT_rowsAllowing 40 = .ok (.iload 4, 2) := by decide +kernel
theorem d_AT_rowsAllowing_42 : decode b_AT_rowsAllowing 42 = .ok (.iaload, 1) := by decide +kernel
theorem d_AT_rowsAllowing_43 : decode b_AT_rowsAllowing 43 = .ok (.iload_n 1, 1) := by decide +kernel
theorem d_AT_rowsAllowing_44 : decode b_AT_rowsAllowing 44 = .ok (.if_icmp .ne 33, 3) := by decide +kernel
theorem d_AT_rowsAllowing_47 : decode b_AT_rowsAllowing 47 = .ok (.aload_n 0, 1) := by decide +kernel
theorem d_AT_rowsAllowing_48 : decode b_AT_rowsAllowing 48 = .ok (.getfield 15, 3) := by decide +kernel
theorem d_AT_rowsAllowing_51 : decode b_AT_rowsAllowing 51 = .ok (.iload 5, 2) := by decide +kernel
theorem d_AT_rowsAllowing_53 : decode b_AT_rowsAllowing 53 = .ok (.iload 4, 2) := by decide +kernel
theorem d_AT_rowsAllowing_55 : decode b_AT_rowsAllowing 55 = .ok (.invokevirtual 39, 3) := by decide +kernel
theorem d_AT_rowsAllowing_58 : decode b_AT_rowsAllowing 58 = .ok (.iload_n 2, 1) := by decide +kernel
theorem d_AT_rowsAllowing_59 : decode b_AT_rowsAllowing 59 = .ok (.if_icmp .eq 12, 3) := by decide +kernel
theorem d_AT_rowsAllowing_62 : decode b_AT_rowsAllowing 62 = .ok (.iload_n 3, 1) := by decide +kernel
theorem d_AT_rowsAllowing_63 : decode b_AT_rowsAllowing 63 = .ok (.iconst 1, 1) := by decide +kernel
theorem d_AT_rowsAllowing_64 : decode b_AT_rowsAllowing 64 = .ok (.iload 5, 2) := by decide +kernel
theorem d_AT_rowsAllowing_66 : decode b_AT_rowsAllowing 66 = .ok (.ishl, 1) := by decide +kernel
theorem d_AT_rowsAllowing_67 : decode b_AT_rowsAllowing 67 = .ok (.iconst (-1), 1) := by decide +kernel
theorem d_AT_rowsAllowing_68 : decode b_AT_rowsAllowing 68 = .ok (.ixor, 1) := by decide +kernel
theorem d_AT_rowsAllowing_69 : decode b_AT_rowsAllowing 69 = .ok (.iand, 1) := by decide +kernel
theorem d_AT_rowsAllowing_70 : decode b_AT_rowsAllowing 70 = .ok (.istore_n 3, 1) := by decide +kernel
theorem d_AT_rowsAllowing_71 : decode b_AT_rowsAllowing 71 = .ok (.iinc 5 1, 3) := by decide +kernel
theorem d_AT_rowsAllowing_74 : decode b_AT_rowsAllowing 74 = .ok (.goto (-50), 3) := by decide +kernel
theorem d_AT_rowsAllowing_77 : decode b_AT_rowsAllowing 77 = .ok (.iinc 4 1, 3) := by decide +kernel
theorem d_AT_rowsAllowing_80 : decode b_AT_rowsAllowing 80 = .ok (.goto (-65), 3) := by decide +kernel
theorem d_AT_rowsAllowing_83 : decode b_AT_rowsAllowing 83 = .ok (.iload_n 3, 1) := by decide +kernel
theorem d_AT_rowsAllowing_84 : decode b_AT_rowsAllowing 84 = .ok (.ireturn, 1) := by decide +kernel
theorem d_JO_startWeights_0 : decode b_JO_startWeights 0 = .ok (.iconst 0, 1) := by decide +kernel
theorem d_JO_startWeights_1 : decode b_JO_startWeights 1 = .ok (.istore_n 1, 1) := by decide +kernel
theorem d_JO_startWeights_2 : decode b_JO_startWeights 2 = .ok (.iload_n 1, 1) := by decide +kernel
theorem d_JO_startWeights_3 : decode b_JO_startWeights 3 = .ok (.aload_n 0, 1) := by decide +kernel
theorem d_JO_startWeights_4 : decode b_JO_startWeights 4 = .ok (.getfield 28, 3) := by decide +kernel
theorem d_JO_startWeights_7 : decode b_JO_startWeights 7 = .ok (.getfield 89, 3) := by decide +kernel
theorem d_JO_startWeights_10 : decode b_JO_startWeights 10 = .ok (.if_icmp .ge 32, 3) := by decide +kernel
theorem d_JO_startWeights_13 : decode b_JO_startWeights 13 = .ok (.iconst 0, 1) := by decide +kernel
theorem d_JO_startWeights_14 : decode b_JO_startWeights 14 = .ok (.istore_n 2, 1) := by decide +kernel
theorem d_JO_startWeights_15 : decode b_JO_startWeights 15 = .ok (.iload_n 2, 1) := by decide +kernel
theorem d_JO_startWeights_16 : decode b_JO_startWeights 16 = .ok (.bipush 12, 2) := by decide +kernel
theorem d_JO_startWeights_18 : decode b_JO_startWeights 18 = .ok (.if_icmp .ge 18, 3) := by decide +kernel
theorem d_JO_startWeights_21 : decode b_JO_startWeights 21 = .ok (.aload_n 0, 1) := by decide +kernel
theorem d_JO_startWeights_22 : decode b_JO_startWeights 22 = .ok (.getfield 21, 3) := by decide +kernel
theorem d_JO_startWeights_25 : decode b_JO_startWeights 25 = .ok (.iload_n 1, 1) := by decide +kernel
theorem d_JO_startWeights_26 : decode b_JO_startWeights 26 = .ok (.aaload, 1) := by decide +kernel
theorem d_JO_startWeights_27 : decode b_JO_startWeights 27 = .ok (.iload_n 2, 1) := by decide +kernel
theorem d_JO_startWeights_28 : decode b_JO_startWeights 28 = .ok (.lconst 1, 1) := by decide +kernel
theorem d_JO_startWeights_29 : decode b_JO_startWeights 29 = .ok (.lastore, 1) := by decide +kernel
theorem d_JO_startWeights_30 : decode b_JO_startWeights 30 = .ok (.iinc 2 1, 3) := by decide +kernel
theorem d_JO_startWeights_33 : decode b_JO_startWeights 33 = .ok (.goto (-18), 3) := by decide +kernel
theorem d_JO_startWeights_36 : decode b_JO_startWeights 36 = .ok (.iinc 1 1, 3) := by decide +kernel
theorem d_JO_startWeights_39 : decode b_JO_startWeights 39 = .ok (.goto (-37), 3) := by decide +kernel
theorem d_JO_startWeights_42 : decode b_JO_startWeights 42 = .ok (.return_, 1) := by decide +kernel
theorem d_JO_weighIntoParent_0 : decode b_JO_weighIntoParent 0 = .ok (.aload_n 0, 1) := by decide +kernel
theorem d_JO_weighIntoParent_1 : decode b_JO_weighIntoParent 1 = .ok (.getfield 32, 3) := by decide +kernel
theorem d_JO_weighIntoParent_4 : decode b_JO_weighIntoParent 4 = .ok (.getfield 101, 3) := by decide +kernel
theorem d_JO_weighIntoParent_7 : decode b_JO_weighIntoParent 7 = .ok (.iload_n 1, 1) := by decide +kernel
theorem d_JO_weighIntoParent_8 : decode b_JO_weighIntoParent 8 = .ok (.iaload, 1) := by decide +kernel
theorem d_JO_weighIntoParent_9 : decode b_JO_weighIntoParent 9 = .ok (.istore_n 2, 1) := by decide +kernel
theorem d_JO_weighIntoParent_10 : decode b_JO_weighIntoParent 10 = .ok (.iconst 0, 1) := by decide +kernel
theorem d_JO_weighIntoParent_11 : decode b_JO_weighIntoParent 11 = .ok (.istore_n 3, 1) := by decide +kernel
theorem d_JO_weighIntoParent_12 : decode b_JO_weighIntoParent 12 = .ok (.iload_n 3, 1) := by decide +kernel
theorem d_JO_weighIntoParent_13 : decode b_JO_weighIntoParent 13 = .ok (.bipush 12, 2) := by decide +kernel
theorem d_JO_weighIntoParent_15 : decode b_JO_weighIntoParent 15 = .ok (.if_icmp .ge 57, 3) := by decide +kernel
theorem d_JO_weighIntoParent_18 : decode b_JO_weighIntoParent 18 = .ok (.iload_n 3, 1) := by decide +kernel
theorem d_JO_weighIntoParent_19 : decode b_JO_weighIntoParent 19 = .ok (.aload_n 0, 1) := by decide +kernel
theorem d_JO_weighIntoParent_20 : decode b_JO_weighIntoParent 20 = .ok (.getfield 16, 3) := by decide +kernel
theorem d_JO_weighIntoParent_23 : decode b_JO_weighIntoParent 23 = .ok (.iconst 0, 1) := by decide +kernel
theorem d_JO_weighIntoParent_24 : decode b_JO_weighIntoParent 24 = .ok (.aaload, 1) := by decide +kernel
theorem d_JO_weighIntoParent_25 : decode b_JO_weighIntoParent 25 = .ok (.iload_n 2, 1) := by decide +kernel
theorem d_JO_weighIntoParent_26 : decode b_JO_weighIntoParent 26 = .ok (.iaload, 1) := by decide +kernel
theorem d_JO_weighIntoParent_27 : decode b_JO_weighIntoParent 27 = .ok (.invokestatic 124, 3) := by decide +kernel
theorem d_JO_weighIntoParent_30 : decode b_JO_weighIntoParent 30 = .ok (.ifCond .eq 36, 3) := by decide +kernel
theorem d_JO_weighIntoParent_33 : decode b_JO_weighIntoParent 33 = .ok (.aload_n 0, 1) := by decide +kernel
theorem d_JO_weighIntoParent_34 : decode b_JO_weighIntoParent 34 = .ok (.getfield 21, 3) := by decide +kernel
theorem d_JO_weighIntoParent_37 : decode b_JO_weighIntoParent 37 = .ok (.iload_n 2, 1) := by decide +kernel
theorem d_JO_weighIntoParent_38 : decode b_JO_weighIntoParent 38 = .ok (.aaload, 1) := by decide +kernel
theorem d_JO_weighIntoParent_39 : decode b_JO_weighIntoParent 39 = .ok (.iload_n 3, 1) := by decide +kernel
theorem d_JO_weighIntoParent_40 : decode b_JO_weighIntoParent 40 = .ok (.dup2, 1) := by decide +kernel
theorem d_JO_weighIntoParent_41 : decode b_JO_weighIntoParent 41 = .ok (.laload, 1) := by decide +kernel
theorem d_JO_weighIntoParent_42 : decode b_JO_weighIntoParent 42 = .ok (.aload_n 0, 1) := by decide +kernel
theorem d_JO_weighIntoParent_43 : decode b_JO_weighIntoParent 43 = .ok (.iload_n 1, 1) := by decide +kernel
theorem d_JO_weighIntoParent_44 : decode b_JO_weighIntoParent 44 = .ok (.aload_n 0, 1) := by decide +kernel
theorem d_JO_weighIntoParent_45 : decode b_JO_weighIntoParent 45 = .ok (.getfield 11, 3) := by decide +kernel
theorem d_JO_weighIntoParent_48 : decode b_JO_weighIntoParent 48 = .ok (.iload_n 1, 1) := by decide +kernel
theorem d_JO_weighIntoParent_49 : decode b_JO_weighIntoParent 49 = .ok (.aaload, 1) := by decide +kernel
theorem d_JO_weighIntoParent_50 : decode b_JO_weighIntoParent 50 = .ok (.iload_n 3, 1) := by decide +kernel
theorem d_JO_weighIntoParent_51 : decode b_JO_weighIntoParent 51 = .ok (.iaload, 1) := by decide +kernel
theorem d_JO_weighIntoParent_52 : decode b_JO_weighIntoParent 52 = .ok (.aload_n 0, 1) := by decide +kernel
theorem d_JO_weighIntoParent_53 : decode b_JO_weighIntoParent 53 = .ok (.getfield 16, 3) := by decide +kernel
theorem d_JO_weighIntoParent_56 : decode b_JO_weighIntoParent 56 = .ok (.iconst 0, 1) := by decide +kernel
theorem d_JO_weighIntoParent_57 : decode b_JO_weighIntoParent 57 = .ok (.aaload, 1) := by decide +kernel
theorem d_JO_weighIntoParent_58 : decode b_JO_weighIntoParent 58 = .ok (.iload_n 1, 1) := by decide +kernel
theorem d_JO_weighIntoParent_59 : decode b_JO_weighIntoParent 59 = .ok (.iaload, 1) := by decide +kernel
theorem d_JO_weighIntoParent_60 : decode b_JO_weighIntoParent 60 = .ok (.iand, 1) := by decide +kernel
theorem d_JO_weighIntoParent_61 : decode b_JO_weighIntoParent 61 = .ok (.invokevirtual 69, 3) := by decide +kernel
theorem d_JO_weighIntoParent_64 : decode b_JO_weighIntoParent 64 = .ok (.lmul, 1) := by decide +kernel
theorem d_JO_weighIntoParent_65 : decode b_JO_weighIntoParent 65 = .ok (.lastore, 1) := by decide +kernel
theorem d_JO_weighIntoParent_66 : decode b_JO_weighIntoParent 66 = .ok (.iinc 3 1, 3) := by decide +kernel
theorem d_JO_weighIntoParent_69 : decode b_JO_weighIntoParent 69 = .ok (.goto (-57), 3) := by decide +kernel
theorem d_JO_weighIntoParent_72 : decode b_JO_weighIntoParent 72 = .ok (.return_, 1) := by decide +kernel
theorem d_JO_weightOf_0 : decode b_JO_weightOf 0 = .ok (.lconst 0, 1) := by decide +kernel
theorem d_JO_weightOf_1 : decode b_JO_weightOf 1 = .ok (.lstore_n 3, 1) := by decide +kernel
theorem d_JO_weightOf_2 : decode b_JO_weightOf 2 = .ok (.iconst 0, 1) := by decide +kernel
theorem d_JO_weightOf_3 : decode b_JO_weightOf 3 = .ok (.istore 5, 2) := by decide +kernel
theorem d_JO_weightOf_5 : decode b_JO_weightOf 5 = .ok (.iload 5, 2) := by decide +kernel
theorem d_JO_weightOf_7 : decode b_JO_weightOf 7 = .ok (.bipush 12, 2) := by decide +kernel
theorem d_JO_weightOf_9 : decode b_JO_weightOf 9 = .ok (.if_icmp .ge 30, 3) := by decide +kernel
theorem d_JO_weightOf_12 : decode b_JO_weightOf 12 = .ok (.iload 5, 2) := by decide +kernel
theorem d_JO_weightOf_14 : decode b_JO_weightOf 14 = .ok (.iload_n 2, 1) := by decide +kernel
theorem d_JO_weightOf_15 : decode b_JO_weightOf 15 = .ok (.invokestatic 124, 3) := by decide +kernel
theorem d_JO_weightOf_18 : decode b_JO_weightOf 18 = .ok (.ifCond .eq 15, 3) := by decide +kernel
theorem d_JO_weightOf_21 : decode b_JO_weightOf 21 = .ok (.lload_n 3, 1) := by decide +kernel
theorem d_JO_weightOf_22 : decode b_JO_weightOf 22 = .ok (.aload_n 0, 1) := by decide +kernel
theorem d_JO_weightOf_23 : decode b_JO_weightOf 23 = .ok (.getfield 21, 3) := by decide +kernel
theorem d_JO_weightOf_26 : decode b_JO_weightOf 26 = .ok (.iload_n 1, 1) := by decide +kernel
theorem d_JO_weightOf_27 : decode b_JO_weightOf 27 = .ok (.aaload, 1) := by decide +kernel
theorem d_JO_weightOf_28 : decode b_JO_weightOf 28 = .ok (.iload 5, 2) := by decide +kernel
theorem d_JO_weightOf_30 : decode b_JO_weightOf 30 = .ok (.laload, 1) := by decide +kernel
theorem d_JO_weightOf_31 : decode b_JO_weightOf 31 = .ok (.ladd, 1) := by decide +kernel
theorem d_JO_weightOf_32 : decode b_JO_weightOf 32 = .ok (.lstore_n 3, 1) := by decide +kernel
theorem d_JO_weightOf_33 : decode b_JO_weightOf 33 = .ok (.iinc 5 1, 3) := by decide +kernel
theorem d_JO_weightOf_36 : decode b_JO_weightOf 36 = .ok (.goto (-31), 3) := by decide +kernel
theorem d_JO_weightOf_39 : decode b_JO_weightOf 39 = .ok (.lload_n 3, 1) := by decide +kernel
theorem d_JO_weightOf_40 : decode b_JO_weightOf 40 = .ok (.lreturn, 1) := by decide +kernel
theorem d_LA_live_0 : decode b_LA_live 0 = .ok (.aload_n 2, 1) := by decide +kernel
theorem d_LA_live_1 : decode b_LA_live 1 = .ok (.iconst 0, 1) := by decide +kernel
theorem d_LA_live_2 : decode b_LA_live 2 = .ok (.aload_n 0, 1) := by decide +kernel
theorem d_LA_live_3 : decode b_LA_live 3 = .ok (.iload_n 1, 1) := by decide +kernel
theorem d_LA_live_4 : decode b_LA_live 4 = .ok (.invokevirtual 15, 3) := by decide +kernel
theorem d_LA_live_7 : decode b_LA_live 7 = .ok (.i2l, 1) := by decide +kernel
theorem d_LA_live_8 : decode b_LA_live 8 = .ok (.lastore, 1) := by decide +kernel
theorem d_LA_live_9 : decode b_LA_live 9 = .ok (.goto 9, 3) := by decide +kernel
theorem d_LA_live_12 : decode b_LA_live 12 = .ok (.astore_n 3, 1) := by decide +kernel
theorem d_LA_live_13 : decode b_LA_live 13 = .ok (.iconst 1, 1) := by decide +kernel
theorem d_LA_live_14 : decode b_LA_live 14 = .ok (.ireturn, 1) := by decide +kernel
theorem d_LA_live_15 : decode b_LA_live 15 = .ok (.astore_n 3, 1) := by decide +kernel
theorem d_LA_live_16 : decode b_LA_live 16 = .ok (.iconst 2, 1) := by decide +kernel
theorem d_LA_live_17 : decode b_LA_live 17 = .ok (.ireturn, 1) := by decide +kernel
theorem d_LA_live_18 : decode b_LA_live 18 = .ok (.iconst 0, 1) := by decide +kernel
theorem d_LA_live_19 : decode b_LA_live 19 = .ok (.ireturn, 1) := by decide +kernel
theorem d_JL_live_0 : decode b_JL_live 0 = .ok (.aload_n 0, 1) := by decide +kernel
theorem d_JL_live_1 : decode b_JL_live 1 = .ok (.invokevirtual 95, 3) := by decide +kernel
theorem d_JL_live_4 : decode b_JL_live 4 = .ok (.iload_n 1, 1) := by decide +kernel
theorem d_JL_live_5 : decode b_JL_live 5 = .ok (.aload_n 0, 1) := by decide +kernel
theorem d_JL_live_6 : decode b_JL_live 6 = .ok (.getfield 21, 3) := by decide +kernel
theorem d_JL_live_9 : decode b_JL_live 9 = .ok (.getfield 71, 3) := by decide +kernel
theorem d_JL_live_12 : decode b_JL_live 12 = .ok (.invokestatic 50, 3) := by decide +kernel
theorem d_JL_live_15 : decode b_JL_live 15 = .ok (.ifCond .ne 13, 3) := by decide +kernel
theorem d_JL_live_18 : decode b_JL_live 18 = .ok (.new 102, 3) := by decide +kernel
theorem d_JL_live_21 : decode b_JL_live 21 = .ok (.dup, 1) := by decide +kernel
theorem d_JL_live_22 : decode b_JL_live 22 = .ok (.ldc 104, 2) := by decide +kernel
theorem d_JL_live_24 : decode b_JL_live 24 = .ok (.invokespecial 106, 3) := by decide +kernel
theorem d_JL_live_27 : decode b_JL_live 27 = .ok (.athrow, 1) := by decide +kernel
theorem d_JL_live_28 : decode b_JL_live 28 = .ok (.aload_n 0, 1) := by decide +kernel
theorem d_JL_live_29 : decode b_JL_live 29 = .ok (.getfield 39, 3) := by decide +kernel
theorem d_JL_live_32 : decode b_JL_live 32 = .ok (.iload_n 1, 1) := by decide +kernel
theorem d_JL_live_33 : decode b_JL_live 33 = .ok (.invokevirtual 109, 3) := by decide +kernel
theorem d_JL_live_36 : decode b_JL_live 36 = .ok (.ireturn, 1) := by decide +kernel
theorem d_JO_countLiveRows_0 : decode b_JO_countLiveRows 0 = .ok (.aload_n 0, 1) := by decide +kernel
theorem d_JO_countLiveRows_1 : decode b_JO_countLiveRows 1 = .ok (.invokevirtual 36, 3) := by decide +kernel
theorem d_JO_countLiveRows_4 : decode b_JO_countLiveRows 4 = .ok (.aload_n 0, 1) := by decide +kernel
theorem d_JO_countLiveRows_5 : decode b_JO_countLiveRows 5 = .ok (.aload_n 0, 1) := by decide +kernel
theorem d_JO_countLiveRows_6 : decode b_JO_countLiveRows 6 = .ok (.getfield 16, 3) := by decide +kernel
theorem d_JO_countLiveRows_9 : decode b_JO_countLiveRows 9 = .ok (.iconst 0, 1) := by decide +kernel
theorem d_JO_countLiveRows_10 : decode b_JO_countLiveRows 10 = .ok (.aaload, 1) := by decide +kernel
theorem d_JO_countLiveRows_11 : decode b_JO_countLiveRows 11 = .ok (.invokevirtual 39, 3) := by decide +kernel
theorem d_JO_countLiveRows_14 : decode b_JO_countLiveRows 14 = .ok (.aload_n 0, 1) := by decide +kernel
theorem d_JO_countLiveRows_15 : decode b_JO_countLiveRows 15 = .ok (.getfield 16, 3) := by decide +kernel
theorem d_JO_countLiveRows_18 : decode b_JO_countLiveRows 18 = .ok (.iconst 0, 1) := by decide +kernel
theorem d_JO_countLiveRows_19 : decode b_JO_countLiveRows 19 = .ok (.aaload, 1) := by decide +kernel
theorem d_JO_countLiveRows_20 : decode b_JO_countLiveRows 20 = .ok (.iload_n 1, 1) := by decide +kernel
theorem d_JO_countLiveRows_21 : decode b_JO_countLiveRows 21 = .ok (.iaload, 1) := by decide +kernel
theorem d_JO_countLiveRows_22 : decode b_JO_countLiveRows 22 = .ok (.invokestatic 43, 3) := by decide +kernel
theorem d_JO_countLiveRows_25 : decode b_JO_countLiveRows 25 = .ok (.ireturn, 1) := by decide +kernel
theorem d_JO_keepLiveRows_0 : decode b_JO_keepLiveRows 0 = .ok (.iconst 0, 1) := by decide +kernel
theorem d_JO_keepLiveRows_1 : decode b_JO_keepLiveRows 1 = .ok (.istore_n 2, 1) := by decide +kernel
theorem d_JO_keepLiveRows_2 : decode b_JO_keepLiveRows 2 = .ok (.iload_n 2, 1) := by decide +kernel
theorem d_JO_keepLiveRows_3 : decode b_JO_keepLiveRows 3 = .ok (.aload_n 0, 1) := by decide +kernel
theorem d_JO_keepLiveRows_4 : decode b_JO_keepLiveRows 4 = .ok (.getfield 32, 3) := by decide +kernel
theorem d_JO_keepLiveRows_7 : decode b_JO_keepLiveRows 7 = .ok (.getfield 58, 3) := by decide +kernel
theorem d_JO_keepLiveRows_10 : decode b_JO_keepLiveRows 10 = .ok (.if_icmp .ge 23, 3) := by decide +kernel
theorem d_JO_keepLiveRows_13 : decode b_JO_keepLiveRows 13 = .ok (.aload_n 0, 1) := by decide +kernel
theorem d_JO_keepLiveRows_14 : decode b_JO_keepLiveRows 14 = .ok (.aload_n 1, 1) := by decide +kernel
theorem d_JO_keepLiveRows_15 : decode b_JO_keepLiveRows 15 = .ok (.aload_n 0, 1) := by decide +kernel
theorem d_JO_keepLiveRows_16 : decode b_JO_keepLiveRows 16 = .ok (.getfield 32, 3) := by decide +kernel
theorem d_JO_keepLiveRows_19 : decode b_JO_keepLiveRows 19 = .ok (.getfield 62, 3) := by decide +kernel
theorem d_JO_keepLiveRows_22 : decode b_JO_keepLiveRows 22 = .ok (.iload_n 2, 1) := by decide +kernel
theorem d_JO_keepLiveRows_23 : decode b_JO_keepLiveRows 23 = .ok (.iaload, 1) := by decide +kernel
theorem d_JO_keepLiveRows_24 : decode b_JO_keepLiveRows 24 = .ok (.invokevirtual 117, 3) := by decide +kernel
theorem d_JO_keepLiveRows_27 : decode b_JO_keepLiveRows 27 = .ok (.iinc 2 1, 3) := by decide +kernel
theorem d_JO_keepLiveRows_30 : decode b_JO_keepLiveRows 30 = .ok (.goto (-28), 3) := by decide +kernel
theorem d_JO_keepLiveRows_33 : decode b_JO_keepLiveRows 33 = .ok (.aload_n 0, 1) := by decide +kernel
theorem d_JO_keepLiveRows_34 : decode b_JO_keepLiveRows 34 = .ok (.getfield 32, 3) := by decide +kernel
theorem d_JO_keepLiveRows_37 : decode b_JO_keepLiveRows 37 = .ok (.getfield 58, 3) := by decide +kernel
theorem d_JO_keepLiveRows_40 : decode b_JO_keepLiveRows 40 = .ok (.iconst 1, 1) := by decide +kernel
theorem d_JO_keepLiveRows_41 : decode b_JO_keepLiveRows 41 = .ok (.isub, 1) := by decide +kernel
theorem d_JO_keepLiveRows_42 : decode b_JO_keepLiveRows 42 = .ok (.istore_n 2, 1) := by decide +kernel
theorem d_JO_keepLiveRows_43 : decode b_JO_keepLiveRows 43 = .ok (.iload_n 2, 1) := by decide +kernel
theorem d_JO_keepLiveRows_44 : decode b_JO_keepLiveRows 44 = .ok (.ifCond .lt 23, 3) := by decide +kernel
theorem d_JO_keepLiveRows_47 : decode b_JO_keepLiveRows 47 = .ok (.aload_n 0, 1) := by decide +kernel
theorem d_JO_keepLiveRows_48 : decode b_JO_keepLiveRows 48 = .ok (.aload_n 1, 1) := by decide +kernel
theorem d_JO_keepLiveRows_49 : decode b_JO_keepLiveRows 49 = .ok (.aload_n 0, 1) := by decide +kernel
theorem d_JO_keepLiveRows_50 : decode b_JO_keepLiveRows 50 = .ok (.getfield 32, 3) := by decide +kernel
theorem d_JO_keepLiveRows_53 : decode b_JO_keepLiveRows 53 = .ok (.getfield 62, 3) := by decide +kernel
theorem d_JO_keepLiveRows_56 : decode b_JO_keepLiveRows 56 = .ok (.iload_n 2, 1) := by decide +kernel
theorem d_JO_keepLiveRows_57 : decode b_JO_keepLiveRows 57 = .ok (.iaload, 1) := by decide +kernel
theorem d_JO_keepLiveRows_58 : decode b_JO_keepLiveRows 58 = .ok (.invokevirtual 121, 3) := by decide +kernel
theorem d_JO_keepLiveRows_61 : decode b_JO_keepLiveRows 61 = .ok (.iinc 2 (-1), 3) := by decide +kernel
theorem d_JO_keepLiveRows_64 : decode b_JO_keepLiveRows 64 = .ok (.goto (-21), 3) := by decide +kernel
theorem d_JO_keepLiveRows_67 : decode b_JO_keepLiveRows 67 = .ok (.return_, 1) := by decide +kernel
theorem d_JO_keepRowsOfParent_0 : decode b_JO_keepRowsOfParent 0 = .ok (.aload_n 0, 1) := by decide +kernel
theorem d_JO_keepRowsOfParent_1 : decode b_JO_keepRowsOfParent 1 = .ok (.getfield 32, 3) := by decide +kernel
theorem d_JO_keepRowsOfParent_4 : decode b_JO_keepRowsOfParent 4 = .ok (.getfield 101, 3) := by decide +kernel
theorem d_JO_keepRowsOfParent_7 : decode b_JO_keepRowsOfParent 7 = .ok (.iload_n 2, 1) := by decide +kernel
theorem d_JO_keepRowsOfParent_8 : decode b_JO_keepRowsOfParent 8 = .ok (.iaload, 1) := by decide +kernel
theorem d_JO_keepRowsOfParent_9 : decode b_JO_keepRowsOfParent 9 = .ok (.istore_n 3, 1) := by decide +kernel
theorem d_JO_keepRowsOfParent_10 : decode b_JO_keepRowsOfParent 10 = .ok (.iconst 0, 1) := by decide +kernel
theorem d_JO_keepRowsOfParent_11 : decode b_JO_keepRowsOfParent 11 = .ok (.istore 4, 2) := by decide +kernel
theorem d_JO_keepRowsOfParent_13 : decode b_JO_keepRowsOfParent 13 = .ok (.iload 4, 2) := by decide +kernel
theorem d_JO_keepRowsOfParent_15 : decode b_JO_keepRowsOfParent 15 = .ok (.bipush 12, 2) := by decide +kernel
theorem d_JO_keepRowsOfParent_17 : decode b_JO_keepRowsOfParent 17 = .ok (.if_icmp .ge 48, 3) := by decide +kernel
theorem d_JO_keepRowsOfParent_20 : decode b_JO_keepRowsOfParent 20 = .ok (.iload 4, 2) := by decide +kernel
theorem d_JO_keepRowsOfParent_22 : decode b_JO_keepRowsOfParent 22 = .ok (.aload_n 1, 1) := by decide +kernel
theorem d_JO_keepRowsOfParent_23 : decode b_JO_keepRowsOfParent 23 = .ok (.iload_n 3, 1) := by decide +kernel
theorem d_JO_keepRowsOfParent_24 : decode b_JO_keepRowsOfParent 24 = .ok (.iaload, 1) := by decide +kernel
theorem d_JO_keepRowsOfParent_25 : decode b_JO_keepRowsOfParent 25 = .ok (.invokestatic 124, 3) := by decide +kernel
theorem d_JO_keepRowsOfParent_28 : decode b_JO_keepRowsOfParent 28 = .ok (.ifCond .eq 31, 3) := by decide +kernel
theorem d_JO_keepRowsOfParent_31 : decode b_JO_keepRowsOfParent 31 = .ok (.aload_n 0, 1) := by decide +kernel
theorem d_JO_keepRowsOfParent_32 : decode b_JO_keepRowsOfParent 32 = .ok (.getfield 11, 3) := by decide +kernel
theorem d_JO_keepRowsOfParent_35 : decode b_JO_keepRowsOfParent 35 = .ok (.iload_n 2, 1) := by decide +kernel
theorem d_JO_keepRowsOfParent_36 : decode b_JO_keepRowsOfParent 36 = .ok (.aaload, 1) := by decide +kernel
theorem d_JO_keepRowsOfParent_37 : decode b_JO_keepRowsOfParent 37 = .ok (.iload 4, 2) := by decide +kernel
theorem d_JO_keepRowsOfParent_39 : decode b_JO_keepRowsOfParent 39 = .ok (.iaload, 1) := by decide +kernel
theorem d_JO_keepRowsOfParent_40 : decode b_JO_keepRowsOfParent 40 = .ok (.aload_n 1, 1) := by decide +kernel
theorem d_JO_keepRowsOfParent_41 : decode b_JO_keepRowsOfParent 41 = .ok (.iload_n 2, 1) := by decide +kernel
theorem d_JO_keepRowsOfParent_42 : decode b_JO_keepRowsOfParent 42 = .ok (.iaload, 1) := by decide +kernel
theorem d_JO_keepRowsOfParent_43 : decode b_JO_keepRowsOfParent 43 = .ok (.iand, 1) := by decide +kernel
theorem d_JO_keepRowsOfParent_44 : decode b_JO_keepRowsOfParent 44 = .ok (.ifCond .ne 15, 3) := by decide +kernel
theorem d_JO_keepRowsOfParent_47 : decode b_JO_keepRowsOfParent 47 = .ok (.aload_n 1, 1) := by decide +kernel
theorem d_JO_keepRowsOfParent_48 : decode b_JO_keepRowsOfParent 48 = .ok (.iload_n 3, 1) := by decide +kernel
theorem d_JO_keepRowsOfParent_49 : decode b_JO_keepRowsOfParent 49 = .ok (.dup2, 1) := by decide +kernel
theorem d_JO_keepRowsOfParent_50 : decode b_JO_keepRowsOfParent 50 = .ok (.iaload, 1) := by decide +kernel
theorem d_JO_keepRowsOfParent_51 : decode b_JO_keepRowsOfParent 51 = .ok (.iconst 1, 1) := by decide +kernel
theorem d_JO_keepRowsOfParent_52 : decode b_JO_keepRowsOfParent 52 = .ok (.iload 4, 2) := by decide +kernel
theorem d_JO_keepRowsOfParent_54 : decode b_JO_keepRowsOfParent 54 = .ok (.ishl, 1) := by decide +kernel
theorem d_JO_keepRowsOfParent_55 : decode b_JO_keepRowsOfParent 55 = .ok (.iconst (-1), 1) := by decide +kernel
theorem d_JO_keepRowsOfParent_56 : decode b_JO_keepRowsOfParent 56 = .ok (.ixor, 1) := by decide +kernel
theorem d_JO_keepRowsOfParent_57 : decode b_JO_keepRowsOfParent 57 = .ok (.iand, 1) := by decide +kernel
theorem d_JO_keepRowsOfParent_58 : decode b_JO_keepRowsOfParent 58 = .ok (.iastore, 1) := by decide +kernel
theorem d_JO_keepRowsOfParent_59 : decode b_JO_keepRowsOfParent 59 = .ok (.iinc 4 1, 3) := by decide +kernel
theorem d_JO_keepRowsOfParent_62 : decode b_JO_keepRowsOfParent 62 = .ok (.goto (-49), 3) := by decide +kernel
theorem d_JO_keepRowsOfParent_65 : decode b_JO_keepRowsOfParent 65 = .ok (.return_, 1) := by decide +kernel
theorem d_JO_keepRowsOfChild_0 : decode b_JO_keepRowsOfChild 0 = .ok (.aload_n 0, 1) := by decide +kernel
theorem d_JO_keepRowsOfChild_1 : decode b_JO_keepRowsOfChild 1 = .ok (.getfield 32, 3) := by decide +kernel
theorem d_JO_keepRowsOfChild_4 : decode b_JO_keepRowsOfChild 4 = .ok (.getfield 101, 3) := by decide +kernel
theorem d_JO_keepRowsOfChild_7 : decode b_JO_keepRowsOfChild 7 = .ok (.iload_n 2, 1) := by decide +kernel
theorem d_JO_keepRowsOfChild_8 : decode b_JO_keepRowsOfChild 8 = .ok (.iaload, 1) := by decide +kernel
theorem d_JO_keepRowsOfChild_9 : decode b_JO_keepRowsOfChild 9 = .ok (.istore_n 3, 1) := by decide +kernel
theorem d_JO_keepRowsOfChild_10 : decode b_JO_keepRowsOfChild 10 = .ok (.iconst 0, 1) := by decide +kernel
theorem d_JO_keepRowsOfChild_11 : decode b_JO_keepRowsOfChild 11 = .ok (.istore 4, 2) := by decide +kernel
theorem d_JO_keepRowsOfChild_13 : decode b_JO_keepRowsOfChild 13 = .ok (.iconst 0, 1) := by decide +kernel
theorem d_JO_keepRowsOfChild_14 : decode b_JO_keepRowsOfChild 14 = .ok (.istore 5, 2) := by decide +kernel
theorem d_JO_keepRowsOfChild_16 : decode b_JO_keepRowsOfChild 16 = .ok (.iload 5, 2) := by decide +kernel
theorem d_JO_keepRowsOfChild_18 : decode b_JO_keepRowsOfChild 18 = .ok (.bipush 12, 2) := by decide +kernel
theorem d_JO_keepRowsOfChild_20 : decode b_JO_keepRowsOfChild 20 = .ok (.if_icmp .ge 34, 3) := by decide +kernel
theorem d_JO_keepRowsOfChild_23 : decode b_JO_keepRowsOfChild 23 = .ok (.iload 5, 2) := by decide +kernel
theorem d_JO_keepRowsOfChild_25 : decode b_JO_keepRowsOfChild 25 = .ok (.aload_n 1, 1) := by decide +kernel
theorem d_JO_keepRowsOfChild_26 : decode b_JO_keepRowsOfChild 26 = .ok (.iload_n 3, 1) := by decide +kernel
theorem d_JO_keepRowsOfChild_27 : decode b_JO_keepRowsOfChild 27 = .ok (.iaload, 1) := by decide +kernel
theorem d_JO_keepRowsOfChild_28 : decode b_JO_keepRowsOfChild 28 = .ok (.invokestatic 124, 3) := by decide +kernel
theorem d_JO_keepRowsOfChild_31 : decode b_JO_keepRowsOfChild 31 = .ok (.ifCond .eq 17, 3) := by decide +kernel
theorem d_JO_keepRowsOfChild_34 : decode b_JO_keepRowsOfChild 34 = .ok (.iload 4, 2) := by decide +kernel
theorem d_JO_keepRowsOfChild_36 : decode b_JO_keepRowsOfChild 36 = .ok (.aload_n 0, 1) := by decide +kernel
theorem d_JO_keepRowsOfChild_37 : decode b_JO_keepRowsOfChild 37 = .ok (.getfield 11, 3) := by decide +kernel
theorem d_JO_keepRowsOfChild_40 : decode b_JO_keepRowsOfChild 40 = .ok (.iload_n 2, 1) := by decide +kernel
theorem d_JO_keepRowsOfChild_41 : decode b_JO_keepRowsOfChild 41 = .ok (.aaload, 1) := by decide +kernel
theorem d_JO_keepRowsOfChild_42 : decode b_JO_keepRowsOfChild 42 = .ok (.iload 5, 2) := by decide +kernel
theorem d_JO_keepRowsOfChild_44 : decode b_JO_keepRowsOfChild 44 = .ok (.iaload, 1) := by decide +kernel
theorem d_JO_keepRowsOfChild_45 : decode b_JO_keepRowsOfChild 45 = .ok (.ior, 1) := by decide +kernel
theorem d_JO_keepRowsOfChild_46 : decode b_JO_keepRowsOfChild 46 = .ok (.istore 4, 2) := by decide +kernel
theorem d_JO_keepRowsOfChild_48 : decode b_JO_keepRowsOfChild 48 = .ok (.iinc 5 1, 3) := by decide +kernel
theorem d_JO_keepRowsOfChild_51 : decode b_JO_keepRowsOfChild 51 = .ok (.goto (-35), 3) := by decide +kernel
theorem d_JO_keepRowsOfChild_54 : decode b_JO_keepRowsOfChild 54 = .ok (.aload_n 1, 1) := by decide +kernel
theorem d_JO_keepRowsOfChild_55 : decode b_JO_keepRowsOfChild 55 = .ok (.iload_n 2, 1) := by decide +kernel
theorem d_JO_keepRowsOfChild_56 : decode b_JO_keepRowsOfChild 56 = .ok (.dup2, 1) := by decide +kernel
theorem d_JO_keepRowsOfChild_57 : decode b_JO_keepRowsOfChild 57 = .ok (.iaload, 1) := by decide +kernel
theorem d_JO_keepRowsOfChild_58 : decode b_JO_keepRowsOfChild 58 = .ok (.iload 4, 2) := by decide +kernel
theorem d_JO_keepRowsOfChild_60 : decode b_JO_keepRowsOfChild 60 = .ok (.iand, 1) := by decide +kernel
theorem d_JO_keepRowsOfChild_61 : decode b_JO_keepRowsOfChild 61 = .ok (.iastore, 1) := by decide +kernel
theorem d_JO_keepRowsOfChild_62 : decode b_JO_keepRowsOfChild 62 = .ok (.return_, 1) := by decide +kernel
theorem d_JI_bitCount_0 : decode b_JI_bitCount 0 = .ok (.iload_n 0, 1) := by decide +kernel
theorem d_JI_bitCount_1 : decode b_JI_bitCount 1 = .ok (.iload_n 0, 1) := by decide +kernel
theorem d_JI_bitCount_2 : decode b_JI_bitCount 2 = .ok (.iconst 1, 1) := by decide +kernel
theorem d_JI_bitCount_3 : decode b_JI_bitCount 3 = .ok (.iushr, 1) := by decide +kernel
theorem d_JI_bitCount_4 : decode b_JI_bitCount 4 = .ok (.ldc_w 265, 3) := by decide +kernel
theorem d_JI_bitCount_7 : decode b_JI_bitCount 7 = .ok (.iand, 1) := by decide +kernel
theorem d_JI_bitCount_8 : decode b_JI_bitCount 8 = .ok (.isub, 1) := by decide +kernel
theorem d_JI_bitCount_9 : decode b_JI_bitCount 9 = .ok (.istore_n 0, 1) := by decide +kernel
theorem d_JI_bitCount_10 : decode b_JI_bitCount 10 = .ok (.iload_n 0, 1) := by decide +kernel
theorem d_JI_bitCount_11 : decode b_JI_bitCount 11 = .ok (.ldc_w 266, 3) := by decide +kernel
theorem d_JI_bitCount_14 : decode b_JI_bitCount 14 = .ok (.iand, 1) := by decide +kernel
theorem d_JI_bitCount_15 : decode b_JI_bitCount 15 = .ok (.iload_n 0, 1) := by decide +kernel
theorem d_JI_bitCount_16 : decode b_JI_bitCount 16 = .ok (.iconst 2, 1) := by decide +kernel
theorem d_JI_bitCount_17 : decode b_JI_bitCount 17 = .ok (.iushr, 1) := by decide +kernel
theorem d_JI_bitCount_18 : decode b_JI_bitCount 18 = .ok (.ldc_w 266, 3) := by decide +kernel
theorem d_JI_bitCount_21 : decode b_JI_bitCount 21 = .ok (.iand, 1) := by decide +kernel
theorem d_JI_bitCount_22 : decode b_JI_bitCount 22 = .ok (.iadd, 1) := by decide +kernel
theorem d_JI_bitCount_23 : decode b_JI_bitCount 23 = .ok (.istore_n 0, 1) := by decide +kernel
theorem d_JI_bitCount_24 : decode b_JI_bitCount 24 = .ok (.iload_n 0, 1) := by decide +kernel
theorem d_JI_bitCount_25 : decode b_JI_bitCount 25 = .ok (.iload_n 0, 1) := by decide +kernel
theorem d_JI_bitCount_26 : decode b_JI_bitCount 26 = .ok (.iconst 4, 1) := by decide +kernel
theorem d_JI_bitCount_27 : decode b_JI_bitCount 27 = .ok (.iushr, 1) := by decide +kernel
theorem d_JI_bitCount_28 : decode b_JI_bitCount 28 = .ok (.iadd, 1) := by decide +kernel
theorem d_JI_bitCount_29 : decode b_JI_bitCount 29 = .ok (.ldc_w 267, 3) := by decide +kernel
theorem d_JI_bitCount_32 : decode b_JI_bitCount 32 = .ok (.iand, 1) := by decide +kernel
theorem d_JI_bitCount_33 : decode b_JI_bitCount 33 = .ok (.istore_n 0, 1) := by decide +kernel
theorem d_JI_bitCount_34 : decode b_JI_bitCount 34 = .ok (.iload_n 0, 1) := by decide +kernel
theorem d_JI_bitCount_35 : decode b_JI_bitCount 35 = .ok (.iload_n 0, 1) := by decide +kernel
theorem d_JI_bitCount_36 : decode b_JI_bitCount 36 = .ok (.bipush 8, 2) := by decide +kernel
theorem d_JI_bitCount_38 : decode b_JI_bitCount 38 = .ok (.iushr, 1) := by decide +kernel
theorem d_JI_bitCount_39 : decode b_JI_bitCount 39 = .ok (.iadd, 1) := by decide +kernel
theorem d_JI_bitCount_40 : decode b_JI_bitCount 40 = .ok (.istore_n 0, 1) := by decide +kernel
theorem d_JI_bitCount_41 : decode b_JI_bitCount 41 = .ok (.iload_n 0, 1) := by decide +kernel
theorem d_JI_bitCount_42 : decode b_JI_bitCount 42 = .ok (.iload_n 0, 1) := by decide +kernel
theorem d_JI_bitCount_43 : decode b_JI_bitCount 43 = .ok (.bipush 16, 2) := by decide +kernel
theorem d_JI_bitCount_45 : decode b_JI_bitCount 45 = .ok (.iushr, 1) := by decide +kernel
theorem d_JI_bitCount_46 : decode b_JI_bitCount 46 = .ok (.iadd, 1) := by decide +kernel
theorem d_JI_bitCount_47 : decode b_JI_bitCount 47 = .ok (.istore_n 0, 1) := by decide +kernel
theorem d_JI_bitCount_48 : decode b_JI_bitCount 48 = .ok (.iload_n 0, 1) := by decide +kernel
theorem d_JI_bitCount_49 : decode b_JI_bitCount 49 = .ok (.bipush 63, 2) := by decide +kernel
theorem d_JI_bitCount_51 : decode b_JI_bitCount 51 = .ok (.iand, 1) := by decide +kernel
theorem d_JI_bitCount_52 : decode b_JI_bitCount 52 = .ok (.ireturn, 1) := by decide +kernel
theorem d_LA_answers_0 : decode b_LA_answers 0 = .ok (.aload_n 1, 1) := by decide +kernel
theorem d_LA_answers_1 : decode b_LA_answers 1 = .ok (.iconst 0, 1) := by decide +kernel
theorem d_LA_answers_2 : decode b_LA_answers 2 = .ok (.aload_n 0, 1) := by decide +kernel
theorem d_LA_answers_3 : decode b_LA_answers 3 = .ok (.invokevirtual 21, 3) := by decide +kernel
theorem d_LA_answers_6 : decode b_LA_answers 6 = .ok (.i2l, 1) := by decide +kernel
theorem d_LA_answers_7 : decode b_LA_answers 7 = .ok (.lastore, 1) := by decide +kernel
theorem d_LA_answers_8 : decode b_LA_answers 8 = .ok (.goto 12, 3) := by decide +kernel
theorem d_LA_answers_11 : decode b_LA_answers 11 = .ok (.astore_n 2, 1) := by decide +kernel
theorem d_LA_answers_12 : decode b_LA_answers 12 = .ok (.iconst 1, 1) := by decide +kernel
theorem d_LA_answers_13 : decode b_LA_answers 13 = .ok (.ireturn, 1) := by decide +kernel
theorem d_LA_answers_14 : decode b_LA_answers 14 = .ok (.astore_n 2, 1) := by decide +kernel
theorem d_LA_answers_15 : decode b_LA_answers 15 = .ok (.iconst 2, 1) := by decide +kernel
theorem d_LA_answers_16 : decode b_LA_answers 16 = .ok (.ireturn, 1) := by decide +kernel
theorem d_LA_answers_17 : decode b_LA_answers 17 = .ok (.astore_n 2, 1) := by decide +kernel
theorem d_LA_answers_18 : decode b_LA_answers 18 = .ok (.iconst 3, 1) := by decide +kernel
theorem d_LA_answers_19 : decode b_LA_answers 19 = .ok (.ireturn, 1) := by decide +kernel
theorem d_LA_answers_20 : decode b_LA_answers 20 = .ok (.iconst 0, 1) := by decide +kernel
theorem d_LA_answers_21 : decode b_LA_answers 21 = .ok (.ireturn, 1) := by decide +kernel
theorem d_JL_answers_0 : decode b_JL_answers 0 = .ok (.aload_n 0, 1) := by decide +kernel
theorem d_JL_answers_1 : decode b_JL_answers 1 = .ok (.invokevirtual 113, 3) := by decide +kernel
theorem d_JL_answers_4 : decode b_JL_answers 4 = .ok (.aload_n 0, 1) := by decide +kernel
theorem d_JL_answers_5 : decode b_JL_answers 5 = .ok (.getfield 39, 3) := by decide +kernel
theorem d_JL_answers_8 : decode b_JL_answers 8 = .ok (.getfield 116, 3) := by decide +kernel
theorem d_JL_answers_11 : decode b_JL_answers 11 = .ok (.ireturn, 1) := by decide +kernel
theorem d_JL_findAnswers_0 : decode b_JL_findAnswers 0 = .ok (.aload_n 0, 1) := by decide +kernel
theorem d_JL_findAnswers_1 : decode b_JL_findAnswers 1 = .ok (.invokevirtual 95, 3) := by decide +kernel
theorem d_JL_findAnswers_4 : decode b_JL_findAnswers 4 = .ok (.aload_n 0, 1) := by decide +kernel
theorem d_JL_findAnswers_5 : decode b_JL_findAnswers 5 = .ok (.getfield 21, 3) := by decide +kernel
theorem d_JL_findAnswers_8 : decode b_JL_findAnswers 8 = .ok (.invokevirtual 125, 3) := by decide +kernel
theorem d_JL_findAnswers_11 : decode b_JL_findAnswers 11 = .ok (.ifCond .ne 13, 3) := by decide +kernel
theorem d_JL_findAnswers_14 : decode b_JL_findAnswers 14 = .ok (.new 128, 3) := by decide +kernel
end
section
/-! decode rows, by program -/
theorem d_JL_findAnswers_17 : decode b_JL_findAnswers 17 = .ok (.dup, 1) := by decide +kernel
theorem d_JL_findAnswers_18 : decode b_JL_findAnswers 18 = .ok (.ldc 130, 2) := by decide +kernel
theorem d_JL_findAnswers_20 : decode b_JL_findAnswers 20 = .ok (.invokespecial 132, 3) := by decide +kernel
theorem d_JL_findAnswers_23 : decode b_JL_findAnswers 23 = .ok (.athrow, 1) := by decide +kernel
theorem d_JL_findAnswers_24 : decode b_JL_findAnswers 24 = .ok (.aload_n 0, 1) := by decide +kernel
theorem d_JL_findAnswers_25 : decode b_JL_findAnswers 25 = .ok (.getfield 39, 3) := by decide +kernel
theorem d_JL_findAnswers_28 : decode b_JL_findAnswers 28 = .ok (.invokevirtual 133, 3) := by decide +kernel
theorem d_JL_findAnswers_31 : decode b_JL_findAnswers 31 = .ok (.aload_n 0, 1) := by decide +kernel
theorem d_JL_findAnswers_32 : decode b_JL_findAnswers 32 = .ok (.getfield 39, 3) := by decide +kernel
theorem d_JL_findAnswers_35 : decode b_JL_findAnswers 35 = .ok (.getfield 116, 3) := by decide +kernel
theorem d_JL_findAnswers_38 : decode b_JL_findAnswers 38 = .ok (.bipush 64, 2) := by decide +kernel
theorem d_JL_findAnswers_40 : decode b_JL_findAnswers 40 = .ok (.if_icmp .le 13, 3) := by decide +kernel
theorem d_JL_findAnswers_43 : decode b_JL_findAnswers 43 = .ok (.new 136, 3) := by decide +kernel
theorem d_JL_findAnswers_46 : decode b_JL_findAnswers 46 = .ok (.dup, 1) := by decide +kernel
theorem d_JL_findAnswers_47 : decode b_JL_findAnswers 47 = .ok (.ldc 138, 2) := by decide +kernel
theorem d_JL_findAnswers_49 : decode b_JL_findAnswers 49 = .ok (.invokespecial 140, 3) := by decide +kernel
theorem d_JL_findAnswers_52 : decode b_JL_findAnswers 52 = .ok (.athrow, 1) := by decide +kernel
theorem d_JL_findAnswers_53 : decode b_JL_findAnswers 53 = .ok (.return_, 1) := by decide +kernel
theorem d_QU_bindsHead_0 : decode b_QU_bindsHead 0 = .ok (.iconst 0, 1) := by decide +kernel
theorem d_QU_bindsHead_1 : decode b_QU_bindsHead 1 = .ok (.istore_n 1, 1) := by decide +kernel
theorem d_QU_bindsHead_2 : decode b_QU_bindsHead 2 = .ok (.iconst 0, 1) := by decide +kernel
theorem d_QU_bindsHead_3 : decode b_QU_bindsHead 3 = .ok (.istore_n 2, 1) := by decide +kernel
theorem d_QU_bindsHead_4 : decode b_QU_bindsHead 4 = .ok (.iload_n 2, 1) := by decide +kernel
theorem d_QU_bindsHead_5 : decode b_QU_bindsHead 5 = .ok (.aload_n 0, 1) := by decide +kernel
theorem d_QU_bindsHead_6 : decode b_QU_bindsHead 6 = .ok (.getfield 24, 3) := by decide +kernel
theorem d_QU_bindsHead_9 : decode b_QU_bindsHead 9 = .ok (.if_icmp .ge 21, 3) := by decide +kernel
theorem d_QU_bindsHead_12 : decode b_QU_bindsHead 12 = .ok (.iload_n 1, 1) := by decide +kernel
theorem d_QU_bindsHead_13 : decode b_QU_bindsHead 13 = .ok (.aload_n 0, 1) := by decide +kernel
theorem d_QU_bindsHead_14 : decode b_QU_bindsHead 14 = .ok (.getfield 11, 3) := by decide +kernel
theorem d_QU_bindsHead_17 : decode b_QU_bindsHead 17 = .ok (.iload_n 2, 1) := by decide +kernel
theorem d_QU_bindsHead_18 : decode b_QU_bindsHead 18 = .ok (.aaload, 1) := by decide +kernel
theorem d_QU_bindsHead_19 : decode b_QU_bindsHead 19 = .ok (.getfield 45, 3) := by decide +kernel
theorem d_QU_bindsHead_22 : decode b_QU_bindsHead 22 = .ok (.ior, 1) := by decide +kernel
theorem d_QU_bindsHead_23 : decode b_QU_bindsHead 23 = .ok (.istore_n 1, 1) := by decide +kernel
theorem d_QU_bindsHead_24 : decode b_QU_bindsHead 24 = .ok (.iinc 2 1, 3) := by decide +kernel
theorem d_QU_bindsHead_27 : decode b_QU_bindsHead 27 = .ok (.goto (-23), 3) := by decide +kernel
theorem d_QU_bindsHead_30 : decode b_QU_bindsHead 30 = .ok (.aload_n 0, 1) := by decide +kernel
theorem d_QU_bindsHead_31 : decode b_QU_bindsHead 31 = .ok (.getfield 36, 3) := by decide +kernel
theorem d_QU_bindsHead_34 : decode b_QU_bindsHead 34 = .ok (.iload_n 1, 1) := by decide +kernel
theorem d_QU_bindsHead_35 : decode b_QU_bindsHead 35 = .ok (.iconst (-1), 1) := by decide +kernel
theorem d_QU_bindsHead_36 : decode b_QU_bindsHead 36 = .ok (.ixor, 1) := by decide +kernel
theorem d_QU_bindsHead_37 : decode b_QU_bindsHead 37 = .ok (.iand, 1) := by decide +kernel
theorem d_QU_bindsHead_38 : decode b_QU_bindsHead 38 = .ok (.ifCond .ne 7, 3) := by decide +kernel
theorem d_QU_bindsHead_41 : decode b_QU_bindsHead 41 = .ok (.iconst 1, 1) := by decide +kernel
theorem d_QU_bindsHead_42 : decode b_QU_bindsHead 42 = .ok (.goto 4, 3) := by decide +kernel
theorem d_QU_bindsHead_45 : decode b_QU_bindsHead 45 = .ok (.iconst 0, 1) := by decide +kernel
theorem d_QU_bindsHead_46 : decode b_QU_bindsHead 46 = .ok (.ireturn, 1) := by decide +kernel
theorem d_JO_search_0 : decode b_JO_search 0 = .ok (.aload_n 0, 1) := by decide +kernel
theorem d_JO_search_1 : decode b_JO_search 1 = .ok (.iconst 0, 1) := by decide +kernel
theorem d_JO_search_2 : decode b_JO_search 2 = .ok (.putfield 73, 3) := by decide +kernel
theorem d_JO_search_5 : decode b_JO_search 5 = .ok (.aload_n 0, 1) := by decide +kernel
theorem d_JO_search_6 : decode b_JO_search 6 = .ok (.invokevirtual 36, 3) := by decide +kernel
theorem d_JO_search_9 : decode b_JO_search 9 = .ok (.aload_n 0, 1) := by decide +kernel
theorem d_JO_search_10 : decode b_JO_search 10 = .ok (.aload_n 0, 1) := by decide +kernel
theorem d_JO_search_11 : decode b_JO_search 11 = .ok (.getfield 16, 3) := by decide +kernel
theorem d_JO_search_14 : decode b_JO_search 14 = .ok (.iconst 0, 1) := by decide +kernel
theorem d_JO_search_15 : decode b_JO_search 15 = .ok (.aaload, 1) := by decide +kernel
theorem d_JO_search_16 : decode b_JO_search 16 = .ok (.invokevirtual 39, 3) := by decide +kernel
theorem d_JO_search_19 : decode b_JO_search 19 = .ok (.aload_n 0, 1) := by decide +kernel
theorem d_JO_search_20 : decode b_JO_search 20 = .ok (.aload_n 0, 1) := by decide +kernel
theorem d_JO_search_21 : decode b_JO_search 21 = .ok (.getfield 16, 3) := by decide +kernel
theorem d_JO_search_24 : decode b_JO_search 24 = .ok (.iconst 0, 1) := by decide +kernel
theorem d_JO_search_25 : decode b_JO_search 25 = .ok (.aaload, 1) := by decide +kernel
theorem d_JO_search_26 : decode b_JO_search 26 = .ok (.invokevirtual 76, 3) := by decide +kernel
theorem d_JO_search_29 : decode b_JO_search 29 = .ok (.ifCond .eq 9, 3) := by decide +kernel
theorem d_JO_search_32 : decode b_JO_search 32 = .ok (.aload_n 0, 1) := by decide +kernel
theorem d_JO_search_33 : decode b_JO_search 33 = .ok (.iconst 0, 1) := by decide +kernel
theorem d_JO_search_34 : decode b_JO_search 34 = .ok (.iconst 0, 1) := by decide +kernel
theorem d_JO_search_35 : decode b_JO_search 35 = .ok (.invokevirtual 80, 3) := by decide +kernel
theorem d_JO_search_38 : decode b_JO_search 38 = .ok (.return_, 1) := by decide +kernel
theorem d_JO_hasWay_0 : decode b_JO_hasWay 0 = .ok (.aload_n 0, 1) := by decide +kernel
theorem d_JO_hasWay_1 : decode b_JO_hasWay 1 = .ok (.getfield 32, 3) := by decide +kernel
theorem d_JO_hasWay_4 : decode b_JO_hasWay 4 = .ok (.invokevirtual 49, 3) := by decide +kernel
theorem d_JO_hasWay_7 : decode b_JO_hasWay 7 = .ok (.istore_n 2, 1) := by decide +kernel
theorem d_JO_hasWay_8 : decode b_JO_hasWay 8 = .ok (.iload_n 2, 1) := by decide +kernel
theorem d_JO_hasWay_9 : decode b_JO_hasWay 9 = .ok (.iconst (-1), 1) := by decide +kernel
theorem d_JO_hasWay_10 : decode b_JO_hasWay 10 = .ok (.if_icmp .eq 9, 3) := by decide +kernel
theorem d_JO_hasWay_13 : decode b_JO_hasWay 13 = .ok (.aload_n 1, 1) := by decide +kernel
theorem d_JO_hasWay_14 : decode b_JO_hasWay 14 = .ok (.iload_n 2, 1) := by decide +kernel
theorem d_JO_hasWay_15 : decode b_JO_hasWay 15 = .ok (.iaload, 1) := by decide +kernel
theorem d_JO_hasWay_16 : decode b_JO_hasWay 16 = .ok (.ifCond .eq 7, 3) := by decide +kernel
theorem d_JO_hasWay_19 : decode b_JO_hasWay 19 = .ok (.iconst 1, 1) := by decide +kernel
theorem d_JO_hasWay_20 : decode b_JO_hasWay 20 = .ok (.goto 4, 3) := by decide +kernel
theorem d_JO_hasWay_23 : decode b_JO_hasWay 23 = .ok (.iconst 0, 1) := by decide +kernel
theorem d_JO_hasWay_24 : decode b_JO_hasWay 24 = .ok (.ireturn, 1) := by decide +kernel
theorem d_JO_choose_0 : decode b_JO_choose 0 = .ok (.iload_n 1, 1) := by decide +kernel
theorem d_JO_choose_1 : decode b_JO_choose 1 = .ok (.aload_n 0, 1) := by decide +kernel
theorem d_JO_choose_2 : decode b_JO_choose 2 = .ok (.getfield 28, 3) := by decide +kernel
theorem d_JO_choose_5 : decode b_JO_choose 5 = .ok (.getfield 84, 3) := by decide +kernel
theorem d_JO_choose_8 : decode b_JO_choose 8 = .ok (.if_icmp .lt 9, 3) := by decide +kernel
theorem d_JO_choose_11 : decode b_JO_choose 11 = .ok (.aload_n 0, 1) := by decide +kernel
theorem d_JO_choose_12 : decode b_JO_choose 12 = .ok (.iload_n 2, 1) := by decide +kernel
theorem d_JO_choose_13 : decode b_JO_choose 13 = .ok (.invokevirtual 128, 3) := by decide +kernel
theorem d_JO_choose_16 : decode b_JO_choose 16 = .ok (.return_, 1) := by decide +kernel
theorem d_JO_choose_17 : decode b_JO_choose 17 = .ok (.aload_n 0, 1) := by decide +kernel
theorem d_JO_choose_18 : decode b_JO_choose 18 = .ok (.getfield 28, 3) := by decide +kernel
theorem d_JO_choose_21 : decode b_JO_choose 21 = .ok (.getfield 131, 3) := by decide +kernel
theorem d_JO_choose_24 : decode b_JO_choose 24 = .ok (.iload_n 1, 1) := by decide +kernel
theorem d_JO_choose_25 : decode b_JO_choose 25 = .ok (.iaload, 1) := by decide +kernel
theorem d_JO_choose_26 : decode b_JO_choose 26 = .ok (.istore_n 3, 1) := by decide +kernel
theorem d_JO_choose_27 : decode b_JO_choose 27 = .ok (.aload_n 0, 1) := by decide +kernel
theorem d_JO_choose_28 : decode b_JO_choose 28 = .ok (.iload_n 3, 1) := by decide +kernel
theorem d_JO_choose_29 : decode b_JO_choose 29 = .ok (.aload_n 0, 1) := by decide +kernel
theorem d_JO_choose_30 : decode b_JO_choose 30 = .ok (.getfield 16, 3) := by decide +kernel
theorem d_JO_choose_33 : decode b_JO_choose 33 = .ok (.iload_n 1, 1) := by decide +kernel
theorem d_JO_choose_34 : decode b_JO_choose 34 = .ok (.aaload, 1) := by decide +kernel
theorem d_JO_choose_35 : decode b_JO_choose 35 = .ok (.invokevirtual 134, 3) := by decide +kernel
theorem d_JO_choose_38 : decode b_JO_choose 38 = .ok (.istore 4, 2) := by decide +kernel
theorem d_JO_choose_40 : decode b_JO_choose 40 = .ok (.iconst 0, 1) := by decide +kernel
theorem d_JO_choose_41 : decode b_JO_choose 41 = .ok (.istore 5, 2) := by decide +kernel
theorem d_JO_choose_43 : decode b_JO_choose 43 = .ok (.iload 5, 2) := by decide +kernel
theorem d_JO_choose_45 : decode b_JO_choose 45 = .ok (.bipush 16, 2) := by decide +kernel
theorem d_JO_choose_47 : decode b_JO_choose 47 = .ok (.if_icmp .ge 49, 3) := by decide +kernel
theorem d_JO_choose_50 : decode b_JO_choose 50 = .ok (.aload_n 0, 1) := by decide +kernel
theorem d_JO_choose_51 : decode b_JO_choose 51 = .ok (.getfield 73, 3) := by decide +kernel
theorem d_JO_choose_54 : decode b_JO_choose 54 = .ok (.bipush 64, 2) := by decide +kernel
theorem d_JO_choose_56 : decode b_JO_choose 56 = .ok (.if_icmp .gt 40, 3) := by decide +kernel
theorem d_JO_choose_59 : decode b_JO_choose 59 = .ok (.iload 5, 2) := by decide +kernel
theorem d_JO_choose_61 : decode b_JO_choose 61 = .ok (.iload 4, 2) := by decide +kernel
theorem d_JO_choose_63 : decode b_JO_choose 63 = .ok (.invokestatic 124, 3) := by decide +kernel
theorem d_JO_choose_66 : decode b_JO_choose 66 = .ok (.ifCond .eq 24, 3) := by decide +kernel
theorem d_JO_choose_69 : decode b_JO_choose 69 = .ok (.aload_n 0, 1) := by decide +kernel
theorem d_JO_choose_70 : decode b_JO_choose 70 = .ok (.iload_n 1, 1) := by decide +kernel
theorem d_JO_choose_71 : decode b_JO_choose 71 = .ok (.iload_n 3, 1) := by decide +kernel
theorem d_JO_choose_72 : decode b_JO_choose 72 = .ok (.iload 5, 2) := by decide +kernel
theorem d_JO_choose_74 : decode b_JO_choose 74 = .ok (.invokevirtual 138, 3) := by decide +kernel
theorem d_JO_choose_77 : decode b_JO_choose 77 = .ok (.aload_n 0, 1) := by decide +kernel
theorem d_JO_choose_78 : decode b_JO_choose 78 = .ok (.iload_n 1, 1) := by decide +kernel
theorem d_JO_choose_79 : decode b_JO_choose 79 = .ok (.iconst 1, 1) := by decide +kernel
theorem d_JO_choose_80 : decode b_JO_choose 80 = .ok (.iadd, 1) := by decide +kernel
theorem d_JO_choose_81 : decode b_JO_choose 81 = .ok (.iload_n 2, 1) := by decide +kernel
theorem d_JO_choose_82 : decode b_JO_choose 82 = .ok (.iconst 4, 1) := by decide +kernel
theorem d_JO_choose_83 : decode b_JO_choose 83 = .ok (.ishl, 1) := by decide +kernel
theorem d_JO_choose_84 : decode b_JO_choose 84 = .ok (.iload 5, 2) := by decide +kernel
theorem d_JO_choose_86 : decode b_JO_choose 86 = .ok (.ior, 1) := by decide +kernel
theorem d_JO_choose_87 : decode b_JO_choose 87 = .ok (.invokevirtual 80, 3) := by decide +kernel
theorem d_JO_choose_90 : decode b_JO_choose 90 = .ok (.iinc 5 1, 3) := by decide +kernel
theorem d_JO_choose_93 : decode b_JO_choose 93 = .ok (.goto (-50), 3) := by decide +kernel
theorem d_JO_choose_96 : decode b_JO_choose 96 = .ok (.return_, 1) := by decide +kernel
theorem d_JO_storeAnswer_0 : decode b_JO_storeAnswer 0 = .ok (.aload_n 0, 1) := by decide +kernel
theorem d_JO_storeAnswer_1 : decode b_JO_storeAnswer 1 = .ok (.getfield 73, 3) := by decide +kernel
theorem d_JO_storeAnswer_4 : decode b_JO_storeAnswer 4 = .ok (.bipush 64, 2) := by decide +kernel
theorem d_JO_storeAnswer_6 : decode b_JO_storeAnswer 6 = .ok (.if_icmp .ge 13, 3) := by decide +kernel
theorem d_JO_storeAnswer_9 : decode b_JO_storeAnswer 9 = .ok (.aload_n 0, 1) := by decide +kernel
theorem d_JO_storeAnswer_10 : decode b_JO_storeAnswer 10 = .ok (.getfield 24, 3) := by decide +kernel
theorem d_JO_storeAnswer_13 : decode b_JO_storeAnswer 13 = .ok (.aload_n 0, 1) := by decide +kernel
theorem d_JO_storeAnswer_14 : decode b_JO_storeAnswer 14 = .ok (.getfield 73, 3) := by decide +kernel
theorem d_JO_storeAnswer_17 : decode b_JO_storeAnswer 17 = .ok (.iload_n 1, 1) := by decide +kernel
theorem d_JO_storeAnswer_18 : decode b_JO_storeAnswer 18 = .ok (.iastore, 1) := by decide +kernel
theorem d_JO_storeAnswer_19 : decode b_JO_storeAnswer 19 = .ok (.aload_n 0, 1) := by decide +kernel
theorem d_JO_storeAnswer_20 : decode b_JO_storeAnswer 20 = .ok (.dup, 1) := by decide +kernel
theorem d_JO_storeAnswer_21 : decode b_JO_storeAnswer 21 = .ok (.getfield 73, 3) := by decide +kernel
theorem d_JO_storeAnswer_24 : decode b_JO_storeAnswer 24 = .ok (.iconst 1, 1) := by decide +kernel
theorem d_JO_storeAnswer_25 : decode b_JO_storeAnswer 25 = .ok (.iadd, 1) := by decide +kernel
theorem d_JO_storeAnswer_26 : decode b_JO_storeAnswer 26 = .ok (.putfield 73, 3) := by decide +kernel
theorem d_JO_storeAnswer_29 : decode b_JO_storeAnswer 29 = .ok (.return_, 1) := by decide +kernel
theorem d_JO_liveValuesOf_0 : decode b_JO_liveValuesOf 0 = .ok (.aload_n 0, 1) := by decide +kernel
theorem d_JO_liveValuesOf_1 : decode b_JO_liveValuesOf 1 = .ok (.getfield 28, 3) := by decide +kernel
theorem d_JO_liveValuesOf_4 : decode b_JO_liveValuesOf 4 = .ok (.iload_n 1, 1) := by decide +kernel
theorem d_JO_liveValuesOf_5 : decode b_JO_liveValuesOf 5 = .ok (.invokevirtual 142, 3) := by decide +kernel
theorem d_JO_liveValuesOf_8 : decode b_JO_liveValuesOf 8 = .ok (.istore_n 3, 1) := by decide +kernel
theorem d_JO_liveValuesOf_9 : decode b_JO_liveValuesOf 9 = .ok (.iload_n 3, 1) := by decide +kernel
theorem d_JO_liveValuesOf_10 : decode b_JO_liveValuesOf 10 = .ok (.iconst (-1), 1) := by decide +kernel
theorem d_JO_liveValuesOf_11 : decode b_JO_liveValuesOf 11 = .ok (.if_icmp .ne 7, 3) := by decide +kernel
theorem d_JO_liveValuesOf_14 : decode b_JO_liveValuesOf 14 = .ok (.iconst 0, 1) := by decide +kernel
theorem d_JO_liveValuesOf_15 : decode b_JO_liveValuesOf 15 = .ok (.goto 19, 3) := by decide +kernel
theorem d_JO_liveValuesOf_18 : decode b_JO_liveValuesOf 18 = .ok (.aload_n 0, 1) := by decide +kernel
theorem d_JO_liveValuesOf_19 : decode b_JO_liveValuesOf 19 = .ok (.getfield 28, 3) := by decide +kernel
theorem d_JO_liveValuesOf_22 : decode b_JO_liveValuesOf 22 = .ok (.getfield 92, 3) := by decide +kernel
theorem d_JO_liveValuesOf_25 : decode b_JO_liveValuesOf 25 = .ok (.iload_n 3, 1) := by decide +kernel
theorem d_JO_liveValuesOf_26 : decode b_JO_liveValuesOf 26 = .ok (.aaload, 1) := by decide +kernel
theorem d_JO_liveValuesOf_27 : decode b_JO_liveValuesOf 27 = .ok (.iload_n 1, 1) := by decide +kernel
theorem d_JO_liveValuesOf_28 : decode b_JO_liveValuesOf 28 = .ok (.aload_n 2, 1) := by decide +kernel
theorem d_JO_liveValuesOf_29 : decode b_JO_liveValuesOf 29 = .ok (.iload_n 3, 1) := by decide +kernel
theorem d_JO_liveValuesOf_30 : decode b_JO_liveValuesOf 30 = .ok (.iaload, 1) := by decide +kernel
theorem d_JO_liveValuesOf_31 : decode b_JO_liveValuesOf 31 = .ok (.invokevirtual 145, 3) := by decide +kernel
theorem d_JO_liveValuesOf_34 : decode b_JO_liveValuesOf 34 = .ok (.ireturn, 1) := by decide +kernel
theorem d_QU_atomWith_0 : decode b_QU_atomWith 0 = .ok (.iconst 0, 1) := by decide +kernel
theorem d_QU_atomWith_1 : decode b_QU_atomWith 1 = .ok (.istore_n 2, 1) := by decide +kernel
theorem d_QU_atomWith_2 : decode b_QU_atomWith 2 = .ok (.iload_n 2, 1) := by decide +kernel
theorem d_QU_atomWith_3 : decode b_QU_atomWith 3 = .ok (.aload_n 0, 1) := by decide +kernel
theorem d_QU_atomWith_4 : decode b_QU_atomWith 4 = .ok (.getfield 24, 3) := by decide +kernel
theorem d_QU_atomWith_7 : decode b_QU_atomWith 7 = .ok (.if_icmp .ge 27, 3) := by decide +kernel
theorem d_QU_atomWith_10 : decode b_QU_atomWith 10 = .ok (.iload_n 1, 1) := by decide +kernel
theorem d_QU_atomWith_11 : decode b_QU_atomWith 11 = .ok (.aload_n 0, 1) := by decide +kernel
theorem d_QU_atomWith_12 : decode b_QU_atomWith 12 = .ok (.getfield 11, 3) := by decide +kernel
theorem d_QU_atomWith_15 : decode b_QU_atomWith 15 = .ok (.iload_n 2, 1) := by decide +kernel
theorem d_QU_atomWith_16 : decode b_QU_atomWith 16 = .ok (.aaload, 1) := by decide +kernel
theorem d_QU_atomWith_17 : decode b_QU_atomWith 17 = .ok (.getfield 45, 3) := by decide +kernel
theorem d_QU_atomWith_20 : decode b_QU_atomWith 20 = .ok (.invokestatic 39, 3) := by decide +kernel
theorem d_QU_atomWith_23 : decode b_QU_atomWith 23 = .ok (.ifCond .eq 5, 3) := by decide +kernel
theorem d_QU_atomWith_26 : decode b_QU_atomWith 26 = .ok (.iload_n 2, 1) := by decide +kernel
theorem d_QU_atomWith_27 : decode b_QU_atomWith 27 = .ok (.ireturn, 1) := by decide +kernel
theorem d_QU_atomWith_28 : decode b_QU_atomWith 28 = .ok (.iinc 2 1, 3) := by decide +kernel
theorem d_QU_atomWith_31 : decode b_QU_atomWith 31 = .ok (.goto (-29), 3) := by decide +kernel
theorem d_QU_atomWith_34 : decode b_QU_atomWith 34 = .ok (.iconst (-1), 1) := by decide +kernel
theorem d_QU_atomWith_35 : decode b_QU_atomWith 35 = .ok (.ireturn, 1) := by decide +kernel
theorem d_AT_valuesOf_0 : decode b_AT_valuesOf 0 = .ok (.iconst 0, 1) := by decide +kernel
theorem d_AT_valuesOf_1 : decode b_AT_valuesOf 1 = .ok (.istore_n 3, 1) := by decide +kernel
theorem d_AT_valuesOf_2 : decode b_AT_valuesOf 2 = .ok (.iconst 0, 1) := by decide +kernel
theorem d_AT_valuesOf_3 : decode b_AT_valuesOf 3 = .ok (.istore 4, 2) := by decide +kernel
theorem d_AT_valuesOf_5 : decode b_AT_valuesOf 5 = .ok (.iload 4, 2) := by decide +kernel
theorem d_AT_valuesOf_7 : decode b_AT_valuesOf 7 = .ok (.iconst 3, 1) := by decide +kernel
theorem d_AT_valuesOf_8 : decode b_AT_valuesOf 8 = .ok (.if_icmp .ge 66, 3) := by decide +kernel
theorem d_AT_valuesOf_11 : decode b_AT_valuesOf 11 = .ok (.iconst 0, 1) := by decide +kernel
theorem d_AT_valuesOf_12 : decode b_AT_valuesOf 12 = .ok (.istore 5, 2) := by decide +kernel
theorem d_AT_valuesOf_14 : decode b_AT_valuesOf 14 = .ok (.iload 5, 2) := by decide +kernel
theorem d_AT_valuesOf_16 : decode b_AT_valuesOf 16 = .ok (.aload_n 0, 1) := by decide +kernel
theorem d_AT_valuesOf_17 : decode b_AT_valuesOf 17 = .ok (.getfield 15, 3) := by decide +kernel
theorem d_AT_valuesOf_20 : decode b_AT_valuesOf 20 = .ok (.getfield 32, 3) := by decide +kernel
theorem d_AT_valuesOf_23 : decode b_AT_valuesOf 23 = .ok (.if_icmp .ge 45, 3) := by decide +kernel
theorem d_AT_valuesOf_26 : decode b_AT_valuesOf 26 = .ok (.aload_n 0, 1) := by decide +kernel
theorem d_AT_valuesOf_27 : decode b_AT_valuesOf 27 = .ok (.getfield 9, 3) := by decide +kernel
theorem d_AT_valuesOf_30 : decode b_AT_valuesOf 30 = .ok (.iload 4, 2) := by decide +kernel
theorem d_AT_valuesOf_32 : decode b_AT_valuesOf 32 = .ok (.iaload, 1) := by decide +kernel
theorem d_AT_valuesOf_33 : decode b_AT_valuesOf 33 = .ok (.iload_n 1, 1) := by decide +kernel
theorem d_AT_valuesOf_34 : decode b_AT_valuesOf 34 = .ok (.if_icmp .ne 34, 3) := by decide +kernel
theorem d_AT_valuesOf_37 : decode b_AT_valuesOf 37 = .ok (.iload 5, 2) := by decide +kernel
theorem d_AT_valuesOf_39 : decode b_AT_valuesOf 39 = .ok (.iload_n 2, 1) := by decide +kernel
theorem d_AT_valuesOf_40 : decode b_AT_valuesOf 40 = .ok (.invokestatic 46, 3) := by decide +kernel
theorem d_AT_valuesOf_43 : decode b_AT_valuesOf 43 = .ok (.ifCond .eq 19, 3) := by decide +kernel
theorem d_AT_valuesOf_46 : decode b_AT_valuesOf 46 = .ok (.iload_n 3, 1) := by decide +kernel
theorem d_AT_valuesOf_47 : decode b_AT_valuesOf 47 = .ok (.iconst 1, 1) := by decide +kernel
theorem d_AT_valuesOf_48 : decode b_AT_valuesOf 48 = .ok (.aload_n 0, 1) := by decide +kernel
theorem d_AT_valuesOf_49 : decode b_AT_valuesOf 49 = .ok (.getfield 15, 3) := by decide +kernel
theorem d_AT_valuesOf_52 : decode b_AT_valuesOf 52 = .ok (.iload 5, 2) := by decide +kernel
theorem d_AT_valuesOf_54 : decode b_AT_valuesOf 54 = .ok (.iload 4, 2) := by decide +kernel
theorem d_AT_valuesOf_56 : decode b_AT_valuesOf 56 = .ok (.invokevirtual 39, 3) := by decide +kernel
theorem d_AT_valuesOf_59 : decode b_AT_valuesOf 59 = .ok (.ishl, 1) := by decide +kernel
theorem d_AT_valuesOf_60 : decode b_AT_valuesOf 60 = .ok (.ior, 1) := by decide +kernel
theorem d_AT_valuesOf_61 : decode b_AT_valuesOf 61 = .ok (.istore_n 3, 1) := by decide +kernel
theorem d_AT_valuesOf_62 : decode b_AT_valuesOf 62 = .ok (.iinc 5 1, 3) := by decide +kernel
theorem d_AT_valuesOf_65 : decode b_AT_valuesOf 65 = .ok (.goto (-51), 3) := by decide +kernel
theorem d_AT_valuesOf_68 : decode b_AT_valuesOf 68 = .ok (.iinc 4 1, 3) := by decide +kernel
theorem d_AT_valuesOf_71 : decode b_AT_valuesOf 71 = .ok (.goto (-66), 3) := by decide +kernel
theorem d_AT_valuesOf_74 : decode b_AT_valuesOf 74 = .ok (.iload_n 3, 1) := by decide +kernel
theorem d_AT_valuesOf_75 : decode b_AT_valuesOf 75 = .ok (.ireturn, 1) := by decide +kernel
theorem d_JO_keepRowsWith_0 : decode b_JO_keepRowsWith 0 = .ok (.aload_n 0, 1) := by decide +kernel
theorem d_JO_keepRowsWith_1 : decode b_JO_keepRowsWith 1 = .ok (.getfield 16, 3) := by decide +kernel
theorem d_JO_keepRowsWith_4 : decode b_JO_keepRowsWith 4 = .ok (.iload_n 1, 1) := by decide +kernel
theorem d_JO_keepRowsWith_5 : decode b_JO_keepRowsWith 5 = .ok (.iconst 1, 1) := by decide +kernel
theorem d_JO_keepRowsWith_6 : decode b_JO_keepRowsWith 6 = .ok (.iadd, 1) := by decide +kernel
theorem d_JO_keepRowsWith_7 : decode b_JO_keepRowsWith 7 = .ok (.aaload, 1) := by decide +kernel
theorem d_JO_keepRowsWith_8 : decode b_JO_keepRowsWith 8 = .ok (.astore 4, 2) := by decide +kernel
theorem d_JO_keepRowsWith_10 : decode b_JO_keepRowsWith 10 = .ok (.iconst 0, 1) := by decide +kernel
theorem d_JO_keepRowsWith_11 : decode b_JO_keepRowsWith 11 = .ok (.istore 5, 2) := by decide +kernel
theorem d_JO_keepRowsWith_13 : decode b_JO_keepRowsWith 13 = .ok (.iload 5, 2) := by decide +kernel
theorem d_JO_keepRowsWith_15 : decode b_JO_keepRowsWith 15 = .ok (.aload_n 0, 1) := by decide +kernel
theorem d_JO_keepRowsWith_16 : decode b_JO_keepRowsWith 16 = .ok (.getfield 28, 3) := by decide +kernel
theorem d_JO_keepRowsWith_19 : decode b_JO_keepRowsWith 19 = .ok (.getfield 89, 3) := by decide +kernel
theorem d_JO_keepRowsWith_22 : decode b_JO_keepRowsWith 22 = .ok (.if_icmp .ge 43, 3) := by decide +kernel
theorem d_JO_keepRowsWith_25 : decode b_JO_keepRowsWith 25 = .ok (.aload_n 0, 1) := by decide +kernel
theorem d_JO_keepRowsWith_26 : decode b_JO_keepRowsWith 26 = .ok (.getfield 28, 3) := by decide +kernel
theorem d_JO_keepRowsWith_29 : decode b_JO_keepRowsWith 29 = .ok (.getfield 92, 3) := by decide +kernel
theorem d_JO_keepRowsWith_32 : decode b_JO_keepRowsWith 32 = .ok (.iload 5, 2) := by decide +kernel
theorem d_JO_keepRowsWith_34 : decode b_JO_keepRowsWith 34 = .ok (.aaload, 1) := by decide +kernel
theorem d_JO_keepRowsWith_35 : decode b_JO_keepRowsWith 35 = .ok (.iload_n 2, 1) := by decide +kernel
theorem d_JO_keepRowsWith_36 : decode b_JO_keepRowsWith 36 = .ok (.iload_n 3, 1) := by decide +kernel
theorem d_JO_keepRowsWith_37 : decode b_JO_keepRowsWith 37 = .ok (.invokevirtual 149, 3) := by decide +kernel
theorem d_JO_keepRowsWith_40 : decode b_JO_keepRowsWith 40 = .ok (.istore 6, 2) := by decide +kernel
theorem d_JO_keepRowsWith_42 : decode b_JO_keepRowsWith 42 = .ok (.aload 4, 2) := by decide +kernel
theorem d_JO_keepRowsWith_44 : decode b_JO_keepRowsWith 44 = .ok (.iload 5, 2) := by decide +kernel
theorem d_JO_keepRowsWith_46 : decode b_JO_keepRowsWith 46 = .ok (.aload_n 0, 1) := by decide +kernel
theorem d_JO_keepRowsWith_47 : decode b_JO_keepRowsWith 47 = .ok (.getfield 16, 3) := by decide +kernel
theorem d_JO_keepRowsWith_50 : decode b_JO_keepRowsWith 50 = .ok (.iload_n 1, 1) := by decide +kernel
theorem d_JO_keepRowsWith_51 : decode b_JO_keepRowsWith 51 = .ok (.aaload, 1) := by decide +kernel
theorem d_JO_keepRowsWith_52 : decode b_JO_keepRowsWith 52 = .ok (.iload 5, 2) := by decide +kernel
theorem d_JO_keepRowsWith_54 : decode b_JO_keepRowsWith 54 = .ok (.iaload, 1) := by decide +kernel
theorem d_JO_keepRowsWith_55 : decode b_JO_keepRowsWith 55 = .ok (.iload 6, 2) := by decide +kernel
theorem d_JO_keepRowsWith_57 : decode b_JO_keepRowsWith 57 = .ok (.iand, 1) := by decide +kernel
theorem d_JO_keepRowsWith_58 : decode b_JO_keepRowsWith 58 = .ok (.iastore, 1) := by decide +kernel
theorem d_JO_keepRowsWith_59 : decode b_JO_keepRowsWith 59 = .ok (.iinc 5 1, 3) := by decide +kernel
theorem d_JO_keepRowsWith_62 : decode b_JO_keepRowsWith 62 = .ok (.goto (-49), 3) := by decide +kernel
theorem d_JO_keepRowsWith_65 : decode b_JO_keepRowsWith 65 = .ok (.aload_n 0, 1) := by decide +kernel
theorem d_JO_keepRowsWith_66 : decode b_JO_keepRowsWith 66 = .ok (.aload 4, 2) := by decide +kernel
theorem d_JO_keepRowsWith_68 : decode b_JO_keepRowsWith 68 = .ok (.invokevirtual 39, 3) := by decide +kernel
theorem d_JO_keepRowsWith_71 : decode b_JO_keepRowsWith 71 = .ok (.return_, 1) := by decide +kernel
theorem d_LA_answer_0 : decode b_LA_answer 0 = .ok (.aload_n 3, 1) := by decide +kernel
theorem d_LA_answer_1 : decode b_LA_answer 1 = .ok (.iconst 0, 1) := by decide +kernel
theorem d_LA_answer_2 : decode b_LA_answer 2 = .ok (.aload_n 0, 1) := by decide +kernel
theorem d_LA_answer_3 : decode b_LA_answer 3 = .ok (.iload_n 1, 1) := by decide +kernel
theorem d_LA_answer_4 : decode b_LA_answer 4 = .ok (.iload_n 2, 1) := by decide +kernel
theorem d_LA_answer_5 : decode b_LA_answer 5 = .ok (.invokevirtual 29, 3) := by decide +kernel
theorem d_LA_answer_8 : decode b_LA_answer 8 = .ok (.i2l, 1) := by decide +kernel
theorem d_LA_answer_9 : decode b_LA_answer 9 = .ok (.lastore, 1) := by decide +kernel
theorem d_LA_answer_10 : decode b_LA_answer 10 = .ok (.goto 19, 3) := by decide +kernel
theorem d_LA_answer_13 : decode b_LA_answer 13 = .ok (.astore 4, 2) := by decide +kernel
theorem d_LA_answer_15 : decode b_LA_answer 15 = .ok (.iconst 1, 1) := by decide +kernel
theorem d_LA_answer_16 : decode b_LA_answer 16 = .ok (.ireturn, 1) := by decide +kernel
theorem d_LA_answer_17 : decode b_LA_answer 17 = .ok (.astore 4, 2) := by decide +kernel
theorem d_LA_answer_19 : decode b_LA_answer 19 = .ok (.iconst 2, 1) := by decide +kernel
theorem d_LA_answer_20 : decode b_LA_answer 20 = .ok (.ireturn, 1) := by decide +kernel
theorem d_LA_answer_21 : decode b_LA_answer 21 = .ok (.astore 4, 2) := by decide +kernel
theorem d_LA_answer_23 : decode b_LA_answer 23 = .ok (.iconst 3, 1) := by decide +kernel
theorem d_LA_answer_24 : decode b_LA_answer 24 = .ok (.ireturn, 1) := by decide +kernel
theorem d_LA_answer_25 : decode b_LA_answer 25 = .ok (.astore 4, 2) := by decide +kernel
theorem d_LA_answer_27 : decode b_LA_answer 27 = .ok (.iconst 4, 1) := by decide +kernel
theorem d_LA_answer_28 : decode b_LA_answer 28 = .ok (.ireturn, 1) := by decide +kernel
theorem d_LA_answer_29 : decode b_LA_answer 29 = .ok (.iconst 0, 1) := by decide +kernel
theorem d_LA_answer_30 : decode b_LA_answer 30 = .ok (.ireturn, 1) := by decide +kernel
theorem d_JL_answer_0 : decode b_JL_answer 0 = .ok (.aload_n 0, 1) := by decide +kernel
theorem d_JL_answer_1 : decode b_JL_answer 1 = .ok (.invokevirtual 113, 3) := by decide +kernel
theorem d_JL_answer_4 : decode b_JL_answer 4 = .ok (.iload_n 1, 1) := by decide +kernel
theorem d_JL_answer_5 : decode b_JL_answer 5 = .ok (.aload_n 0, 1) := by decide +kernel
theorem d_JL_answer_6 : decode b_JL_answer 6 = .ok (.getfield 39, 3) := by decide +kernel
theorem d_JL_answer_9 : decode b_JL_answer 9 = .ok (.getfield 116, 3) := by decide +kernel
theorem d_JL_answer_12 : decode b_JL_answer 12 = .ok (.invokestatic 50, 3) := by decide +kernel
theorem d_JL_answer_15 : decode b_JL_answer 15 = .ok (.ifCond .eq 17, 3) := by decide +kernel
theorem d_JL_answer_18 : decode b_JL_answer 18 = .ok (.iload_n 2, 1) := by decide +kernel
theorem d_JL_answer_19 : decode b_JL_answer 19 = .ok (.aload_n 0, 1) := by decide +kernel
theorem d_JL_answer_20 : decode b_JL_answer 20 = .ok (.getfield 21, 3) := by decide +kernel
theorem d_JL_answer_23 : decode b_JL_answer 23 = .ok (.getfield 78, 3) := by decide +kernel
theorem d_JL_answer_26 : decode b_JL_answer 26 = .ok (.invokestatic 50, 3) := by decide +kernel
theorem d_JL_answer_29 : decode b_JL_answer 29 = .ok (.ifCond .ne 13, 3) := by decide +kernel
theorem d_JL_answer_32 : decode b_JL_answer 32 = .ok (.new 102, 3) := by decide +kernel
theorem d_JL_answer_35 : decode b_JL_answer 35 = .ok (.dup, 1) := by decide +kernel
theorem d_JL_answer_36 : decode b_JL_answer 36 = .ok (.ldc 119, 2) := by decide +kernel
theorem d_JL_answer_38 : decode b_JL_answer 38 = .ok (.invokespecial 106, 3) := by decide +kernel
theorem d_JL_answer_41 : decode b_JL_answer 41 = .ok (.athrow, 1) := by decide +kernel
theorem d_JL_answer_42 : decode b_JL_answer 42 = .ok (.aload_n 0, 1) := by decide +kernel
theorem d_JL_answer_43 : decode b_JL_answer 43 = .ok (.getfield 39, 3) := by decide +kernel
theorem d_JL_answer_46 : decode b_JL_answer 46 = .ok (.iload_n 1, 1) := by decide +kernel
theorem d_JL_answer_47 : decode b_JL_answer 47 = .ok (.iload_n 2, 1) := by decide +kernel
theorem d_JL_answer_48 : decode b_JL_answer 48 = .ok (.invokevirtual 121, 3) := by decide +kernel
theorem d_JL_answer_51 : decode b_JL_answer 51 = .ok (.ireturn, 1) := by decide +kernel
theorem d_JO_valueInAnswer_0 : decode b_JO_valueInAnswer 0 = .ok (.aload_n 0, 1) := by decide +kernel
theorem d_JO_valueInAnswer_1 : decode b_JO_valueInAnswer 1 = .ok (.getfield 24, 3) := by decide +kernel
theorem d_JO_valueInAnswer_4 : decode b_JO_valueInAnswer 4 = .ok (.iload_n 1, 1) := by decide +kernel
theorem d_JO_valueInAnswer_5 : decode b_JO_valueInAnswer 5 = .ok (.iaload, 1) := by decide +kernel
theorem d_JO_valueInAnswer_6 : decode b_JO_valueInAnswer 6 = .ok (.iconst 4, 1) := by decide +kernel
theorem d_JO_valueInAnswer_7 : decode b_JO_valueInAnswer 7 = .ok (.aload_n 0, 1) := by decide +kernel
theorem d_JO_valueInAnswer_8 : decode b_JO_valueInAnswer 8 = .ok (.getfield 28, 3) := by decide +kernel
theorem d_JO_valueInAnswer_11 : decode b_JO_valueInAnswer 11 = .ok (.getfield 84, 3) := by decide +kernel
theorem d_JO_valueInAnswer_14 : decode b_JO_valueInAnswer 14 = .ok (.iconst 1, 1) := by decide +kernel
theorem d_JO_valueInAnswer_15 : decode b_JO_valueInAnswer 15 = .ok (.isub, 1) := by decide +kernel
theorem d_JO_valueInAnswer_16 : decode b_JO_valueInAnswer 16 = .ok (.iload_n 2, 1) := by decide +kernel
theorem d_JO_valueInAnswer_17 : decode b_JO_valueInAnswer 17 = .ok (.isub, 1) := by decide +kernel
theorem d_JO_valueInAnswer_18 : decode b_JO_valueInAnswer 18 = .ok (.imul, 1) := by decide +kernel
theorem d_JO_valueInAnswer_19 : decode b_JO_valueInAnswer 19 = .ok (.ishr, 1) := by decide +kernel
theorem d_JO_valueInAnswer_20 : decode b_JO_valueInAnswer 20 = .ok (.bipush 15, 2) := by decide +kernel
theorem d_JO_valueInAnswer_22 : decode b_JO_valueInAnswer 22 = .ok (.iand, 1) := by decide +kernel
theorem d_JO_valueInAnswer_23 : decode b_JO_valueInAnswer 23 = .ok (.ireturn, 1) := by decide +kernel
theorem d_MO_init_0 : decode b_MO_init 0 = .ok (.aload_n 0, 1) := by decide +kernel
theorem d_MO_init_1 : decode b_MO_init 1 = .ok (.invokespecial 1, 3) := by decide +kernel
theorem d_MO_init_4 : decode b_MO_init 4 = .ok (.aload_n 0, 1) := by decide +kernel
theorem d_MO_init_5 : decode b_MO_init 5 = .ok (.bipush 6, 2) := by decide +kernel
theorem d_MO_init_7 : decode b_MO_init 7 = .ok (.newarray .int, 2) := by decide +kernel
theorem d_MO_init_9 : decode b_MO_init 9 = .ok (.putfield 7, 3) := by decide +kernel
theorem d_MO_init_12 : decode b_MO_init 12 = .ok (.aload_n 0, 1) := by decide +kernel
theorem d_MO_init_13 : decode b_MO_init 13 = .ok (.bipush 6, 2) := by decide +kernel
theorem d_MO_init_15 : decode b_MO_init 15 = .ok (.newarray .int, 2) := by decide +kernel
theorem d_MO_init_17 : decode b_MO_init 17 = .ok (.putfield 13, 3) := by decide +kernel
theorem d_MO_init_20 : decode b_MO_init 20 = .ok (.aload_n 0, 1) := by decide +kernel
theorem d_MO_init_21 : decode b_MO_init 21 = .ok (.sipush 216, 3) := by decide +kernel
theorem d_MO_init_24 : decode b_MO_init 24 = .ok (.newarray .int, 2) := by decide +kernel
theorem d_MO_init_26 : decode b_MO_init 26 = .ok (.putfield 16, 3) := by decide +kernel
theorem d_MO_init_29 : decode b_MO_init 29 = .ok (.aload_n 0, 1) := by decide +kernel
theorem d_MO_init_30 : decode b_MO_init 30 = .ok (.bipush 6, 2) := by decide +kernel
theorem d_MO_init_32 : decode b_MO_init 32 = .ok (.newarray .int, 2) := by decide +kernel
theorem d_MO_init_34 : decode b_MO_init 34 = .ok (.putfield 19, 3) := by decide +kernel
theorem d_MO_init_37 : decode b_MO_init 37 = .ok (.aload_n 0, 1) := by decide +kernel
theorem d_MO_init_38 : decode b_MO_init 38 = .ok (.bipush 18, 2) := by decide +kernel
theorem d_MO_init_40 : decode b_MO_init 40 = .ok (.newarray .int, 2) := by decide +kernel
theorem d_MO_init_42 : decode b_MO_init 42 = .ok (.putfield 22, 3) := by decide +kernel
theorem d_MO_init_45 : decode b_MO_init 45 = .ok (.aload_n 0, 1) := by decide +kernel
theorem d_MO_init_46 : decode b_MO_init 46 = .ok (.iconst 4, 1) := by decide +kernel
theorem d_MO_init_47 : decode b_MO_init 47 = .ok (.newarray .int, 2) := by decide +kernel
theorem d_MO_init_49 : decode b_MO_init 49 = .ok (.putfield 25, 3) := by decide +kernel
theorem d_MO_init_52 : decode b_MO_init 52 = .ok (.aload_n 0, 1) := by decide +kernel
theorem d_MO_init_53 : decode b_MO_init 53 = .ok (.bipush 6, 2) := by decide +kernel
theorem d_MO_init_55 : decode b_MO_init 55 = .ok (.newarray .int, 2) := by decide +kernel
theorem d_MO_init_57 : decode b_MO_init 57 = .ok (.putfield 28, 3) := by decide +kernel
theorem d_MO_init_60 : decode b_MO_init 60 = .ok (.aload_n 0, 1) := by decide +kernel
theorem d_MO_init_61 : decode b_MO_init 61 = .ok (.bipush 6, 2) := by decide +kernel
theorem d_MO_init_63 : decode b_MO_init 63 = .ok (.newarray .int, 2) := by decide +kernel
theorem d_MO_init_65 : decode b_MO_init 65 = .ok (.putfield 31, 3) := by decide +kernel
theorem d_MO_init_68 : decode b_MO_init 68 = .ok (.aload_n 0, 1) := by decide +kernel
theorem d_MO_init_69 : decode b_MO_init 69 = .ok (.bipush 8, 2) := by decide +kernel
theorem d_MO_init_71 : decode b_MO_init 71 = .ok (.newarray .int, 2) := by decide +kernel
theorem d_MO_init_73 : decode b_MO_init 73 = .ok (.putfield 34, 3) := by decide +kernel
theorem d_MO_init_76 : decode b_MO_init 76 = .ok (.aload_n 0, 1) := by decide +kernel
theorem d_MO_init_77 : decode b_MO_init 77 = .ok (.bipush 7, 2) := by decide +kernel
theorem d_MO_init_79 : decode b_MO_init 79 = .ok (.newarray .int, 2) := by decide +kernel
theorem d_MO_init_81 : decode b_MO_init 81 = .ok (.putfield 37, 3) := by decide +kernel
theorem d_MO_init_84 : decode b_MO_init 84 = .ok (.aload_n 0, 1) := by decide +kernel
theorem d_MO_init_85 : decode b_MO_init 85 = .ok (.bipush 6, 2) := by decide +kernel
theorem d_MO_init_87 : decode b_MO_init 87 = .ok (.newarray .int, 2) := by decide +kernel
theorem d_MO_init_89 : decode b_MO_init 89 = .ok (.putfield 40, 3) := by decide +kernel
theorem d_MO_init_92 : decode b_MO_init 92 = .ok (.aload_n 0, 1) := by decide +kernel
theorem d_MO_init_93 : decode b_MO_init 93 = .ok (.sipush 2048, 3) := by decide +kernel
theorem d_MO_init_96 : decode b_MO_init 96 = .ok (.newarray .int, 2) := by decide +kernel
theorem d_MO_init_98 : decode b_MO_init 98 = .ok (.putfield 43, 3) := by decide +kernel
theorem d_MO_init_101 : decode b_MO_init 101 = .ok (.aload_n 0, 1) := by decide +kernel
theorem d_MO_init_102 : decode b_MO_init 102 = .ok (.bipush 64, 2) := by decide +kernel
theorem d_MO_init_104 : decode b_MO_init 104 = .ok (.newarray .int, 2) := by decide +kernel
theorem d_MO_init_106 : decode b_MO_init 106 = .ok (.putfield 46, 3) := by decide +kernel
theorem d_MO_init_109 : decode b_MO_init 109 = .ok (.return_, 1) := by decide +kernel
theorem d_MO_thrown_0 : decode b_MO_thrown 0 = .ok (.aload_n 0, 1) := by decide +kernel
theorem d_MO_thrown_1 : decode b_MO_thrown 1 = .ok (.getfield 49, 3) := by decide +kernel
theorem d_MO_thrown_4 : decode b_MO_thrown 4 = .ok (.ireturn, 1) := by decide +kernel
theorem d_MO_relation_0 : decode b_MO_relation 0 = .ok (.aload_n 0, 1) := by decide +kernel
theorem d_MO_relation_1 : decode b_MO_relation 1 = .ok (.iconst 0, 1) := by decide +kernel
theorem d_MO_relation_2 : decode b_MO_relation 2 = .ok (.putfield 49, 3) := by decide +kernel
theorem d_MO_relation_5 : decode b_MO_relation 5 = .ok (.iload_n 1, 1) := by decide +kernel
theorem d_MO_relation_6 : decode b_MO_relation 6 = .ok (.iconst 1, 1) := by decide +kernel
theorem d_MO_relation_7 : decode b_MO_relation 7 = .ok (.if_icmp .lt 17, 3) := by decide +kernel
theorem d_MO_relation_10 : decode b_MO_relation 10 = .ok (.iload_n 1, 1) := by decide +kernel
theorem d_MO_relation_11 : decode b_MO_relation 11 = .ok (.iconst 3, 1) := by decide +kernel
theorem d_MO_relation_12 : decode b_MO_relation 12 = .ok (.if_icmp .gt 12, 3) := by decide +kernel
theorem d_MO_relation_15 : decode b_MO_relation 15 = .ok (.aload_n 0, 1) := by decide +kernel
theorem d_MO_relation_16 : decode b_MO_relation 16 = .ok (.getfield 53, 3) := by decide +kernel
theorem d_MO_relation_19 : decode b_MO_relation 19 = .ok (.bipush 6, 2) := by decide +kernel
theorem d_MO_relation_21 : decode b_MO_relation 21 = .ok (.if_icmp .ne 5, 3) := by decide +kernel
theorem d_MO_relation_24 : decode b_MO_relation 24 = .ok (.iconst (-1), 1) := by decide +kernel
theorem d_MO_relation_25 : decode b_MO_relation 25 = .ok (.ireturn, 1) := by decide +kernel
theorem d_MO_relation_26 : decode b_MO_relation 26 = .ok (.aload_n 0, 1) := by decide +kernel
theorem d_MO_relation_27 : decode b_MO_relation 27 = .ok (.getfield 7, 3) := by decide +kernel
theorem d_MO_relation_30 : decode b_MO_relation 30 = .ok (.aload_n 0, 1) := by decide +kernel
theorem d_MO_relation_31 : decode b_MO_relation 31 = .ok (.getfield 53, 3) := by decide +kernel
theorem d_MO_relation_34 : decode b_MO_relation 34 = .ok (.iload_n 1, 1) := by decide +kernel
theorem d_MO_relation_35 : decode b_MO_relation 35 = .ok (.iastore, 1) := by decide +kernel
theorem d_MO_relation_36 : decode b_MO_relation 36 = .ok (.aload_n 0, 1) := by decide +kernel
theorem d_MO_relation_37 : decode b_MO_relation 37 = .ok (.aload_n 0, 1) := by decide +kernel
theorem d_MO_relation_38 : decode b_MO_relation 38 = .ok (.getfield 53, 3) := by decide +kernel
theorem d_MO_relation_41 : decode b_MO_relation 41 = .ok (.iconst 1, 1) := by decide +kernel
theorem d_MO_relation_42 : decode b_MO_relation 42 = .ok (.iadd, 1) := by decide +kernel
theorem d_MO_relation_43 : decode b_MO_relation 43 = .ok (.putfield 53, 3) := by decide +kernel
theorem d_MO_relation_46 : decode b_MO_relation 46 = .ok (.aload_n 0, 1) := by decide +kernel
theorem d_MO_relation_47 : decode b_MO_relation 47 = .ok (.getfield 53, 3) := by decide +kernel
theorem d_MO_relation_50 : decode b_MO_relation 50 = .ok (.iconst 1, 1) := by decide +kernel
theorem d_MO_relation_51 : decode b_MO_relation 51 = .ok (.isub, 1) := by decide +kernel
theorem d_MO_relation_52 : decode b_MO_relation 52 = .ok (.ireturn, 1) := by decide +kernel
theorem d_MO_add_0 : decode b_MO_add 0 = .ok (.aload_n 0, 1) := by decide +kernel
theorem d_MO_add_1 : decode b_MO_add 1 = .ok (.iconst 0, 1) := by decide +kernel
theorem d_MO_add_2 : decode b_MO_add 2 = .ok (.putfield 49, 3) := by decide +kernel
theorem d_MO_add_5 : decode b_MO_add 5 = .ok (.aload_n 0, 1) := by decide +kernel
theorem d_MO_add_6 : decode b_MO_add 6 = .ok (.iload_n 1, 1) := by decide +kernel
theorem d_MO_add_7 : decode b_MO_add 7 = .ok (.invokevirtual 63, 3) := by decide +kernel
theorem d_MO_add_10 : decode b_MO_add 10 = .ok (.ifCond .eq 26, 3) := by decide +kernel
theorem d_MO_add_13 : decode b_MO_add 13 = .ok (.aload_n 0, 1) := by decide +kernel
theorem d_MO_add_14 : decode b_MO_add 14 = .ok (.getfield 13, 3) := by decide +kernel
theorem d_MO_add_17 : decode b_MO_add 17 = .ok (.iload_n 1, 1) := by decide +kernel
theorem d_MO_add_18 : decode b_MO_add 18 = .ok (.iaload, 1) := by decide +kernel
theorem d_MO_add_19 : decode b_MO_add 19 = .ok (.bipush 12, 2) := by decide +kernel
theorem d_MO_add_21 : decode b_MO_add 21 = .ok (.if_icmp .eq 15, 3) := by decide +kernel
theorem d_MO_add_24 : decode b_MO_add 24 = .ok (.aload_n 0, 1) := by decide +kernel
theorem d_MO_add_25 : decode b_MO_add 25 = .ok (.iload_n 1, 1) := by decide +kernel
theorem d_MO_add_26 : decode b_MO_add 26 = .ok (.iload_n 2, 1) := by decide +kernel
theorem d_MO_add_27 : decode b_MO_add 27 = .ok (.iload_n 3, 1) := by decide +kernel
theorem d_MO_add_28 : decode b_MO_add 28 = .ok (.iload 4, 2) := by decide +kernel
theorem d_MO_add_30 : decode b_MO_add 30 = .ok (.invokevirtual 67, 3) := by decide +kernel
theorem d_MO_add_33 : decode b_MO_add 33 = .ok (.ifCond .lt 5, 3) := by decide +kernel
theorem d_MO_add_36 : decode b_MO_add 36 = .ok (.iconst 0, 1) := by decide +kernel
theorem d_MO_add_37 : decode b_MO_add 37 = .ok (.ireturn, 1) := by decide +kernel
theorem d_MO_add_38 : decode b_MO_add 38 = .ok (.iconst 1, 1) := by decide +kernel
theorem d_MO_add_39 : decode b_MO_add 39 = .ok (.istore 5, 2) := by decide +kernel
theorem d_MO_add_41 : decode b_MO_add 41 = .ok (.iconst 0, 1) := by decide +kernel
theorem d_MO_add_42 : decode b_MO_add 42 = .ok (.istore 6, 2) := by decide +kernel
theorem d_MO_add_44 : decode b_MO_add 44 = .ok (.iload 6, 2) := by decide +kernel
theorem d_MO_add_46 : decode b_MO_add 46 = .ok (.aload_n 0, 1) := by decide +kernel
theorem d_MO_add_47 : decode b_MO_add 47 = .ok (.getfield 7, 3) := by decide +kernel
theorem d_MO_add_50 : decode b_MO_add 50 = .ok (.iload_n 1, 1) := by decide +kernel
theorem d_MO_add_51 : decode b_MO_add 51 = .ok (.iaload, 1) := by decide +kernel
theorem d_MO_add_52 : decode b_MO_add 52 = .ok (.if_icmp .ge 44, 3) := by decide +kernel
theorem d_MO_add_55 : decode b_MO_add 55 = .ok (.iload 6, 2) := by decide +kernel
theorem d_MO_add_57 : decode b_MO_add 57 = .ok (.iload_n 2, 1) := by decide +kernel
theorem d_MO_add_58 : decode b_MO_add 58 = .ok (.iload_n 3, 1) := by decide +kernel
theorem d_MO_add_59 : decode b_MO_add 59 = .ok (.iload 4, 2) := by decide +kernel
theorem d_MO_add_61 : decode b_MO_add 61 = .ok (.invokestatic 59, 3) := by decide +kernel
theorem d_MO_add_64 : decode b_MO_add 64 = .ok (.istore 7, 2) := by decide +kernel
theorem d_MO_add_66 : decode b_MO_add 66 = .ok (.iload 5, 2) := by decide +kernel
theorem d_MO_add_68 : decode b_MO_add 68 = .ok (.ifCond .eq 19, 3) := by decide +kernel
theorem d_MO_add_71 : decode b_MO_add 71 = .ok (.iload 7, 2) := by decide +kernel
theorem d_MO_add_73 : decode b_MO_add 73 = .ok (.ifCond .lt 14, 3) := by decide +kernel
theorem d_MO_add_76 : decode b_MO_add 76 = .ok (.iload 7, 2) := by decide +kernel
theorem d_MO_add_78 : decode b_MO_add 78 = .ok (.bipush 16, 2) := by decide +kernel
theorem d_MO_add_80 : decode b_MO_add 80 = .ok (.if_icmp .ge 7, 3) := by decide +kernel
theorem d_MO_add_83 : decode b_MO_add 83 = .ok (.iconst 1, 1) := by decide +kernel
theorem d_MO_add_84 : decode b_MO_add 84 = .ok (.goto 4, 3) := by decide +kernel
theorem d_MO_add_87 : decode b_MO_add 87 = .ok (.iconst 0, 1) := by decide +kernel
theorem d_MO_add_88 : decode b_MO_add 88 = .ok (.istore 5, 2) := by decide +kernel
theorem d_MO_add_90 : decode b_MO_add 90 = .ok (.iinc 6 1, 3) := by decide +kernel
theorem d_MO_add_93 : decode b_MO_add 93 = .ok (.goto (-49), 3) := by decide +kernel
theorem d_MO_add_96 : decode b_MO_add 96 = .ok (.iload 5, 2) := by decide +kernel
theorem d_MO_add_98 : decode b_MO_add 98 = .ok (.ifCond .ne 5, 3) := by decide +kernel
theorem d_MO_add_101 : decode b_MO_add 101 = .ok (.iconst 0, 1) := by decide +kernel
theorem d_MO_add_102 : decode b_MO_add 102 = .ok (.ireturn, 1) := by decide +kernel
theorem d_MO_add_103 : decode b_MO_add 103 = .ok (.iconst 0, 1) := by decide +kernel
theorem d_MO_add_104 : decode b_MO_add 104 = .ok (.istore 6, 2) := by decide +kernel
theorem d_MO_add_106 : decode b_MO_add 106 = .ok (.iload 6, 2) := by decide +kernel
theorem d_MO_add_108 : decode b_MO_add 108 = .ok (.aload_n 0, 1) := by decide +kernel
theorem d_MO_add_109 : decode b_MO_add 109 = .ok (.getfield 7, 3) := by decide +kernel
theorem d_MO_add_112 : decode b_MO_add 112 = .ok (.iload_n 1, 1) := by decide +kernel
theorem d_MO_add_113 : decode b_MO_add 113 = .ok (.iaload, 1) := by decide +kernel
theorem d_MO_add_114 : decode b_MO_add 114 = .ok (.if_icmp .ge 39, 3) := by decide +kernel
theorem d_MO_add_117 : decode b_MO_add 117 = .ok (.aload_n 0, 1) := by decide +kernel
theorem d_MO_add_118 : decode b_MO_add 118 = .ok (.getfield 16, 3) := by decide +kernel
theorem d_MO_add_121 : decode b_MO_add 121 = .ok (.bipush 36, 2) := by decide +kernel
theorem d_MO_add_123 : decode b_MO_add 123 = .ok (.iload_n 1, 1) := by decide +kernel
theorem d_MO_add_124 : decode b_MO_add 124 = .ok (.imul, 1) := by decide +kernel
theorem d_MO_add_125 : decode b_MO_add 125 = .ok (.iconst 3, 1) := by decide +kernel
theorem d_MO_add_126 : decode b_MO_add 126 = .ok (.aload_n 0, 1) := by decide +kernel
theorem d_MO_add_127 : decode b_MO_add 127 = .ok (.getfield 13, 3) := by decide +kernel
theorem d_MO_add_130 : decode b_MO_add 130 = .ok (.iload_n 1, 1) := by decide +kernel
theorem d_MO_add_131 : decode b_MO_add 131 = .ok (.iaload, 1) := by decide +kernel
theorem d_MO_add_132 : decode b_MO_add 132 = .ok (.imul, 1) := by decide +kernel
theorem d_MO_add_133 : decode b_MO_add 133 = .ok (.iadd, 1) := by decide +kernel
theorem d_MO_add_134 : decode b_MO_add 134 = .ok (.iload 6, 2) := by decide +kernel
theorem d_MO_add_136 : decode b_MO_add 136 = .ok (.iadd, 1) := by decide +kernel
theorem d_MO_add_137 : decode b_MO_add 137 = .ok (.iload 6, 2) := by decide +kernel
theorem d_MO_add_139 : decode b_MO_add 139 = .ok (.iload_n 2, 1) := by decide +kernel
theorem d_MO_add_140 : decode b_MO_add 140 = .ok (.iload_n 3, 1) := by decide +kernel
theorem d_MO_add_141 : decode b_MO_add 141 = .ok (.iload 4, 2) := by decide +kernel
theorem d_MO_add_143 : decode b_MO_add 143 = .ok (.invokestatic 59, 3) := by decide +kernel
theorem d_MO_add_146 : decode b_MO_add 146 = .ok (.iastore, 1) := by decide +kernel
theorem d_MO_add_147 : decode b_MO_add 147 = .ok (.iinc 6 1, 3) := by decide +kernel
theorem d_MO_add_150 : decode b_MO_add 150 = .ok (.goto (-44), 3) := by decide +kernel
theorem d_MO_add_153 : decode b_MO_add 153 = .ok (.aload_n 0, 1) := by decide +kernel
theorem d_MO_add_154 : decode b_MO_add 154 = .ok (.getfield 13, 3) := by decide +kernel
theorem d_MO_add_157 : decode b_MO_add 157 = .ok (.iload_n 1, 1) := by decide +kernel
theorem d_MO_add_158 : decode b_MO_add 158 = .ok (.aload_n 0, 1) := by decide +kernel
theorem d_MO_add_159 : decode b_MO_add 159 = .ok (.getfield 13, 3) := by decide +kernel
theorem d_MO_add_162 : decode b_MO_add 162 = .ok (.iload_n 1, 1) := by decide +kernel
theorem d_MO_add_163 : decode b_MO_add 163 = .ok (.iaload, 1) := by decide +kernel
theorem d_MO_add_164 : decode b_MO_add 164 = .ok (.iconst 1, 1) := by decide +kernel
theorem d_MO_add_165 : decode b_MO_add 165 = .ok (.iadd, 1) := by decide +kernel
theorem d_MO_add_166 : decode b_MO_add 166 = .ok (.iastore, 1) := by decide +kernel
theorem d_MO_add_167 : decode b_MO_add 167 = .ok (.aload_n 0, 1) := by decide +kernel
theorem d_MO_add_168 : decode b_MO_add 168 = .ok (.iconst 0, 1) := by decide +kernel
theorem d_MO_add_169 : decode b_MO_add 169 = .ok (.putfield 70, 3) := by decide +kernel
theorem d_MO_add_172 : decode b_MO_add 172 = .ok (.iconst 1, 1) := by decide +kernel
theorem d_MO_add_173 : decode b_MO_add 173 = .ok (.ireturn, 1) := by decide +kernel
theorem d_MO_isRelation_0 : decode b_MO_isRelation 0 = .ok (.iload_n 1, 1) := by decide +kernel
theorem d_MO_isRelation_1 : decode b_MO_isRelation 1 = .ok (.ifCond .lt 15, 3) := by decide +kernel
theorem d_MO_isRelation_4 : decode b_MO_isRelation 4 = .ok (.iload_n 1, 1) := by decide +kernel
theorem d_MO_isRelation_5 : decode b_MO_isRelation 5 = .ok (.aload_n 0, 1) := by decide +kernel
theorem d_MO_isRelation_6 : decode b_MO_isRelation 6 = .ok (.getfield 53, 3) := by decide +kernel
theorem d_MO_isRelation_9 : decode b_MO_isRelation 9 = .ok (.if_icmp .ge 7, 3) := by decide +kernel
theorem d_MO_isRelation_12 : decode b_MO_isRelation 12 = .ok (.iconst 1, 1) := by decide +kernel
theorem d_MO_isRelation_13 : decode b_MO_isRelation 13 = .ok (.goto 4, 3) := by decide +kernel
theorem d_MO_isRelation_16 : decode b_MO_isRelation 16 = .ok (.iconst 0, 1) := by decide +kernel
theorem d_MO_isRelation_17 : decode b_MO_isRelation 17 = .ok (.ireturn, 1) := by decide +kernel
theorem d_MO_placeOf_0 : decode b_MO_placeOf 0 = .ok (.iconst (-1), 1) := by decide +kernel
theorem d_MO_placeOf_1 : decode b_MO_placeOf 1 = .ok (.istore 5, 2) := by decide +kernel
theorem d_MO_placeOf_3 : decode b_MO_placeOf 3 = .ok (.iconst 0, 1) := by decide +kernel
theorem d_MO_placeOf_4 : decode b_MO_placeOf 4 = .ok (.istore 6, 2) := by decide +kernel
theorem d_MO_placeOf_6 : decode b_MO_placeOf 6 = .ok (.iload 6, 2) := by decide +kernel
theorem d_MO_placeOf_8 : decode b_MO_placeOf 8 = .ok (.aload_n 0, 1) := by decide +kernel
theorem d_MO_placeOf_9 : decode b_MO_placeOf 9 = .ok (.getfield 13, 3) := by decide +kernel
theorem d_MO_placeOf_12 : decode b_MO_placeOf 12 = .ok (.iload_n 1, 1) := by decide +kernel
theorem d_MO_placeOf_13 : decode b_MO_placeOf 13 = .ok (.iaload, 1) := by decide +kernel
theorem d_MO_placeOf_14 : decode b_MO_placeOf 14 = .ok (.if_icmp .ge 87, 3) := by decide +kernel
theorem d_MO_placeOf_17 : decode b_MO_placeOf 17 = .ok (.iconst 1, 1) := by decide +kernel
theorem d_MO_placeOf_18 : decode b_MO_placeOf 18 = .ok (.istore 7, 2) := by decide +kernel
theorem d_MO_placeOf_20 : decode b_MO_placeOf 20 = .ok (.iconst 0, 1) := by decide +kernel
theorem d_MO_placeOf_21 : decode b_MO_placeOf 21 = .ok (.istore 8, 2) := by decide +kernel
theorem d_MO_placeOf_23 : decode b_MO_placeOf 23 = .ok (.iload 8, 2) := by decide +kernel
theorem d_MO_placeOf_25 : decode b_MO_placeOf 25 = .ok (.aload_n 0, 1) := by decide +kernel
theorem d_MO_placeOf_26 : decode b_MO_placeOf 26 = .ok (.getfield 7, 3) := by decide +kernel
theorem d_MO_placeOf_29 : decode b_MO_placeOf 29 = .ok (.iload_n 1, 1) := by decide +kernel
theorem d_MO_placeOf_30 : decode b_MO_placeOf 30 = .ok (.iaload, 1) := by decide +kernel
theorem d_MO_placeOf_31 : decode b_MO_placeOf 31 = .ok (.if_icmp .ge 50, 3) := by decide +kernel
theorem d_MO_placeOf_34 : decode b_MO_placeOf 34 = .ok (.iload 7, 2) := by decide +kernel
theorem d_MO_placeOf_36 : decode b_MO_placeOf 36 = .ok (.ifCond .eq 36, 3) := by decide +kernel
theorem d_MO_placeOf_39 : decode b_MO_placeOf 39 = .ok (.aload_n 0, 1) := by decide +kernel
theorem d_MO_placeOf_40 : decode b_MO_placeOf 40 = .ok (.getfield 16, 3) := by decide +kernel
theorem d_MO_placeOf_43 : decode b_MO_placeOf 43 = .ok (.bipush 36, 2) := by decide +kernel
theorem d_MO_placeOf_45 : decode b_MO_placeOf 45 = .ok (.iload_n 1, 1) := by decide +kernel
theorem d_MO_placeOf_46 : decode b_MO_placeOf 46 = .ok (.imul, 1) := by decide +kernel
theorem d_MO_placeOf_47 : decode b_MO_placeOf 47 = .ok (.iconst 3, 1) := by decide +kernel
theorem d_MO_placeOf_48 : decode b_MO_placeOf 48 = .ok (.iload 6, 2) := by decide +kernel
theorem d_MO_placeOf_50 : decode b_MO_placeOf 50 = .ok (.imul, 1) := by decide +kernel
theorem d_MO_placeOf_51 : decode b_MO_placeOf 51 = .ok (.iadd, 1) := by decide +kernel
theorem d_MO_placeOf_52 : decode b_MO_placeOf 52 = .ok (.iload 8, 2) := by decide +kernel
theorem d_MO_placeOf_54 : decode b_MO_placeOf 54 = .ok (.iadd, 1) := by decide +kernel
theorem d_MO_placeOf_55 : decode b_MO_placeOf 55 = .ok (.iaload, 1) := by decide +kernel
theorem d_MO_placeOf_56 : decode b_MO_placeOf 56 = .ok (.iload 8, 2) := by decide +kernel
theorem d_MO_placeOf_58 : decode b_MO_placeOf 58 = .ok (.iload_n 2, 1) := by decide +kernel
theorem d_MO_placeOf_59 : decode b_MO_placeOf 59 = .ok (.iload_n 3, 1) := by decide +kernel
theorem d_MO_placeOf_60 : decode b_MO_placeOf 60 = .ok (.iload 4, 2) := by decide +kernel
theorem d_MO_placeOf_62 : decode b_MO_placeOf 62 = .ok (.invokestatic 59, 3) := by decide +kernel
theorem d_MO_placeOf_65 : decode b_MO_placeOf 65 = .ok (.if_icmp .ne 7, 3) := by decide +kernel
theorem d_MO_placeOf_68 : decode b_MO_placeOf 68 = .ok (.iconst 1, 1) := by decide +kernel
theorem d_MO_placeOf_69 : decode b_MO_placeOf 69 = .ok (.goto 4, 3) := by decide +kernel
theorem d_MO_placeOf_72 : decode b_MO_placeOf 72 = .ok (.iconst 0, 1) := by decide +kernel
theorem d_MO_placeOf_73 : decode b_MO_placeOf 73 = .ok (.istore 7, 2) := by decide +kernel
theorem d_MO_placeOf_75 : decode b_MO_placeOf 75 = .ok (.iinc 8 1, 3) := by decide +kernel
theorem d_MO_placeOf_78 : decode b_MO_placeOf 78 = .ok (.goto (-55), 3) := by decide +kernel
theorem d_MO_placeOf_81 : decode b_MO_placeOf 81 = .ok (.iload 7, 2) := by decide +kernel
theorem d_MO_placeOf_83 : decode b_MO_placeOf 83 = .ok (.ifCond .eq 8, 3) := by decide +kernel
theorem d_MO_placeOf_86 : decode b_MO_placeOf 86 = .ok (.iload 6, 2) := by decide +kernel
theorem d_MO_placeOf_88 : decode b_MO_placeOf 88 = .ok (.goto 5, 3) := by decide +kernel
theorem d_MO_placeOf_91 : decode b_MO_placeOf 91 = .ok (.iload 5, 2) := by decide +kernel
theorem d_MO_placeOf_93 : decode b_MO_placeOf 93 = .ok (.istore 5, 2) := by decide +kernel
theorem d_MO_placeOf_95 : decode b_MO_placeOf 95 = .ok (.iinc 6 1, 3) := by decide +kernel
theorem d_MO_placeOf_98 : decode b_MO_placeOf 98 = .ok (.goto (-92), 3) := by decide +kernel
theorem d_MO_placeOf_101 : decode b_MO_placeOf 101 = .ok (.iload 5, 2) := by decide +kernel
theorem d_MO_placeOf_103 : decode b_MO_placeOf 103 = .ok (.ireturn, 1) := by decide +kernel
theorem d_MO_pick_0 : decode b_MO_pick 0 = .ok (.iload_n 0, 1) := by decide +kernel
theorem d_MO_pick_1 : decode b_MO_pick 1 = .ok (.ifCond .ne 7, 3) := by decide +kernel
theorem d_MO_pick_4 : decode b_MO_pick 4 = .ok (.iload_n 1, 1) := by decide +kernel
theorem d_MO_pick_5 : decode b_MO_pick 5 = .ok (.goto 13, 3) := by decide +kernel
theorem d_MO_pick_8 : decode b_MO_pick 8 = .ok (.iload_n 0, 1) := by decide +kernel
theorem d_MO_pick_9 : decode b_MO_pick 9 = .ok (.iconst 1, 1) := by decide +kernel
theorem d_MO_pick_10 : decode b_MO_pick 10 = .ok (.if_icmp .ne 7, 3) := by decide +kernel
theorem d_MO_pick_13 : decode b_MO_pick 13 = .ok (.iload_n 2, 1) := by decide +kernel
theorem d_MO_pick_14 : decode b_MO_pick 14 = .ok (.goto 4, 3) := by decide +kernel
theorem d_MO_pick_17 : decode b_MO_pick 17 = .ok (.iload_n 3, 1) := by decide +kernel
theorem d_MO_pick_18 : decode b_MO_pick 18 = .ok (.ireturn, 1) := by decide +kernel
theorem d_MO_drop_0 : decode b_MO_drop 0 = .ok (.aload_n 0, 1) := by decide +kernel
theorem d_MO_drop_1 : decode b_MO_drop 1 = .ok (.iconst 0, 1) := by decide +kernel
theorem d_MO_drop_2 : decode b_MO_drop 2 = .ok (.putfield 49, 3) := by decide +kernel
theorem d_MO_drop_5 : decode b_MO_drop 5 = .ok (.aload_n 0, 1) := by decide +kernel
theorem d_MO_drop_6 : decode b_MO_drop 6 = .ok (.iload_n 1, 1) := by decide +kernel
theorem d_MO_drop_7 : decode b_MO_drop 7 = .ok (.invokevirtual 63, 3) := by decide +kernel
theorem d_MO_drop_10 : decode b_MO_drop 10 = .ok (.ifCond .eq 15, 3) := by decide +kernel
theorem d_MO_drop_13 : decode b_MO_drop 13 = .ok (.aload_n 0, 1) := by decide +kernel
theorem d_MO_drop_14 : decode b_MO_drop 14 = .ok (.iload_n 1, 1) := by decide +kernel
theorem d_MO_drop_15 : decode b_MO_drop 15 = .ok (.iload_n 2, 1) := by decide +kernel
theorem d_MO_drop_16 : decode b_MO_drop 16 = .ok (.iload_n 3, 1) := by decide +kernel
theorem d_MO_drop_17 : decode b_MO_drop 17 = .ok (.iload 4, 2) := by decide +kernel
theorem d_MO_drop_19 : decode b_MO_drop 19 = .ok (.invokevirtual 67, 3) := by decide +kernel
theorem d_MO_drop_22 : decode b_MO_drop 22 = .ok (.goto 4, 3) := by decide +kernel
theorem d_MO_drop_25 : decode b_MO_drop 25 = .ok (.iconst (-1), 1) := by decide +kernel
theorem d_MO_drop_26 : decode b_MO_drop 26 = .ok (.istore 5, 2) := by decide +kernel
theorem d_MO_drop_28 : decode b_MO_drop 28 = .ok (.iload 5, 2) := by decide +kernel
theorem d_MO_drop_30 : decode b_MO_drop 30 = .ok (.ifCond .ge 5, 3) := by decide +kernel
theorem d_MO_drop_33 : decode b_MO_drop 33 = .ok (.iconst 0, 1) := by decide +kernel
theorem d_MO_drop_34 : decode b_MO_drop 34 = .ok (.ireturn, 1) := by decide +kernel
theorem d_MO_drop_35 : decode b_MO_drop 35 = .ok (.aload_n 0, 1) := by decide +kernel
theorem d_MO_drop_36 : decode b_MO_drop 36 = .ok (.getfield 13, 3) := by decide +kernel
theorem d_MO_drop_39 : decode b_MO_drop 39 = .ok (.iload_n 1, 1) := by decide +kernel
theorem d_MO_drop_40 : decode b_MO_drop 40 = .ok (.aload_n 0, 1) := by decide +kernel
theorem d_MO_drop_41 : decode b_MO_drop 41 = .ok (.getfield 13, 3) := by decide +kernel
theorem d_MO_drop_44 : decode b_MO_drop 44 = .ok (.iload_n 1, 1) := by decide +kernel
theorem d_MO_drop_45 : decode b_MO_drop 45 = .ok (.iaload, 1) := by decide +kernel
theorem d_MO_drop_46 : decode b_MO_drop 46 = .ok (.iconst 1, 1) := by decide +kernel
theorem d_MO_drop_47 : decode b_MO_drop 47 = .ok (.isub, 1) := by decide +kernel
theorem d_MO_drop_48 : decode b_MO_drop 48 = .ok (.iastore, 1) := by decide +kernel
theorem d_MO_drop_49 : decode b_MO_drop 49 = .ok (.iconst 0, 1) := by decide +kernel
theorem d_MO_drop_50 : decode b_MO_drop 50 = .ok (.istore 6, 2) := by decide +kernel
theorem d_MO_drop_52 : decode b_MO_drop 52 = .ok (.iload 6, 2) := by decide +kernel
theorem d_MO_drop_54 : decode b_MO_drop 54 = .ok (.iconst 3, 1) := by decide +kernel
theorem d_MO_drop_55 : decode b_MO_drop 55 = .ok (.if_icmp .ge 47, 3) := by decide +kernel
theorem d_MO_drop_58 : decode b_MO_drop 58 = .ok (.aload_n 0, 1) := by decide +kernel
theorem d_MO_drop_59 : decode b_MO_drop 59 = .ok (.getfield 16, 3) := by decide +kernel
theorem d_MO_drop_62 : decode b_MO_drop 62 = .ok (.bipush 36, 2) := by decide +kernel
theorem d_MO_drop_64 : decode b_MO_drop 64 = .ok (.iload_n 1, 1) := by decide +kernel
theorem d_MO_drop_65 : decode b_MO_drop 65 = .ok (.imul, 1) := by decide +kernel
theorem d_MO_drop_66 : decode b_MO_drop 66 = .ok (.iconst 3, 1) := by decide +kernel
theorem d_MO_drop_67 : decode b_MO_drop 67 = .ok (.iload 5, 2) := by decide +kernel
theorem d_MO_drop_69 : decode b_MO_drop 69 = .ok (.imul, 1) := by decide +kernel
theorem d_MO_drop_70 : decode b_MO_drop 70 = .ok (.iadd, 1) := by decide +kernel
theorem d_MO_drop_71 : decode b_MO_drop 71 = .ok (.iload 6, 2) := by decide +kernel
theorem d_MO_drop_73 : decode b_MO_drop 73 = .ok (.iadd, 1) := by decide +kernel
theorem d_MO_drop_74 : decode b_MO_drop 74 = .ok (.aload_n 0, 1) := by decide +kernel
theorem d_MO_drop_75 : decode b_MO_drop 75 = .ok (.getfield 16, 3) := by decide +kernel
theorem d_MO_drop_78 : decode b_MO_drop 78 = .ok (.bipush 36, 2) := by decide +kernel
theorem d_MO_drop_80 : decode b_MO_drop 80 = .ok (.iload_n 1, 1) := by decide +kernel
theorem d_MO_drop_81 : decode b_MO_drop 81 = .ok (.imul, 1) := by decide +kernel
theorem d_MO_drop_82 : decode b_MO_drop 82 = .ok (.iconst 3, 1) := by decide +kernel
theorem d_MO_drop_83 : decode b_MO_drop 83 = .ok (.aload_n 0, 1) := by decide +kernel
theorem d_MO_drop_84 : decode b_MO_drop 84 = .ok (.getfield 13, 3) := by decide +kernel
theorem d_MO_drop_87 : decode b_MO_drop 87 = .ok (.iload_n 1, 1) := by decide +kernel
theorem d_MO_drop_88 : decode b_MO_drop 88 = .ok (.iaload, 1) := by decide +kernel
theorem d_MO_drop_89 : decode b_MO_drop 89 = .ok (.imul, 1) := by decide +kernel
theorem d_MO_drop_90 : decode b_MO_drop 90 = .ok (.iadd, 1) := by decide +kernel
theorem d_MO_drop_91 : decode b_MO_drop 91 = .ok (.iload 6, 2) := by decide +kernel
theorem d_MO_drop_93 : decode b_MO_drop 93 = .ok (.iadd, 1) := by decide +kernel
theorem d_MO_drop_94 : decode b_MO_drop 94 = .ok (.iaload, 1) := by decide +kernel
theorem d_MO_drop_95 : decode b_MO_drop 95 = .ok (.iastore, 1) := by decide +kernel
theorem d_MO_drop_96 : decode b_MO_drop 96 = .ok (.iinc 6 1, 3) := by decide +kernel
theorem d_MO_drop_99 : decode b_MO_drop 99 = .ok (.goto (-47), 3) := by decide +kernel
theorem d_MO_drop_102 : decode b_MO_drop 102 = .ok (.aload_n 0, 1) := by decide +kernel
theorem d_MO_drop_103 : decode b_MO_drop 103 = .ok (.iconst 0, 1) := by decide +kernel
theorem d_MO_drop_104 : decode b_MO_drop 104 = .ok (.putfield 70, 3) := by decide +kernel
theorem d_MO_drop_107 : decode b_MO_drop 107 = .ok (.iconst 1, 1) := by decide +kernel
theorem d_MO_drop_108 : decode b_MO_drop 108 = .ok (.ireturn, 1) := by decide +kernel
theorem d_MO_rows_0 : decode b_MO_rows 0 = .ok (.aload_n 0, 1) := by decide +kernel
theorem d_MO_rows_1 : decode b_MO_rows 1 = .ok (.iconst 0, 1) := by decide +kernel
theorem d_MO_rows_2 : decode b_MO_rows 2 = .ok (.putfield 49, 3) := by decide +kernel
theorem d_MO_rows_5 : decode b_MO_rows 5 = .ok (.aload_n 0, 1) := by decide +kernel
theorem d_MO_rows_6 : decode b_MO_rows 6 = .ok (.iload_n 1, 1) := by decide +kernel
theorem d_MO_rows_7 : decode b_MO_rows 7 = .ok (.invokevirtual 63, 3) := by decide +kernel
theorem d_MO_rows_10 : decode b_MO_rows 10 = .ok (.ifCond .eq 12, 3) := by decide +kernel
theorem d_MO_rows_13 : decode b_MO_rows 13 = .ok (.aload_n 0, 1) := by decide +kernel
theorem d_MO_rows_14 : decode b_MO_rows 14 = .ok (.getfield 13, 3) := by decide +kernel
theorem d_MO_rows_17 : decode b_MO_rows 17 = .ok (.iload_n 1, 1) := by decide +kernel
theorem d_MO_rows_18 : decode b_MO_rows 18 = .ok (.iaload, 1) := by decide +kernel
theorem d_MO_rows_19 : decode b_MO_rows 19 = .ok (.goto 4, 3) := by decide +kernel
theorem d_MO_rows_22 : decode b_MO_rows 22 = .ok (.iconst (-1), 1) := by decide +kernel
theorem d_MO_rows_23 : decode b_MO_rows 23 = .ok (.ireturn, 1) := by decide +kernel
theorem d_MO_atom_0 : decode b_MO_atom 0 = .ok (.aload_n 0, 1) := by decide +kernel
theorem d_MO_atom_1 : decode b_MO_atom 1 = .ok (.iconst 0, 1) := by decide +kernel
theorem d_MO_atom_2 : decode b_MO_atom 2 = .ok (.putfield 49, 3) := by decide +kernel
theorem d_MO_atom_5 : decode b_MO_atom 5 = .ok (.aload_n 0, 1) := by decide +kernel
theorem d_MO_atom_6 : decode b_MO_atom 6 = .ok (.iload_n 1, 1) := by decide +kernel
theorem d_MO_atom_7 : decode b_MO_atom 7 = .ok (.invokevirtual 63, 3) := by decide +kernel
theorem d_MO_atom_10 : decode b_MO_atom 10 = .ok (.ifCond .eq 12, 3) := by decide +kernel
theorem d_MO_atom_13 : decode b_MO_atom 13 = .ok (.aload_n 0, 1) := by decide +kernel
end
section
/-! decode rows, by program -/
theorem d_MO_atom_14 : decode b_MO_atom 14 = .ok (.getfield 56, 3) := by decide +kernel
theorem d_MO_atom_17 : decode b_MO_atom 17 = .ok (.bipush 6, 2) := by decide +kernel
theorem d_MO_atom_19 : decode b_MO_atom 19 = .ok (.if_icmp .ne 5, 3) := by decide +kernel
theorem d_MO_atom_22 : decode b_MO_atom 22 = .ok (.iconst (-1), 1) := by decide +kernel
theorem d_MO_atom_23 : decode b_MO_atom 23 = .ok (.ireturn, 1) := by decide +kernel
theorem d_MO_atom_24 : decode b_MO_atom 24 = .ok (.iconst 1, 1) := by decide +kernel
theorem d_MO_atom_25 : decode b_MO_atom 25 = .ok (.istore 5, 2) := by decide +kernel
theorem d_MO_atom_27 : decode b_MO_atom 27 = .ok (.iconst 0, 1) := by decide +kernel
theorem d_MO_atom_28 : decode b_MO_atom 28 = .ok (.istore 6, 2) := by decide +kernel
theorem d_MO_atom_30 : decode b_MO_atom 30 = .ok (.iload 6, 2) := by decide +kernel
theorem d_MO_atom_32 : decode b_MO_atom 32 = .ok (.aload_n 0, 1) := by decide +kernel
theorem d_MO_atom_33 : decode b_MO_atom 33 = .ok (.getfield 7, 3) := by decide +kernel
theorem d_MO_atom_36 : decode b_MO_atom 36 = .ok (.iload_n 1, 1) := by decide +kernel
theorem d_MO_atom_37 : decode b_MO_atom 37 = .ok (.iaload, 1) := by decide +kernel
theorem d_MO_atom_38 : decode b_MO_atom 38 = .ok (.if_icmp .ge 44, 3) := by decide +kernel
theorem d_MO_atom_41 : decode b_MO_atom 41 = .ok (.iload 6, 2) := by decide +kernel
theorem d_MO_atom_43 : decode b_MO_atom 43 = .ok (.iload_n 2, 1) := by decide +kernel
theorem d_MO_atom_44 : decode b_MO_atom 44 = .ok (.iload_n 3, 1) := by decide +kernel
theorem d_MO_atom_45 : decode b_MO_atom 45 = .ok (.iload 4, 2) := by decide +kernel
theorem d_MO_atom_47 : decode b_MO_atom 47 = .ok (.invokestatic 59, 3) := by decide +kernel
theorem d_MO_atom_50 : decode b_MO_atom 50 = .ok (.istore 7, 2) := by decide +kernel
theorem d_MO_atom_52 : decode b_MO_atom 52 = .ok (.iload 5, 2) := by decide +kernel
theorem d_MO_atom_54 : decode b_MO_atom 54 = .ok (.ifCond .eq 19, 3) := by decide +kernel
theorem d_MO_atom_57 : decode b_MO_atom 57 = .ok (.iload 7, 2) := by decide +kernel
theorem d_MO_atom_59 : decode b_MO_atom 59 = .ok (.ifCond .lt 14, 3) := by decide +kernel
theorem d_MO_atom_62 : decode b_MO_atom 62 = .ok (.iload 7, 2) := by decide +kernel
theorem d_MO_atom_64 : decode b_MO_atom 64 = .ok (.bipush 8, 2) := by decide +kernel
theorem d_MO_atom_66 : decode b_MO_atom 66 = .ok (.if_icmp .ge 7, 3) := by decide +kernel
theorem d_MO_atom_69 : decode b_MO_atom 69 = .ok (.iconst 1, 1) := by decide +kernel
theorem d_MO_atom_70 : decode b_MO_atom 70 = .ok (.goto 4, 3) := by decide +kernel
theorem d_MO_atom_73 : decode b_MO_atom 73 = .ok (.iconst 0, 1) := by decide +kernel
theorem d_MO_atom_74 : decode b_MO_atom 74 = .ok (.istore 5, 2) := by decide +kernel
theorem d_MO_atom_76 : decode b_MO_atom 76 = .ok (.iinc 6 1, 3) := by decide +kernel
theorem d_MO_atom_79 : decode b_MO_atom 79 = .ok (.goto (-49), 3) := by decide +kernel
theorem d_MO_atom_82 : decode b_MO_atom 82 = .ok (.iload 5, 2) := by decide +kernel
theorem d_MO_atom_84 : decode b_MO_atom 84 = .ok (.ifCond .ne 5, 3) := by decide +kernel
theorem d_MO_atom_87 : decode b_MO_atom 87 = .ok (.iconst (-1), 1) := by decide +kernel
theorem d_MO_atom_88 : decode b_MO_atom 88 = .ok (.ireturn, 1) := by decide +kernel
theorem d_MO_atom_89 : decode b_MO_atom 89 = .ok (.aload_n 0, 1) := by decide +kernel
theorem d_MO_atom_90 : decode b_MO_atom 90 = .ok (.getfield 19, 3) := by decide +kernel
theorem d_MO_atom_93 : decode b_MO_atom 93 = .ok (.aload_n 0, 1) := by decide +kernel
theorem d_MO_atom_94 : decode b_MO_atom 94 = .ok (.getfield 56, 3) := by decide +kernel
theorem d_MO_atom_97 : decode b_MO_atom 97 = .ok (.iload_n 1, 1) := by decide +kernel
theorem d_MO_atom_98 : decode b_MO_atom 98 = .ok (.iastore, 1) := by decide +kernel
theorem d_MO_atom_99 : decode b_MO_atom 99 = .ok (.iconst 0, 1) := by decide +kernel
theorem d_MO_atom_100 : decode b_MO_atom 100 = .ok (.istore 6, 2) := by decide +kernel
theorem d_MO_atom_102 : decode b_MO_atom 102 = .ok (.iload 6, 2) := by decide +kernel
theorem d_MO_atom_104 : decode b_MO_atom 104 = .ok (.aload_n 0, 1) := by decide +kernel
theorem d_MO_atom_105 : decode b_MO_atom 105 = .ok (.getfield 7, 3) := by decide +kernel
theorem d_MO_atom_108 : decode b_MO_atom 108 = .ok (.iload_n 1, 1) := by decide +kernel
theorem d_MO_atom_109 : decode b_MO_atom 109 = .ok (.iaload, 1) := by decide +kernel
theorem d_MO_atom_110 : decode b_MO_atom 110 = .ok (.if_icmp .ge 32, 3) := by decide +kernel
theorem d_MO_atom_113 : decode b_MO_atom 113 = .ok (.aload_n 0, 1) := by decide +kernel
theorem d_MO_atom_114 : decode b_MO_atom 114 = .ok (.getfield 22, 3) := by decide +kernel
theorem d_MO_atom_117 : decode b_MO_atom 117 = .ok (.iconst 3, 1) := by decide +kernel
theorem d_MO_atom_118 : decode b_MO_atom 118 = .ok (.aload_n 0, 1) := by decide +kernel
theorem d_MO_atom_119 : decode b_MO_atom 119 = .ok (.getfield 56, 3) := by decide +kernel
theorem d_MO_atom_122 : decode b_MO_atom 122 = .ok (.imul, 1) := by decide +kernel
theorem d_MO_atom_123 : decode b_MO_atom 123 = .ok (.iload 6, 2) := by decide +kernel
theorem d_MO_atom_125 : decode b_MO_atom 125 = .ok (.iadd, 1) := by decide +kernel
theorem d_MO_atom_126 : decode b_MO_atom 126 = .ok (.iload 6, 2) := by decide +kernel
theorem d_MO_atom_128 : decode b_MO_atom 128 = .ok (.iload_n 2, 1) := by decide +kernel
theorem d_MO_atom_129 : decode b_MO_atom 129 = .ok (.iload_n 3, 1) := by decide +kernel
theorem d_MO_atom_130 : decode b_MO_atom 130 = .ok (.iload 4, 2) := by decide +kernel
theorem d_MO_atom_132 : decode b_MO_atom 132 = .ok (.invokestatic 59, 3) := by decide +kernel
theorem d_MO_atom_135 : decode b_MO_atom 135 = .ok (.iastore, 1) := by decide +kernel
theorem d_MO_atom_136 : decode b_MO_atom 136 = .ok (.iinc 6 1, 3) := by decide +kernel
theorem d_MO_atom_139 : decode b_MO_atom 139 = .ok (.goto (-37), 3) := by decide +kernel
theorem d_MO_atom_142 : decode b_MO_atom 142 = .ok (.aload_n 0, 1) := by decide +kernel
theorem d_MO_atom_143 : decode b_MO_atom 143 = .ok (.aload_n 0, 1) := by decide +kernel
theorem d_MO_atom_144 : decode b_MO_atom 144 = .ok (.getfield 56, 3) := by decide +kernel
theorem d_MO_atom_147 : decode b_MO_atom 147 = .ok (.iconst 1, 1) := by decide +kernel
theorem d_MO_atom_148 : decode b_MO_atom 148 = .ok (.iadd, 1) := by decide +kernel
theorem d_MO_atom_149 : decode b_MO_atom 149 = .ok (.putfield 56, 3) := by decide +kernel
theorem d_MO_atom_152 : decode b_MO_atom 152 = .ok (.aload_n 0, 1) := by decide +kernel
theorem d_MO_atom_153 : decode b_MO_atom 153 = .ok (.iconst 0, 1) := by decide +kernel
theorem d_MO_atom_154 : decode b_MO_atom 154 = .ok (.putfield 70, 3) := by decide +kernel
theorem d_MO_atom_157 : decode b_MO_atom 157 = .ok (.aload_n 0, 1) := by decide +kernel
theorem d_MO_atom_158 : decode b_MO_atom 158 = .ok (.getfield 56, 3) := by decide +kernel
theorem d_MO_atom_161 : decode b_MO_atom 161 = .ok (.iconst 1, 1) := by decide +kernel
theorem d_MO_atom_162 : decode b_MO_atom 162 = .ok (.isub, 1) := by decide +kernel
theorem d_MO_atom_163 : decode b_MO_atom 163 = .ok (.ireturn, 1) := by decide +kernel
theorem d_MO_head_0 : decode b_MO_head 0 = .ok (.aload_n 0, 1) := by decide +kernel
theorem d_MO_head_1 : decode b_MO_head 1 = .ok (.iconst 0, 1) := by decide +kernel
theorem d_MO_head_2 : decode b_MO_head 2 = .ok (.putfield 49, 3) := by decide +kernel
theorem d_MO_head_5 : decode b_MO_head 5 = .ok (.iconst 0, 1) := by decide +kernel
theorem d_MO_head_6 : decode b_MO_head 6 = .ok (.istore_n 2, 1) := by decide +kernel
theorem d_MO_head_7 : decode b_MO_head 7 = .ok (.iconst 0, 1) := by decide +kernel
theorem d_MO_head_8 : decode b_MO_head 8 = .ok (.istore_n 3, 1) := by decide +kernel
theorem d_MO_head_9 : decode b_MO_head 9 = .ok (.iload_n 3, 1) := by decide +kernel
theorem d_MO_head_10 : decode b_MO_head 10 = .ok (.aload_n 0, 1) := by decide +kernel
theorem d_MO_head_11 : decode b_MO_head 11 = .ok (.getfield 74, 3) := by decide +kernel
theorem d_MO_head_14 : decode b_MO_head 14 = .ok (.if_icmp .ge 29, 3) := by decide +kernel
theorem d_MO_head_17 : decode b_MO_head 17 = .ok (.iload_n 2, 1) := by decide +kernel
theorem d_MO_head_18 : decode b_MO_head 18 = .ok (.ifCond .ne 13, 3) := by decide +kernel
theorem d_MO_head_21 : decode b_MO_head 21 = .ok (.aload_n 0, 1) := by decide +kernel
theorem d_MO_head_22 : decode b_MO_head 22 = .ok (.getfield 25, 3) := by decide +kernel
theorem d_MO_head_25 : decode b_MO_head 25 = .ok (.iload_n 3, 1) := by decide +kernel
theorem d_MO_head_26 : decode b_MO_head 26 = .ok (.iaload, 1) := by decide +kernel
theorem d_MO_head_27 : decode b_MO_head 27 = .ok (.iload_n 1, 1) := by decide +kernel
theorem d_MO_head_28 : decode b_MO_head 28 = .ok (.if_icmp .ne 7, 3) := by decide +kernel
theorem d_MO_head_31 : decode b_MO_head 31 = .ok (.iconst 1, 1) := by decide +kernel
theorem d_MO_head_32 : decode b_MO_head 32 = .ok (.goto 4, 3) := by decide +kernel
theorem d_MO_head_35 : decode b_MO_head 35 = .ok (.iconst 0, 1) := by decide +kernel
theorem d_MO_head_36 : decode b_MO_head 36 = .ok (.istore_n 2, 1) := by decide +kernel
theorem d_MO_head_37 : decode b_MO_head 37 = .ok (.iinc 3 1, 3) := by decide +kernel
theorem d_MO_head_40 : decode b_MO_head 40 = .ok (.goto (-31), 3) := by decide +kernel
theorem d_MO_head_43 : decode b_MO_head 43 = .ok (.iload_n 1, 1) := by decide +kernel
theorem d_MO_head_44 : decode b_MO_head 44 = .ok (.ifCond .lt 21, 3) := by decide +kernel
theorem d_MO_head_47 : decode b_MO_head 47 = .ok (.iload_n 1, 1) := by decide +kernel
theorem d_MO_head_48 : decode b_MO_head 48 = .ok (.bipush 7, 2) := by decide +kernel
theorem d_MO_head_50 : decode b_MO_head 50 = .ok (.if_icmp .gt 15, 3) := by decide +kernel
theorem d_MO_head_53 : decode b_MO_head 53 = .ok (.iload_n 2, 1) := by decide +kernel
theorem d_MO_head_54 : decode b_MO_head 54 = .ok (.ifCond .ne 11, 3) := by decide +kernel
theorem d_MO_head_57 : decode b_MO_head 57 = .ok (.aload_n 0, 1) := by decide +kernel
theorem d_MO_head_58 : decode b_MO_head 58 = .ok (.getfield 74, 3) := by decide +kernel
theorem d_MO_head_61 : decode b_MO_head 61 = .ok (.iconst 4, 1) := by decide +kernel
theorem d_MO_head_62 : decode b_MO_head 62 = .ok (.if_icmp .ne 5, 3) := by decide +kernel
theorem d_MO_head_65 : decode b_MO_head 65 = .ok (.iconst (-1), 1) := by decide +kernel
theorem d_MO_head_66 : decode b_MO_head 66 = .ok (.ireturn, 1) := by decide +kernel
theorem d_MO_head_67 : decode b_MO_head 67 = .ok (.aload_n 0, 1) := by decide +kernel
theorem d_MO_head_68 : decode b_MO_head 68 = .ok (.getfield 25, 3) := by decide +kernel
theorem d_MO_head_71 : decode b_MO_head 71 = .ok (.aload_n 0, 1) := by decide +kernel
theorem d_MO_head_72 : decode b_MO_head 72 = .ok (.getfield 74, 3) := by decide +kernel
theorem d_MO_head_75 : decode b_MO_head 75 = .ok (.iload_n 1, 1) := by decide +kernel
theorem d_MO_head_76 : decode b_MO_head 76 = .ok (.iastore, 1) := by decide +kernel
theorem d_MO_head_77 : decode b_MO_head 77 = .ok (.aload_n 0, 1) := by decide +kernel
theorem d_MO_head_78 : decode b_MO_head 78 = .ok (.aload_n 0, 1) := by decide +kernel
theorem d_MO_head_79 : decode b_MO_head 79 = .ok (.getfield 74, 3) := by decide +kernel
theorem d_MO_head_82 : decode b_MO_head 82 = .ok (.iconst 1, 1) := by decide +kernel
theorem d_MO_head_83 : decode b_MO_head 83 = .ok (.iadd, 1) := by decide +kernel
theorem d_MO_head_84 : decode b_MO_head 84 = .ok (.putfield 74, 3) := by decide +kernel
theorem d_MO_head_87 : decode b_MO_head 87 = .ok (.aload_n 0, 1) := by decide +kernel
theorem d_MO_head_88 : decode b_MO_head 88 = .ok (.iconst 0, 1) := by decide +kernel
theorem d_MO_head_89 : decode b_MO_head 89 = .ok (.putfield 70, 3) := by decide +kernel
theorem d_MO_head_92 : decode b_MO_head 92 = .ok (.aload_n 0, 1) := by decide +kernel
theorem d_MO_head_93 : decode b_MO_head 93 = .ok (.getfield 74, 3) := by decide +kernel
theorem d_MO_head_96 : decode b_MO_head 96 = .ok (.iconst 1, 1) := by decide +kernel
theorem d_MO_head_97 : decode b_MO_head 97 = .ok (.isub, 1) := by decide +kernel
theorem d_MO_head_98 : decode b_MO_head 98 = .ok (.ireturn, 1) := by decide +kernel
theorem d_MO_clear_0 : decode b_MO_clear 0 = .ok (.aload_n 0, 1) := by decide +kernel
theorem d_MO_clear_1 : decode b_MO_clear 1 = .ok (.iconst 0, 1) := by decide +kernel
theorem d_MO_clear_2 : decode b_MO_clear 2 = .ok (.putfield 49, 3) := by decide +kernel
theorem d_MO_clear_5 : decode b_MO_clear 5 = .ok (.aload_n 0, 1) := by decide +kernel
theorem d_MO_clear_6 : decode b_MO_clear 6 = .ok (.getfield 56, 3) := by decide +kernel
theorem d_MO_clear_9 : decode b_MO_clear 9 = .ok (.istore_n 1, 1) := by decide +kernel
theorem d_MO_clear_10 : decode b_MO_clear 10 = .ok (.aload_n 0, 1) := by decide +kernel
theorem d_MO_clear_11 : decode b_MO_clear 11 = .ok (.iconst 0, 1) := by decide +kernel
theorem d_MO_clear_12 : decode b_MO_clear 12 = .ok (.putfield 56, 3) := by decide +kernel
theorem d_MO_clear_15 : decode b_MO_clear 15 = .ok (.aload_n 0, 1) := by decide +kernel
theorem d_MO_clear_16 : decode b_MO_clear 16 = .ok (.iconst 0, 1) := by decide +kernel
theorem d_MO_clear_17 : decode b_MO_clear 17 = .ok (.putfield 74, 3) := by decide +kernel
theorem d_MO_clear_20 : decode b_MO_clear 20 = .ok (.aload_n 0, 1) := by decide +kernel
theorem d_MO_clear_21 : decode b_MO_clear 21 = .ok (.iconst 0, 1) := by decide +kernel
theorem d_MO_clear_22 : decode b_MO_clear 22 = .ok (.putfield 70, 3) := by decide +kernel
theorem d_MO_clear_25 : decode b_MO_clear 25 = .ok (.iload_n 1, 1) := by decide +kernel
theorem d_MO_clear_26 : decode b_MO_clear 26 = .ok (.ireturn, 1) := by decide +kernel
theorem d_MO_tree_0 : decode b_MO_tree 0 = .ok (.aload_n 0, 1) := by decide +kernel
theorem d_MO_tree_1 : decode b_MO_tree 1 = .ok (.iconst 0, 1) := by decide +kernel
theorem d_MO_tree_2 : decode b_MO_tree 2 = .ok (.putfield 49, 3) := by decide +kernel
theorem d_MO_tree_5 : decode b_MO_tree 5 = .ok (.aload_n 0, 1) := by decide +kernel
theorem d_MO_tree_6 : decode b_MO_tree 6 = .ok (.invokevirtual 93, 3) := by decide +kernel
theorem d_MO_tree_9 : decode b_MO_tree 9 = .ok (.ireturn, 1) := by decide +kernel
theorem d_MO_isTree_0 : decode b_MO_isTree 0 = .ok (.aload_n 0, 1) := by decide +kernel
theorem d_MO_isTree_1 : decode b_MO_isTree 1 = .ok (.invokevirtual 90, 3) := by decide +kernel
theorem d_MO_isTree_4 : decode b_MO_isTree 4 = .ok (.aload_n 0, 1) := by decide +kernel
theorem d_MO_isTree_5 : decode b_MO_isTree 5 = .ok (.getfield 77, 3) := by decide +kernel
theorem d_MO_isTree_8 : decode b_MO_isTree 8 = .ok (.aload_n 0, 1) := by decide +kernel
theorem d_MO_isTree_9 : decode b_MO_isTree 9 = .ok (.getfield 77, 3) := by decide +kernel
theorem d_MO_isTree_12 : decode b_MO_isTree 12 = .ok (.iconst 1, 1) := by decide +kernel
theorem d_MO_isTree_13 : decode b_MO_isTree 13 = .ok (.isub, 1) := by decide +kernel
theorem d_MO_isTree_14 : decode b_MO_isTree 14 = .ok (.iand, 1) := by decide +kernel
theorem d_MO_isTree_15 : decode b_MO_isTree 15 = .ok (.ifCond .ne 7, 3) := by decide +kernel
theorem d_MO_isTree_18 : decode b_MO_isTree 18 = .ok (.iconst 1, 1) := by decide +kernel
theorem d_MO_isTree_19 : decode b_MO_isTree 19 = .ok (.goto 4, 3) := by decide +kernel
theorem d_MO_isTree_22 : decode b_MO_isTree 22 = .ok (.iconst 0, 1) := by decide +kernel
theorem d_MO_isTree_23 : decode b_MO_isTree 23 = .ok (.ireturn, 1) := by decide +kernel
theorem d_MO_hang_0 : decode b_MO_hang 0 = .ok (.aload_n 0, 1) := by decide +kernel
theorem d_MO_hang_1 : decode b_MO_hang 1 = .ok (.iconst 1, 1) := by decide +kernel
theorem d_MO_hang_2 : decode b_MO_hang 2 = .ok (.aload_n 0, 1) := by decide +kernel
theorem d_MO_hang_3 : decode b_MO_hang 3 = .ok (.getfield 56, 3) := by decide +kernel
theorem d_MO_hang_6 : decode b_MO_hang 6 = .ok (.ishl, 1) := by decide +kernel
theorem d_MO_hang_7 : decode b_MO_hang 7 = .ok (.iconst 1, 1) := by decide +kernel
theorem d_MO_hang_8 : decode b_MO_hang 8 = .ok (.isub, 1) := by decide +kernel
theorem d_MO_hang_9 : decode b_MO_hang 9 = .ok (.putfield 77, 3) := by decide +kernel
theorem d_MO_hang_12 : decode b_MO_hang 12 = .ok (.iconst 0, 1) := by decide +kernel
theorem d_MO_hang_13 : decode b_MO_hang 13 = .ok (.istore_n 1, 1) := by decide +kernel
theorem d_MO_hang_14 : decode b_MO_hang 14 = .ok (.iconst 1, 1) := by decide +kernel
theorem d_MO_hang_15 : decode b_MO_hang 15 = .ok (.istore_n 2, 1) := by decide +kernel
theorem d_MO_hang_16 : decode b_MO_hang 16 = .ok (.iconst 0, 1) := by decide +kernel
theorem d_MO_hang_17 : decode b_MO_hang 17 = .ok (.istore_n 3, 1) := by decide +kernel
theorem d_MO_hang_18 : decode b_MO_hang 18 = .ok (.iload_n 3, 1) := by decide +kernel
theorem d_MO_hang_19 : decode b_MO_hang 19 = .ok (.bipush 6, 2) := by decide +kernel
theorem d_MO_hang_21 : decode b_MO_hang 21 = .ok (.if_icmp .ge 23, 3) := by decide +kernel
theorem d_MO_hang_24 : decode b_MO_hang 24 = .ok (.aload_n 0, 1) := by decide +kernel
theorem d_MO_hang_25 : decode b_MO_hang 25 = .ok (.getfield 28, 3) := by decide +kernel
theorem d_MO_hang_28 : decode b_MO_hang 28 = .ok (.iload_n 3, 1) := by decide +kernel
theorem d_MO_hang_29 : decode b_MO_hang 29 = .ok (.iconst (-1), 1) := by decide +kernel
theorem d_MO_hang_30 : decode b_MO_hang 30 = .ok (.iastore, 1) := by decide +kernel
theorem d_MO_hang_31 : decode b_MO_hang 31 = .ok (.aload_n 0, 1) := by decide +kernel
theorem d_MO_hang_32 : decode b_MO_hang 32 = .ok (.getfield 31, 3) := by decide +kernel
theorem d_MO_hang_35 : decode b_MO_hang 35 = .ok (.iload_n 3, 1) := by decide +kernel
theorem d_MO_hang_36 : decode b_MO_hang 36 = .ok (.iconst (-1), 1) := by decide +kernel
theorem d_MO_hang_37 : decode b_MO_hang 37 = .ok (.iastore, 1) := by decide +kernel
theorem d_MO_hang_38 : decode b_MO_hang 38 = .ok (.iinc 3 1, 3) := by decide +kernel
theorem d_MO_hang_41 : decode b_MO_hang 41 = .ok (.goto (-23), 3) := by decide +kernel
theorem d_MO_hang_44 : decode b_MO_hang 44 = .ok (.iload_n 2, 1) := by decide +kernel
theorem d_MO_hang_45 : decode b_MO_hang 45 = .ok (.ifCond .eq 93, 3) := by decide +kernel
theorem d_MO_hang_48 : decode b_MO_hang 48 = .ok (.iconst 0, 1) := by decide +kernel
theorem d_MO_hang_49 : decode b_MO_hang 49 = .ok (.istore_n 3, 1) := by decide +kernel
theorem d_MO_hang_50 : decode b_MO_hang 50 = .ok (.iload_n 3, 1) := by decide +kernel
theorem d_MO_hang_51 : decode b_MO_hang 51 = .ok (.aload_n 0, 1) := by decide +kernel
theorem d_MO_hang_52 : decode b_MO_hang 52 = .ok (.getfield 56, 3) := by decide +kernel
theorem d_MO_hang_55 : decode b_MO_hang 55 = .ok (.if_icmp .ge 26, 3) := by decide +kernel
theorem d_MO_hang_58 : decode b_MO_hang 58 = .ok (.aload_n 0, 1) := by decide +kernel
theorem d_MO_hang_59 : decode b_MO_hang 59 = .ok (.iload_n 3, 1) := by decide +kernel
theorem d_MO_hang_60 : decode b_MO_hang 60 = .ok (.invokevirtual 80, 3) := by decide +kernel
theorem d_MO_hang_63 : decode b_MO_hang 63 = .ok (.ifCond .eq 11, 3) := by decide +kernel
theorem d_MO_hang_66 : decode b_MO_hang 66 = .ok (.aload_n 0, 1) := by decide +kernel
theorem d_MO_hang_67 : decode b_MO_hang 67 = .ok (.iload_n 3, 1) := by decide +kernel
theorem d_MO_hang_68 : decode b_MO_hang 68 = .ok (.invokevirtual 87, 3) := by decide +kernel
theorem d_MO_hang_71 : decode b_MO_hang 71 = .ok (.ifCond .ge 10, 3) := by decide +kernel
theorem d_MO_hang_74 : decode b_MO_hang 74 = .ok (.iload_n 3, 1) := by decide +kernel
theorem d_MO_hang_75 : decode b_MO_hang 75 = .ok (.iconst 1, 1) := by decide +kernel
theorem d_MO_hang_76 : decode b_MO_hang 76 = .ok (.iadd, 1) := by decide +kernel
theorem d_MO_hang_77 : decode b_MO_hang 77 = .ok (.istore_n 3, 1) := by decide +kernel
theorem d_MO_hang_78 : decode b_MO_hang 78 = .ok (.goto (-28), 3) := by decide +kernel
theorem d_MO_hang_81 : decode b_MO_hang 81 = .ok (.iload_n 3, 1) := by decide +kernel
theorem d_MO_hang_82 : decode b_MO_hang 82 = .ok (.aload_n 0, 1) := by decide +kernel
theorem d_MO_hang_83 : decode b_MO_hang 83 = .ok (.getfield 56, 3) := by decide +kernel
theorem d_MO_hang_86 : decode b_MO_hang 86 = .ok (.if_icmp .ge 7, 3) := by decide +kernel
theorem d_MO_hang_89 : decode b_MO_hang 89 = .ok (.iconst 1, 1) := by decide +kernel
theorem d_MO_hang_90 : decode b_MO_hang 90 = .ok (.goto 4, 3) := by decide +kernel
theorem d_MO_hang_93 : decode b_MO_hang 93 = .ok (.iconst 0, 1) := by decide +kernel
theorem d_MO_hang_94 : decode b_MO_hang 94 = .ok (.istore_n 2, 1) := by decide +kernel
theorem d_MO_hang_95 : decode b_MO_hang 95 = .ok (.iload_n 2, 1) := by decide +kernel
theorem d_MO_hang_96 : decode b_MO_hang 96 = .ok (.ifCond .eq 39, 3) := by decide +kernel
theorem d_MO_hang_99 : decode b_MO_hang 99 = .ok (.aload_n 0, 1) := by decide +kernel
theorem d_MO_hang_100 : decode b_MO_hang 100 = .ok (.getfield 28, 3) := by decide +kernel
theorem d_MO_hang_103 : decode b_MO_hang 103 = .ok (.iload_n 3, 1) := by decide +kernel
theorem d_MO_hang_104 : decode b_MO_hang 104 = .ok (.aload_n 0, 1) := by decide +kernel
theorem d_MO_hang_105 : decode b_MO_hang 105 = .ok (.iload_n 3, 1) := by decide +kernel
theorem d_MO_hang_106 : decode b_MO_hang 106 = .ok (.invokevirtual 87, 3) := by decide +kernel
theorem d_MO_hang_109 : decode b_MO_hang 109 = .ok (.iastore, 1) := by decide +kernel
theorem d_MO_hang_110 : decode b_MO_hang 110 = .ok (.aload_n 0, 1) := by decide +kernel
theorem d_MO_hang_111 : decode b_MO_hang 111 = .ok (.getfield 31, 3) := by decide +kernel
theorem d_MO_hang_114 : decode b_MO_hang 114 = .ok (.iload_n 3, 1) := by decide +kernel
theorem d_MO_hang_115 : decode b_MO_hang 115 = .ok (.iload_n 1, 1) := by decide +kernel
theorem d_MO_hang_116 : decode b_MO_hang 116 = .ok (.iastore, 1) := by decide +kernel
theorem d_MO_hang_117 : decode b_MO_hang 117 = .ok (.iload_n 1, 1) := by decide +kernel
theorem d_MO_hang_118 : decode b_MO_hang 118 = .ok (.iconst 1, 1) := by decide +kernel
theorem d_MO_hang_119 : decode b_MO_hang 119 = .ok (.iadd, 1) := by decide +kernel
theorem d_MO_hang_120 : decode b_MO_hang 120 = .ok (.istore_n 1, 1) := by decide +kernel
theorem d_MO_hang_121 : decode b_MO_hang 121 = .ok (.aload_n 0, 1) := by decide +kernel
theorem d_MO_hang_122 : decode b_MO_hang 122 = .ok (.aload_n 0, 1) := by decide +kernel
theorem d_MO_hang_123 : decode b_MO_hang 123 = .ok (.getfield 77, 3) := by decide +kernel
theorem d_MO_hang_126 : decode b_MO_hang 126 = .ok (.iconst 1, 1) := by decide +kernel
theorem d_MO_hang_127 : decode b_MO_hang 127 = .ok (.iload_n 3, 1) := by decide +kernel
theorem d_MO_hang_128 : decode b_MO_hang 128 = .ok (.ishl, 1) := by decide +kernel
theorem d_MO_hang_129 : decode b_MO_hang 129 = .ok (.iconst (-1), 1) := by decide +kernel
theorem d_MO_hang_130 : decode b_MO_hang 130 = .ok (.ixor, 1) := by decide +kernel
theorem d_MO_hang_131 : decode b_MO_hang 131 = .ok (.iand, 1) := by decide +kernel
theorem d_MO_hang_132 : decode b_MO_hang 132 = .ok (.putfield 77, 3) := by decide +kernel
theorem d_MO_hang_135 : decode b_MO_hang 135 = .ok (.goto (-91), 3) := by decide +kernel
theorem d_MO_hang_138 : decode b_MO_hang 138 = .ok (.return_, 1) := by decide +kernel
theorem d_MO_isLeft_0 : decode b_MO_isLeft 0 = .ok (.aload_n 0, 1) := by decide +kernel
theorem d_MO_isLeft_1 : decode b_MO_isLeft 1 = .ok (.getfield 77, 3) := by decide +kernel
theorem d_MO_isLeft_4 : decode b_MO_isLeft 4 = .ok (.iload_n 1, 1) := by decide +kernel
theorem d_MO_isLeft_5 : decode b_MO_isLeft 5 = .ok (.ishr, 1) := by decide +kernel
theorem d_MO_isLeft_6 : decode b_MO_isLeft 6 = .ok (.iconst 1, 1) := by decide +kernel
theorem d_MO_isLeft_7 : decode b_MO_isLeft 7 = .ok (.iand, 1) := by decide +kernel
theorem d_MO_isLeft_8 : decode b_MO_isLeft 8 = .ok (.iconst 1, 1) := by decide +kernel
theorem d_MO_isLeft_9 : decode b_MO_isLeft 9 = .ok (.if_icmp .ne 7, 3) := by decide +kernel
theorem d_MO_isLeft_12 : decode b_MO_isLeft 12 = .ok (.iconst 1, 1) := by decide +kernel
theorem d_MO_isLeft_13 : decode b_MO_isLeft 13 = .ok (.goto 4, 3) := by decide +kernel
theorem d_MO_isLeft_16 : decode b_MO_isLeft 16 = .ok (.iconst 0, 1) := by decide +kernel
theorem d_MO_isLeft_17 : decode b_MO_isLeft 17 = .ok (.ireturn, 1) := by decide +kernel
theorem d_MO_holder_0 : decode b_MO_holder 0 = .ok (.iconst 0, 1) := by decide +kernel
theorem d_MO_holder_1 : decode b_MO_holder 1 = .ok (.istore_n 2, 1) := by decide +kernel
theorem d_MO_holder_2 : decode b_MO_holder 2 = .ok (.iconst 0, 1) := by decide +kernel
theorem d_MO_holder_3 : decode b_MO_holder 3 = .ok (.istore_n 3, 1) := by decide +kernel
theorem d_MO_holder_4 : decode b_MO_holder 4 = .ok (.iload_n 3, 1) := by decide +kernel
theorem d_MO_holder_5 : decode b_MO_holder 5 = .ok (.aload_n 0, 1) := by decide +kernel
theorem d_MO_holder_6 : decode b_MO_holder 6 = .ok (.getfield 56, 3) := by decide +kernel
theorem d_MO_holder_9 : decode b_MO_holder 9 = .ok (.if_icmp .ge 34, 3) := by decide +kernel
theorem d_MO_holder_12 : decode b_MO_holder 12 = .ok (.iload_n 3, 1) := by decide +kernel
theorem d_MO_holder_13 : decode b_MO_holder 13 = .ok (.iload_n 1, 1) := by decide +kernel
theorem d_MO_holder_14 : decode b_MO_holder 14 = .ok (.if_icmp .eq 21, 3) := by decide +kernel
theorem d_MO_holder_17 : decode b_MO_holder 17 = .ok (.aload_n 0, 1) := by decide +kernel
theorem d_MO_holder_18 : decode b_MO_holder 18 = .ok (.iload_n 3, 1) := by decide +kernel
theorem d_MO_holder_19 : decode b_MO_holder 19 = .ok (.invokevirtual 80, 3) := by decide +kernel
theorem d_MO_holder_22 : decode b_MO_holder 22 = .ok (.ifCond .eq 13, 3) := by decide +kernel
theorem d_MO_holder_25 : decode b_MO_holder 25 = .ok (.iload_n 2, 1) := by decide +kernel
theorem d_MO_holder_26 : decode b_MO_holder 26 = .ok (.aload_n 0, 1) := by decide +kernel
theorem d_MO_holder_27 : decode b_MO_holder 27 = .ok (.iload_n 3, 1) := by decide +kernel
theorem d_MO_holder_28 : decode b_MO_holder 28 = .ok (.invokevirtual 83, 3) := by decide +kernel
theorem d_MO_holder_31 : decode b_MO_holder 31 = .ok (.ior, 1) := by decide +kernel
theorem d_MO_holder_32 : decode b_MO_holder 32 = .ok (.goto 4, 3) := by decide +kernel
theorem d_MO_holder_35 : decode b_MO_holder 35 = .ok (.iload_n 2, 1) := by decide +kernel
theorem d_MO_holder_36 : decode b_MO_holder 36 = .ok (.istore_n 2, 1) := by decide +kernel
theorem d_MO_holder_37 : decode b_MO_holder 37 = .ok (.iinc 3 1, 3) := by decide +kernel
theorem d_MO_holder_40 : decode b_MO_holder 40 = .ok (.goto (-36), 3) := by decide +kernel
theorem d_MO_holder_43 : decode b_MO_holder 43 = .ok (.iconst (-1), 1) := by decide +kernel
theorem d_MO_holder_44 : decode b_MO_holder 44 = .ok (.istore_n 3, 1) := by decide +kernel
theorem d_MO_holder_45 : decode b_MO_holder 45 = .ok (.aload_n 0, 1) := by decide +kernel
theorem d_MO_holder_46 : decode b_MO_holder 46 = .ok (.getfield 56, 3) := by decide +kernel
theorem d_MO_holder_49 : decode b_MO_holder 49 = .ok (.iconst 1, 1) := by decide +kernel
theorem d_MO_holder_50 : decode b_MO_holder 50 = .ok (.isub, 1) := by decide +kernel
theorem d_MO_holder_51 : decode b_MO_holder 51 = .ok (.istore 4, 2) := by decide +kernel
theorem d_MO_holder_53 : decode b_MO_holder 53 = .ok (.iload 4, 2) := by decide +kernel
theorem d_MO_holder_55 : decode b_MO_holder 55 = .ok (.ifCond .lt 50, 3) := by decide +kernel
theorem d_MO_holder_58 : decode b_MO_holder 58 = .ok (.iload 4, 2) := by decide +kernel
theorem d_MO_holder_60 : decode b_MO_holder 60 = .ok (.iload_n 1, 1) := by decide +kernel
theorem d_MO_holder_61 : decode b_MO_holder 61 = .ok (.if_icmp .eq 36, 3) := by decide +kernel
theorem d_MO_holder_64 : decode b_MO_holder 64 = .ok (.aload_n 0, 1) := by decide +kernel
theorem d_MO_holder_65 : decode b_MO_holder 65 = .ok (.iload 4, 2) := by decide +kernel
theorem d_MO_holder_67 : decode b_MO_holder 67 = .ok (.invokevirtual 80, 3) := by decide +kernel
theorem d_MO_holder_70 : decode b_MO_holder 70 = .ok (.ifCond .eq 27, 3) := by decide +kernel
theorem d_MO_holder_73 : decode b_MO_holder 73 = .ok (.aload_n 0, 1) := by decide +kernel
theorem d_MO_holder_74 : decode b_MO_holder 74 = .ok (.iload_n 1, 1) := by decide +kernel
theorem d_MO_holder_75 : decode b_MO_holder 75 = .ok (.invokevirtual 83, 3) := by decide +kernel
theorem d_MO_holder_78 : decode b_MO_holder 78 = .ok (.iload_n 2, 1) := by decide +kernel
theorem d_MO_holder_79 : decode b_MO_holder 79 = .ok (.iand, 1) := by decide +kernel
theorem d_MO_holder_80 : decode b_MO_holder 80 = .ok (.aload_n 0, 1) := by decide +kernel
theorem d_MO_holder_81 : decode b_MO_holder 81 = .ok (.iload 4, 2) := by decide +kernel
theorem d_MO_holder_83 : decode b_MO_holder 83 = .ok (.invokevirtual 83, 3) := by decide +kernel
theorem d_MO_holder_86 : decode b_MO_holder 86 = .ok (.iconst (-1), 1) := by decide +kernel
theorem d_MO_holder_87 : decode b_MO_holder 87 = .ok (.ixor, 1) := by decide +kernel
theorem d_MO_holder_88 : decode b_MO_holder 88 = .ok (.iand, 1) := by decide +kernel
theorem d_MO_holder_89 : decode b_MO_holder 89 = .ok (.ifCond .ne 8, 3) := by decide +kernel
theorem d_MO_holder_92 : decode b_MO_holder 92 = .ok (.iload 4, 2) := by decide +kernel
theorem d_MO_holder_94 : decode b_MO_holder 94 = .ok (.goto 4, 3) := by decide +kernel
theorem d_MO_holder_97 : decode b_MO_holder 97 = .ok (.iload_n 3, 1) := by decide +kernel
theorem d_MO_holder_98 : decode b_MO_holder 98 = .ok (.istore_n 3, 1) := by decide +kernel
theorem d_MO_holder_99 : decode b_MO_holder 99 = .ok (.iinc 4 (-1), 3) := by decide +kernel
theorem d_MO_holder_102 : decode b_MO_holder 102 = .ok (.goto (-49), 3) := by decide +kernel
theorem d_MO_holder_105 : decode b_MO_holder 105 = .ok (.iload_n 3, 1) := by decide +kernel
theorem d_MO_holder_106 : decode b_MO_holder 106 = .ok (.ireturn, 1) := by decide +kernel
theorem d_MO_setOf_0 : decode b_MO_setOf 0 = .ok (.iconst 0, 1) := by decide +kernel
theorem d_MO_setOf_1 : decode b_MO_setOf 1 = .ok (.istore_n 2, 1) := by decide +kernel
theorem d_MO_setOf_2 : decode b_MO_setOf 2 = .ok (.iconst 0, 1) := by decide +kernel
theorem d_MO_setOf_3 : decode b_MO_setOf 3 = .ok (.istore_n 3, 1) := by decide +kernel
theorem d_MO_setOf_4 : decode b_MO_setOf 4 = .ok (.iload_n 3, 1) := by decide +kernel
theorem d_MO_setOf_5 : decode b_MO_setOf 5 = .ok (.aload_n 0, 1) := by decide +kernel
theorem d_MO_setOf_6 : decode b_MO_setOf 6 = .ok (.getfield 7, 3) := by decide +kernel
theorem d_MO_setOf_9 : decode b_MO_setOf 9 = .ok (.aload_n 0, 1) := by decide +kernel
theorem d_MO_setOf_10 : decode b_MO_setOf 10 = .ok (.getfield 19, 3) := by decide +kernel
theorem d_MO_setOf_13 : decode b_MO_setOf 13 = .ok (.iload_n 1, 1) := by decide +kernel
theorem d_MO_setOf_14 : decode b_MO_setOf 14 = .ok (.iaload, 1) := by decide +kernel
theorem d_MO_setOf_15 : decode b_MO_setOf 15 = .ok (.iaload, 1) := by decide +kernel
theorem d_MO_setOf_16 : decode b_MO_setOf 16 = .ok (.if_icmp .ge 24, 3) := by decide +kernel
theorem d_MO_setOf_19 : decode b_MO_setOf 19 = .ok (.iload_n 2, 1) := by decide +kernel
theorem d_MO_setOf_20 : decode b_MO_setOf 20 = .ok (.iconst 1, 1) := by decide +kernel
theorem d_MO_setOf_21 : decode b_MO_setOf 21 = .ok (.aload_n 0, 1) := by decide +kernel
theorem d_MO_setOf_22 : decode b_MO_setOf 22 = .ok (.getfield 22, 3) := by decide +kernel
theorem d_MO_setOf_25 : decode b_MO_setOf 25 = .ok (.iconst 3, 1) := by decide +kernel
theorem d_MO_setOf_26 : decode b_MO_setOf 26 = .ok (.iload_n 1, 1) := by decide +kernel
theorem d_MO_setOf_27 : decode b_MO_setOf 27 = .ok (.imul, 1) := by decide +kernel
theorem d_MO_setOf_28 : decode b_MO_setOf 28 = .ok (.iload_n 3, 1) := by decide +kernel
theorem d_MO_setOf_29 : decode b_MO_setOf 29 = .ok (.iadd, 1) := by decide +kernel
theorem d_MO_setOf_30 : decode b_MO_setOf 30 = .ok (.iaload, 1) := by decide +kernel
theorem d_MO_setOf_31 : decode b_MO_setOf 31 = .ok (.ishl, 1) := by decide +kernel
theorem d_MO_setOf_32 : decode b_MO_setOf 32 = .ok (.ior, 1) := by decide +kernel
theorem d_MO_setOf_33 : decode b_MO_setOf 33 = .ok (.istore_n 2, 1) := by decide +kernel
theorem d_MO_setOf_34 : decode b_MO_setOf 34 = .ok (.iinc 3 1, 3) := by decide +kernel
theorem d_MO_setOf_37 : decode b_MO_setOf 37 = .ok (.goto (-33), 3) := by decide +kernel
theorem d_MO_setOf_40 : decode b_MO_setOf 40 = .ok (.iload_n 2, 1) := by decide +kernel
theorem d_MO_setOf_41 : decode b_MO_setOf 41 = .ok (.ireturn, 1) := by decide +kernel
theorem d_MO_parent_0 : decode b_MO_parent 0 = .ok (.aload_n 0, 1) := by decide +kernel
theorem d_MO_parent_1 : decode b_MO_parent 1 = .ok (.iconst 0, 1) := by decide +kernel
theorem d_MO_parent_2 : decode b_MO_parent 2 = .ok (.putfield 49, 3) := by decide +kernel
theorem d_MO_parent_5 : decode b_MO_parent 5 = .ok (.aload_n 0, 1) := by decide +kernel
theorem d_MO_parent_6 : decode b_MO_parent 6 = .ok (.invokevirtual 90, 3) := by decide +kernel
theorem d_MO_parent_9 : decode b_MO_parent 9 = .ok (.aload_n 0, 1) := by decide +kernel
theorem d_MO_parent_10 : decode b_MO_parent 10 = .ok (.iload_n 1, 1) := by decide +kernel
theorem d_MO_parent_11 : decode b_MO_parent 11 = .ok (.invokevirtual 97, 3) := by decide +kernel
theorem d_MO_parent_14 : decode b_MO_parent 14 = .ok (.ifCond .eq 12, 3) := by decide +kernel
theorem d_MO_parent_17 : decode b_MO_parent 17 = .ok (.aload_n 0, 1) := by decide +kernel
theorem d_MO_parent_18 : decode b_MO_parent 18 = .ok (.getfield 28, 3) := by decide +kernel
theorem d_MO_parent_21 : decode b_MO_parent 21 = .ok (.iload_n 1, 1) := by decide +kernel
theorem d_MO_parent_22 : decode b_MO_parent 22 = .ok (.iaload, 1) := by decide +kernel
theorem d_MO_parent_23 : decode b_MO_parent 23 = .ok (.goto 4, 3) := by decide +kernel
theorem d_MO_parent_26 : decode b_MO_parent 26 = .ok (.iconst (-1), 1) := by decide +kernel
theorem d_MO_parent_27 : decode b_MO_parent 27 = .ok (.ireturn, 1) := by decide +kernel
theorem d_MO_isAtom_0 : decode b_MO_isAtom 0 = .ok (.iload_n 1, 1) := by decide +kernel
theorem d_MO_isAtom_1 : decode b_MO_isAtom 1 = .ok (.ifCond .lt 15, 3) := by decide +kernel
theorem d_MO_isAtom_4 : decode b_MO_isAtom 4 = .ok (.iload_n 1, 1) := by decide +kernel
theorem d_MO_isAtom_5 : decode b_MO_isAtom 5 = .ok (.aload_n 0, 1) := by decide +kernel
theorem d_MO_isAtom_6 : decode b_MO_isAtom 6 = .ok (.getfield 56, 3) := by decide +kernel
theorem d_MO_isAtom_9 : decode b_MO_isAtom 9 = .ok (.if_icmp .ge 7, 3) := by decide +kernel
theorem d_MO_isAtom_12 : decode b_MO_isAtom 12 = .ok (.iconst 1, 1) := by decide +kernel
theorem d_MO_isAtom_13 : decode b_MO_isAtom 13 = .ok (.goto 4, 3) := by decide +kernel
theorem d_MO_isAtom_16 : decode b_MO_isAtom 16 = .ok (.iconst 0, 1) := by decide +kernel
theorem d_MO_isAtom_17 : decode b_MO_isAtom 17 = .ok (.ireturn, 1) := by decide +kernel
theorem d_MO_turn_0 : decode b_MO_turn 0 = .ok (.aload_n 0, 1) := by decide +kernel
theorem d_MO_turn_1 : decode b_MO_turn 1 = .ok (.iconst 0, 1) := by decide +kernel
theorem d_MO_turn_2 : decode b_MO_turn 2 = .ok (.putfield 49, 3) := by decide +kernel
theorem d_MO_turn_5 : decode b_MO_turn 5 = .ok (.aload_n 0, 1) := by decide +kernel
theorem d_MO_turn_6 : decode b_MO_turn 6 = .ok (.invokevirtual 90, 3) := by decide +kernel
theorem d_MO_turn_9 : decode b_MO_turn 9 = .ok (.aload_n 0, 1) := by decide +kernel
theorem d_MO_turn_10 : decode b_MO_turn 10 = .ok (.iload_n 1, 1) := by decide +kernel
theorem d_MO_turn_11 : decode b_MO_turn 11 = .ok (.invokevirtual 97, 3) := by decide +kernel
theorem d_MO_turn_14 : decode b_MO_turn 14 = .ok (.ifCond .eq 12, 3) := by decide +kernel
theorem d_MO_turn_17 : decode b_MO_turn 17 = .ok (.aload_n 0, 1) := by decide +kernel
theorem d_MO_turn_18 : decode b_MO_turn 18 = .ok (.getfield 31, 3) := by decide +kernel
theorem d_MO_turn_21 : decode b_MO_turn 21 = .ok (.iload_n 1, 1) := by decide +kernel
theorem d_MO_turn_22 : decode b_MO_turn 22 = .ok (.iaload, 1) := by decide +kernel
theorem d_MO_turn_23 : decode b_MO_turn 23 = .ok (.goto 4, 3) := by decide +kernel
theorem d_MO_turn_26 : decode b_MO_turn 26 = .ok (.iconst (-1), 1) := by decide +kernel
theorem d_MO_turn_27 : decode b_MO_turn 27 = .ok (.ireturn, 1) := by decide +kernel
theorem d_MO_ways_0 : decode b_MO_ways 0 = .ok (.aload_n 0, 1) := by decide +kernel
theorem d_MO_ways_1 : decode b_MO_ways 1 = .ok (.aload_n 0, 1) := by decide +kernel
theorem d_MO_ways_2 : decode b_MO_ways 2 = .ok (.invokevirtual 93, 3) := by decide +kernel
theorem d_MO_ways_5 : decode b_MO_ways 5 = .ok (.ifCond .eq 7, 3) := by decide +kernel
theorem d_MO_ways_8 : decode b_MO_ways 8 = .ok (.iconst 0, 1) := by decide +kernel
theorem d_MO_ways_9 : decode b_MO_ways 9 = .ok (.goto 4, 3) := by decide +kernel
theorem d_MO_ways_12 : decode b_MO_ways 12 = .ok (.iconst 1, 1) := by decide +kernel
theorem d_MO_ways_13 : decode b_MO_ways 13 = .ok (.putfield 49, 3) := by decide +kernel
theorem d_MO_ways_16 : decode b_MO_ways 16 = .ok (.aload_n 0, 1) := by decide +kernel
theorem d_MO_ways_17 : decode b_MO_ways 17 = .ok (.getfield 49, 3) := by decide +kernel
theorem d_MO_ways_20 : decode b_MO_ways 20 = .ok (.ifCond .le 5, 3) := by decide +kernel
theorem d_MO_ways_23 : decode b_MO_ways 23 = .ok (.lconst 0, 1) := by decide +kernel
theorem d_MO_ways_24 : decode b_MO_ways 24 = .ok (.lreturn, 1) := by decide +kernel
theorem d_MO_ways_25 : decode b_MO_ways 25 = .ok (.aload_n 0, 1) := by decide +kernel
theorem d_MO_ways_26 : decode b_MO_ways 26 = .ok (.invokevirtual 118, 3) := by decide +kernel
theorem d_MO_ways_29 : decode b_MO_ways 29 = .ok (.aload_n 0, 1) := by decide +kernel
theorem d_MO_ways_30 : decode b_MO_ways 30 = .ok (.getfield 103, 3) := by decide +kernel
theorem d_MO_ways_33 : decode b_MO_ways 33 = .ok (.lreturn, 1) := by decide +kernel
theorem d_MO_look_0 : decode b_MO_look 0 = .ok (.aload_n 0, 1) := by decide +kernel
theorem d_MO_look_1 : decode b_MO_look 1 = .ok (.getfield 70, 3) := by decide +kernel
theorem d_MO_look_4 : decode b_MO_look 4 = .ok (.ifCond .eq 4, 3) := by decide +kernel
theorem d_MO_look_7 : decode b_MO_look 7 = .ok (.return_, 1) := by decide +kernel
theorem d_MO_look_8 : decode b_MO_look 8 = .ok (.aload_n 0, 1) := by decide +kernel
theorem d_MO_look_9 : decode b_MO_look 9 = .ok (.iconst 1, 1) := by decide +kernel
theorem d_MO_look_10 : decode b_MO_look 10 = .ok (.putfield 70, 3) := by decide +kernel
theorem d_MO_look_13 : decode b_MO_look 13 = .ok (.aload_n 0, 1) := by decide +kernel
theorem d_MO_look_14 : decode b_MO_look 14 = .ok (.lconst 0, 1) := by decide +kernel
theorem d_MO_look_15 : decode b_MO_look 15 = .ok (.putfield 103, 3) := by decide +kernel
theorem d_MO_look_18 : decode b_MO_look 18 = .ok (.iconst 0, 1) := by decide +kernel
theorem d_MO_look_19 : decode b_MO_look 19 = .ok (.istore_n 1, 1) := by decide +kernel
theorem d_MO_look_20 : decode b_MO_look 20 = .ok (.iload_n 1, 1) := by decide +kernel
theorem d_MO_look_21 : decode b_MO_look 21 = .ok (.bipush 6, 2) := by decide +kernel
theorem d_MO_look_23 : decode b_MO_look 23 = .ok (.if_icmp .ge 16, 3) := by decide +kernel
theorem d_MO_look_26 : decode b_MO_look 26 = .ok (.aload_n 0, 1) := by decide +kernel
theorem d_MO_look_27 : decode b_MO_look 27 = .ok (.getfield 40, 3) := by decide +kernel
theorem d_MO_look_30 : decode b_MO_look 30 = .ok (.iload_n 1, 1) := by decide +kernel
theorem d_MO_look_31 : decode b_MO_look 31 = .ok (.iconst 0, 1) := by decide +kernel
theorem d_MO_look_32 : decode b_MO_look 32 = .ok (.iastore, 1) := by decide +kernel
theorem d_MO_look_33 : decode b_MO_look 33 = .ok (.iinc 1 1, 3) := by decide +kernel
theorem d_MO_look_36 : decode b_MO_look 36 = .ok (.goto (-16), 3) := by decide +kernel
theorem d_MO_look_39 : decode b_MO_look 39 = .ok (.iconst 0, 1) := by decide +kernel
theorem d_MO_look_40 : decode b_MO_look 40 = .ok (.istore_n 1, 1) := by decide +kernel
theorem d_MO_look_41 : decode b_MO_look 41 = .ok (.iload_n 1, 1) := by decide +kernel
theorem d_MO_look_42 : decode b_MO_look 42 = .ok (.sipush 2048, 3) := by decide +kernel
theorem d_MO_look_45 : decode b_MO_look 45 = .ok (.if_icmp .ge 16, 3) := by decide +kernel
theorem d_MO_look_48 : decode b_MO_look 48 = .ok (.aload_n 0, 1) := by decide +kernel
theorem d_MO_look_49 : decode b_MO_look 49 = .ok (.getfield 43, 3) := by decide +kernel
theorem d_MO_look_52 : decode b_MO_look 52 = .ok (.iload_n 1, 1) := by decide +kernel
theorem d_MO_look_53 : decode b_MO_look 53 = .ok (.iconst 0, 1) := by decide +kernel
theorem d_MO_look_54 : decode b_MO_look 54 = .ok (.iastore, 1) := by decide +kernel
theorem d_MO_look_55 : decode b_MO_look 55 = .ok (.iinc 1 1, 3) := by decide +kernel
theorem d_MO_look_58 : decode b_MO_look 58 = .ok (.goto (-17), 3) := by decide +kernel
theorem d_MO_look_61 : decode b_MO_look 61 = .ok (.iconst 0, 1) := by decide +kernel
theorem d_MO_look_62 : decode b_MO_look 62 = .ok (.istore_n 1, 1) := by decide +kernel
theorem d_MO_look_63 : decode b_MO_look 63 = .ok (.aload_n 0, 1) := by decide +kernel
theorem d_MO_look_64 : decode b_MO_look 64 = .ok (.getfield 37, 3) := by decide +kernel
theorem d_MO_look_67 : decode b_MO_look 67 = .ok (.iconst 0, 1) := by decide +kernel
theorem d_MO_look_68 : decode b_MO_look 68 = .ok (.iconst 0, 1) := by decide +kernel
theorem d_MO_look_69 : decode b_MO_look 69 = .ok (.iastore, 1) := by decide +kernel
theorem d_MO_look_70 : decode b_MO_look 70 = .ok (.iload_n 1, 1) := by decide +kernel
theorem d_MO_look_71 : decode b_MO_look 71 = .ok (.ifCond .lt 93, 3) := by decide +kernel
theorem d_MO_look_74 : decode b_MO_look 74 = .ok (.iload_n 1, 1) := by decide +kernel
theorem d_MO_look_75 : decode b_MO_look 75 = .ok (.aload_n 0, 1) := by decide +kernel
theorem d_MO_look_76 : decode b_MO_look 76 = .ok (.getfield 56, 3) := by decide +kernel
theorem d_MO_look_79 : decode b_MO_look 79 = .ok (.if_icmp .ne 14, 3) := by decide +kernel
theorem d_MO_look_82 : decode b_MO_look 82 = .ok (.aload_n 0, 1) := by decide +kernel
theorem d_MO_look_83 : decode b_MO_look 83 = .ok (.invokevirtual 107, 3) := by decide +kernel
theorem d_MO_look_86 : decode b_MO_look 86 = .ok (.iload_n 1, 1) := by decide +kernel
theorem d_MO_look_87 : decode b_MO_look 87 = .ok (.iconst 1, 1) := by decide +kernel
theorem d_MO_look_88 : decode b_MO_look 88 = .ok (.isub, 1) := by decide +kernel
theorem d_MO_look_89 : decode b_MO_look 89 = .ok (.istore_n 1, 1) := by decide +kernel
theorem d_MO_look_90 : decode b_MO_look 90 = .ok (.goto (-20), 3) := by decide +kernel
theorem d_MO_look_93 : decode b_MO_look 93 = .ok (.aload_n 0, 1) := by decide +kernel
theorem d_MO_look_94 : decode b_MO_look 94 = .ok (.getfield 37, 3) := by decide +kernel
theorem d_MO_look_97 : decode b_MO_look 97 = .ok (.iload_n 1, 1) := by decide +kernel
theorem d_MO_look_98 : decode b_MO_look 98 = .ok (.iaload, 1) := by decide +kernel
theorem d_MO_look_99 : decode b_MO_look 99 = .ok (.aload_n 0, 1) := by decide +kernel
theorem d_MO_look_100 : decode b_MO_look 100 = .ok (.getfield 13, 3) := by decide +kernel
theorem d_MO_look_103 : decode b_MO_look 103 = .ok (.aload_n 0, 1) := by decide +kernel
theorem d_MO_look_104 : decode b_MO_look 104 = .ok (.getfield 19, 3) := by decide +kernel
theorem d_MO_look_107 : decode b_MO_look 107 = .ok (.iload_n 1, 1) := by decide +kernel
theorem d_MO_look_108 : decode b_MO_look 108 = .ok (.iaload, 1) := by decide +kernel
theorem d_MO_look_109 : decode b_MO_look 109 = .ok (.iaload, 1) := by decide +kernel
theorem d_MO_look_110 : decode b_MO_look 110 = .ok (.if_icmp .ne 10, 3) := by decide +kernel
theorem d_MO_look_113 : decode b_MO_look 113 = .ok (.iload_n 1, 1) := by decide +kernel
theorem d_MO_look_114 : decode b_MO_look 114 = .ok (.iconst 1, 1) := by decide +kernel
theorem d_MO_look_115 : decode b_MO_look 115 = .ok (.isub, 1) := by decide +kernel
theorem d_MO_look_116 : decode b_MO_look 116 = .ok (.istore_n 1, 1) := by decide +kernel
theorem d_MO_look_117 : decode b_MO_look 117 = .ok (.goto (-47), 3) := by decide +kernel
theorem d_MO_look_120 : decode b_MO_look 120 = .ok (.aload_n 0, 1) := by decide +kernel
theorem d_MO_look_121 : decode b_MO_look 121 = .ok (.getfield 37, 3) := by decide +kernel
theorem d_MO_look_124 : decode b_MO_look 124 = .ok (.iload_n 1, 1) := by decide +kernel
theorem d_MO_look_125 : decode b_MO_look 125 = .ok (.aload_n 0, 1) := by decide +kernel
theorem d_MO_look_126 : decode b_MO_look 126 = .ok (.getfield 37, 3) := by decide +kernel
theorem d_MO_look_129 : decode b_MO_look 129 = .ok (.iload_n 1, 1) := by decide +kernel
theorem d_MO_look_130 : decode b_MO_look 130 = .ok (.iaload, 1) := by decide +kernel
theorem d_MO_look_131 : decode b_MO_look 131 = .ok (.iconst 1, 1) := by decide +kernel
theorem d_MO_look_132 : decode b_MO_look 132 = .ok (.iadd, 1) := by decide +kernel
theorem d_MO_look_133 : decode b_MO_look 133 = .ok (.iastore, 1) := by decide +kernel
theorem d_MO_look_134 : decode b_MO_look 134 = .ok (.aload_n 0, 1) := by decide +kernel
theorem d_MO_look_135 : decode b_MO_look 135 = .ok (.iload_n 1, 1) := by decide +kernel
theorem d_MO_look_136 : decode b_MO_look 136 = .ok (.aload_n 0, 1) := by decide +kernel
theorem d_MO_look_137 : decode b_MO_look 137 = .ok (.getfield 37, 3) := by decide +kernel
theorem d_MO_look_140 : decode b_MO_look 140 = .ok (.iload_n 1, 1) := by decide +kernel
theorem d_MO_look_141 : decode b_MO_look 141 = .ok (.iaload, 1) := by decide +kernel
theorem d_MO_look_142 : decode b_MO_look 142 = .ok (.iconst 1, 1) := by decide +kernel
theorem d_MO_look_143 : decode b_MO_look 143 = .ok (.isub, 1) := by decide +kernel
theorem d_MO_look_144 : decode b_MO_look 144 = .ok (.invokevirtual 110, 3) := by decide +kernel
theorem d_MO_look_147 : decode b_MO_look 147 = .ok (.ifCond .eq (-77), 3) := by decide +kernel
theorem d_MO_look_150 : decode b_MO_look 150 = .ok (.iload_n 1, 1) := by decide +kernel
theorem d_MO_look_151 : decode b_MO_look 151 = .ok (.iconst 1, 1) := by decide +kernel
theorem d_MO_look_152 : decode b_MO_look 152 = .ok (.iadd, 1) := by decide +kernel
theorem d_MO_look_153 : decode b_MO_look 153 = .ok (.istore_n 1, 1) := by decide +kernel
theorem d_MO_look_154 : decode b_MO_look 154 = .ok (.aload_n 0, 1) := by decide +kernel
theorem d_MO_look_155 : decode b_MO_look 155 = .ok (.getfield 37, 3) := by decide +kernel
theorem d_MO_look_158 : decode b_MO_look 158 = .ok (.iload_n 1, 1) := by decide +kernel
theorem d_MO_look_159 : decode b_MO_look 159 = .ok (.iconst 0, 1) := by decide +kernel
theorem d_MO_look_160 : decode b_MO_look 160 = .ok (.iastore, 1) := by decide +kernel
theorem d_MO_look_161 : decode b_MO_look 161 = .ok (.goto (-91), 3) := by decide +kernel
theorem d_MO_look_164 : decode b_MO_look 164 = .ok (.aload_n 0, 1) := by decide +kernel
theorem d_MO_look_165 : decode b_MO_look 165 = .ok (.iconst 0, 1) := by decide +kernel
theorem d_MO_look_166 : decode b_MO_look 166 = .ok (.putfield 114, 3) := by decide +kernel
theorem d_MO_look_169 : decode b_MO_look 169 = .ok (.iconst 0, 1) := by decide +kernel
theorem d_MO_look_170 : decode b_MO_look 170 = .ok (.istore_n 2, 1) := by decide +kernel
theorem d_MO_look_171 : decode b_MO_look 171 = .ok (.iload_n 2, 1) := by decide +kernel
theorem d_MO_look_172 : decode b_MO_look 172 = .ok (.ldc 117, 2) := by decide +kernel
theorem d_MO_look_174 : decode b_MO_look 174 = .ok (.if_icmp .ge 57, 3) := by decide +kernel
theorem d_MO_look_177 : decode b_MO_look 177 = .ok (.aload_n 0, 1) := by decide +kernel
theorem d_MO_look_178 : decode b_MO_look 178 = .ok (.getfield 43, 3) := by decide +kernel
theorem d_MO_look_181 : decode b_MO_look 181 = .ok (.iload_n 2, 1) := by decide +kernel
theorem d_MO_look_182 : decode b_MO_look 182 = .ok (.iconst 5, 1) := by decide +kernel
theorem d_MO_look_183 : decode b_MO_look 183 = .ok (.ishr, 1) := by decide +kernel
theorem d_MO_look_184 : decode b_MO_look 184 = .ok (.iaload, 1) := by decide +kernel
theorem d_MO_look_185 : decode b_MO_look 185 = .ok (.iload_n 2, 1) := by decide +kernel
theorem d_MO_look_186 : decode b_MO_look 186 = .ok (.bipush 31, 2) := by decide +kernel
theorem d_MO_look_188 : decode b_MO_look 188 = .ok (.iand, 1) := by decide +kernel
theorem d_MO_look_189 : decode b_MO_look 189 = .ok (.ishr, 1) := by decide +kernel
theorem d_MO_look_190 : decode b_MO_look 190 = .ok (.iconst 1, 1) := by decide +kernel
theorem d_MO_look_191 : decode b_MO_look 191 = .ok (.iand, 1) := by decide +kernel
theorem d_MO_look_192 : decode b_MO_look 192 = .ok (.iconst 1, 1) := by decide +kernel
theorem d_MO_look_193 : decode b_MO_look 193 = .ok (.if_icmp .ne 32, 3) := by decide +kernel
theorem d_MO_look_196 : decode b_MO_look 196 = .ok (.aload_n 0, 1) := by decide +kernel
theorem d_MO_look_197 : decode b_MO_look 197 = .ok (.getfield 114, 3) := by decide +kernel
theorem d_MO_look_200 : decode b_MO_look 200 = .ok (.bipush 64, 2) := by decide +kernel
theorem d_MO_look_202 : decode b_MO_look 202 = .ok (.if_icmp .ge 13, 3) := by decide +kernel
theorem d_MO_look_205 : decode b_MO_look 205 = .ok (.aload_n 0, 1) := by decide +kernel
theorem d_MO_look_206 : decode b_MO_look 206 = .ok (.getfield 46, 3) := by decide +kernel
theorem d_MO_look_209 : decode b_MO_look 209 = .ok (.aload_n 0, 1) := by decide +kernel
theorem d_MO_look_210 : decode b_MO_look 210 = .ok (.getfield 114, 3) := by decide +kernel
theorem d_MO_look_213 : decode b_MO_look 213 = .ok (.iload_n 2, 1) := by decide +kernel
theorem d_MO_look_214 : decode b_MO_look 214 = .ok (.iastore, 1) := by decide +kernel
theorem d_MO_look_215 : decode b_MO_look 215 = .ok (.aload_n 0, 1) := by decide +kernel
theorem d_MO_look_216 : decode b_MO_look 216 = .ok (.aload_n 0, 1) := by decide +kernel
theorem d_MO_look_217 : decode b_MO_look 217 = .ok (.getfield 114, 3) := by decide +kernel
theorem d_MO_look_220 : decode b_MO_look 220 = .ok (.iconst 1, 1) := by decide +kernel
theorem d_MO_look_221 : decode b_MO_look 221 = .ok (.iadd, 1) := by decide +kernel
theorem d_MO_look_222 : decode b_MO_look 222 = .ok (.putfield 114, 3) := by decide +kernel
theorem d_MO_look_225 : decode b_MO_look 225 = .ok (.iinc 2 1, 3) := by decide +kernel
theorem d_MO_look_228 : decode b_MO_look 228 = .ok (.goto (-57), 3) := by decide +kernel
theorem d_MO_look_231 : decode b_MO_look 231 = .ok (.return_, 1) := by decide +kernel
theorem d_MO_note_0 : decode b_MO_note 0 = .ok (.aload_n 0, 1) := by decide +kernel
theorem d_MO_note_1 : decode b_MO_note 1 = .ok (.aload_n 0, 1) := by decide +kernel
theorem d_MO_note_2 : decode b_MO_note 2 = .ok (.getfield 103, 3) := by decide +kernel
theorem d_MO_note_5 : decode b_MO_note 5 = .ok (.lconst 1, 1) := by decide +kernel
theorem d_MO_note_6 : decode b_MO_note 6 = .ok (.ladd, 1) := by decide +kernel
theorem d_MO_note_7 : decode b_MO_note 7 = .ok (.putfield 103, 3) := by decide +kernel
theorem d_MO_note_10 : decode b_MO_note 10 = .ok (.iconst 0, 1) := by decide +kernel
theorem d_MO_note_11 : decode b_MO_note 11 = .ok (.istore_n 1, 1) := by decide +kernel
theorem d_MO_note_12 : decode b_MO_note 12 = .ok (.iload_n 1, 1) := by decide +kernel
theorem d_MO_note_13 : decode b_MO_note 13 = .ok (.aload_n 0, 1) := by decide +kernel
theorem d_MO_note_14 : decode b_MO_note 14 = .ok (.getfield 56, 3) := by decide +kernel
theorem d_MO_note_17 : decode b_MO_note 17 = .ok (.if_icmp .ge 32, 3) := by decide +kernel
theorem d_MO_note_20 : decode b_MO_note 20 = .ok (.aload_n 0, 1) := by decide +kernel
theorem d_MO_note_21 : decode b_MO_note 21 = .ok (.getfield 40, 3) := by decide +kernel
theorem d_MO_note_24 : decode b_MO_note 24 = .ok (.iload_n 1, 1) := by decide +kernel
theorem d_MO_note_25 : decode b_MO_note 25 = .ok (.aload_n 0, 1) := by decide +kernel
theorem d_MO_note_26 : decode b_MO_note 26 = .ok (.getfield 40, 3) := by decide +kernel
theorem d_MO_note_29 : decode b_MO_note 29 = .ok (.iload_n 1, 1) := by decide +kernel
theorem d_MO_note_30 : decode b_MO_note 30 = .ok (.iaload, 1) := by decide +kernel
theorem d_MO_note_31 : decode b_MO_note 31 = .ok (.iconst 1, 1) := by decide +kernel
theorem d_MO_note_32 : decode b_MO_note 32 = .ok (.aload_n 0, 1) := by decide +kernel
theorem d_MO_note_33 : decode b_MO_note 33 = .ok (.getfield 37, 3) := by decide +kernel
theorem d_MO_note_36 : decode b_MO_note 36 = .ok (.iload_n 1, 1) := by decide +kernel
theorem d_MO_note_37 : decode b_MO_note 37 = .ok (.iaload, 1) := by decide +kernel
theorem d_MO_note_38 : decode b_MO_note 38 = .ok (.iconst 1, 1) := by decide +kernel
theorem d_MO_note_39 : decode b_MO_note 39 = .ok (.isub, 1) := by decide +kernel
theorem d_MO_note_40 : decode b_MO_note 40 = .ok (.ishl, 1) := by decide +kernel
theorem d_MO_note_41 : decode b_MO_note 41 = .ok (.ior, 1) := by decide +kernel
theorem d_MO_note_42 : decode b_MO_note 42 = .ok (.iastore, 1) := by decide +kernel
theorem d_MO_note_43 : decode b_MO_note 43 = .ok (.iinc 1 1, 3) := by decide +kernel
theorem d_MO_note_46 : decode b_MO_note 46 = .ok (.goto (-34), 3) := by decide +kernel
theorem d_MO_note_49 : decode b_MO_note 49 = .ok (.iconst 0, 1) := by decide +kernel
theorem d_MO_note_50 : decode b_MO_note 50 = .ok (.istore_n 1, 1) := by decide +kernel
theorem d_MO_note_51 : decode b_MO_note 51 = .ok (.iconst 0, 1) := by decide +kernel
theorem d_MO_note_52 : decode b_MO_note 52 = .ok (.istore_n 2, 1) := by decide +kernel
theorem d_MO_note_53 : decode b_MO_note 53 = .ok (.iload_n 2, 1) := by decide +kernel
theorem d_MO_note_54 : decode b_MO_note 54 = .ok (.aload_n 0, 1) := by decide +kernel
theorem d_MO_note_55 : decode b_MO_note 55 = .ok (.getfield 74, 3) := by decide +kernel
theorem d_MO_note_58 : decode b_MO_note 58 = .ok (.if_icmp .ge 26, 3) := by decide +kernel
theorem d_MO_note_61 : decode b_MO_note 61 = .ok (.bipush 16, 2) := by decide +kernel
theorem d_MO_note_63 : decode b_MO_note 63 = .ok (.iload_n 1, 1) := by decide +kernel
theorem d_MO_note_64 : decode b_MO_note 64 = .ok (.imul, 1) := by decide +kernel
theorem d_MO_note_65 : decode b_MO_note 65 = .ok (.aload_n 0, 1) := by decide +kernel
theorem d_MO_note_66 : decode b_MO_note 66 = .ok (.getfield 34, 3) := by decide +kernel
theorem d_MO_note_69 : decode b_MO_note 69 = .ok (.aload_n 0, 1) := by decide +kernel
theorem d_MO_note_70 : decode b_MO_note 70 = .ok (.getfield 25, 3) := by decide +kernel
theorem d_MO_note_73 : decode b_MO_note 73 = .ok (.iload_n 2, 1) := by decide +kernel
theorem d_MO_note_74 : decode b_MO_note 74 = .ok (.iaload, 1) := by decide +kernel
theorem d_MO_note_75 : decode b_MO_note 75 = .ok (.iaload, 1) := by decide +kernel
theorem d_MO_note_76 : decode b_MO_note 76 = .ok (.iadd, 1) := by decide +kernel
theorem d_MO_note_77 : decode b_MO_note 77 = .ok (.istore_n 1, 1) := by decide +kernel
theorem d_MO_note_78 : decode b_MO_note 78 = .ok (.iinc 2 1, 3) := by decide +kernel
theorem d_MO_note_81 : decode b_MO_note 81 = .ok (.goto (-28), 3) := by decide +kernel
theorem d_MO_note_84 : decode b_MO_note 84 = .ok (.aload_n 0, 1) := by decide +kernel
theorem d_MO_note_85 : decode b_MO_note 85 = .ok (.getfield 43, 3) := by decide +kernel
theorem d_MO_note_88 : decode b_MO_note 88 = .ok (.iload_n 1, 1) := by decide +kernel
theorem d_MO_note_89 : decode b_MO_note 89 = .ok (.iconst 5, 1) := by decide +kernel
theorem d_MO_note_90 : decode b_MO_note 90 = .ok (.ishr, 1) := by decide +kernel
theorem d_MO_note_91 : decode b_MO_note 91 = .ok (.aload_n 0, 1) := by decide +kernel
theorem d_MO_note_92 : decode b_MO_note 92 = .ok (.getfield 43, 3) := by decide +kernel
theorem d_MO_note_95 : decode b_MO_note 95 = .ok (.iload_n 1, 1) := by decide +kernel
theorem d_MO_note_96 : decode b_MO_note 96 = .ok (.iconst 5, 1) := by decide +kernel
theorem d_MO_note_97 : decode b_MO_note 97 = .ok (.ishr, 1) := by decide +kernel
theorem d_MO_note_98 : decode b_MO_note 98 = .ok (.iaload, 1) := by decide +kernel
theorem d_MO_note_99 : decode b_MO_note 99 = .ok (.iconst 1, 1) := by decide +kernel
theorem d_MO_note_100 : decode b_MO_note 100 = .ok (.iload_n 1, 1) := by decide +kernel
theorem d_MO_note_101 : decode b_MO_note 101 = .ok (.bipush 31, 2) := by decide +kernel
theorem d_MO_note_103 : decode b_MO_note 103 = .ok (.iand, 1) := by decide +kernel
theorem d_MO_note_104 : decode b_MO_note 104 = .ok (.ishl, 1) := by decide +kernel
theorem d_MO_note_105 : decode b_MO_note 105 = .ok (.ior, 1) := by decide +kernel
theorem d_MO_note_106 : decode b_MO_note 106 = .ok (.iastore, 1) := by decide +kernel
theorem d_MO_note_107 : decode b_MO_note 107 = .ok (.return_, 1) := by decide +kernel
theorem d_MO_fits_0 : decode b_MO_fits 0 = .ok (.aload_n 0, 1) := by decide +kernel
theorem d_MO_fits_1 : decode b_MO_fits 1 = .ok (.getfield 19, 3) := by decide +kernel
theorem d_MO_fits_4 : decode b_MO_fits 4 = .ok (.iload_n 1, 1) := by decide +kernel
theorem d_MO_fits_5 : decode b_MO_fits 5 = .ok (.iaload, 1) := by decide +kernel
theorem d_MO_fits_6 : decode b_MO_fits 6 = .ok (.istore_n 3, 1) := by decide +kernel
theorem d_MO_fits_7 : decode b_MO_fits 7 = .ok (.aload_n 0, 1) := by decide +kernel
theorem d_MO_fits_8 : decode b_MO_fits 8 = .ok (.iload_n 1, 1) := by decide +kernel
theorem d_MO_fits_9 : decode b_MO_fits 9 = .ok (.invokevirtual 100, 3) := by decide +kernel
theorem d_MO_fits_12 : decode b_MO_fits 12 = .ok (.istore 4, 2) := by decide +kernel
theorem d_MO_fits_14 : decode b_MO_fits 14 = .ok (.iconst 1, 1) := by decide +kernel
theorem d_MO_fits_15 : decode b_MO_fits 15 = .ok (.istore 5, 2) := by decide +kernel
theorem d_MO_fits_17 : decode b_MO_fits 17 = .ok (.iconst 0, 1) := by decide +kernel
theorem d_MO_fits_18 : decode b_MO_fits 18 = .ok (.istore 6, 2) := by decide +kernel
theorem d_MO_fits_20 : decode b_MO_fits 20 = .ok (.iload 6, 2) := by decide +kernel
theorem d_MO_fits_22 : decode b_MO_fits 22 = .ok (.aload_n 0, 1) := by decide +kernel
theorem d_MO_fits_23 : decode b_MO_fits 23 = .ok (.getfield 7, 3) := by decide +kernel
theorem d_MO_fits_26 : decode b_MO_fits 26 = .ok (.iload_n 3, 1) := by decide +kernel
theorem d_MO_fits_27 : decode b_MO_fits 27 = .ok (.iaload, 1) := by decide +kernel
theorem d_MO_fits_28 : decode b_MO_fits 28 = .ok (.if_icmp .ge 112, 3) := by decide +kernel
theorem d_MO_fits_31 : decode b_MO_fits 31 = .ok (.iload 5, 2) := by decide +kernel
theorem d_MO_fits_33 : decode b_MO_fits 33 = .ok (.ifCond .eq 107, 3) := by decide +kernel
theorem d_MO_fits_36 : decode b_MO_fits 36 = .ok (.aload_n 0, 1) := by decide +kernel
theorem d_MO_fits_37 : decode b_MO_fits 37 = .ok (.getfield 22, 3) := by decide +kernel
theorem d_MO_fits_40 : decode b_MO_fits 40 = .ok (.iconst 3, 1) := by decide +kernel
theorem d_MO_fits_41 : decode b_MO_fits 41 = .ok (.iload_n 1, 1) := by decide +kernel
theorem d_MO_fits_42 : decode b_MO_fits 42 = .ok (.imul, 1) := by decide +kernel
theorem d_MO_fits_43 : decode b_MO_fits 43 = .ok (.iload 6, 2) := by decide +kernel
theorem d_MO_fits_45 : decode b_MO_fits 45 = .ok (.iadd, 1) := by decide +kernel
theorem d_MO_fits_46 : decode b_MO_fits 46 = .ok (.iaload, 1) := by decide +kernel
theorem d_MO_fits_47 : decode b_MO_fits 47 = .ok (.istore 7, 2) := by decide +kernel
theorem d_MO_fits_49 : decode b_MO_fits 49 = .ok (.aload_n 0, 1) := by decide +kernel
theorem d_MO_fits_50 : decode b_MO_fits 50 = .ok (.getfield 16, 3) := by decide +kernel
theorem d_MO_fits_53 : decode b_MO_fits 53 = .ok (.bipush 36, 2) := by decide +kernel
theorem d_MO_fits_55 : decode b_MO_fits 55 = .ok (.iload_n 3, 1) := by decide +kernel
theorem d_MO_fits_56 : decode b_MO_fits 56 = .ok (.imul, 1) := by decide +kernel
theorem d_MO_fits_57 : decode b_MO_fits 57 = .ok (.iconst 3, 1) := by decide +kernel
theorem d_MO_fits_58 : decode b_MO_fits 58 = .ok (.iload_n 2, 1) := by decide +kernel
theorem d_MO_fits_59 : decode b_MO_fits 59 = .ok (.imul, 1) := by decide +kernel
theorem d_MO_fits_60 : decode b_MO_fits 60 = .ok (.iadd, 1) := by decide +kernel
theorem d_MO_fits_61 : decode b_MO_fits 61 = .ok (.iload 6, 2) := by decide +kernel
theorem d_MO_fits_63 : decode b_MO_fits 63 = .ok (.iadd, 1) := by decide +kernel
theorem d_MO_fits_64 : decode b_MO_fits 64 = .ok (.iaload, 1) := by decide +kernel
theorem d_MO_fits_65 : decode b_MO_fits 65 = .ok (.istore 8, 2) := by decide +kernel
theorem d_MO_fits_67 : decode b_MO_fits 67 = .ok (.iload 4, 2) := by decide +kernel
theorem d_MO_fits_69 : decode b_MO_fits 69 = .ok (.iload 7, 2) := by decide +kernel
theorem d_MO_fits_71 : decode b_MO_fits 71 = .ok (.ishr, 1) := by decide +kernel
theorem d_MO_fits_72 : decode b_MO_fits 72 = .ok (.iconst 1, 1) := by decide +kernel
theorem d_MO_fits_73 : decode b_MO_fits 73 = .ok (.iand, 1) := by decide +kernel
theorem d_MO_fits_74 : decode b_MO_fits 74 = .ok (.ifCond .eq 15, 3) := by decide +kernel
theorem d_MO_fits_77 : decode b_MO_fits 77 = .ok (.aload_n 0, 1) := by decide +kernel
theorem d_MO_fits_78 : decode b_MO_fits 78 = .ok (.getfield 34, 3) := by decide +kernel
theorem d_MO_fits_81 : decode b_MO_fits 81 = .ok (.iload 7, 2) := by decide +kernel
theorem d_MO_fits_83 : decode b_MO_fits 83 = .ok (.iaload, 1) := by decide +kernel
theorem d_MO_fits_84 : decode b_MO_fits 84 = .ok (.iload 8, 2) := by decide +kernel
theorem d_MO_fits_86 : decode b_MO_fits 86 = .ok (.if_icmp .ne 7, 3) := by decide +kernel
theorem d_MO_fits_89 : decode b_MO_fits 89 = .ok (.iconst 1, 1) := by decide +kernel
theorem d_MO_fits_90 : decode b_MO_fits 90 = .ok (.goto 4, 3) := by decide +kernel
theorem d_MO_fits_93 : decode b_MO_fits 93 = .ok (.iconst 0, 1) := by decide +kernel
end
section
/-! decode rows, by program -/
theorem d_MO_fits_94 : decode b_MO_fits 94 = .ok (.istore 5, 2) := by decide +kernel
theorem d_MO_fits_96 : decode b_MO_fits 96 = .ok (.aload_n 0, 1) := by decide +kernel
theorem d_MO_fits_97 : decode b_MO_fits 97 = .ok (.getfield 34, 3) := by decide +kernel
theorem d_MO_fits_100 : decode b_MO_fits 100 = .ok (.iload 7, 2) := by decide +kernel
theorem d_MO_fits_102 : decode b_MO_fits 102 = .ok (.iload 4, 2) := by decide +kernel
theorem d_MO_fits_104 : decode b_MO_fits 104 = .ok (.iload 7, 2) := by decide +kernel
theorem d_MO_fits_106 : decode b_MO_fits 106 = .ok (.ishr, 1) := by decide +kernel
theorem d_MO_fits_107 : decode b_MO_fits 107 = .ok (.iconst 1, 1) := by decide +kernel
theorem d_MO_fits_108 : decode b_MO_fits 108 = .ok (.iand, 1) := by decide +kernel
theorem d_MO_fits_109 : decode b_MO_fits 109 = .ok (.ifCond .ne 8, 3) := by decide +kernel
theorem d_MO_fits_112 : decode b_MO_fits 112 = .ok (.iload 8, 2) := by decide +kernel
theorem d_MO_fits_114 : decode b_MO_fits 114 = .ok (.goto 10, 3) := by decide +kernel
theorem d_MO_fits_117 : decode b_MO_fits 117 = .ok (.aload_n 0, 1) := by decide +kernel
theorem d_MO_fits_118 : decode b_MO_fits 118 = .ok (.getfield 34, 3) := by decide +kernel
theorem d_MO_fits_121 : decode b_MO_fits 121 = .ok (.iload 7, 2) := by decide +kernel
theorem d_MO_fits_123 : decode b_MO_fits 123 = .ok (.iaload, 1) := by decide +kernel
theorem d_MO_fits_124 : decode b_MO_fits 124 = .ok (.iastore, 1) := by decide +kernel
theorem d_MO_fits_125 : decode b_MO_fits 125 = .ok (.iload 4, 2) := by decide +kernel
theorem d_MO_fits_127 : decode b_MO_fits 127 = .ok (.iconst 1, 1) := by decide +kernel
theorem d_MO_fits_128 : decode b_MO_fits 128 = .ok (.iload 7, 2) := by decide +kernel
theorem d_MO_fits_130 : decode b_MO_fits 130 = .ok (.ishl, 1) := by decide +kernel
theorem d_MO_fits_131 : decode b_MO_fits 131 = .ok (.ior, 1) := by decide +kernel
theorem d_MO_fits_132 : decode b_MO_fits 132 = .ok (.istore 4, 2) := by decide +kernel
theorem d_MO_fits_134 : decode b_MO_fits 134 = .ok (.iinc 6 1, 3) := by decide +kernel
theorem d_MO_fits_137 : decode b_MO_fits 137 = .ok (.goto (-117), 3) := by decide +kernel
theorem d_MO_fits_140 : decode b_MO_fits 140 = .ok (.iload 5, 2) := by decide +kernel
theorem d_MO_fits_142 : decode b_MO_fits 142 = .ok (.ireturn, 1) := by decide +kernel
theorem d_MO_before_0 : decode b_MO_before 0 = .ok (.iconst 0, 1) := by decide +kernel
theorem d_MO_before_1 : decode b_MO_before 1 = .ok (.istore_n 2, 1) := by decide +kernel
theorem d_MO_before_2 : decode b_MO_before 2 = .ok (.iconst 0, 1) := by decide +kernel
theorem d_MO_before_3 : decode b_MO_before 3 = .ok (.istore_n 3, 1) := by decide +kernel
theorem d_MO_before_4 : decode b_MO_before 4 = .ok (.iload_n 3, 1) := by decide +kernel
theorem d_MO_before_5 : decode b_MO_before 5 = .ok (.iload_n 1, 1) := by decide +kernel
theorem d_MO_before_6 : decode b_MO_before 6 = .ok (.if_icmp .ge 17, 3) := by decide +kernel
theorem d_MO_before_9 : decode b_MO_before 9 = .ok (.iload_n 2, 1) := by decide +kernel
theorem d_MO_before_10 : decode b_MO_before 10 = .ok (.aload_n 0, 1) := by decide +kernel
theorem d_MO_before_11 : decode b_MO_before 11 = .ok (.iload_n 3, 1) := by decide +kernel
theorem d_MO_before_12 : decode b_MO_before 12 = .ok (.invokevirtual 83, 3) := by decide +kernel
theorem d_MO_before_15 : decode b_MO_before 15 = .ok (.ior, 1) := by decide +kernel
theorem d_MO_before_16 : decode b_MO_before 16 = .ok (.istore_n 2, 1) := by decide +kernel
theorem d_MO_before_17 : decode b_MO_before 17 = .ok (.iinc 3 1, 3) := by decide +kernel
theorem d_MO_before_20 : decode b_MO_before 20 = .ok (.goto (-16), 3) := by decide +kernel
theorem d_MO_before_23 : decode b_MO_before 23 = .ok (.iload_n 2, 1) := by decide +kernel
theorem d_MO_before_24 : decode b_MO_before 24 = .ok (.ireturn, 1) := by decide +kernel
theorem d_MO_live_0 : decode b_MO_live 0 = .ok (.aload_n 0, 1) := by decide +kernel
theorem d_MO_live_1 : decode b_MO_live 1 = .ok (.aload_n 0, 1) := by decide +kernel
theorem d_MO_live_2 : decode b_MO_live 2 = .ok (.invokevirtual 93, 3) := by decide +kernel
theorem d_MO_live_5 : decode b_MO_live 5 = .ok (.ifCond .ne 7, 3) := by decide +kernel
theorem d_MO_live_8 : decode b_MO_live 8 = .ok (.iconst 1, 1) := by decide +kernel
theorem d_MO_live_9 : decode b_MO_live 9 = .ok (.goto 16, 3) := by decide +kernel
theorem d_MO_live_12 : decode b_MO_live 12 = .ok (.aload_n 0, 1) := by decide +kernel
theorem d_MO_live_13 : decode b_MO_live 13 = .ok (.iload_n 1, 1) := by decide +kernel
theorem d_MO_live_14 : decode b_MO_live 14 = .ok (.invokevirtual 97, 3) := by decide +kernel
theorem d_MO_live_17 : decode b_MO_live 17 = .ok (.ifCond .ne 7, 3) := by decide +kernel
theorem d_MO_live_20 : decode b_MO_live 20 = .ok (.iconst 2, 1) := by decide +kernel
theorem d_MO_live_21 : decode b_MO_live 21 = .ok (.goto 4, 3) := by decide +kernel
theorem d_MO_live_24 : decode b_MO_live 24 = .ok (.iconst 0, 1) := by decide +kernel
theorem d_MO_live_25 : decode b_MO_live 25 = .ok (.putfield 49, 3) := by decide +kernel
theorem d_MO_live_28 : decode b_MO_live 28 = .ok (.aload_n 0, 1) := by decide +kernel
theorem d_MO_live_29 : decode b_MO_live 29 = .ok (.getfield 49, 3) := by decide +kernel
theorem d_MO_live_32 : decode b_MO_live 32 = .ok (.ifCond .le 5, 3) := by decide +kernel
theorem d_MO_live_35 : decode b_MO_live 35 = .ok (.iconst 0, 1) := by decide +kernel
theorem d_MO_live_36 : decode b_MO_live 36 = .ok (.ireturn, 1) := by decide +kernel
theorem d_MO_live_37 : decode b_MO_live 37 = .ok (.aload_n 0, 1) := by decide +kernel
theorem d_MO_live_38 : decode b_MO_live 38 = .ok (.invokevirtual 118, 3) := by decide +kernel
theorem d_MO_live_41 : decode b_MO_live 41 = .ok (.iconst 0, 1) := by decide +kernel
theorem d_MO_live_42 : decode b_MO_live 42 = .ok (.istore_n 2, 1) := by decide +kernel
theorem d_MO_live_43 : decode b_MO_live 43 = .ok (.iconst 0, 1) := by decide +kernel
theorem d_MO_live_44 : decode b_MO_live 44 = .ok (.istore_n 3, 1) := by decide +kernel
theorem d_MO_live_45 : decode b_MO_live 45 = .ok (.iload_n 3, 1) := by decide +kernel
theorem d_MO_live_46 : decode b_MO_live 46 = .ok (.bipush 12, 2) := by decide +kernel
theorem d_MO_live_48 : decode b_MO_live 48 = .ok (.if_icmp .ge 22, 3) := by decide +kernel
theorem d_MO_live_51 : decode b_MO_live 51 = .ok (.iload_n 2, 1) := by decide +kernel
theorem d_MO_live_52 : decode b_MO_live 52 = .ok (.aload_n 0, 1) := by decide +kernel
theorem d_MO_live_53 : decode b_MO_live 53 = .ok (.getfield 40, 3) := by decide +kernel
theorem d_MO_live_56 : decode b_MO_live 56 = .ok (.iload_n 1, 1) := by decide +kernel
theorem d_MO_live_57 : decode b_MO_live 57 = .ok (.iaload, 1) := by decide +kernel
theorem d_MO_live_58 : decode b_MO_live 58 = .ok (.iload_n 3, 1) := by decide +kernel
theorem d_MO_live_59 : decode b_MO_live 59 = .ok (.ishr, 1) := by decide +kernel
theorem d_MO_live_60 : decode b_MO_live 60 = .ok (.iconst 1, 1) := by decide +kernel
theorem d_MO_live_61 : decode b_MO_live 61 = .ok (.iand, 1) := by decide +kernel
theorem d_MO_live_62 : decode b_MO_live 62 = .ok (.iadd, 1) := by decide +kernel
theorem d_MO_live_63 : decode b_MO_live 63 = .ok (.istore_n 2, 1) := by decide +kernel
theorem d_MO_live_64 : decode b_MO_live 64 = .ok (.iinc 3 1, 3) := by decide +kernel
theorem d_MO_live_67 : decode b_MO_live 67 = .ok (.goto (-22), 3) := by decide +kernel
theorem d_MO_live_70 : decode b_MO_live 70 = .ok (.iload_n 2, 1) := by decide +kernel
theorem d_MO_live_71 : decode b_MO_live 71 = .ok (.ireturn, 1) := by decide +kernel
theorem d_MO_answers_0 : decode b_MO_answers 0 = .ok (.aload_n 0, 1) := by decide +kernel
theorem d_MO_answers_1 : decode b_MO_answers 1 = .ok (.aload_n 0, 1) := by decide +kernel
theorem d_MO_answers_2 : decode b_MO_answers 2 = .ok (.invokevirtual 124, 3) := by decide +kernel
theorem d_MO_answers_5 : decode b_MO_answers 5 = .ok (.putfield 49, 3) := by decide +kernel
theorem d_MO_answers_8 : decode b_MO_answers 8 = .ok (.aload_n 0, 1) := by decide +kernel
theorem d_MO_answers_9 : decode b_MO_answers 9 = .ok (.getfield 49, 3) := by decide +kernel
theorem d_MO_answers_12 : decode b_MO_answers 12 = .ok (.ifCond .le 7, 3) := by decide +kernel
theorem d_MO_answers_15 : decode b_MO_answers 15 = .ok (.iconst 0, 1) := by decide +kernel
theorem d_MO_answers_16 : decode b_MO_answers 16 = .ok (.goto 7, 3) := by decide +kernel
theorem d_MO_answers_19 : decode b_MO_answers 19 = .ok (.aload_n 0, 1) := by decide +kernel
theorem d_MO_answers_20 : decode b_MO_answers 20 = .ok (.getfield 114, 3) := by decide +kernel
theorem d_MO_answers_23 : decode b_MO_answers 23 = .ok (.ireturn, 1) := by decide +kernel
theorem d_MO_codeOfAnswers_0 : decode b_MO_codeOfAnswers 0 = .ok (.aload_n 0, 1) := by decide +kernel
theorem d_MO_codeOfAnswers_1 : decode b_MO_codeOfAnswers 1 = .ok (.invokevirtual 93, 3) := by decide +kernel
theorem d_MO_codeOfAnswers_4 : decode b_MO_codeOfAnswers 4 = .ok (.ifCond .ne 5, 3) := by decide +kernel
theorem d_MO_codeOfAnswers_7 : decode b_MO_codeOfAnswers 7 = .ok (.iconst 1, 1) := by decide +kernel
theorem d_MO_codeOfAnswers_8 : decode b_MO_codeOfAnswers 8 = .ok (.ireturn, 1) := by decide +kernel
theorem d_MO_codeOfAnswers_9 : decode b_MO_codeOfAnswers 9 = .ok (.aload_n 0, 1) := by decide +kernel
theorem d_MO_codeOfAnswers_10 : decode b_MO_codeOfAnswers 10 = .ok (.invokevirtual 121, 3) := by decide +kernel
theorem d_MO_codeOfAnswers_13 : decode b_MO_codeOfAnswers 13 = .ok (.ifCond .ne 5, 3) := by decide +kernel
theorem d_MO_codeOfAnswers_16 : decode b_MO_codeOfAnswers 16 = .ok (.iconst 2, 1) := by decide +kernel
theorem d_MO_codeOfAnswers_17 : decode b_MO_codeOfAnswers 17 = .ok (.ireturn, 1) := by decide +kernel
theorem d_MO_codeOfAnswers_18 : decode b_MO_codeOfAnswers 18 = .ok (.aload_n 0, 1) := by decide +kernel
theorem d_MO_codeOfAnswers_19 : decode b_MO_codeOfAnswers 19 = .ok (.invokevirtual 118, 3) := by decide +kernel
theorem d_MO_codeOfAnswers_22 : decode b_MO_codeOfAnswers 22 = .ok (.aload_n 0, 1) := by decide +kernel
theorem d_MO_codeOfAnswers_23 : decode b_MO_codeOfAnswers 23 = .ok (.getfield 114, 3) := by decide +kernel
theorem d_MO_codeOfAnswers_26 : decode b_MO_codeOfAnswers 26 = .ok (.bipush 64, 2) := by decide +kernel
theorem d_MO_codeOfAnswers_28 : decode b_MO_codeOfAnswers 28 = .ok (.if_icmp .le 7, 3) := by decide +kernel
theorem d_MO_codeOfAnswers_31 : decode b_MO_codeOfAnswers 31 = .ok (.iconst 3, 1) := by decide +kernel
theorem d_MO_codeOfAnswers_32 : decode b_MO_codeOfAnswers 32 = .ok (.goto 4, 3) := by decide +kernel
theorem d_MO_codeOfAnswers_35 : decode b_MO_codeOfAnswers 35 = .ok (.iconst 0, 1) := by decide +kernel
theorem d_MO_codeOfAnswers_36 : decode b_MO_codeOfAnswers 36 = .ok (.ireturn, 1) := by decide +kernel
theorem d_MO_isHeadBound_0 : decode b_MO_isHeadBound 0 = .ok (.iconst 1, 1) := by decide +kernel
theorem d_MO_isHeadBound_1 : decode b_MO_isHeadBound 1 = .ok (.istore_n 1, 1) := by decide +kernel
theorem d_MO_isHeadBound_2 : decode b_MO_isHeadBound 2 = .ok (.iconst 0, 1) := by decide +kernel
theorem d_MO_isHeadBound_3 : decode b_MO_isHeadBound 3 = .ok (.istore_n 2, 1) := by decide +kernel
theorem d_MO_isHeadBound_4 : decode b_MO_isHeadBound 4 = .ok (.iload_n 2, 1) := by decide +kernel
theorem d_MO_isHeadBound_5 : decode b_MO_isHeadBound 5 = .ok (.aload_n 0, 1) := by decide +kernel
theorem d_MO_isHeadBound_6 : decode b_MO_isHeadBound 6 = .ok (.getfield 74, 3) := by decide +kernel
theorem d_MO_isHeadBound_9 : decode b_MO_isHeadBound 9 = .ok (.if_icmp .ge 40, 3) := by decide +kernel
theorem d_MO_isHeadBound_12 : decode b_MO_isHeadBound 12 = .ok (.iload_n 1, 1) := by decide +kernel
theorem d_MO_isHeadBound_13 : decode b_MO_isHeadBound 13 = .ok (.ifCond .eq 28, 3) := by decide +kernel
theorem d_MO_isHeadBound_16 : decode b_MO_isHeadBound 16 = .ok (.aload_n 0, 1) := by decide +kernel
theorem d_MO_isHeadBound_17 : decode b_MO_isHeadBound 17 = .ok (.aload_n 0, 1) := by decide +kernel
theorem d_MO_isHeadBound_18 : decode b_MO_isHeadBound 18 = .ok (.getfield 56, 3) := by decide +kernel
theorem d_MO_isHeadBound_21 : decode b_MO_isHeadBound 21 = .ok (.invokevirtual 100, 3) := by decide +kernel
theorem d_MO_isHeadBound_24 : decode b_MO_isHeadBound 24 = .ok (.aload_n 0, 1) := by decide +kernel
theorem d_MO_isHeadBound_25 : decode b_MO_isHeadBound 25 = .ok (.getfield 25, 3) := by decide +kernel
theorem d_MO_isHeadBound_28 : decode b_MO_isHeadBound 28 = .ok (.iload_n 2, 1) := by decide +kernel
theorem d_MO_isHeadBound_29 : decode b_MO_isHeadBound 29 = .ok (.iaload, 1) := by decide +kernel
theorem d_MO_isHeadBound_30 : decode b_MO_isHeadBound 30 = .ok (.ishr, 1) := by decide +kernel
theorem d_MO_isHeadBound_31 : decode b_MO_isHeadBound 31 = .ok (.iconst 1, 1) := by decide +kernel
theorem d_MO_isHeadBound_32 : decode b_MO_isHeadBound 32 = .ok (.iand, 1) := by decide +kernel
theorem d_MO_isHeadBound_33 : decode b_MO_isHeadBound 33 = .ok (.iconst 1, 1) := by decide +kernel
theorem d_MO_isHeadBound_34 : decode b_MO_isHeadBound 34 = .ok (.if_icmp .ne 7, 3) := by decide +kernel
theorem d_MO_isHeadBound_37 : decode b_MO_isHeadBound 37 = .ok (.iconst 1, 1) := by decide +kernel
theorem d_MO_isHeadBound_38 : decode b_MO_isHeadBound 38 = .ok (.goto 4, 3) := by decide +kernel
theorem d_MO_isHeadBound_41 : decode b_MO_isHeadBound 41 = .ok (.iconst 0, 1) := by decide +kernel
theorem d_MO_isHeadBound_42 : decode b_MO_isHeadBound 42 = .ok (.istore_n 1, 1) := by decide +kernel
theorem d_MO_isHeadBound_43 : decode b_MO_isHeadBound 43 = .ok (.iinc 2 1, 3) := by decide +kernel
theorem d_MO_isHeadBound_46 : decode b_MO_isHeadBound 46 = .ok (.goto (-42), 3) := by decide +kernel
theorem d_MO_isHeadBound_49 : decode b_MO_isHeadBound 49 = .ok (.iload_n 1, 1) := by decide +kernel
theorem d_MO_isHeadBound_50 : decode b_MO_isHeadBound 50 = .ok (.ireturn, 1) := by decide +kernel
theorem d_MO_answer_0 : decode b_MO_answer 0 = .ok (.aload_n 0, 1) := by decide +kernel
theorem d_MO_answer_1 : decode b_MO_answer 1 = .ok (.aload_n 0, 1) := by decide +kernel
theorem d_MO_answer_2 : decode b_MO_answer 2 = .ok (.invokevirtual 124, 3) := by decide +kernel
theorem d_MO_answer_5 : decode b_MO_answer 5 = .ok (.putfield 49, 3) := by decide +kernel
theorem d_MO_answer_8 : decode b_MO_answer 8 = .ok (.aload_n 0, 1) := by decide +kernel
theorem d_MO_answer_9 : decode b_MO_answer 9 = .ok (.getfield 49, 3) := by decide +kernel
theorem d_MO_answer_12 : decode b_MO_answer 12 = .ok (.ifCond .le 5, 3) := by decide +kernel
theorem d_MO_answer_15 : decode b_MO_answer 15 = .ok (.iconst 0, 1) := by decide +kernel
theorem d_MO_answer_16 : decode b_MO_answer 16 = .ok (.ireturn, 1) := by decide +kernel
theorem d_MO_answer_17 : decode b_MO_answer 17 = .ok (.iload_n 1, 1) := by decide +kernel
theorem d_MO_answer_18 : decode b_MO_answer 18 = .ok (.ifCond .lt 23, 3) := by decide +kernel
theorem d_MO_answer_21 : decode b_MO_answer 21 = .ok (.iload_n 1, 1) := by decide +kernel
theorem d_MO_answer_22 : decode b_MO_answer 22 = .ok (.aload_n 0, 1) := by decide +kernel
theorem d_MO_answer_23 : decode b_MO_answer 23 = .ok (.getfield 114, 3) := by decide +kernel
theorem d_MO_answer_26 : decode b_MO_answer 26 = .ok (.if_icmp .ge 15, 3) := by decide +kernel
theorem d_MO_answer_29 : decode b_MO_answer 29 = .ok (.iload_n 2, 1) := by decide +kernel
theorem d_MO_answer_30 : decode b_MO_answer 30 = .ok (.ifCond .lt 11, 3) := by decide +kernel
theorem d_MO_answer_33 : decode b_MO_answer 33 = .ok (.iload_n 2, 1) := by decide +kernel
theorem d_MO_answer_34 : decode b_MO_answer 34 = .ok (.aload_n 0, 1) := by decide +kernel
theorem d_MO_answer_35 : decode b_MO_answer 35 = .ok (.getfield 74, 3) := by decide +kernel
theorem d_MO_answer_38 : decode b_MO_answer 38 = .ok (.if_icmp .lt 10, 3) := by decide +kernel
theorem d_MO_answer_41 : decode b_MO_answer 41 = .ok (.aload_n 0, 1) := by decide +kernel
theorem d_MO_answer_42 : decode b_MO_answer 42 = .ok (.iconst 4, 1) := by decide +kernel
theorem d_MO_answer_43 : decode b_MO_answer 43 = .ok (.putfield 49, 3) := by decide +kernel
theorem d_MO_answer_46 : decode b_MO_answer 46 = .ok (.iconst 0, 1) := by decide +kernel
theorem d_MO_answer_47 : decode b_MO_answer 47 = .ok (.ireturn, 1) := by decide +kernel
theorem d_MO_answer_48 : decode b_MO_answer 48 = .ok (.aload_n 0, 1) := by decide +kernel
theorem d_MO_answer_49 : decode b_MO_answer 49 = .ok (.getfield 46, 3) := by decide +kernel
theorem d_MO_answer_52 : decode b_MO_answer 52 = .ok (.iload_n 1, 1) := by decide +kernel
theorem d_MO_answer_53 : decode b_MO_answer 53 = .ok (.iaload, 1) := by decide +kernel
theorem d_MO_answer_54 : decode b_MO_answer 54 = .ok (.iconst 4, 1) := by decide +kernel
theorem d_MO_answer_55 : decode b_MO_answer 55 = .ok (.aload_n 0, 1) := by decide +kernel
theorem d_MO_answer_56 : decode b_MO_answer 56 = .ok (.getfield 74, 3) := by decide +kernel
theorem d_MO_answer_59 : decode b_MO_answer 59 = .ok (.iconst 1, 1) := by decide +kernel
theorem d_MO_answer_60 : decode b_MO_answer 60 = .ok (.isub, 1) := by decide +kernel
theorem d_MO_answer_61 : decode b_MO_answer 61 = .ok (.iload_n 2, 1) := by decide +kernel
theorem d_MO_answer_62 : decode b_MO_answer 62 = .ok (.isub, 1) := by decide +kernel
theorem d_MO_answer_63 : decode b_MO_answer 63 = .ok (.imul, 1) := by decide +kernel
theorem d_MO_answer_64 : decode b_MO_answer 64 = .ok (.ishr, 1) := by decide +kernel
theorem d_MO_answer_65 : decode b_MO_answer 65 = .ok (.bipush 15, 2) := by decide +kernel
theorem d_MO_answer_67 : decode b_MO_answer 67 = .ok (.iand, 1) := by decide +kernel
theorem d_MO_answer_68 : decode b_MO_answer 68 = .ok (.ireturn, 1) := by decide +kernel
theorem d_LA_law_0 : decode code 0 = .ok (.new 8, 3) := by decide +kernel
theorem d_LA_law_3 : decode code 3 = .ok (.dup, 1) := by decide +kernel
theorem d_LA_law_4 : decode code 4 = .ok (.invokespecial 33, 3) := by decide +kernel
theorem d_LA_law_7 : decode code 7 = .ok (.astore_n 1, 1) := by decide +kernel
theorem d_LA_law_8 : decode code 8 = .ok (.new 34, 3) := by decide +kernel
theorem d_LA_law_11 : decode code 11 = .ok (.dup, 1) := by decide +kernel
theorem d_LA_law_12 : decode code 12 = .ok (.invokespecial 36, 3) := by decide +kernel
theorem d_LA_law_15 : decode code 15 = .ok (.astore_n 2, 1) := by decide +kernel
theorem d_LA_law_16 : decode code 16 = .ok (.iconst 1, 1) := by decide +kernel
theorem d_LA_law_17 : decode code 17 = .ok (.newarray .long, 2) := by decide +kernel
theorem d_LA_law_19 : decode code 19 = .ok (.astore_n 3, 1) := by decide +kernel
theorem d_LA_law_20 : decode code 20 = .ok (.iconst 0, 1) := by decide +kernel
theorem d_LA_law_21 : decode code 21 = .ok (.istore 4, 2) := by decide +kernel
theorem d_LA_law_23 : decode code 23 = .ok (.iload 4, 2) := by decide +kernel
theorem d_LA_law_25 : decode code 25 = .ok (.aload_n 0, 1) := by decide +kernel
theorem d_LA_law_26 : decode code 26 = .ok (.arraylength, 1) := by decide +kernel
theorem d_LA_law_27 : decode code 27 = .ok (.iconst 5, 1) := by decide +kernel
theorem d_LA_law_28 : decode code 28 = .ok (.isub, 1) := by decide +kernel
theorem d_LA_law_29 : decode code 29 = .ok (.if_icmp .gt 630, 3) := by decide +kernel
theorem d_LA_law_32 : decode code 32 = .ok (.aload_n 0, 1) := by decide +kernel
theorem d_LA_law_33 : decode code 33 = .ok (.iload 4, 2) := by decide +kernel
theorem d_LA_law_35 : decode code 35 = .ok (.iaload, 1) := by decide +kernel
theorem d_LA_law_36 : decode code 36 = .ok (.bipush 15, 2) := by decide +kernel
theorem d_LA_law_38 : decode code 38 = .ok (.iand, 1) := by decide +kernel
theorem d_LA_law_39 : decode code 39 = .ok (.tableswitch 614 0 13 #[69, 94, 155, 216, 241, 302, 327, 340, 353, 378, 403, 446, 502, 546], 69) := by decide +kernel
theorem d_LA_law_108 : decode code 108 = .ok (.aload_n 1, 1) := by decide +kernel
theorem d_LA_law_109 : decode code 109 = .ok (.aload_n 0, 1) := by decide +kernel
theorem d_LA_law_110 : decode code 110 = .ok (.iload 4, 2) := by decide +kernel
theorem d_LA_law_112 : decode code 112 = .ok (.iconst 1, 1) := by decide +kernel
theorem d_LA_law_113 : decode code 113 = .ok (.iadd, 1) := by decide +kernel
theorem d_LA_law_114 : decode code 114 = .ok (.iaload, 1) := by decide +kernel
theorem d_LA_law_115 : decode code 115 = .ok (.invokevirtual 37, 3) := by decide +kernel
theorem d_LA_law_118 : decode code 118 = .ok (.aload_n 2, 1) := by decide +kernel
theorem d_LA_law_119 : decode code 119 = .ok (.aload_n 0, 1) := by decide +kernel
theorem d_LA_law_120 : decode code 120 = .ok (.iload 4, 2) := by decide +kernel
theorem d_LA_law_122 : decode code 122 = .ok (.iconst 1, 1) := by decide +kernel
theorem d_LA_law_123 : decode code 123 = .ok (.iadd, 1) := by decide +kernel
theorem d_LA_law_124 : decode code 124 = .ok (.iaload, 1) := by decide +kernel
theorem d_LA_law_125 : decode code 125 = .ok (.invokevirtual 40, 3) := by decide +kernel
theorem d_LA_law_128 : decode code 128 = .ok (.if_icmp .eq 525, 3) := by decide +kernel
theorem d_LA_law_131 : decode code 131 = .ok (.iconst 0, 1) := by decide +kernel
theorem d_LA_law_132 : decode code 132 = .ok (.ireturn, 1) := by decide +kernel
theorem d_LA_law_133 : decode code 133 = .ok (.aload_n 1, 1) := by decide +kernel
theorem d_LA_law_134 : decode code 134 = .ok (.aload_n 0, 1) := by decide +kernel
theorem d_LA_law_135 : decode code 135 = .ok (.iload 4, 2) := by decide +kernel
theorem d_LA_law_137 : decode code 137 = .ok (.iconst 1, 1) := by decide +kernel
theorem d_LA_law_138 : decode code 138 = .ok (.iadd, 1) := by decide +kernel
theorem d_LA_law_139 : decode code 139 = .ok (.iaload, 1) := by decide +kernel
theorem d_LA_law_140 : decode code 140 = .ok (.aload_n 0, 1) := by decide +kernel
theorem d_LA_law_141 : decode code 141 = .ok (.iload 4, 2) := by decide +kernel
theorem d_LA_law_143 : decode code 143 = .ok (.iconst 2, 1) := by decide +kernel
theorem d_LA_law_144 : decode code 144 = .ok (.iadd, 1) := by decide +kernel
theorem d_LA_law_145 : decode code 145 = .ok (.iaload, 1) := by decide +kernel
theorem d_LA_law_146 : decode code 146 = .ok (.aload_n 0, 1) := by decide +kernel
theorem d_LA_law_147 : decode code 147 = .ok (.iload 4, 2) := by decide +kernel
theorem d_LA_law_149 : decode code 149 = .ok (.iconst 3, 1) := by decide +kernel
theorem d_LA_law_150 : decode code 150 = .ok (.iadd, 1) := by decide +kernel
theorem d_LA_law_151 : decode code 151 = .ok (.iaload, 1) := by decide +kernel
theorem d_LA_law_152 : decode code 152 = .ok (.aload_n 0, 1) := by decide +kernel
theorem d_LA_law_153 : decode code 153 = .ok (.iload 4, 2) := by decide +kernel
theorem d_LA_law_155 : decode code 155 = .ok (.iconst 4, 1) := by decide +kernel
theorem d_LA_law_156 : decode code 156 = .ok (.iadd, 1) := by decide +kernel
theorem d_LA_law_157 : decode code 157 = .ok (.iaload, 1) := by decide +kernel
theorem d_LA_law_158 : decode code 158 = .ok (.invokevirtual 41, 3) := by decide +kernel
theorem d_LA_law_161 : decode code 161 = .ok (.aload_n 2, 1) := by decide +kernel
theorem d_LA_law_162 : decode code 162 = .ok (.aload_n 0, 1) := by decide +kernel
theorem d_LA_law_163 : decode code 163 = .ok (.iload 4, 2) := by decide +kernel
theorem d_LA_law_165 : decode code 165 = .ok (.iconst 1, 1) := by decide +kernel
theorem d_LA_law_166 : decode code 166 = .ok (.iadd, 1) := by decide +kernel
theorem d_LA_law_167 : decode code 167 = .ok (.iaload, 1) := by decide +kernel
theorem d_LA_law_168 : decode code 168 = .ok (.aload_n 0, 1) := by decide +kernel
theorem d_LA_law_169 : decode code 169 = .ok (.iload 4, 2) := by decide +kernel
theorem d_LA_law_171 : decode code 171 = .ok (.iconst 2, 1) := by decide +kernel
theorem d_LA_law_172 : decode code 172 = .ok (.iadd, 1) := by decide +kernel
theorem d_LA_law_173 : decode code 173 = .ok (.iaload, 1) := by decide +kernel
theorem d_LA_law_174 : decode code 174 = .ok (.aload_n 0, 1) := by decide +kernel
theorem d_LA_law_175 : decode code 175 = .ok (.iload 4, 2) := by decide +kernel
theorem d_LA_law_177 : decode code 177 = .ok (.iconst 3, 1) := by decide +kernel
theorem d_LA_law_178 : decode code 178 = .ok (.iadd, 1) := by decide +kernel
theorem d_LA_law_179 : decode code 179 = .ok (.iaload, 1) := by decide +kernel
theorem d_LA_law_180 : decode code 180 = .ok (.aload_n 0, 1) := by decide +kernel
theorem d_LA_law_181 : decode code 181 = .ok (.iload 4, 2) := by decide +kernel
theorem d_LA_law_183 : decode code 183 = .ok (.iconst 4, 1) := by decide +kernel
theorem d_LA_law_184 : decode code 184 = .ok (.iadd, 1) := by decide +kernel
theorem d_LA_law_185 : decode code 185 = .ok (.iaload, 1) := by decide +kernel
theorem d_LA_law_186 : decode code 186 = .ok (.invokevirtual 45, 3) := by decide +kernel
theorem d_LA_law_189 : decode code 189 = .ok (.if_icmp .eq 464, 3) := by decide +kernel
theorem d_LA_law_192 : decode code 192 = .ok (.iconst 0, 1) := by decide +kernel
theorem d_LA_law_193 : decode code 193 = .ok (.ireturn, 1) := by decide +kernel
theorem d_LA_law_194 : decode code 194 = .ok (.aload_n 1, 1) := by decide +kernel
theorem d_LA_law_195 : decode code 195 = .ok (.aload_n 0, 1) := by decide +kernel
theorem d_LA_law_196 : decode code 196 = .ok (.iload 4, 2) := by decide +kernel
theorem d_LA_law_198 : decode code 198 = .ok (.iconst 1, 1) := by decide +kernel
theorem d_LA_law_199 : decode code 199 = .ok (.iadd, 1) := by decide +kernel
theorem d_LA_law_200 : decode code 200 = .ok (.iaload, 1) := by decide +kernel
theorem d_LA_law_201 : decode code 201 = .ok (.aload_n 0, 1) := by decide +kernel
theorem d_LA_law_202 : decode code 202 = .ok (.iload 4, 2) := by decide +kernel
theorem d_LA_law_204 : decode code 204 = .ok (.iconst 2, 1) := by decide +kernel
theorem d_LA_law_205 : decode code 205 = .ok (.iadd, 1) := by decide +kernel
theorem d_LA_law_206 : decode code 206 = .ok (.iaload, 1) := by decide +kernel
theorem d_LA_law_207 : decode code 207 = .ok (.aload_n 0, 1) := by decide +kernel
theorem d_LA_law_208 : decode code 208 = .ok (.iload 4, 2) := by decide +kernel
theorem d_LA_law_210 : decode code 210 = .ok (.iconst 3, 1) := by decide +kernel
theorem d_LA_law_211 : decode code 211 = .ok (.iadd, 1) := by decide +kernel
theorem d_LA_law_212 : decode code 212 = .ok (.iaload, 1) := by decide +kernel
theorem d_LA_law_213 : decode code 213 = .ok (.aload_n 0, 1) := by decide +kernel
theorem d_LA_law_214 : decode code 214 = .ok (.iload 4, 2) := by decide +kernel
theorem d_LA_law_216 : decode code 216 = .ok (.iconst 4, 1) := by decide +kernel
theorem d_LA_law_217 : decode code 217 = .ok (.iadd, 1) := by decide +kernel
theorem d_LA_law_218 : decode code 218 = .ok (.iaload, 1) := by decide +kernel
theorem d_LA_law_219 : decode code 219 = .ok (.invokevirtual 46, 3) := by decide +kernel
theorem d_LA_law_222 : decode code 222 = .ok (.aload_n 2, 1) := by decide +kernel
theorem d_LA_law_223 : decode code 223 = .ok (.aload_n 0, 1) := by decide +kernel
theorem d_LA_law_224 : decode code 224 = .ok (.iload 4, 2) := by decide +kernel
theorem d_LA_law_226 : decode code 226 = .ok (.iconst 1, 1) := by decide +kernel
theorem d_LA_law_227 : decode code 227 = .ok (.iadd, 1) := by decide +kernel
theorem d_LA_law_228 : decode code 228 = .ok (.iaload, 1) := by decide +kernel
theorem d_LA_law_229 : decode code 229 = .ok (.aload_n 0, 1) := by decide +kernel
theorem d_LA_law_230 : decode code 230 = .ok (.iload 4, 2) := by decide +kernel
theorem d_LA_law_232 : decode code 232 = .ok (.iconst 2, 1) := by decide +kernel
theorem d_LA_law_233 : decode code 233 = .ok (.iadd, 1) := by decide +kernel
theorem d_LA_law_234 : decode code 234 = .ok (.iaload, 1) := by decide +kernel
theorem d_LA_law_235 : decode code 235 = .ok (.aload_n 0, 1) := by decide +kernel
theorem d_LA_law_236 : decode code 236 = .ok (.iload 4, 2) := by decide +kernel
theorem d_LA_law_238 : decode code 238 = .ok (.iconst 3, 1) := by decide +kernel
theorem d_LA_law_239 : decode code 239 = .ok (.iadd, 1) := by decide +kernel
theorem d_LA_law_240 : decode code 240 = .ok (.iaload, 1) := by decide +kernel
theorem d_LA_law_241 : decode code 241 = .ok (.aload_n 0, 1) := by decide +kernel
theorem d_LA_law_242 : decode code 242 = .ok (.iload 4, 2) := by decide +kernel
theorem d_LA_law_244 : decode code 244 = .ok (.iconst 4, 1) := by decide +kernel
theorem d_LA_law_245 : decode code 245 = .ok (.iadd, 1) := by decide +kernel
theorem d_LA_law_246 : decode code 246 = .ok (.iaload, 1) := by decide +kernel
theorem d_LA_law_247 : decode code 247 = .ok (.invokevirtual 49, 3) := by decide +kernel
theorem d_LA_law_250 : decode code 250 = .ok (.if_icmp .eq 403, 3) := by decide +kernel
theorem d_LA_law_253 : decode code 253 = .ok (.iconst 0, 1) := by decide +kernel
theorem d_LA_law_254 : decode code 254 = .ok (.ireturn, 1) := by decide +kernel
theorem d_LA_law_255 : decode code 255 = .ok (.aload_n 1, 1) := by decide +kernel
theorem d_LA_law_256 : decode code 256 = .ok (.aload_n 0, 1) := by decide +kernel
theorem d_LA_law_257 : decode code 257 = .ok (.iload 4, 2) := by decide +kernel
theorem d_LA_law_259 : decode code 259 = .ok (.iconst 1, 1) := by decide +kernel
theorem d_LA_law_260 : decode code 260 = .ok (.iadd, 1) := by decide +kernel
theorem d_LA_law_261 : decode code 261 = .ok (.iaload, 1) := by decide +kernel
theorem d_LA_law_262 : decode code 262 = .ok (.invokevirtual 50, 3) := by decide +kernel
theorem d_LA_law_265 : decode code 265 = .ok (.aload_n 2, 1) := by decide +kernel
theorem d_LA_law_266 : decode code 266 = .ok (.aload_n 0, 1) := by decide +kernel
theorem d_LA_law_267 : decode code 267 = .ok (.iload 4, 2) := by decide +kernel
theorem d_LA_law_269 : decode code 269 = .ok (.iconst 1, 1) := by decide +kernel
theorem d_LA_law_270 : decode code 270 = .ok (.iadd, 1) := by decide +kernel
theorem d_LA_law_271 : decode code 271 = .ok (.iaload, 1) := by decide +kernel
theorem d_LA_law_272 : decode code 272 = .ok (.invokevirtual 53, 3) := by decide +kernel
theorem d_LA_law_275 : decode code 275 = .ok (.if_icmp .eq 378, 3) := by decide +kernel
theorem d_LA_law_278 : decode code 278 = .ok (.iconst 0, 1) := by decide +kernel
theorem d_LA_law_279 : decode code 279 = .ok (.ireturn, 1) := by decide +kernel
theorem d_LA_law_280 : decode code 280 = .ok (.aload_n 1, 1) := by decide +kernel
theorem d_LA_law_281 : decode code 281 = .ok (.aload_n 0, 1) := by decide +kernel
theorem d_LA_law_282 : decode code 282 = .ok (.iload 4, 2) := by decide +kernel
theorem d_LA_law_284 : decode code 284 = .ok (.iconst 1, 1) := by decide +kernel
theorem d_LA_law_285 : decode code 285 = .ok (.iadd, 1) := by decide +kernel
theorem d_LA_law_286 : decode code 286 = .ok (.iaload, 1) := by decide +kernel
theorem d_LA_law_287 : decode code 287 = .ok (.aload_n 0, 1) := by decide +kernel
theorem d_LA_law_288 : decode code 288 = .ok (.iload 4, 2) := by decide +kernel
theorem d_LA_law_290 : decode code 290 = .ok (.iconst 2, 1) := by decide +kernel
theorem d_LA_law_291 : decode code 291 = .ok (.iadd, 1) := by decide +kernel
theorem d_LA_law_292 : decode code 292 = .ok (.iaload, 1) := by decide +kernel
theorem d_LA_law_293 : decode code 293 = .ok (.aload_n 0, 1) := by decide +kernel
theorem d_LA_law_294 : decode code 294 = .ok (.iload 4, 2) := by decide +kernel
theorem d_LA_law_296 : decode code 296 = .ok (.iconst 3, 1) := by decide +kernel
theorem d_LA_law_297 : decode code 297 = .ok (.iadd, 1) := by decide +kernel
theorem d_LA_law_298 : decode code 298 = .ok (.iaload, 1) := by decide +kernel
theorem d_LA_law_299 : decode code 299 = .ok (.aload_n 0, 1) := by decide +kernel
theorem d_LA_law_300 : decode code 300 = .ok (.iload 4, 2) := by decide +kernel
theorem d_LA_law_302 : decode code 302 = .ok (.iconst 4, 1) := by decide +kernel
theorem d_LA_law_303 : decode code 303 = .ok (.iadd, 1) := by decide +kernel
theorem d_LA_law_304 : decode code 304 = .ok (.iaload, 1) := by decide +kernel
theorem d_LA_law_305 : decode code 305 = .ok (.invokevirtual 54, 3) := by decide +kernel
theorem d_LA_law_308 : decode code 308 = .ok (.aload_n 2, 1) := by decide +kernel
theorem d_LA_law_309 : decode code 309 = .ok (.aload_n 0, 1) := by decide +kernel
theorem d_LA_law_310 : decode code 310 = .ok (.iload 4, 2) := by decide +kernel
theorem d_LA_law_312 : decode code 312 = .ok (.iconst 1, 1) := by decide +kernel
theorem d_LA_law_313 : decode code 313 = .ok (.iadd, 1) := by decide +kernel
theorem d_LA_law_314 : decode code 314 = .ok (.iaload, 1) := by decide +kernel
theorem d_LA_law_315 : decode code 315 = .ok (.aload_n 0, 1) := by decide +kernel
theorem d_LA_law_316 : decode code 316 = .ok (.iload 4, 2) := by decide +kernel
theorem d_LA_law_318 : decode code 318 = .ok (.iconst 2, 1) := by decide +kernel
theorem d_LA_law_319 : decode code 319 = .ok (.iadd, 1) := by decide +kernel
theorem d_LA_law_320 : decode code 320 = .ok (.iaload, 1) := by decide +kernel
theorem d_LA_law_321 : decode code 321 = .ok (.aload_n 0, 1) := by decide +kernel
theorem d_LA_law_322 : decode code 322 = .ok (.iload 4, 2) := by decide +kernel
theorem d_LA_law_324 : decode code 324 = .ok (.iconst 3, 1) := by decide +kernel
theorem d_LA_law_325 : decode code 325 = .ok (.iadd, 1) := by decide +kernel
theorem d_LA_law_326 : decode code 326 = .ok (.iaload, 1) := by decide +kernel
theorem d_LA_law_327 : decode code 327 = .ok (.aload_n 0, 1) := by decide +kernel
theorem d_LA_law_328 : decode code 328 = .ok (.iload 4, 2) := by decide +kernel
theorem d_LA_law_330 : decode code 330 = .ok (.iconst 4, 1) := by decide +kernel
theorem d_LA_law_331 : decode code 331 = .ok (.iadd, 1) := by decide +kernel
theorem d_LA_law_332 : decode code 332 = .ok (.iaload, 1) := by decide +kernel
theorem d_LA_law_333 : decode code 333 = .ok (.invokevirtual 58, 3) := by decide +kernel
theorem d_LA_law_336 : decode code 336 = .ok (.if_icmp .eq 317, 3) := by decide +kernel
theorem d_LA_law_339 : decode code 339 = .ok (.iconst 0, 1) := by decide +kernel
theorem d_LA_law_340 : decode code 340 = .ok (.ireturn, 1) := by decide +kernel
theorem d_LA_law_341 : decode code 341 = .ok (.aload_n 1, 1) := by decide +kernel
theorem d_LA_law_342 : decode code 342 = .ok (.aload_n 0, 1) := by decide +kernel
theorem d_LA_law_343 : decode code 343 = .ok (.iload 4, 2) := by decide +kernel
theorem d_LA_law_345 : decode code 345 = .ok (.iconst 1, 1) := by decide +kernel
theorem d_LA_law_346 : decode code 346 = .ok (.iadd, 1) := by decide +kernel
theorem d_LA_law_347 : decode code 347 = .ok (.iaload, 1) := by decide +kernel
theorem d_LA_law_348 : decode code 348 = .ok (.invokevirtual 59, 3) := by decide +kernel
theorem d_LA_law_351 : decode code 351 = .ok (.aload_n 2, 1) := by decide +kernel
theorem d_LA_law_352 : decode code 352 = .ok (.aload_n 0, 1) := by decide +kernel
theorem d_LA_law_353 : decode code 353 = .ok (.iload 4, 2) := by decide +kernel
theorem d_LA_law_355 : decode code 355 = .ok (.iconst 1, 1) := by decide +kernel
theorem d_LA_law_356 : decode code 356 = .ok (.iadd, 1) := by decide +kernel
theorem d_LA_law_357 : decode code 357 = .ok (.iaload, 1) := by decide +kernel
theorem d_LA_law_358 : decode code 358 = .ok (.invokevirtual 62, 3) := by decide +kernel
theorem d_LA_law_361 : decode code 361 = .ok (.if_icmp .eq 292, 3) := by decide +kernel
theorem d_LA_law_364 : decode code 364 = .ok (.iconst 0, 1) := by decide +kernel
theorem d_LA_law_365 : decode code 365 = .ok (.ireturn, 1) := by decide +kernel
theorem d_LA_law_366 : decode code 366 = .ok (.aload_n 1, 1) := by decide +kernel
theorem d_LA_law_367 : decode code 367 = .ok (.invokevirtual 63, 3) := by decide +kernel
theorem d_LA_law_370 : decode code 370 = .ok (.aload_n 2, 1) := by decide +kernel
theorem d_LA_law_371 : decode code 371 = .ok (.invokevirtual 66, 3) := by decide +kernel
theorem d_LA_law_374 : decode code 374 = .ok (.if_icmp .eq 279, 3) := by decide +kernel
theorem d_LA_law_377 : decode code 377 = .ok (.iconst 0, 1) := by decide +kernel
theorem d_LA_law_378 : decode code 378 = .ok (.ireturn, 1) := by decide +kernel
theorem d_LA_law_379 : decode code 379 = .ok (.aload_n 1, 1) := by decide +kernel
theorem d_LA_law_380 : decode code 380 = .ok (.invokevirtual 67, 3) := by decide +kernel
theorem d_LA_law_383 : decode code 383 = .ok (.aload_n 2, 1) := by decide +kernel
theorem d_LA_law_384 : decode code 384 = .ok (.invokevirtual 71, 3) := by decide +kernel
theorem d_LA_law_387 : decode code 387 = .ok (.if_icmp .eq 266, 3) := by decide +kernel
theorem d_LA_law_390 : decode code 390 = .ok (.iconst 0, 1) := by decide +kernel
theorem d_LA_law_391 : decode code 391 = .ok (.ireturn, 1) := by decide +kernel
theorem d_LA_law_392 : decode code 392 = .ok (.aload_n 1, 1) := by decide +kernel
theorem d_LA_law_393 : decode code 393 = .ok (.aload_n 0, 1) := by decide +kernel
theorem d_LA_law_394 : decode code 394 = .ok (.iload 4, 2) := by decide +kernel
theorem d_LA_law_396 : decode code 396 = .ok (.iconst 1, 1) := by decide +kernel
theorem d_LA_law_397 : decode code 397 = .ok (.iadd, 1) := by decide +kernel
theorem d_LA_law_398 : decode code 398 = .ok (.iaload, 1) := by decide +kernel
theorem d_LA_law_399 : decode code 399 = .ok (.invokevirtual 72, 3) := by decide +kernel
theorem d_LA_law_402 : decode code 402 = .ok (.aload_n 2, 1) := by decide +kernel
theorem d_LA_law_403 : decode code 403 = .ok (.aload_n 0, 1) := by decide +kernel
theorem d_LA_law_404 : decode code 404 = .ok (.iload 4, 2) := by decide +kernel
theorem d_LA_law_406 : decode code 406 = .ok (.iconst 1, 1) := by decide +kernel
theorem d_LA_law_407 : decode code 407 = .ok (.iadd, 1) := by decide +kernel
theorem d_LA_law_408 : decode code 408 = .ok (.iaload, 1) := by decide +kernel
theorem d_LA_law_409 : decode code 409 = .ok (.invokevirtual 75, 3) := by decide +kernel
theorem d_LA_law_412 : decode code 412 = .ok (.if_icmp .eq 241, 3) := by decide +kernel
theorem d_LA_law_415 : decode code 415 = .ok (.iconst 0, 1) := by decide +kernel
theorem d_LA_law_416 : decode code 416 = .ok (.ireturn, 1) := by decide +kernel
theorem d_LA_law_417 : decode code 417 = .ok (.aload_n 1, 1) := by decide +kernel
theorem d_LA_law_418 : decode code 418 = .ok (.aload_n 0, 1) := by decide +kernel
theorem d_LA_law_419 : decode code 419 = .ok (.iload 4, 2) := by decide +kernel
theorem d_LA_law_421 : decode code 421 = .ok (.iconst 1, 1) := by decide +kernel
theorem d_LA_law_422 : decode code 422 = .ok (.iadd, 1) := by decide +kernel
theorem d_LA_law_423 : decode code 423 = .ok (.iaload, 1) := by decide +kernel
theorem d_LA_law_424 : decode code 424 = .ok (.invokevirtual 76, 3) := by decide +kernel
theorem d_LA_law_427 : decode code 427 = .ok (.aload_n 2, 1) := by decide +kernel
theorem d_LA_law_428 : decode code 428 = .ok (.aload_n 0, 1) := by decide +kernel
theorem d_LA_law_429 : decode code 429 = .ok (.iload 4, 2) := by decide +kernel
theorem d_LA_law_431 : decode code 431 = .ok (.iconst 1, 1) := by decide +kernel
theorem d_LA_law_432 : decode code 432 = .ok (.iadd, 1) := by decide +kernel
theorem d_LA_law_433 : decode code 433 = .ok (.iaload, 1) := by decide +kernel
theorem d_LA_law_434 : decode code 434 = .ok (.invokevirtual 79, 3) := by decide +kernel
theorem d_LA_law_437 : decode code 437 = .ok (.if_icmp .eq 216, 3) := by decide +kernel
theorem d_LA_law_440 : decode code 440 = .ok (.iconst 0, 1) := by decide +kernel
theorem d_LA_law_441 : decode code 441 = .ok (.ireturn, 1) := by decide +kernel
theorem d_LA_law_442 : decode code 442 = .ok (.aload_n 1, 1) := by decide +kernel
theorem d_LA_law_443 : decode code 443 = .ok (.aload_n 3, 1) := by decide +kernel
theorem d_LA_law_444 : decode code 444 = .ok (.invokestatic 80, 3) := by decide +kernel
theorem d_LA_law_447 : decode code 447 = .ok (.istore 5, 2) := by decide +kernel
theorem d_LA_law_449 : decode code 449 = .ok (.aload_n 2, 1) := by decide +kernel
theorem d_LA_law_450 : decode code 450 = .ok (.invokevirtual 85, 3) := by decide +kernel
theorem d_LA_law_453 : decode code 453 = .ok (.lstore 6, 2) := by decide +kernel
theorem d_LA_law_455 : decode code 455 = .ok (.aload_n 2, 1) := by decide +kernel
theorem d_LA_law_456 : decode code 456 = .ok (.invokevirtual 86, 3) := by decide +kernel
theorem d_LA_law_459 : decode code 459 = .ok (.iload 5, 2) := by decide +kernel
theorem d_LA_law_461 : decode code 461 = .ok (.if_icmp .eq 5, 3) := by decide +kernel
theorem d_LA_law_464 : decode code 464 = .ok (.iconst 0, 1) := by decide +kernel
theorem d_LA_law_465 : decode code 465 = .ok (.ireturn, 1) := by decide +kernel
theorem d_LA_law_466 : decode code 466 = .ok (.iload 5, 2) := by decide +kernel
theorem d_LA_law_468 : decode code 468 = .ok (.ifCond .ne 14, 3) := by decide +kernel
theorem d_LA_law_471 : decode code 471 = .ok (.aload_n 3, 1) := by decide +kernel
theorem d_LA_law_472 : decode code 472 = .ok (.iconst 0, 1) := by decide +kernel
theorem d_LA_law_473 : decode code 473 = .ok (.laload, 1) := by decide +kernel
theorem d_LA_law_474 : decode code 474 = .ok (.lload 6, 2) := by decide +kernel
theorem d_LA_law_476 : decode code 476 = .ok (.lcmp, 1) := by decide +kernel
theorem d_LA_law_477 : decode code 477 = .ok (.ifCond .eq 5, 3) := by decide +kernel
theorem d_LA_law_480 : decode code 480 = .ok (.iconst 0, 1) := by decide +kernel
theorem d_LA_law_481 : decode code 481 = .ok (.ireturn, 1) := by decide +kernel
theorem d_LA_law_482 : decode code 482 = .ok (.goto 171, 3) := by decide +kernel
theorem d_LA_law_485 : decode code 485 = .ok (.aload_n 1, 1) := by decide +kernel
theorem d_LA_law_486 : decode code 486 = .ok (.aload_n 0, 1) := by decide +kernel
theorem d_LA_law_487 : decode code 487 = .ok (.iload 4, 2) := by decide +kernel
theorem d_LA_law_489 : decode code 489 = .ok (.iconst 1, 1) := by decide +kernel
theorem d_LA_law_490 : decode code 490 = .ok (.iadd, 1) := by decide +kernel
theorem d_LA_law_491 : decode code 491 = .ok (.iaload, 1) := by decide +kernel
theorem d_LA_law_492 : decode code 492 = .ok (.aload_n 3, 1) := by decide +kernel
theorem d_LA_law_493 : decode code 493 = .ok (.invokestatic 89, 3) := by decide +kernel
theorem d_LA_law_496 : decode code 496 = .ok (.istore 5, 2) := by decide +kernel
theorem d_LA_law_498 : decode code 498 = .ok (.aload_n 2, 1) := by decide +kernel
theorem d_LA_law_499 : decode code 499 = .ok (.aload_n 0, 1) := by decide +kernel
theorem d_LA_law_500 : decode code 500 = .ok (.iload 4, 2) := by decide +kernel
theorem d_LA_law_502 : decode code 502 = .ok (.iconst 1, 1) := by decide +kernel
theorem d_LA_law_503 : decode code 503 = .ok (.iadd, 1) := by decide +kernel
theorem d_LA_law_504 : decode code 504 = .ok (.iaload, 1) := by decide +kernel
theorem d_LA_law_505 : decode code 505 = .ok (.invokevirtual 92, 3) := by decide +kernel
theorem d_LA_law_508 : decode code 508 = .ok (.istore 6, 2) := by decide +kernel
theorem d_LA_law_510 : decode code 510 = .ok (.aload_n 2, 1) := by decide +kernel
theorem d_LA_law_511 : decode code 511 = .ok (.invokevirtual 86, 3) := by decide +kernel
theorem d_LA_law_514 : decode code 514 = .ok (.iload 5, 2) := by decide +kernel
theorem d_LA_law_516 : decode code 516 = .ok (.if_icmp .eq 5, 3) := by decide +kernel
theorem d_LA_law_519 : decode code 519 = .ok (.iconst 0, 1) := by decide +kernel
theorem d_LA_law_520 : decode code 520 = .ok (.ireturn, 1) := by decide +kernel
theorem d_LA_law_521 : decode code 521 = .ok (.iload 5, 2) := by decide +kernel
theorem d_LA_law_523 : decode code 523 = .ok (.ifCond .ne 15, 3) := by decide +kernel
theorem d_LA_law_526 : decode code 526 = .ok (.aload_n 3, 1) := by decide +kernel
theorem d_LA_law_527 : decode code 527 = .ok (.iconst 0, 1) := by decide +kernel
theorem d_LA_law_528 : decode code 528 = .ok (.laload, 1) := by decide +kernel
theorem d_LA_law_529 : decode code 529 = .ok (.iload 6, 2) := by decide +kernel
theorem d_LA_law_531 : decode code 531 = .ok (.i2l, 1) := by decide +kernel
theorem d_LA_law_532 : decode code 532 = .ok (.lcmp, 1) := by decide +kernel
theorem d_LA_law_533 : decode code 533 = .ok (.ifCond .eq 5, 3) := by decide +kernel
theorem d_LA_law_536 : decode code 536 = .ok (.iconst 0, 1) := by decide +kernel
theorem d_LA_law_537 : decode code 537 = .ok (.ireturn, 1) := by decide +kernel
theorem d_LA_law_538 : decode code 538 = .ok (.goto 115, 3) := by decide +kernel
theorem d_LA_law_541 : decode code 541 = .ok (.aload_n 1, 1) := by decide +kernel
theorem d_LA_law_542 : decode code 542 = .ok (.aload_n 3, 1) := by decide +kernel
theorem d_LA_law_543 : decode code 543 = .ok (.invokestatic 93, 3) := by decide +kernel
theorem d_LA_law_546 : decode code 546 = .ok (.istore 5, 2) := by decide +kernel
theorem d_LA_law_548 : decode code 548 = .ok (.aload_n 2, 1) := by decide +kernel
theorem d_LA_law_549 : decode code 549 = .ok (.invokevirtual 95, 3) := by decide +kernel
theorem d_LA_law_552 : decode code 552 = .ok (.istore 6, 2) := by decide +kernel
theorem d_LA_law_554 : decode code 554 = .ok (.aload_n 2, 1) := by decide +kernel
theorem d_LA_law_555 : decode code 555 = .ok (.invokevirtual 86, 3) := by decide +kernel
theorem d_LA_law_558 : decode code 558 = .ok (.iload 5, 2) := by decide +kernel
theorem d_LA_law_560 : decode code 560 = .ok (.if_icmp .eq 5, 3) := by decide +kernel
theorem d_LA_law_563 : decode code 563 = .ok (.iconst 0, 1) := by decide +kernel
theorem d_LA_law_564 : decode code 564 = .ok (.ireturn, 1) := by decide +kernel
theorem d_LA_law_565 : decode code 565 = .ok (.iload 5, 2) := by decide +kernel
theorem d_LA_law_567 : decode code 567 = .ok (.ifCond .ne 15, 3) := by decide +kernel
theorem d_LA_law_570 : decode code 570 = .ok (.aload_n 3, 1) := by decide +kernel
theorem d_LA_law_571 : decode code 571 = .ok (.iconst 0, 1) := by decide +kernel
theorem d_LA_law_572 : decode code 572 = .ok (.laload, 1) := by decide +kernel
theorem d_LA_law_573 : decode code 573 = .ok (.iload 6, 2) := by decide +kernel
theorem d_LA_law_575 : decode code 575 = .ok (.i2l, 1) := by decide +kernel
theorem d_LA_law_576 : decode code 576 = .ok (.lcmp, 1) := by decide +kernel
theorem d_LA_law_577 : decode code 577 = .ok (.ifCond .eq 5, 3) := by decide +kernel
theorem d_LA_law_580 : decode code 580 = .ok (.iconst 0, 1) := by decide +kernel
theorem d_LA_law_581 : decode code 581 = .ok (.ireturn, 1) := by decide +kernel
theorem d_LA_law_582 : decode code 582 = .ok (.goto 71, 3) := by decide +kernel
theorem d_LA_law_585 : decode code 585 = .ok (.aload_n 1, 1) := by decide +kernel
theorem d_LA_law_586 : decode code 586 = .ok (.aload_n 0, 1) := by decide +kernel
theorem d_LA_law_587 : decode code 587 = .ok (.iload 4, 2) := by decide +kernel
theorem d_LA_law_589 : decode code 589 = .ok (.iconst 1, 1) := by decide +kernel
theorem d_LA_law_590 : decode code 590 = .ok (.iadd, 1) := by decide +kernel
theorem d_LA_law_591 : decode code 591 = .ok (.iaload, 1) := by decide +kernel
theorem d_LA_law_592 : decode code 592 = .ok (.aload_n 0, 1) := by decide +kernel
theorem d_LA_law_593 : decode code 593 = .ok (.iload 4, 2) := by decide +kernel
theorem d_LA_law_595 : decode code 595 = .ok (.iconst 2, 1) := by decide +kernel
theorem d_LA_law_596 : decode code 596 = .ok (.iadd, 1) := by decide +kernel
theorem d_LA_law_597 : decode code 597 = .ok (.iaload, 1) := by decide +kernel
theorem d_LA_law_598 : decode code 598 = .ok (.aload_n 3, 1) := by decide +kernel
theorem d_LA_law_599 : decode code 599 = .ok (.invokestatic 96, 3) := by decide +kernel
theorem d_LA_law_602 : decode code 602 = .ok (.istore 5, 2) := by decide +kernel
theorem d_LA_law_604 : decode code 604 = .ok (.aload_n 2, 1) := by decide +kernel
theorem d_LA_law_605 : decode code 605 = .ok (.aload_n 0, 1) := by decide +kernel
theorem d_LA_law_606 : decode code 606 = .ok (.iload 4, 2) := by decide +kernel
theorem d_LA_law_608 : decode code 608 = .ok (.iconst 1, 1) := by decide +kernel
theorem d_LA_law_609 : decode code 609 = .ok (.iadd, 1) := by decide +kernel
theorem d_LA_law_610 : decode code 610 = .ok (.iaload, 1) := by decide +kernel
theorem d_LA_law_611 : decode code 611 = .ok (.aload_n 0, 1) := by decide +kernel
theorem d_LA_law_612 : decode code 612 = .ok (.iload 4, 2) := by decide +kernel
theorem d_LA_law_614 : decode code 614 = .ok (.iconst 2, 1) := by decide +kernel
theorem d_LA_law_615 : decode code 615 = .ok (.iadd, 1) := by decide +kernel
theorem d_LA_law_616 : decode code 616 = .ok (.iaload, 1) := by decide +kernel
theorem d_LA_law_617 : decode code 617 = .ok (.invokevirtual 99, 3) := by decide +kernel
theorem d_LA_law_620 : decode code 620 = .ok (.istore 6, 2) := by decide +kernel
theorem d_LA_law_622 : decode code 622 = .ok (.aload_n 2, 1) := by decide +kernel
theorem d_LA_law_623 : decode code 623 = .ok (.invokevirtual 86, 3) := by decide +kernel
theorem d_LA_law_626 : decode code 626 = .ok (.iload 5, 2) := by decide +kernel
theorem d_LA_law_628 : decode code 628 = .ok (.if_icmp .eq 5, 3) := by decide +kernel
theorem d_LA_law_631 : decode code 631 = .ok (.iconst 0, 1) := by decide +kernel
theorem d_LA_law_632 : decode code 632 = .ok (.ireturn, 1) := by decide +kernel
theorem d_LA_law_633 : decode code 633 = .ok (.iload 5, 2) := by decide +kernel
theorem d_LA_law_635 : decode code 635 = .ok (.ifCond .ne 15, 3) := by decide +kernel
theorem d_LA_law_638 : decode code 638 = .ok (.aload_n 3, 1) := by decide +kernel
theorem d_LA_law_639 : decode code 639 = .ok (.iconst 0, 1) := by decide +kernel
theorem d_LA_law_640 : decode code 640 = .ok (.laload, 1) := by decide +kernel
theorem d_LA_law_641 : decode code 641 = .ok (.iload 6, 2) := by decide +kernel
theorem d_LA_law_643 : decode code 643 = .ok (.i2l, 1) := by decide +kernel
theorem d_LA_law_644 : decode code 644 = .ok (.lcmp, 1) := by decide +kernel
theorem d_LA_law_645 : decode code 645 = .ok (.ifCond .eq 5, 3) := by decide +kernel
theorem d_LA_law_648 : decode code 648 = .ok (.iconst 0, 1) := by decide +kernel
theorem d_LA_law_649 : decode code 649 = .ok (.ireturn, 1) := by decide +kernel
theorem d_LA_law_650 : decode code 650 = .ok (.goto 3, 3) := by decide +kernel
theorem d_LA_law_653 : decode code 653 = .ok (.iinc 4 5, 3) := by decide +kernel
theorem d_LA_law_656 : decode code 656 = .ok (.goto (-633), 3) := by decide +kernel
theorem d_LA_law_659 : decode code 659 = .ok (.iconst 1, 1) := by decide +kernel
theorem d_LA_law_660 : decode code 660 = .ok (.ireturn, 1) := by decide +kernel
end
section
/-! The world of this claim: all cells that the law makes, numbered 1 .. N in the order of their making; cell k lies at the address b + k. A memory holds, for each cell, its kind and length, and its ints, longs and references (a reference is a cell's number, 0 is null). -/
abbrev Mem : Type := Nat × (Nat → Nat × Nat) × (Nat → Nat → Int32) × (Nat → Nat → Int64) × (Nat → Nat → Nat)
def mN (μ : Mem) : Nat := μ.1
def mK (μ : Mem) (k : Nat) : Nat := (μ.2.1 k).1
def mZ (μ : Mem) (k : Nat) : Nat := (μ.2.1 k).2
def mI (μ : Mem) : Nat → Nat → Int32 := μ.2.2.1
def mL (μ : Mem) : Nat → Nat → Int64 := μ.2.2.2.1
def mR (μ : Mem) : Nat → Nat → Nat := μ.2.2.2.2
def sI (μ : Mem) (k j : Nat) (v : Int32) : Mem := (μ.1, μ.2.1, va_up μ.2.2.1 k (upd (μ.2.2.1 k) j v), μ.2.2.2.1, μ.2.2.2.2)
def sL (μ : Mem) (k j : Nat) (v : Int64) : Mem := (μ.1, μ.2.1, μ.2.2.1, va_up μ.2.2.2.1 k (vp_updL (μ.2.2.2.1 k) j v), μ.2.2.2.2)
def sR (μ : Mem) (k j : Nat) (v : Nat) : Mem := (μ.1, μ.2.1, μ.2.2.1, μ.2.2.2.1, va_up μ.2.2.2.2 k (va_up (μ.2.2.2.2 k) j v))
/-- a new cell of kind c and length z: its number is N + 1 -/
def al (μ : Mem) (c z : Nat) : Mem := (μ.1 + 1, va_up μ.2.1 (μ.1 + 1) (c, z), va_up μ.2.2.1 (μ.1 + 1) (fun _ => 0), va_up μ.2.2.2.1 (μ.1 + 1) (fun _ => 0), va_up μ.2.2.2.2 (μ.1 + 1) (fun _ => 0))
/-- cell k is there, and of kind c -/
def ok (μ : Mem) (k c : Nat) : Bool := decide (0 < k) && (decide (k ≤ mN μ) && decide (mK μ k = c))
/-- an index in range -/
def ib (i : Int32) (n : Nat) : Bool := !(decide (i < 0)) && decide (i.toNatClampNeg < n)
theorem ok_e {μ : Mem} {k c : Nat} (h : ok μ k c = true) : 0 < k ∧ k ≤ mN μ ∧ mK μ k = c := by
  simpa [ok] using h
theorem ib_in {i : Int32} {n : Nat} (h : ib i n = true) : vp_in i n := by
  simp only [ib, Bool.and_eq_true, Bool.not_eq_true', decide_eq_false_iff_not, decide_eq_true_eq] at h
  intro q
  rcases q with q | q
  · exact h.1 q
  · omega
/-- fields of the classes by their places -/
def jN (ci : Nat) : Nat := match vwCl[ci]? with
  | some r => r.2.2
  | none => 0
def rv (b r : Nat) : Value := if r = 0 then .null else .ref (b + r)
def ro (b r : Nat) : Option Nat := if r = 0 then none else some (b + r)
def fv (b : Nat) (μ : Mem) (k j : Nat) (ty : FieldType) : Value := match ty with
  | .int => .int (mI μ k j)
  | .boolean => .int (mI μ k j)
  | .long => .long (mL μ k j)
  | _ => rv b (mR μ k j)
def fl (b : Nat) (μ : Mem) (k ci : Nat) : List Value := (List.range (jN ci)).map (fun j => fv b μ k j (jT ci j))
def ce (b : Nat) (cs : Nat → ClassId) (μ : Mem) (k : Nat) : va_E :=
  if mK μ k < 100 then .inr (mK μ k, fl b μ k (mK μ k))
  else if mK μ k = 100 then .inl (cs 0, mZ μ k, .inl (mI μ k))
  else if mK μ k = 101 then .inl (cs 1, mZ μ k, .inr (.inl (mL μ k)))
  else .inl (cs (mK μ k - 100), mZ μ k, .inr (.inr (.inr (.inr (fun j => ro b (mR μ k j))))))
def en (b : Nat) (cs : Nat → ClassId) (μ : Mem) : va_W := (List.range (mN μ)).map (fun i => (b + (i + 1), ce b cs μ (i + 1)))
theorem en_at {b : Nat} {cs : Nat → ClassId} {μ : Mem} {i : Nat} {q : Nat × va_E} (h : (en b cs μ)[i]? = some q) : i < mN μ ∧ q = (b + (i + 1), ce b cs μ (i + 1)) := by
  unfold en at h
  rw [List.getElem?_map] at h
  by_cases hi : i < mN μ
  · rw [List.getElem?_range hi] at h
    exact ⟨hi, (Option.some.inj h).symm⟩
  · rw [List.getElem?_eq_none (by simpa using hi)] at h
    cases h
theorem en_get {b : Nat} {cs : Nat → ClassId} {μ : Mem} {k : Nat} (h0 : 0 < k) (h1 : k ≤ mN μ) : (en b cs μ)[k - 1]? = some (b + k, ce b cs μ k) := by
  obtain ⟨i, rfl⟩ : ∃ i, k = i + 1 := ⟨k - 1, by omega⟩
  unfold en
  rw [List.getElem?_map, show i + 1 - 1 = i by omega, List.getElem?_range (by omega)]
  rfl
theorem en_D {A : Nat → Prop} {b : Nat} {cs : Nat → ClassId} {μ : Mem} (hA : ∀ k, 0 < k → k ≤ mN μ → A (b + k)) : va_D A (en b cs μ) := by
  refine ⟨fun i j p q hi hj hpq => ?_, fun k q hk => ?_⟩
  · obtain ⟨-, rfl⟩ := en_at hi
    obtain ⟨-, rfl⟩ := en_at hj
    have : b + (i + 1) = b + (j + 1) := hpq
    omega
  · obtain ⟨hlt, rfl⟩ := en_at hk
    exact hA (k + 1) (Nat.succ_pos _) hlt
theorem en_len {b : Nat} {cs : Nat → ClassId} {μ : Mem} : (en b cs μ).length = mN μ := by simp [en]
theorem en_set {b : Nat} {cs : Nat → ClassId} {μ μ' : Mem} {k : Nat} {x : va_E} (hN : mN μ' = mN μ) (h0 : 0 < k) (hd : ∀ q, q ≠ k → ce b cs μ' q = ce b cs μ q) (hx : ce b cs μ' k = x) : (en b cs μ).set (k - 1) (b + k, x) = en b cs μ' := by
  subst hx
  apply List.ext_getElem?
  intro i
  rw [List.getElem?_set, en_len]
  by_cases hk : k - 1 = i
  · subst hk
    rw [if_pos rfl]
    by_cases hl : k - 1 < mN μ
    · rw [if_pos hl, en_get h0 (by omega)]
    · rw [if_neg hl, List.getElem?_eq_none (by rw [en_len]; omega)]
  · rw [if_neg hk]
    unfold en
    rw [List.getElem?_map, List.getElem?_map, hN]
    by_cases hl : i < mN μ
    · rw [List.getElem?_range hl]
      show some (b + (i + 1), ce b cs μ (i + 1)) = some (b + (i + 1), ce b cs μ' (i + 1))
      rw [hd (i + 1) (by omega)]
    · rw [List.getElem?_eq_none (by simpa using hl)]
      rfl
theorem ce_congr {b : Nat} {cs : Nat → ClassId} {μ μ' : Mem} {q : Nat} (h1 : μ'.2.1 q = μ.2.1 q) (h2 : mI μ' q = mI μ q) (h3 : mL μ' q = mL μ q) (h4 : mR μ' q = mR μ q) : ce b cs μ' q = ce b cs μ q := by
  have hK : mK μ' q = mK μ q := by unfold mK; rw [h1]
  have hZ : mZ μ' q = mZ μ q := by unfold mZ; rw [h1]
  have hf : ∀ ci, fl b μ' q ci = fl b μ q ci := by
    intro ci
    unfold fl
    apply List.map_congr_left
    intro j _
    unfold fv
    rw [h2, h3, h4]
  unfold ce
  rw [hK, hZ, h2, h3, h4, hf]
theorem ce_obj {b : Nat} {cs : Nat → ClassId} {μ : Mem} {k ci : Nat} (h : mK μ k = ci) (hc : ci < 100) : ce b cs μ k = .inr (ci, fl b μ k ci) := by
  unfold ce
  rw [h, if_pos hc]
theorem ce_int {b : Nat} {cs : Nat → ClassId} {μ : Mem} {k : Nat} (h : mK μ k = 100) : ce b cs μ k = .inl (cs 0, mZ μ k, .inl (mI μ k)) := by
  unfold ce
  rw [h]
  rfl
theorem ce_long {b : Nat} {cs : Nat → ClassId} {μ : Mem} {k : Nat} (h : mK μ k = 101) : ce b cs μ k = .inl (cs 1, mZ μ k, .inr (.inl (mL μ k))) := by
  unfold ce
  rw [h]
  rfl
theorem ce_refs {b : Nat} {cs : Nat → ClassId} {μ : Mem} {k t : Nat} (h : mK μ k = 102 + t) : ce b cs μ k = .inl (cs (2 + t), mZ μ k, .inr (.inr (.inr (.inr (fun j => ro b (mR μ k j)))))) := by
  unfold ce
  rw [h, if_neg (by omega), if_neg (by omega), if_neg (by omega), show 102 + t - 100 = 2 + t by omega]
/-- the object k of class ci, as the rows of the kit want it -/
theorem en_obj {b : Nat} {cs : Nat → ClassId} {μ : Mem} {k ci : Nat} (h : ok μ k ci = true) (hc : ci < 100) : (en b cs μ)[k - 1]? = some (b + k, .inr (ci, fl b μ k ci)) := by
  obtain ⟨h0, h1, h2⟩ := ok_e h
  rw [en_get h0 h1, ce_obj h2 hc]
theorem en_int {b : Nat} {cs : Nat → ClassId} {μ : Mem} {k : Nat} (h : ok μ k 100 = true) : (en b cs μ)[k - 1]? = some (b + k, .inl (cs 0, mZ μ k, .inl (mI μ k))) := by
  obtain ⟨h0, h1, h2⟩ := ok_e h
  rw [en_get h0 h1, ce_int h2]
theorem en_long {b : Nat} {cs : Nat → ClassId} {μ : Mem} {k : Nat} (h : ok μ k 101 = true) : (en b cs μ)[k - 1]? = some (b + k, .inl (cs 1, mZ μ k, .inr (.inl (mL μ k)))) := by
  obtain ⟨h0, h1, h2⟩ := ok_e h
  rw [en_get h0 h1, ce_long h2]
theorem en_refs {b : Nat} {cs : Nat → ClassId} {μ : Mem} {k : Nat} (t : Nat) (h : ok μ k (102 + t) = true) : (en b cs μ)[k - 1]? = some (b + k, .inl (cs (2 + t), mZ μ k, .inr (.inr (.inr (.inr (fun j => ro b (mR μ k j))))))) := by
  obtain ⟨h0, h1, h2⟩ := ok_e h
  rw [en_get h0 h1, ce_refs h2]
theorem fl_get {b : Nat} {μ : Mem} {k ci j : Nat} {v : Value} (hj : j < jN ci) (hv : fv b μ k j (jT ci j) = v) : (fl b μ k ci)[j]? = some v := by
  unfold fl
  rw [List.getElem?_map, List.getElem?_range hj]
  exact congrArg some hv
theorem fl_len {b : Nat} {μ : Mem} {k ci : Nat} : (fl b μ k ci).length = jN ci := by simp [fl]
theorem fl_set {b : Nat} {μ μ' : Mem} {k ci j : Nat} {v : Value} (ho : ∀ i, i ≠ j → fv b μ' k i (jT ci i) = fv b μ k i (jT ci i)) (hv : fv b μ' k j (jT ci j) = v) : (fl b μ k ci).set j v = fl b μ' k ci := by
  subst hv
  apply List.ext_getElem?
  intro i
  rw [List.getElem?_set, fl_len]
  by_cases hk : j = i
  · subst hk
    rw [if_pos rfl]
    by_cases hl : j < jN ci
    · rw [if_pos hl, fl_get hl rfl]
    · rw [if_neg hl, List.getElem?_eq_none (by rw [fl_len]; omega)]
  · rw [if_neg hk]
    by_cases hl : i < jN ci
    · rw [fl_get hl rfl, fl_get hl rfl, ho i (Ne.symm hk)]
    · rw [List.getElem?_eq_none (by rw [fl_len]; omega), List.getElem?_eq_none (by rw [fl_len]; omega)]
/-- the array classes, by their places: kind 100 + place -/
abbrev tl (cs : Nat → ClassId) : List (ClassId × FieldType) := jA cs
/-- the world: the heap H holds the memory μ; since H0 nothing has changed but what A names; A names every cell of the memory -/
def Wd (A : Nat → Prop) (b : Nat) (cs : Nat → ClassId) (D : va_G) (H0 : Heap) (μ : Mem) (H : Heap) (locs : List Loc) : Prop := b + mN μ < H.size ∧ va_P D vwCl (en b cs μ) H ∧ va_S A H0 H locs ∧ ∀ k, 0 < k → k ≤ mN μ → A (b + k)
/-- what a state knows of the classes: the tables' classes and array classes, and the links between nest mates -/
def Kw (cs : Nat → ClassId) (D : va_G) (U : State) : Prop := va_K D vwCl (tl cs) U ∧ (∀ w ∈ jNest, va_Nw w U) ∧ va_AO "JoinedLeaves$Relation" U ∧ va_AO "JoinedLeaves$Atom" U ∧ (Cond.arrayOver (.array .int)).before #[] U = true ∧ (Cond.arrayOver (.array .long)).before #[] U = true
/-- a contract's world behind it, and its start -/
def Bw (b : Nat) (cs : Nat → ClassId) (D : va_G) (μ : Mem) (t : State) : Prop := b + mN μ < t.heap.size ∧ va_P D vwCl (en b cs μ) t.heap
abbrev Pw (b : Nat) (cs : Nat → ClassId) (D : va_G) (μ : Mem) (av : List Value) : Array Value → State → Prop := va_Pc av (fun U => Bw b cs D μ U ∧ Kw cs D U)
def isNest : Cond → Bool
  | .fieldLinkNest _ _ _ _ _ _ => true
  | .methodLinkNest _ _ _ _ => true
  | .castable _ _ => true
  | _ => false
theorem isNest_warm {w : Cond} (h : isNest w = true) {u U : State} (hW : u.WarmedH U.vm) (hZ : va_Nw w u) : va_Nw w U := by
  cases w <;> first | (cases h; done) | exact va_Nw.warmF hW hZ | exact va_Nw.warmM hW hZ | exact va_Nw.warmC hW hZ
theorem isNest_same {w : Cond} (h : isNest w = true) {u U : State} (hW : u.vm = U.vm) (hZ : va_Nw w u) : va_Nw w U := by
  cases w <;> first | (cases h; done) | exact va_Nw.same rfl hW hZ
theorem jNest_ok : ∀ w ∈ jNest, isNest w = true := by decide +kernel
theorem Kw.warm {cs : Nat → ClassId} {D : va_G} {u U : State} (hW : u.WarmedH U.vm) (h : Kw cs D u) : Kw cs D U := ⟨va_K.moved hW.alike h.1, fun w hw => isNest_warm (jNest_ok w hw) hW (h.2.1 w hw), va_AO.moved hW.alike h.2.2.1, va_AO.moved hW.alike h.2.2.2.1, over_moved hW.alike h.2.2.2.2.1, over_moved hW.alike h.2.2.2.2.2⟩
theorem Kw.same {cs : Nat → ClassId} {D : va_G} {u U : State} (hW : u.vm = U.vm) (h : Kw cs D u) : Kw cs D U := ⟨va_K.moved (by rw [hW]; exact Vm.Alike.refl _) h.1, fun w hw => isNest_same (jNest_ok w hw) hW (h.2.1 w hw), va_AO.moved (by rw [hW]; exact Vm.Alike.refl _) h.2.2.1, va_AO.moved (by rw [hW]; exact Vm.Alike.refl _) h.2.2.2.1, over_moved (by rw [hW]; exact Vm.Alike.refl _) h.2.2.2.2.1, over_moved (by rw [hW]; exact Vm.Alike.refl _) h.2.2.2.2.2⟩
theorem Kw.nest {cs : Nat → ClassId} {D : va_G} {u : State} {a : Array Value} (h : Kw cs D u) (w : Cond) (hw : w ∈ jNest) (ho : w.onTables = true) : w.before a u = true := va_Nw.use ho (h.2.1 w hw)
theorem Kw.over_RE {cs : Nat → ClassId} {D : va_G} {u : State} {a : Array Value} (h : Kw cs D u) : (Cond.arrayOver (.object "JoinedLeaves$Relation")).before a u = true := va_AO.use h.2.2.1
theorem Kw.over_AT {cs : Nat → ClassId} {D : va_G} {u : State} {a : Array Value} (h : Kw cs D u) : (Cond.arrayOver (.object "JoinedLeaves$Atom")).before a u = true := va_AO.use h.2.2.2.1
theorem Kw.over_I {cs : Nat → ClassId} {D : va_G} {u : State} {a : Array Value} (h : Kw cs D u) : (Cond.arrayOver (.array .int)).before a u = true := over_moved (Vm.Alike.refl _) h.2.2.2.2.1
theorem Kw.over_J {cs : Nat → ClassId} {D : va_G} {u : State} {a : Array Value} (h : Kw cs D u) : (Cond.arrayOver (.array .long)).before a u = true := over_moved (Vm.Alike.refl _) h.2.2.2.2.2
/-- the cells 1 .. n of a memory -/
def Aw (b n : Nat) : Nat → Prop := fun q => b < q ∧ q ≤ b + n
theorem Aw.all {b n : Nat} : ∀ k, 0 < k → k ≤ n → Aw b n (b + k) := fun k h1 h2 => ⟨by omega, by omega⟩
theorem Aw.le {b n k : Nat} (h : ∀ j, 0 < j → j ≤ k → Aw b n (b + j)) : k ≤ n := by
  by_cases h0 : 0 < k
  · have := (h k h0 (Nat.le_refl _)).2
    omega
  · omega
theorem Aw.sub {A : Nat → Prop} {b n q : Nat} (h : ∀ k, 0 < k → k ≤ n → A (b + k)) (hq : Aw b n q) : A q := by
  obtain ⟨k, rfl⟩ : ∃ k, q = b + k := ⟨q - b, by have := hq.1; omega⟩
  exact h k (by have := hq.1; omega) (by have := hq.2; omega)
/-- contracts: int, long, void; res: the answer and the memory behind it -/
abbrev MetI (l : Launch) (y : MethodName) (ws : List Cond) (fr lo b : Nat) (cs : Nat → ClassId) (D : va_G) (μ : Mem) (av : List Value) (res : Int32 × Mem) : Prop := Met l y ws { frames := fr, cells := 0, slots := 0, locals := lo } (Pw b cs D μ av) (va_Qi (fun r μ' => (r, μ') = res ∧ mN μ' ≤ mN μ) (Bw b cs D) (Aw b (mN μ))) 0 0 (Aw b (mN μ))
abbrev MetL (l : Launch) (y : MethodName) (ws : List Cond) (fr lo b : Nat) (cs : Nat → ClassId) (D : va_G) (μ : Mem) (av : List Value) (res : Int64 × Mem) : Prop := Met l y ws { frames := fr, cells := 0, slots := 0, locals := lo } (Pw b cs D μ av) (va_Ql (fun r μ' => (r, μ') = res ∧ mN μ' ≤ mN μ) (Bw b cs D) (Aw b (mN μ))) 0 0 (Aw b (mN μ))
abbrev MetV (l : Launch) (y : MethodName) (ws : List Cond) (fr lo b : Nat) (cs : Nat → ClassId) (D : va_G) (μ : Mem) (av : List Value) (res : Mem) : Prop := Met l y ws { frames := fr, cells := 0, slots := 0, locals := lo } (Pw b cs D μ av) (va_Qv (fun μ' => μ' = res ∧ mN μ' ≤ mN μ) (Bw b cs D) (Aw b (mN μ))) 0 0 (Aw b (mN μ))
theorem of_g {α : Type} {c : Prop} [Decidable c] {E : Option α} {r : α} (h : (if c then E else none) = some r) : c ∧ E = some r := by
  by_cases hc : c
  · rw [if_pos hc] at h
    exact ⟨hc, h⟩
  · rw [if_neg hc] at h
    cases h
theorem of_b {α β : Type} {x : Option α} {f : α → Option β} {r : β} (h : Option.bind x f = some r) : ∃ q, x = some q ∧ f q = some r := by
  cases x with
  | none => cases h
  | some q => exact ⟨q, rfl, h⟩
theorem Pw_blind {b : Nat} {cs : Nat → ClassId} {D : va_G} {μ : Mem} {av : List Value} : FrameBlind (Pw b cs D μ av) := fun a U g mk q => by
  obtain ⟨q0, q1, qK⟩ := q
  exact ⟨q0, q1, Kw.same (u := U) (U := U.calling g mk a) rfl qK⟩
section JW
variable {p : Program} {l : Launch} {e : Env} {R : Room} {s : State} {m : MethodId} {args : Array Value} {below : List Frame} {meth : Method} {c : Code} {H H0 : Heap} {locs : List Loc} {cells slots : Nat} {Q : State → Prop} {cc : ByteArray} {pc : Nat} {ls : Array Slot} {rest : List Value} {b : Nat} {cs : Nat → ClassId} {D : va_G} {μ : Mem} {A : Nat → Prop}
theorem Wd.start {av : List Value} (h : Pw b cs D μ av args s) : args = av.toArray ∧ Kw cs D s ∧ Wd (Aw b (mN μ)) b cs D s.heap μ s.heap [] := ⟨h.1, h.2.2, h.2.1.1, h.2.1.2, va_S.rf, Aw.all⟩
theorem Wd.preS {As : List Value} (hK : Kw cs D s) (hM : Wd A b cs D H0 μ H locs) : PreS s H (Pw b cs D μ As) As := ⟨Pw_blind, fun U hU hW => ⟨rfl, ⟨by rw [hU]; exact hM.1, by rw [hU]; exact hM.2.1⟩, Kw.warm hW hK⟩⟩
theorem Wd.preV {As : List Value} {k ci : Nat} {q : vw_C} (hK : Kw cs D s) (hM : Wd A b cs D H0 μ H locs) (ho : ok μ k ci = true) (hc : vwCl[ci]? = some q) (h1 : ci < 100) : PreV s H q.1 (b + k) (Pw b cs D μ (.ref (b + k) :: As)) As := ⟨Pw_blind, va_recv hK.1 hM.2.1 hc (en_obj ho h1), fun U hU hW => ⟨rfl, ⟨by rw [hU]; exact hM.1, by rw [hU]; exact hM.2.1⟩, Kw.warm hW hK⟩⟩
/-- behind a call: the world is the callee's -/
theorem Wd.back {t : State} {H1 : Heap} {locs1 : List Loc} {μ' : Mem} (hM : Wd A b cs D H0 μ H locs) (hn : mN μ' ≤ mN μ) (hB : Bw b cs D μ' t) (ht : t.heap = H1) (hS : va_S A H0 H1 locs1) : Wd A b cs D H0 μ' H1 locs1 := by
  subst ht
  exact ⟨hB.1, hB.2, hS, fun k h1 h2 => hM.2.2.2 k h1 (Nat.le_trans h2 hn)⟩
theorem g_calli {a : Array Value} {st0 : List Value} {q : Int32 × Mem} (hr : va_Run p l e R s m args below meth c H locs cells slots 0 0 (F0 m pc ls st0) rest (va_Qi (fun r0 μ0 => (r0, μ0) = q ∧ mN μ0 ≤ mN μ) (Bw b cs D) (Aw b (mN μ)) a) (Aw b (mN μ))) (hM : Wd A b cs D H0 μ H locs)
    (kk : ∀ (H1 : Heap) (locs1 : List Loc), Wd A b cs D H0 q.2 H1 locs1 → W p l e R s m args below meth c H1 locs1 cells slots Q (F0 m (pc + 3) ls (.int q.1 :: rest))) : W p l e R s m args below meth c H locs cells slots Q (F0 m pc ls st0) := by
  refine va_calli hr hM.2.2.1 (fun _ _ h => Aw.sub hM.2.2.2 h) (fun _ h => Aw.sub hM.2.2.2 h) (fun r0 u t H1 locs1 ht hvm hp hB hz hk hS => ?_)
  obtain ⟨hp, hn⟩ := hp
  cases hp
  exact kk H1 locs1 (Wd.back hM hn hB ht hS)
theorem g_calll {a : Array Value} {st0 : List Value} {q : Int64 × Mem} (hr : va_Run p l e R s m args below meth c H locs cells slots 0 0 (F0 m pc ls st0) rest (va_Ql (fun r0 μ0 => (r0, μ0) = q ∧ mN μ0 ≤ mN μ) (Bw b cs D) (Aw b (mN μ)) a) (Aw b (mN μ))) (hM : Wd A b cs D H0 μ H locs)
    (kk : ∀ (H1 : Heap) (locs1 : List Loc), Wd A b cs D H0 q.2 H1 locs1 → W p l e R s m args below meth c H1 locs1 cells slots Q (F0 m (pc + 3) ls (.long q.1 :: rest))) : W p l e R s m args below meth c H locs cells slots Q (F0 m pc ls st0) := by
  refine va_calll hr hM.2.2.1 (fun _ _ h => Aw.sub hM.2.2.2 h) (fun _ h => Aw.sub hM.2.2.2 h) (fun r0 u t H1 locs1 ht hvm hp hB hz hk hS => ?_)
  obtain ⟨hp, hn⟩ := hp
  cases hp
  exact kk H1 locs1 (Wd.back hM hn hB ht hS)
theorem g_callv {a : Array Value} {st0 : List Value} {q : Mem} (hr : va_Run p l e R s m args below meth c H locs cells slots 0 0 (F0 m pc ls st0) rest (va_Qv (fun μ0 => μ0 = q ∧ mN μ0 ≤ mN μ) (Bw b cs D) (Aw b (mN μ)) a) (Aw b (mN μ))) (hM : Wd A b cs D H0 μ H locs)
    (kk : ∀ (H1 : Heap) (locs1 : List Loc), Wd A b cs D H0 q H1 locs1 → W p l e R s m args below meth c H1 locs1 cells slots Q (F0 m (pc + 3) ls rest)) : W p l e R s m args below meth c H locs cells slots Q (F0 m pc ls st0) := by
  refine va_callv hr hM.2.2.1 (fun _ _ h => Aw.sub hM.2.2.2 h) (fun _ h => Aw.sub hM.2.2.2 h) (fun u t H1 locs1 ht hvm hp hB hz hk hS => ?_)
  obtain ⟨hp, hn⟩ := hp
  cases hp
  exact kk H1 locs1 (Wd.back hM hn hB ht hS)
end JW
theorem mI_s {μ : Mem} {k j : Nat} {v : Int32} : mI (sI μ k j v) k = upd (mI μ k) j v := va_up_self _ _ _
theorem mI_n {μ : Mem} {k j q : Nat} {v : Int32} (h : q ≠ k) : mI (sI μ k j v) q = mI μ q := va_up_ne _ _ h
theorem mI_ss {μ : Mem} {k j : Nat} {v : Int32} : mI (sI μ k j v) k j = v := by rw [mI_s]; exact pk_us
theorem mI_sn {μ : Mem} {k j i : Nat} {v : Int32} (h : i ≠ j) : mI (sI μ k j v) k i = mI μ k i := by rw [mI_s]; exact pk_un h
theorem mL_s {μ : Mem} {k j : Nat} {v : Int64} : mL (sL μ k j v) k = vp_updL (mL μ k) j v := va_up_self _ _ _
theorem mL_n {μ : Mem} {k j q : Nat} {v : Int64} (h : q ≠ k) : mL (sL μ k j v) q = mL μ q := va_up_ne _ _ h
theorem mL_ss {μ : Mem} {k j : Nat} {v : Int64} : mL (sL μ k j v) k j = v := by rw [mL_s]; exact pk_uLs
theorem mL_sn {μ : Mem} {k j i : Nat} {v : Int64} (h : i ≠ j) : mL (sL μ k j v) k i = mL μ k i := by rw [mL_s]; exact pk_uLn h
theorem mR_s {μ : Mem} {k j v : Nat} : mR (sR μ k j v) k = va_up (mR μ k) j v := va_up_self _ _ _
theorem mR_n {μ : Mem} {k j q v : Nat} (h : q ≠ k) : mR (sR μ k j v) q = mR μ q := va_up_ne _ _ h
theorem mR_ss {μ : Mem} {k j v : Nat} : mR (sR μ k j v) k j = v := by rw [mR_s]; exact va_up_self _ _ _
theorem mR_sn {μ : Mem} {k j i v : Nat} (h : i ≠ j) : mR (sR μ k j v) k i = mR μ k i := by rw [mR_s]; exact va_up_ne _ _ h
theorem en_lt {b : Nat} {cs : Nat → ClassId} {D : va_G} {μ : Mem} {H : Heap} (hP : va_P D vwCl (en b cs μ) H) (h : 0 < mN μ) : b + mN μ < H.size := (hP _ _ (en_get h (Nat.le_refl _))).lt
theorem Wd.to {A : Nat → Prop} {b : Nat} {cs : Nat → ClassId} {D : va_G} {H0 H1 : Heap} {μ μ' : Mem} {locs1 : List Loc} {k : Nat} {x : va_E} (h0 : 0 < k) (h1 : k ≤ mN μ) (hN : mN μ' = mN μ) (hd : ∀ q, q ≠ k → ce b cs μ' q = ce b cs μ q) (hx : ce b cs μ' k = x) (hP : va_P D vwCl ((en b cs μ).set (k - 1) (b + k, x)) H1) (hS : va_S A H0 H1 locs1) (hA : ∀ k, 0 < k → k ≤ mN μ → A (b + k)) : Wd A b cs D H0 μ' H1 locs1 := by
  rw [en_set hN h0 hd hx] at hP
  exact ⟨en_lt hP (by omega), hP, hS, fun k h1 h2 => hA k h1 (by omega)⟩
theorem Wd.puti {A : Nat → Prop} {b : Nat} {cs : Nat → ClassId} {D : va_G} {H0 H1 : Heap} {μ : Mem} {locs1 : List Loc} {k ci j : Nat} {v : Int32} (ho : ok μ k ci = true) (hc : ci < 100) (hty : jT ci j = .int ∨ jT ci j = .boolean) (hP : va_P D vwCl ((en b cs μ).set (k - 1) (b + k, .inr (ci, (fl b μ k ci).set j (.int v)))) H1) (hS : va_S A H0 H1 locs1) (hA : ∀ k, 0 < k → k ≤ mN μ → A (b + k)) : Wd A b cs D H0 (sI μ k j v) H1 locs1 := by
  obtain ⟨h0, h1, h2⟩ := ok_e ho
  refine Wd.to h0 h1 rfl (fun q hq => ce_congr rfl (mI_n hq) rfl rfl) ?_ hP hS hA
  rw [ce_obj (μ := sI μ k j v) h2 hc]
  refine congrArg (fun z => Sum.inr (ci, z)) (fl_set (fun i hi => ?_) ?_).symm
  · unfold fv
    rw [mI_sn hi]
    rfl
  · rcases hty with h | h
    · rw [h]
      exact congrArg Value.int mI_ss
    · rw [h]
      exact congrArg Value.int mI_ss
theorem Wd.putl {A : Nat → Prop} {b : Nat} {cs : Nat → ClassId} {D : va_G} {H0 H1 : Heap} {μ : Mem} {locs1 : List Loc} {k ci j : Nat} {v : Int64} (ho : ok μ k ci = true) (hc : ci < 100) (hty : jT ci j = .long) (hP : va_P D vwCl ((en b cs μ).set (k - 1) (b + k, .inr (ci, (fl b μ k ci).set j (.long v)))) H1) (hS : va_S A H0 H1 locs1) (hA : ∀ k, 0 < k → k ≤ mN μ → A (b + k)) : Wd A b cs D H0 (sL μ k j v) H1 locs1 := by
  obtain ⟨h0, h1, h2⟩ := ok_e ho
  refine Wd.to h0 h1 rfl (fun q hq => ce_congr rfl rfl (mL_n hq) rfl) ?_ hP hS hA
  rw [ce_obj (μ := sL μ k j v) h2 hc]
  refine congrArg (fun z => Sum.inr (ci, z)) (fl_set (fun i hi => ?_) ?_).symm
  · unfold fv
    rw [mL_sn hi]
    rfl
  · rw [hty]
    exact congrArg Value.long mL_ss
theorem Wd.putr {A : Nat → Prop} {b : Nat} {cs : Nat → ClassId} {D : va_G} {H0 H1 : Heap} {μ : Mem} {locs1 : List Loc} {k ci j v : Nat} (ho : ok μ k ci = true) (hc : ci < 100) (hty : ∀ x, fv b x k j (jT ci j) = rv b (mR x k j)) (hv : 0 < v) (hP : va_P D vwCl ((en b cs μ).set (k - 1) (b + k, .inr (ci, (fl b μ k ci).set j (.ref (b + v))))) H1) (hS : va_S A H0 H1 locs1) (hA : ∀ k, 0 < k → k ≤ mN μ → A (b + k)) : Wd A b cs D H0 (sR μ k j v) H1 locs1 := by
  obtain ⟨h0, h1, h2⟩ := ok_e ho
  refine Wd.to h0 h1 rfl (fun q hq => ce_congr rfl rfl rfl (mR_n hq)) ?_ hP hS hA
  rw [ce_obj (μ := sR μ k j v) h2 hc]
  refine congrArg (fun z => Sum.inr (ci, z)) (fl_set (fun i hi => ?_) ?_).symm
  · unfold fv
    rw [mR_sn hi]
    rfl
  · rw [hty, mR_ss]
    unfold rv
    rw [if_neg (by omega)]
theorem Wd.asti {A : Nat → Prop} {b : Nat} {cs : Nat → ClassId} {D : va_G} {H0 H1 : Heap} {μ : Mem} {locs1 : List Loc} {k j : Nat} {v : Int32} (ho : ok μ k 100 = true) (hP : va_P D vwCl ((en b cs μ).set (k - 1) (b + k, .inl (cs 0, mZ μ k, .inl (upd (mI μ k) j v)))) H1) (hS : va_S A H0 H1 locs1) (hA : ∀ k, 0 < k → k ≤ mN μ → A (b + k)) : Wd A b cs D H0 (sI μ k j v) H1 locs1 := by
  obtain ⟨h0, h1, h2⟩ := ok_e ho
  refine Wd.to h0 h1 rfl (fun q hq => ce_congr rfl (mI_n hq) rfl rfl) ?_ hP hS hA
  rw [ce_int (μ := sI μ k j v) h2, mI_s]
  rfl
theorem Wd.astl {A : Nat → Prop} {b : Nat} {cs : Nat → ClassId} {D : va_G} {H0 H1 : Heap} {μ : Mem} {locs1 : List Loc} {k j : Nat} {v : Int64} (ho : ok μ k 101 = true) (hP : va_P D vwCl ((en b cs μ).set (k - 1) (b + k, .inl (cs 1, mZ μ k, .inr (.inl (vp_updL (mL μ k) j v))))) H1) (hS : va_S A H0 H1 locs1) (hA : ∀ k, 0 < k → k ≤ mN μ → A (b + k)) : Wd A b cs D H0 (sL μ k j v) H1 locs1 := by
  obtain ⟨h0, h1, h2⟩ := ok_e ho
  refine Wd.to h0 h1 rfl (fun q hq => ce_congr rfl rfl (mL_n hq) rfl) ?_ hP hS hA
  rw [ce_long (μ := sL μ k j v) h2, mL_s]
  rfl
theorem Wd.astr {A : Nat → Prop} {b : Nat} {cs : Nat → ClassId} {D : va_G} {H0 H1 : Heap} {μ : Mem} {locs1 : List Loc} {k j v : Nat} (t : Nat) (ho : ok μ k (102 + t) = true) (hv : 0 < v) (hP : va_P D vwCl ((en b cs μ).set (k - 1) (b + k, .inl (cs (2 + t), mZ μ k, .inr (.inr (.inr (.inr (va_up (fun j => ro b (mR μ k j)) j (some (b + v))))))))) H1) (hS : va_S A H0 H1 locs1) (hA : ∀ k, 0 < k → k ≤ mN μ → A (b + k)) : Wd A b cs D H0 (sR μ k j v) H1 locs1 := by
  obtain ⟨h0, h1, h2⟩ := ok_e ho
  refine Wd.to h0 h1 rfl (fun q hq => ce_congr rfl rfl rfl (mR_n hq)) ?_ hP hS hA
  rw [ce_refs (μ := sR μ k j v) h2, mR_s]
  refine congrArg (fun z => (Sum.inl (cs (2 + t), mZ μ k, .inr (.inr (.inr (.inr z)))) : va_E)) (funext fun i => ?_)
  by_cases hi : i = j
  · subst hi
    rw [va_up_self, va_up_self]
    unfold ro
    rw [if_neg (by omega)]
  · rw [va_up_ne _ _ hi, va_up_ne _ _ hi]
end
section
theorem rv_of {b r : Nat} (h : 0 < r) : rv b r = .ref (b + r) := by
  unfold rv
  rw [if_neg (by omega)]
theorem ro_of {b r : Nat} (h : 0 < r) : va_rf (ro b r) = .ref (b + r) := by
  unfold ro
  rw [if_neg (by omega)]
  rfl
theorem of_t {α : Type} {c : Prop} [Decidable c] {A B : Option α} {r : α} (hc : c) (h : (if c then A else B) = some r) : A = some r := by
  rw [if_pos hc] at h
  exact h
theorem of_f {α : Type} {c : Prop} [Decidable c] {A B : Option α} {r : α} (hc : ¬ c) (h : (if c then A else B) = some r) : B = some r := by
  rw [if_neg hc] at h
  exact h
theorem nb_01 {v : Int32} (h : v = 0 ∨ v = 1) : narrow .boolean (.int v) = .int v := by
  rcases h with rfl | rfl
  · exact narrow_b0
  · exact narrow_b1
theorem ok_0 {μ : Mem} {k c : Nat} (h : ok μ k c = true) : 0 < k := (ok_e h).1
section JR
variable {p : Program} {l : Launch} {e : Env} {R : Room} {s : State} {m : MethodId} {args : Array Value} {below : List Frame} {meth : Method} {c : Code} {H H0 : Heap} {locs : List Loc} {cells slots : Nat} {Q : State → Prop} {cc : ByteArray} {pc : Nat} {ls : Array Slot} {rest : List Value} {b : Nat} {cs : Nat → ClassId} {D : va_G} {μ : Mem} {A : Nat → Prop}
theorem g_get (hx : p.tables.exec = Jvm.exec) (hb : c.code = cc) {own ref C : String} {T : u_T} {N ci index : Nat} {Ts : List Cond} (hts : ∀ w ∈ Ts, w.before args s = true) (hin : ∀ w ∈ u_ws C T N, w ∈ Ts) (hown : s.vm.findClass own = some m.cls) (hK : Kw cs D s) (hM : Wd A b cs D H0 μ H locs) {k : Nat} (ho : ok μ k ci = true) (hci : ci < 100) (hc : vwCl[ci]? = some (C, T, N)) (j : Nat) (hj : j < N) (hlink : (Cond.fieldLink own index ref (T j).2.1 (T j).2.2.1).before args s = true) (hsame : ∀ x, s.fieldFound? (T j).1 (T j).2.1 (T j).2.2.1 = some x → s.fieldFound? ref (T j).2.1 (T j).2.2.1 = some x) {v : Value} (hjn : j < jN ci) (hv : fv b μ k j (jT ci j) = v) (hdg : decode cc pc = .ok (.getfield index, 3))
    (kk : W p l e R s m args below meth c H locs cells slots Q (F0 m (pc + 3) ls (v :: rest))) : W p l e R s m args below meth c H locs cells slots Q (F0 m pc ls (.ref (b + k) :: rest)) :=
  va_get hx hb hts hin hown hK.1 hM.2.1 (k - 1) (en_obj ho hci) hc j hj hlink hsame (fl_get hjn hv) hdg kk
theorem g_getN (hx : p.tables.exec = Jvm.exec) (hb : c.code = cc) {own ref C host : String} {T : u_T} {N ci index : Nat} {Ts : List Cond} (hts : ∀ w ∈ Ts, w.before args s = true) (hin : ∀ w ∈ u_ws C T N, w ∈ Ts) (hown : s.vm.findClass own = some m.cls) (hK : Kw cs D s) (hM : Wd A b cs D H0 μ H locs) {k : Nat} (ho : ok μ k ci = true) (hci : ci < 100) (hc : vwCl[ci]? = some (C, T, N)) (j : Nat) (hj : j < N) (hlink : (Cond.fieldLinkNest own index ref (T j).2.1 (T j).2.2.1 host).before args s = true) (hsame : ∀ x, s.fieldFound? (T j).1 (T j).2.1 (T j).2.2.1 = some x → s.fieldFound? ref (T j).2.1 (T j).2.2.1 = some x) {v : Value} (hjn : j < jN ci) (hv : fv b μ k j (jT ci j) = v) (hdg : decode cc pc = .ok (.getfield index, 3))
    (kk : W p l e R s m args below meth c H locs cells slots Q (F0 m (pc + 3) ls (v :: rest))) : W p l e R s m args below meth c H locs cells slots Q (F0 m pc ls (.ref (b + k) :: rest)) :=
  va_getN hx hb hts hin hown hK.1 hM.2.1 (k - 1) (en_obj ho hci) hc j hj hlink hsame (fl_get hjn hv) hdg kk
theorem g_iald (hx : p.tables.exec = Jvm.exec) (hb : c.code = cc) (hK : Kw cs D s) (hM : Wd A b cs D H0 μ H locs) {k : Nat} (ho : ok μ k 100 = true) {i : Int32} (hi : ib i (mZ μ k) = true) (hdg : decode cc pc = .ok (.iaload, 1))
    (kk : W p l e R s m args below meth c H locs cells slots Q (F0 m (pc + 1) ls (.int (mI μ k i.toNatClampNeg) :: rest))) : W p l e R s m args below meth c H locs cells slots Q (F0 m pc ls (.int i :: .ref (b + k) :: rest)) :=
  va_iald hx hb hK.1 hM.2.1 (k - 1) 0 (en_int ho) rfl (ib_in hi) hdg kk
theorem g_lald (hx : p.tables.exec = Jvm.exec) (hb : c.code = cc) (hK : Kw cs D s) (hM : Wd A b cs D H0 μ H locs) {k : Nat} (ho : ok μ k 101 = true) {i : Int32} (hi : ib i (mZ μ k) = true) (hdg : decode cc pc = .ok (.laload, 1))
    (kk : W p l e R s m args below meth c H locs cells slots Q (F0 m (pc + 1) ls (.long (mL μ k i.toNatClampNeg) :: rest))) : W p l e R s m args below meth c H locs cells slots Q (F0 m pc ls (.int i :: .ref (b + k) :: rest)) :=
  va_lald hx hb hK.1 hM.2.1 (k - 1) 1 (en_long ho) rfl (ib_in hi) hdg kk
theorem g_aald (hx : p.tables.exec = Jvm.exec) (hb : c.code = cc) (hK : Kw cs D s) (hM : Wd A b cs D H0 μ H locs) {k : Nat} (t : Nat) {ty : FieldType} (ht : (tl cs)[2 + t]? = some (cs (2 + t), ty)) (hty : ty.isReference = true) (ho : ok μ k (102 + t) = true) {i : Int32} (hi : ib i (mZ μ k) = true) (hr : 0 < mR μ k i.toNatClampNeg) (hdg : decode cc pc = .ok (.aaload, 1))
    (kk : W p l e R s m args below meth c H locs cells slots Q (F0 m (pc + 1) ls (.ref (b + mR μ k i.toNatClampNeg) :: rest))) : W p l e R s m args below meth c H locs cells slots Q (F0 m pc ls (.int i :: .ref (b + k) :: rest)) := by
  have hin := ib_in hi
  have hlt : i.toNatClampNeg < mZ μ k := Nat.not_le.mp fun q => hin (Or.inr q)
  refine W.aald (v := .ref (b + mR μ k i.toNatClampNeg)) (ty := ty) hx hb (hM.2.1 (k - 1) _ (en_refs t ho)) ((hK.1.2 (2 + t) _ ht).1 (mZ μ k) (fun j => va_rf (ro b (mR μ k j)))) hty (fun q => by cases q) (by show ¬ (i < 0 ∨ (arrV _ _ _).slots.size ≤ _); rw [arrV_size]; exact hin) ?_ rfl rfl hdg kk
  show (arrV _ _ _).slots[_]? = _
  rw [arrV_read _ _ hlt, ro_of hr]
theorem g_iast (hx : p.tables.exec = Jvm.exec) (hb : c.code = cc) (hK : Kw cs D s) (hM : Wd A b cs D H0 μ H locs) {k : Nat} (ho : ok μ k 100 = true) {i v : Int32} (hi : ib i (mZ μ k) = true) (hdg : decode cc pc = .ok (.iastore, 1))
    (kk : ∀ (H : Heap) (locs : List Loc), Wd A b cs D H0 (sI μ k i.toNatClampNeg v) H locs → W p l e R s m args below meth c H locs cells slots Q (F0 m (pc + 1) ls rest)) : W p l e R s m args below meth c H locs cells slots Q (F0 m pc ls (.int v :: .int i :: .ref (b + k) :: rest)) :=
  va_iast hx hb hK.1 hM.2.1 (en_D hM.2.2.2) hM.2.2.1 (k - 1) 0 (en_int ho) rfl (ib_in hi) hdg (fun H1 locs1 hP _ hS => kk H1 locs1 (Wd.asti ho hP hS hM.2.2.2))
theorem g_last (hx : p.tables.exec = Jvm.exec) (hb : c.code = cc) (hK : Kw cs D s) (hM : Wd A b cs D H0 μ H locs) {k : Nat} (ho : ok μ k 101 = true) {i : Int32} {v : Int64} (hi : ib i (mZ μ k) = true) (hdg : decode cc pc = .ok (.lastore, 1))
    (kk : ∀ (H : Heap) (locs : List Loc), Wd A b cs D H0 (sL μ k i.toNatClampNeg v) H locs → W p l e R s m args below meth c H locs cells slots Q (F0 m (pc + 1) ls rest)) : W p l e R s m args below meth c H locs cells slots Q (F0 m pc ls (.long v :: .int i :: .ref (b + k) :: rest)) :=
  va_last hx hb hK.1 hM.2.1 (en_D hM.2.2.2) hM.2.2.1 (k - 1) 1 (en_long ho) rfl (ib_in hi) hdg (fun H1 locs1 hP _ hS => kk H1 locs1 (Wd.astl ho hP hS hM.2.2.2))
theorem g_puti (hx : p.tables.exec = Jvm.exec) (hb : c.code = cc) {own ref C : String} {T : u_T} {N ci index : Nat} {Ts : List Cond} (hts : ∀ w ∈ Ts, w.before args s = true) (hin : ∀ w ∈ u_ws C T N, w ∈ Ts) (ty0 : Nat → FieldType) (hty : ∀ k, k < N → parseFieldDescriptor (T k).2.2.1 = some (ty0 k)) (hnm : ∀ a, a < N → ∀ b, b < N → a ≠ b → (T a).2.1 ≠ (T b).2.1) (hown : s.vm.findClass own = some m.cls) (hK : Kw cs D s) (hM : Wd A b cs D H0 μ H locs) {k : Nat} (ho : ok μ k ci = true) (hci : ci < 100) (hc : vwCl[ci]? = some (C, T, N)) (j : Nat) (hj : j < N) (hlink : (Cond.fieldLink own index ref (T j).2.1 (T j).2.2.1).before args s = true) (hsame : ∀ x, s.fieldFound? (T j).1 (T j).2.1 (T j).2.2.1 = some x → s.fieldFound? ref (T j).2.1 (T j).2.2.1 = some x) (hfin : (T j).2.2.2 = false) {ty : FieldType} {v : Int32} (hd : parseFieldDescriptor (T j).2.2.1 = some ty) (hn : narrow ty (.int v) = .int v) (hfit : fits ty (.int v) = true) (hjn : j < jN ci) (hjt : jT ci j = .int ∨ jT ci j = .boolean) (hdg : decode cc pc = .ok (.putfield index, 3))
    (kk : ∀ (H : Heap) (locs : List Loc), Wd A b cs D H0 (sI μ k j v) H locs → W p l e R s m args below meth c H locs cells slots Q (F0 m (pc + 3) ls rest)) : W p l e R s m args below meth c H locs cells slots Q (F0 m pc ls (.int v :: .ref (b + k) :: rest)) :=
  va_put hx hb hts hin ty0 hty hnm hown hK.1 hM.2.1 (en_D hM.2.2.2) hM.2.2.1 (k - 1) (en_obj ho hci) hc j hj hlink hsame hfin hd hn hfit (by rw [fl_len]; exact hjn) hdg (fun H1 locs1 hP _ hS => kk H1 locs1 (Wd.puti ho hci hjt hP hS hM.2.2.2))
theorem g_putiN (hx : p.tables.exec = Jvm.exec) (hb : c.code = cc) {own ref C host : String} {T : u_T} {N ci index : Nat} {Ts : List Cond} (hts : ∀ w ∈ Ts, w.before args s = true) (hin : ∀ w ∈ u_ws C T N, w ∈ Ts) (ty0 : Nat → FieldType) (hty : ∀ k, k < N → parseFieldDescriptor (T k).2.2.1 = some (ty0 k)) (hnm : ∀ a, a < N → ∀ b, b < N → a ≠ b → (T a).2.1 ≠ (T b).2.1) (hown : s.vm.findClass own = some m.cls) (hK : Kw cs D s) (hM : Wd A b cs D H0 μ H locs) {k : Nat} (ho : ok μ k ci = true) (hci : ci < 100) (hc : vwCl[ci]? = some (C, T, N)) (j : Nat) (hj : j < N) (hlink : (Cond.fieldLinkNest own index ref (T j).2.1 (T j).2.2.1 host).before args s = true) (hsame : ∀ x, s.fieldFound? (T j).1 (T j).2.1 (T j).2.2.1 = some x → s.fieldFound? ref (T j).2.1 (T j).2.2.1 = some x) (hfin : (T j).2.2.2 = false) {ty : FieldType} {v : Int32} (hd : parseFieldDescriptor (T j).2.2.1 = some ty) (hn : narrow ty (.int v) = .int v) (hfit : fits ty (.int v) = true) (hjn : j < jN ci) (hjt : jT ci j = .int ∨ jT ci j = .boolean) (hdg : decode cc pc = .ok (.putfield index, 3))
    (kk : ∀ (H : Heap) (locs : List Loc), Wd A b cs D H0 (sI μ k j v) H locs → W p l e R s m args below meth c H locs cells slots Q (F0 m (pc + 3) ls rest)) : W p l e R s m args below meth c H locs cells slots Q (F0 m pc ls (.int v :: .ref (b + k) :: rest)) :=
  va_putN hx hb hts hin ty0 hty hnm hown hK.1 hM.2.1 (en_D hM.2.2.2) hM.2.2.1 (k - 1) (en_obj ho hci) hc j hj hlink hsame hfin hd hn hfit (by rw [fl_len]; exact hjn) hdg (fun H1 locs1 hP _ hS => kk H1 locs1 (Wd.puti ho hci hjt hP hS hM.2.2.2))
theorem g_putl (hx : p.tables.exec = Jvm.exec) (hb : c.code = cc) {own ref C : String} {T : u_T} {N ci index : Nat} {Ts : List Cond} (hts : ∀ w ∈ Ts, w.before args s = true) (hin : ∀ w ∈ u_ws C T N, w ∈ Ts) (ty0 : Nat → FieldType) (hty : ∀ k, k < N → parseFieldDescriptor (T k).2.2.1 = some (ty0 k)) (hnm : ∀ a, a < N → ∀ b, b < N → a ≠ b → (T a).2.1 ≠ (T b).2.1) (hown : s.vm.findClass own = some m.cls) (hK : Kw cs D s) (hM : Wd A b cs D H0 μ H locs) {k : Nat} (ho : ok μ k ci = true) (hci : ci < 100) (hc : vwCl[ci]? = some (C, T, N)) (j : Nat) (hj : j < N) (hlink : (Cond.fieldLink own index ref (T j).2.1 (T j).2.2.1).before args s = true) (hsame : ∀ x, s.fieldFound? (T j).1 (T j).2.1 (T j).2.2.1 = some x → s.fieldFound? ref (T j).2.1 (T j).2.2.1 = some x) (hfin : (T j).2.2.2 = false) {ty : FieldType} {v : Int64} (hd : parseFieldDescriptor (T j).2.2.1 = some ty) (hn : narrow ty (.long v) = .long v) (hfit : fits ty (.long v) = true) (hjn : j < jN ci) (hjt : jT ci j = .long) (hdg : decode cc pc = .ok (.putfield index, 3))
    (kk : ∀ (H : Heap) (locs : List Loc), Wd A b cs D H0 (sL μ k j v) H locs → W p l e R s m args below meth c H locs cells slots Q (F0 m (pc + 3) ls rest)) : W p l e R s m args below meth c H locs cells slots Q (F0 m pc ls (.long v :: .ref (b + k) :: rest)) :=
  va_put hx hb hts hin ty0 hty hnm hown hK.1 hM.2.1 (en_D hM.2.2.2) hM.2.2.1 (k - 1) (en_obj ho hci) hc j hj hlink hsame hfin hd hn hfit (by rw [fl_len]; exact hjn) hdg (fun H1 locs1 hP _ hS => kk H1 locs1 (Wd.putl ho hci hjt hP hS hM.2.2.2))
theorem g_putr (hx : p.tables.exec = Jvm.exec) (hb : c.code = cc) {own ref C : String} {T : u_T} {N ci index : Nat} {Ts : List Cond} (hts : ∀ w ∈ Ts, w.before args s = true) (hin : ∀ w ∈ u_ws C T N, w ∈ Ts) (ty0 : Nat → FieldType) (hty : ∀ k, k < N → parseFieldDescriptor (T k).2.2.1 = some (ty0 k)) (hnm : ∀ a, a < N → ∀ b, b < N → a ≠ b → (T a).2.1 ≠ (T b).2.1) (hown : s.vm.findClass own = some m.cls) (hK : Kw cs D s) (hM : Wd A b cs D H0 μ H locs) {k : Nat} (ho : ok μ k ci = true) (hci : ci < 100) (hc : vwCl[ci]? = some (C, T, N)) (j : Nat) (hj : j < N) (hlink : (Cond.fieldLink own index ref (T j).2.1 (T j).2.2.1).before args s = true) (hsame : ∀ x, s.fieldFound? (T j).1 (T j).2.1 (T j).2.2.1 = some x → s.fieldFound? ref (T j).2.1 (T j).2.2.1 = some x) (hfin : (T j).2.2.2 = false) {ty : FieldType} {v : Nat} (hd : parseFieldDescriptor (T j).2.2.1 = some ty) (hn : narrow ty (.ref (b + v)) = .ref (b + v)) (hfit : fits ty (.ref (b + v)) = true) (hjn : j < jN ci) (hjt : ∀ x, fv b x k j (jT ci j) = rv b (mR x k j)) (hv : 0 < v) (hdg : decode cc pc = .ok (.putfield index, 3))
    (kk : ∀ (H : Heap) (locs : List Loc), Wd A b cs D H0 (sR μ k j v) H locs → W p l e R s m args below meth c H locs cells slots Q (F0 m (pc + 3) ls rest)) : W p l e R s m args below meth c H locs cells slots Q (F0 m pc ls (.ref (b + v) :: .ref (b + k) :: rest)) :=
  va_put hx hb hts hin ty0 hty hnm hown hK.1 hM.2.1 (en_D hM.2.2.2) hM.2.2.1 (k - 1) (en_obj ho hci) hc j hj hlink hsame hfin hd hn hfit (by rw [fl_len]; exact hjn) hdg (fun H1 locs1 hP _ hS => kk H1 locs1 (Wd.putr ho hci hjt hv hP hS hM.2.2.2))
theorem top_i {x y : Int32} (h : x = y) (k : W p l e R s m args below meth c H locs cells slots Q (F0 m pc ls (.int y :: rest))) : W p l e R s m args below meth c H locs cells slots Q (F0 m pc ls (.int x :: rest)) := by
  rw [h]
  exact k
theorem top_l {x y : Int64} (h : x = y) (k : W p l e R s m args below meth c H locs cells slots Q (F0 m pc ls (.long y :: rest))) : W p l e R s m args below meth c H locs cells slots Q (F0 m pc ls (.long x :: rest)) := by
  rw [h]
  exact k
theorem Wd.fin {t : State} (hM : Wd A b cs D H0 μ H locs) (ht : t.heap = H) : Bw b cs D μ t := ⟨by rw [ht]; exact hM.1, by rw [ht]; exact hM.2.1⟩
theorem g_zret (hx : p.tables.exec = Jvm.exec) (hb : c.code = cc) {ty : FieldType} (hr : meth.sig.returnType = some ty) {v : Int32} (hn : narrow ty (.int v) = .int v) (hlocks : meth.locks = false) {n : Nat} (hM : Wd (Aw b n) b cs D s.heap μ H locs) {res : Int32 × Mem} (h : (v, μ) = res) (hdg : decode cc pc = .ok (.ireturn, 1)) : W p l e R s m args below meth c H locs cells slots (MQ below (va_Qi (fun r μ' => (r, μ') = res ∧ mN μ' ≤ n) (Bw b cs D) (Aw b n)) args s cells slots (Aw b n)) (F0 m pc ls [.int v]) :=
  W.zret hx hb hr hn (fun _ ht _ => ⟨⟨v, μ, rfl, ⟨h, Aw.le hM.2.2.2⟩, hM.fin ht⟩, hM.2.2.1.F ht⟩) hM.2.2.1.2.2 hdg hlocks
theorem g_iret (hx : p.tables.exec = Jvm.exec) (hb : c.code = cc) (hr : meth.sig.returnType = some .int) {v : Int32} (hlocks : meth.locks = false) {n : Nat} (hM : Wd (Aw b n) b cs D s.heap μ H locs) {res : Int32 × Mem} (h : (v, μ) = res) (hdg : decode cc pc = .ok (.ireturn, 1)) : W p l e R s m args below meth c H locs cells slots (MQ below (va_Qi (fun r μ' => (r, μ') = res ∧ mN μ' ≤ n) (Bw b cs D) (Aw b n)) args s cells slots (Aw b n)) (F0 m pc ls [.int v]) :=
  g_zret hx hb hr rfl hlocks hM h hdg
theorem g_lret (hx : p.tables.exec = Jvm.exec) (hb : c.code = cc) (hr : meth.sig.returnType = some .long) {v : Int64} (hlocks : meth.locks = false) {n : Nat} (hM : Wd (Aw b n) b cs D s.heap μ H locs) {res : Int64 × Mem} (h : (v, μ) = res) (hdg : decode cc pc = .ok (.lreturn, 1)) : W p l e R s m args below meth c H locs cells slots (MQ below (va_Ql (fun r μ' => (r, μ') = res ∧ mN μ' ≤ n) (Bw b cs D) (Aw b n)) args s cells slots (Aw b n)) (F0 m pc ls [.long v]) :=
  W.lret hx hb hr (fun _ ht _ => ⟨⟨v, μ, rfl, ⟨h, Aw.le hM.2.2.2⟩, hM.fin ht⟩, hM.2.2.1.F ht⟩) hM.2.2.1.2.2 hdg hlocks
theorem g_vret (hx : p.tables.exec = Jvm.exec) (hb : c.code = cc) (hr : meth.sig.returnType = none) (hlocks : meth.locks = false) {n : Nat} (hM : Wd (Aw b n) b cs D s.heap μ H locs) {res : Mem} (h : μ = res) (hdg : decode cc pc = .ok (.return_, 1)) : W p l e R s m args below meth c H locs cells slots (MQ below (va_Qv (fun μ' => μ' = res ∧ mN μ' ≤ n) (Bw b cs D) (Aw b n)) args s cells slots (Aw b n)) (F0 m pc ls []) :=
  W.vret hx hb hr (fun _ ht _ => ⟨⟨μ, rfl, ⟨h, Aw.le hM.2.2.2⟩, hM.fin ht⟩, hM.2.2.1.F ht⟩) hM.2.2.1.2.2 hdg hlocks
end JR
end
section
/-! New cells: in constructors alone, and there all above b may be written. The heap's size is known there: the cells counted so far are all that is new. -/
/-- all above b -/
abbrev Ab (b : Nat) : Nat → Prop := fun q => b < q
abbrev MetC (l : Launch) (y : MethodName) (ws : List Cond) (fr mc ms lo b : Nat) (cs : Nat → ClassId) (D : va_G) (μ : Mem) (av : List Value) (res : Mem) : Prop := Met l y ws { frames := fr, cells := mc, slots := ms, locals := lo } (va_Pc av (fun U => U.heap.size = b + mN μ + 1 ∧ Bw b cs D μ U ∧ Kw cs D U)) (va_Qv (fun μ' => μ' = res) (Bw b cs D) (Ab b)) mc ms (Ab b)
theorem en_al {b : Nat} {cs : Nat → ClassId} {μ : Mem} {c z : Nat} : en b cs (al μ c z) = en b cs μ ++ [(b + (mN μ + 1), ce b cs (al μ c z) (mN μ + 1))] := by
  have hN : mN (al μ c z) = mN μ + 1 := rfl
  unfold en
  rw [hN, List.range_succ, List.map_append]
  congr 1
  apply List.map_congr_left
  intro i hi
  have hi : i < mN μ := List.mem_range.mp hi
  have hne : i + 1 ≠ mN μ + 1 := by omega
  exact congrArg (fun x => (b + (i + 1), x)) (ce_congr (va_up_ne _ _ hne) (va_up_ne _ _ hne) (va_up_ne _ _ hne) (va_up_ne _ _ hne))
theorem Wd_al {b : Nat} {cs : Nat → ClassId} {D : va_G} {H0 H H1 : Heap} {μ : Mem} {locs : List Loc} {c z : Nat} (hM : Wd (Ab b) b cs D H0 μ H locs) (hz : H.size = b + (mN μ + 1)) (z1 : H1.size = b + (mN μ + 1) + 1) (o1 : ∀ q, q < b + (mN μ + 1) → H1[q]? = H[q]?) (hat : va_at D vwCl (b + (mN μ + 1), ce b cs (al μ c z) (mN μ + 1)) H1) : Wd (Ab b) b cs D H0 (al μ c z) H1 locs := by
  refine ⟨by rw [z1]; exact Nat.lt_succ_self _, ?_, ?_, fun k h1 _ => by show b < b + k; omega⟩
  · rw [en_al]
    refine (hM.2.1.kept (fun k x hx => o1 x.1 (by rw [← hz]; exact (hM.2.1 k x hx).lt))).app (fun k x hx => ?_)
    have hk : k < 1 := (List.getElem?_eq_some_iff.mp hx).1
    rw [show k = 0 by omega] at hx
    cases hx
    exact hat
  · have hS := hM.2.2.1
    exact ⟨Nat.le_trans hS.1 (by omega), fun x h1 h2 => (o1 x (by have := hS.1; omega)).trans (hS.2.1 x h1 h2), hS.2.2⟩
def okT : FieldType → Bool
  | .int => true
  | .boolean => true
  | .long => true
  | .object _ => true
  | .array _ => true
  | _ => false
theorem fv_new {b : Nat} {μ : Mem} {c z j : Nat} {ty : FieldType} (h : okT ty = true) : fv b (al μ c z) (mN μ + 1) j ty = defaultValue ty := by
  have h1 : mI (al μ c z) (mN μ + 1) = fun _ => 0 := va_up_self _ _ _
  have h2 : mL (al μ c z) (mN μ + 1) = fun _ => 0 := va_up_self _ _ _
  have h3 : mR (al μ c z) (mN μ + 1) = fun _ => 0 := va_up_self _ _ _
  cases ty <;> first | (cases h; done) | (unfold fv; rw [h1]; rfl) | (unfold fv; rw [h2]; rfl) | (unfold fv; rw [h3]; rfl)
theorem mK_al {μ : Mem} {c z : Nat} : mK (al μ c z) (mN μ + 1) = c := by
  show (va_up μ.2.1 (μ.1 + 1) (c, z) (μ.1 + 1)).1 = c
  rw [va_up_self]
theorem mZ_al {μ : Mem} {c z : Nat} : mZ (al μ c z) (mN μ + 1) = z := by
  show (va_up μ.2.1 (μ.1 + 1) (c, z) (μ.1 + 1)).2 = z
  rw [va_up_self]
section JA
variable {p : Program} {l : Launch} {e : Env} {R : Room} {s : State} {m : MethodId} {args : Array Value} {below : List Frame} {meth : Method} {c : Code} {H H0 : Heap} {locs : List Loc} {cells slots : Nat} {Q : State → Prop} {cc : ByteArray} {pc : Nat} {ls : Array Slot} {rest : List Value} {b : Nat} {cs : Nat → ClassId} {D : va_G} {μ : Mem}
theorem W.sized {g : JFrame} (k : H.size ≤ s.heap.size + cells → W p l e R s m args below meth c H locs cells slots Q g) : W p l e R s m args below meth c H locs cells slots Q g := fun T hT X => k (by rw [← hT]; exact X.heapSize) T hT X
theorem g_new (hx : p.tables.exec = Jvm.exec) (hb : c.code = cc) {own C : String} {T : u_T} {N ci index : Nat} {Ts : List Cond} (hts : ∀ w ∈ Ts, w.before args s = true) (hin : ∀ w ∈ u_ws C T N, w ∈ Ts) (ty : Nat → FieldType) (hty : ∀ k, k < N → parseFieldDescriptor (T k).2.2.1 = some (ty k)) (hown : s.vm.findClass own = some m.cls) (hcl : (Cond.classLink own index C).before args s = true) (hinst : (Cond.instantiable C N).before args s = true) (hini : (Cond.initialized C).before args s = true) (hK : Kw cs D s) (hM : Wd (Ab b) b cs D H0 μ H locs) (hcs : s.heap.size + cells = b + mN μ + 1) (hci : ci < 100) (hc : vwCl[ci]? = some (C, T, N)) (hjt : ∀ j, j < N → j < jN ci ∧ jT ci j = ty j ∧ okT (ty j) = true) (hcells : cells + 1 ≤ R.cells) (hslots : slots + N ≤ R.slots) (hdg : decode cc pc = .ok (.new index, 3))
    (kk : ∀ H : Heap, Wd (Ab b) b cs D H0 (al μ ci 0) H locs → W p l e R s m args below meth c H locs (cells + 1) (slots + N) Q (F0 m (pc + 3) ls (.ref (b + (mN μ + 1)) :: rest))) : W p l e R s m args below meth c H locs cells slots Q (F0 m pc ls rest) := by
  refine W.sized fun hle => ?_
  have hz : H.size = b + (mN μ + 1) := by have := hM.1; omega
  have hKn := hK.1.1 ci _ hc
  refine W.newcK hx hb hown hcl hinst hini rfl hdg hcells hslots hKn.2.1 hz fun H1 kC hkC e1 z1 o1 => ?_
  refine kk H1 (Wd_al hM hz z1 o1 ?_)
  rw [ce_obj mK_al hci]
  refine ⟨_, hc, (u_born ty hts hin hKn hkC e1 hty).to (fun j hj => ?_)⟩
  obtain ⟨h1, h2, h3⟩ := hjt j hj
  have h4 : (fl b (al μ ci 0) (mN μ + 1) ci)[j]? = some (defaultValue (ty j)) := fl_get h1 (by rw [h2]; exact fv_new h3)
  unfold vp_V
  rw [List.getD_eq_getElem?_getD, h4]
  rfl
theorem g_newi (hx : p.tables.exec = Jvm.exec) (hb : c.code = cc) {atype : ArrayType} (hat : newarray.typeOf atype = .int) (harr : (Cond.arrayClass (newarray.typeOf atype)).before args s = true) (hK : Kw cs D s) (hM : Wd (Ab b) b cs D H0 μ H locs) (hcs : s.heap.size + cells = b + mN μ + 1) (ht : (tl cs)[0]? = some (cs 0, .int)) {n : Int32} {N : Nat} (hn : ¬ n < 0) (hN : n.toNatClampNeg = N) (hbytes : N * 4 ≤ 536870912) (hcells : cells + 1 ≤ R.cells) (hslots : slots + N ≤ R.slots) (hdg : decode cc pc = .ok (.newarray atype, 2))
    (kk : ∀ H : Heap, Wd (Ab b) b cs D H0 (al μ 100 N) H locs → W p l e R s m args below meth c H locs (cells + 1) (slots + N) Q (F0 m (pc + 2) ls (.ref (b + (mN μ + 1)) :: rest))) : W p l e R s m args below meth c H locs cells slots Q (F0 m pc ls (.int n :: rest)) := by
  refine W.sized fun hle => ?_
  have hz : H.size = b + (mN μ + 1) := by have := hM.1; omega
  refine va_newaK hx hb harr rfl hdg rfl hn hN (by rw [hat]; exact hbytes) hcells hslots hz fun H1 cA e1 z1 o1 hAr hNm => ?_
  rw [hat] at e1 hNm
  have hcA : cA = cs 0 := Option.some.inj (hNm.symm.trans (hK.1.2 0 _ ht).2)
  subst hcA
  refine kk H1 (Wd_al hM hz z1 o1 ?_)
  rw [ce_int mK_al, mZ_al, show mI (al μ 100 N) (mN μ + 1) = fun _ => 0 from va_up_self _ _ _]
  show H1[b + (mN μ + 1)]? = some (vp_cell _ _)
  rw [vp_cell_i]
  exact e1
theorem g_newl (hx : p.tables.exec = Jvm.exec) (hb : c.code = cc) {atype : ArrayType} (hat : newarray.typeOf atype = .long) (harr : (Cond.arrayClass (newarray.typeOf atype)).before args s = true) (hK : Kw cs D s) (hM : Wd (Ab b) b cs D H0 μ H locs) (hcs : s.heap.size + cells = b + mN μ + 1) (ht : (tl cs)[1]? = some (cs 1, .long)) {n : Int32} {N : Nat} (hn : ¬ n < 0) (hN : n.toNatClampNeg = N) (hbytes : N * 8 ≤ 536870912) (hcells : cells + 1 ≤ R.cells) (hslots : slots + N ≤ R.slots) (hdg : decode cc pc = .ok (.newarray atype, 2))
    (kk : ∀ H : Heap, Wd (Ab b) b cs D H0 (al μ 101 N) H locs → W p l e R s m args below meth c H locs (cells + 1) (slots + N) Q (F0 m (pc + 2) ls (.ref (b + (mN μ + 1)) :: rest))) : W p l e R s m args below meth c H locs cells slots Q (F0 m pc ls (.int n :: rest)) := by
  refine W.sized fun hle => ?_
  have hz : H.size = b + (mN μ + 1) := by have := hM.1; omega
  refine va_newaK hx hb harr rfl hdg rfl hn hN (by rw [hat]; exact hbytes) hcells hslots hz fun H1 cA e1 z1 o1 hAr hNm => ?_
  rw [hat] at e1 hNm
  have hcA : cA = cs 1 := Option.some.inj (hNm.symm.trans (hK.1.2 1 _ ht).2)
  subst hcA
  refine kk H1 (Wd_al hM hz z1 o1 ?_)
  rw [ce_long mK_al, mZ_al, show mL (al μ 101 N) (mN μ + 1) = fun _ => 0 from va_up_self _ _ _]
  show H1[b + (mN μ + 1)]? = some (vp_cell _ _)
  rw [vp_cell_l]
  exact e1
theorem g_newr (hx : p.tables.exec = Jvm.exec) (hb : c.code = cc) {own C : String} {index : Nat} (hown : s.vm.findClass own = some m.cls) (hclink : (Cond.classLink own index C).before args s = true) (hover : (Cond.arrayOver (.object C)).before args s = true) (hK : Kw cs D s) (hM : Wd (Ab b) b cs D H0 μ H locs) (hcs : s.heap.size + cells = b + mN μ + 1) (t : Nat) (ht : (tl cs)[2 + t]? = some (cs (2 + t), .object C)) {n : Int32} {N : Nat} (hn : ¬ n < 0) (hN : n.toNatClampNeg = N) (hbytes : N * 4 ≤ 536870912) (hcells : cells + 1 ≤ R.cells) (hslots : slots + N ≤ R.slots) (hdg : decode cc pc = .ok (.anewarray index, 3))
    (kk : ∀ H : Heap, Wd (Ab b) b cs D H0 (al μ (102 + t) N) H locs → W p l e R s m args below meth c H locs (cells + 1) (slots + N) Q (F0 m (pc + 3) ls (.ref (b + (mN μ + 1)) :: rest))) : W p l e R s m args below meth c H locs cells slots Q (F0 m pc ls (.int n :: rest)) := by
  refine W.sized fun hle => ?_
  have hz : H.size = b + (mN μ + 1) := by have := hM.1; omega
  subst hN
  refine W.anew hx hb hown hclink hover rfl hdg rfl hn hbytes hcells hslots fun cA kA comp f1 f2 f3 f4 => ?_
  obtain ⟨kA', comp', k1, k2, k3, k4⟩ := (hK.1.2 (2 + t) _ ht).2
  have hcA : cA = cs (2 + t) := Option.some.inj (f1.symm.trans k4)
  subst hcA
  generalize hH1 : H.push ({ cls := cs (2 + t), slots := Array.replicate n.toNatClampNeg .null, vm := .none } : Cell) = H1
  have z1 : H1.size = b + (mN μ + 1) + 1 := by rw [← hH1, Array.size_push, hz]
  have e1 : H1[b + (mN μ + 1)]? = some (arrV (cs (2 + t)) n.toNatClampNeg (fun _ => .null)) := by rw [← hH1, ← hz, Array.getElem?_push_size, ← arrV_new]
  have o1 : ∀ q : Nat, q < b + (mN μ + 1) → H1[q]? = H[q]? := fun q hq => by rw [← hH1, Array.getElem?_push, if_neg (Nat.ne_of_lt (by rw [hz]; exact hq))]
  show W p l e R s m args below meth c H1 locs (cells + 1) (slots + n.toNatClampNeg) Q (F0 m (pc + 3) ls (.ref H.size :: rest))
  rw [hz]
  refine kk H1 (Wd_al hM hz z1 o1 ?_)
  rw [ce_refs mK_al, mZ_al, show mR (al μ (102 + t) n.toNatClampNeg) (mN μ + 1) = fun _ => 0 from va_up_self _ _ _]
  show H1[b + (mN μ + 1)]? = some (vp_cell _ _)
  rw [vp_cell_q]
  exact e1
theorem g_putrF (hx : p.tables.exec = Jvm.exec) (hb : c.code = cc) {own ref C : String} {T : u_T} {N ci index : Nat} {Ts : List Cond} (hts : ∀ w ∈ Ts, w.before args s = true) (hin : ∀ w ∈ u_ws C T N, w ∈ Ts) (ty0 : Nat → FieldType) (hty : ∀ k, k < N → parseFieldDescriptor (T k).2.2.1 = some (ty0 k)) (hnm : ∀ a, a < N → ∀ b, b < N → a ≠ b → (T a).2.1 ≠ (T b).2.1) (hown : s.vm.findClass own = some m.cls) (hK : Kw cs D s) (hM : Wd (Ab b) b cs D H0 μ H locs) {k : Nat} (ho : ok μ k ci = true) (hci : ci < 100) (hc : vwCl[ci]? = some (C, T, N)) (j : Nat) (hj : j < N) (hlink : (Cond.fieldLink own index ref (T j).2.1 (T j).2.2.1).before args s = true) (hsame : ∀ x, s.fieldFound? (T j).1 (T j).2.1 (T j).2.2.1 = some x → s.fieldFound? ref (T j).2.1 (T j).2.2.1 = some x) (hfin : (T j).2.2.2 = true) (hin2 : meth.name = "<init>") (hdecl : (T j).1 = own) {ty : FieldType} {v : Nat} (hd : parseFieldDescriptor (T j).2.2.1 = some ty) (hn : narrow ty (.ref (b + v)) = .ref (b + v)) (hfit : fits ty (.ref (b + v)) = true) (hjn : j < jN ci) (hjt : ∀ x, fv b x k j (jT ci j) = rv b (mR x k j)) (hv : 0 < v) (hdg : decode cc pc = .ok (.putfield index, 3))
    (kk : ∀ (H : Heap) (locs : List Loc), Wd (Ab b) b cs D H0 (sR μ k j v) H locs → W p l e R s m args below meth c H locs cells slots Q (F0 m (pc + 3) ls rest)) : W p l e R s m args below meth c H locs cells slots Q (F0 m pc ls (.ref (b + v) :: .ref (b + k) :: rest)) :=
  va_putF hx hb hts hin ty0 hty hnm hown hK.1 hM.2.1 (en_D hM.2.2.2) hM.2.2.1 (k - 1) (en_obj ho hci) hc j hj hlink hsame hfin hin2 hdecl hd hn hfit (by rw [fl_len]; exact hjn) hdg (fun H1 locs1 hP _ hS => kk H1 locs1 (Wd.putr ho hci hjt hv hP hS hM.2.2.2))
theorem g_aast (hx : p.tables.exec = Jvm.exec) (hb : c.code = cc) (hK : Kw cs D s) (hM : Wd (Ab b) b cs D H0 μ H locs) {k v : Nat} (t ci : Nat) {r : vw_C} (ht : (tl cs)[2 + t]? = some (cs (2 + t), .object r.1)) (hc : vwCl[ci]? = some r) (hci : ci < 100) (ho : ok μ k (102 + t) = true) (hv : ok μ v ci = true) {i : Int32} (hi : ib i (mZ μ k) = true) (hdg : decode cc pc = .ok (.aastore, 1))
    (kk : ∀ (H : Heap) (locs : List Loc), Wd (Ab b) b cs D H0 (sR μ k i.toNatClampNeg v) H locs → W p l e R s m args below meth c H locs cells slots Q (F0 m (pc + 1) ls rest)) : W p l e R s m args below meth c H locs cells slots Q (F0 m pc ls (.ref (b + v) :: .int i :: .ref (b + k) :: rest)) :=
  va_astq hx hb hK.1 hM.2.1 (en_D hM.2.2.2) hM.2.2.1 (k - 1) (2 + t) (v - 1) ci (en_refs t ho) ht (en_obj hv hci) hc (ib_in hi) hdg (fun H1 locs1 hP _ hS => kk H1 locs1 (Wd.astr t ho (ok_0 hv) hP hS hM.2.2.2))
theorem Wd.startC {av : List Value} (h : va_Pc av (fun U => U.heap.size = b + mN μ + 1 ∧ Bw b cs D μ U ∧ Kw cs D U) args s) : args = av.toArray ∧ s.heap.size = b + mN μ + 1 ∧ Kw cs D s ∧ Wd (Ab b) b cs D s.heap μ s.heap [] := ⟨h.1, h.2.1, h.2.2.2, h.2.2.1.1, h.2.2.1.2, va_S.rf, fun k h1 _ => by show b < b + k; omega⟩
theorem Wd.preC {As : List Value} (hK : Kw cs D s) (hM : Wd (Ab b) b cs D H0 μ H locs) (hz : H.size = b + mN μ + 1) : PreS s H (va_Pc As (fun U => U.heap.size = b + mN μ + 1 ∧ Bw b cs D μ U ∧ Kw cs D U)) As := ⟨fun a U g mk q => by
  obtain ⟨q0, q1, q2, qK⟩ := q
  exact ⟨q0, q1, q2, Kw.same (u := U) (U := U.calling g mk a) rfl qK⟩, fun U hU hW => ⟨rfl, by rw [hU]; exact hz, ⟨by rw [hU]; exact hM.1, by rw [hU]; exact hM.2.1⟩, Kw.warm hW hK⟩⟩
theorem cs_of {S0 b N N0 k : Nat} (h : S0 = b + N0 + 1) (hN : N = N0 + k) : S0 + k = b + N + 1 := by omega
theorem N_of {Nq N N0 k mc k' : Nat} (g : Nq = N + mc) (h : N = N0 + k) (e : k + mc = k') : Nq = N0 + k' := by omega
theorem hz_of {S0 n0 : Nat} (hM : Wd (Ab b) b cs D H0 μ H locs) (hle : H.size ≤ S0 + n0) (hcs : S0 + n0 = b + mN μ + 1) : H.size = b + mN μ + 1 := by have := hM.1; omega
theorem g_callc {a : Array Value} {st0 : List Value} {μ' : Mem} {mc ms : Nat} (hr : va_Run p l e R s m args below meth c H locs cells slots mc ms (F0 m pc ls st0) rest (va_Qv (fun μ0 => μ0 = μ') (Bw b cs D) (Ab b) a) (Ab b)) (hM : Wd (Ab b) b cs D H0 μ H locs)
    (kk : ∀ (H1 : Heap) (locs1 : List Loc), Wd (Ab b) b cs D H0 μ' H1 locs1 → W p l e R s m args below meth c H1 locs1 (cells + mc) (slots + ms) Q (F0 m (pc + 3) ls rest)) : W p l e R s m args below meth c H locs cells slots Q (F0 m pc ls st0) := by
  refine va_callv hr hM.2.2.1 (fun _ _ h => h) (fun _ h => h) (fun u t H1 locs1 ht hvm hp hB hz hk hS => ?_)
  cases hp
  subst ht
  exact kk _ locs1 ⟨hB.1, hB.2, hS, fun k h1 _ => by show b < b + k; omega⟩
theorem g_cret (hx : p.tables.exec = Jvm.exec) (hb : c.code = cc) (hr : meth.sig.returnType = none) (hlocks : meth.locks = false) (hM : Wd (Ab b) b cs D s.heap μ H locs) {res : Mem} (h : μ = res) (hdg : decode cc pc = .ok (.return_, 1)) : W p l e R s m args below meth c H locs cells slots (MQ below (va_Qv (fun μ' => μ' = res) (Bw b cs D) (Ab b)) args s cells slots (Ab b)) (F0 m pc ls []) :=
  W.vret hx hb hr (fun _ ht _ => ⟨⟨μ, rfl, h, hM.fin ht⟩, hM.2.2.1.F ht⟩) hM.2.2.1.2.2 hdg hlocks
end JA
end
section
/-! new int[N][K], new long[N][K]: the outer array, then its rows -/
/-- the memory with an outer array of kind ko and N rows of kind ki and length K -/
def alM (μ : Mem) (ko ki N K : Nat) : Mem := (μ.1 + 1 + N,
  fun q => if q = μ.1 + 1 then (ko, N) else if μ.1 + 1 < q ∧ q ≤ μ.1 + 1 + N then (ki, K) else μ.2.1 q,
  fun q => if μ.1 < q ∧ q ≤ μ.1 + 1 + N then (fun _ => 0) else μ.2.2.1 q,
  fun q => if μ.1 < q ∧ q ≤ μ.1 + 1 + N then (fun _ => 0) else μ.2.2.2.1 q,
  fun q => if q = μ.1 + 1 then (fun j => if j < N then μ.1 + 2 + j else 0) else if μ.1 + 1 < q ∧ q ≤ μ.1 + 1 + N then (fun _ => 0) else μ.2.2.2.2 q)
theorem gr_outer (c : ClassId) (N h0 : Nat) : ∀ i : Nat, Jvm.Free.Multi.outerC c N h0 i = arrV c N (fun j => va_rf (if j < i then some (h0 + 1 + j) else none))
  | 0 => by
    show ({ cls := c, slots := Array.replicate N .null, vm := .none } : Cell) = _
    rw [arrV_new]
    exact congrArg (arrV c N) (funext fun j => rfl)
  | i + 1 => by
    show (Jvm.Free.Multi.outerC c N h0 i).setSlot i (.ref (h0 + 1 + i)) = _
    rw [gr_outer c N h0 i, arrV_store]
    refine congrArg (arrV c N) (funext fun j => ?_)
    unfold updV
    by_cases e : j = i
    · subst e
      rw [if_pos rfl, if_pos (Nat.lt_succ_self _)]
      rfl
    · rw [if_neg e]
      dsimp only
      by_cases h : j < i
      · rw [if_pos h, if_pos (Nat.lt_succ_of_lt h)]
      · rw [if_neg h, if_neg (by omega)]
theorem alM_old {b : Nat} {cs : Nat → ClassId} {μ : Mem} {ko ki N K q : Nat} (h : q ≤ mN μ) : ce b cs (alM μ ko ki N K) q = ce b cs μ q := by
  have h : q ≤ μ.1 := h
  have h1 : ¬ q = μ.1 + 1 := by omega
  have h2 : ¬ (μ.1 + 1 < q ∧ q ≤ μ.1 + 1 + N) := by omega
  have h3 : ¬ (μ.1 < q ∧ q ≤ μ.1 + 1 + N) := by omega
  refine ce_congr ?_ ?_ ?_ ?_
  · show (if q = μ.1 + 1 then (ko, N) else if μ.1 + 1 < q ∧ q ≤ μ.1 + 1 + N then (ki, K) else μ.2.1 q) = μ.2.1 q
    rw [if_neg h1, if_neg h2]
  · show (if μ.1 < q ∧ q ≤ μ.1 + 1 + N then (fun _ => 0) else μ.2.2.1 q) = μ.2.2.1 q
    rw [if_neg h3]
  · show (if μ.1 < q ∧ q ≤ μ.1 + 1 + N then (fun _ => 0) else μ.2.2.2.1 q) = μ.2.2.2.1 q
    rw [if_neg h3]
  · show (if q = μ.1 + 1 then (fun j => if j < N then μ.1 + 2 + j else 0) else if μ.1 + 1 < q ∧ q ≤ μ.1 + 1 + N then (fun _ => 0) else μ.2.2.2.2 q) = μ.2.2.2.2 q
    rw [if_neg h1, if_neg h2]
theorem alM_out {b : Nat} {cs : Nat → ClassId} {μ : Mem} {t ki N K : Nat} : ce b cs (alM μ (102 + t) ki N K) (mN μ + 1) = .inl (cs (2 + t), N, .inr (.inr (.inr (.inr (fun j => if j < N then some (b + (mN μ + 1) + 1 + j) else none))))) := by
  have e1 : (alM μ (102 + t) ki N K).2.1 (mN μ + 1) = (102 + t, N) := if_pos rfl
  have e2 : mR (alM μ (102 + t) ki N K) (mN μ + 1) = fun j => if j < N then μ.1 + 2 + j else 0 := if_pos rfl
  have e3 : mK (alM μ (102 + t) ki N K) (mN μ + 1) = 102 + t := by unfold mK; rw [e1]
  have e4 : mZ (alM μ (102 + t) ki N K) (mN μ + 1) = N := by unfold mZ; rw [e1]
  rw [ce_refs e3, e4, e2]
  refine congrArg (fun z => (Sum.inl (cs (2 + t), N, .inr (.inr (.inr (.inr z)))) : va_E)) (funext fun j => ?_)
  show ro b (if j < N then μ.1 + 2 + j else 0) = (if j < N then some (b + (mN μ + 1) + 1 + j) else none)
  by_cases h : j < N
  · rw [show (if j < N then μ.1 + 2 + j else 0) = μ.1 + 2 + j from if_pos h, if_pos h]
    unfold ro
    rw [if_neg (by omega)]
    exact congrArg some (by show b + (μ.1 + 2 + j) = b + (μ.1 + 1) + 1 + j; omega)
  · rw [show (if j < N then μ.1 + 2 + j else 0) = 0 from if_neg h, if_neg h]
    rfl
theorem alM_row {μ : Mem} {ko ki N K j : Nat} (h : j < N) : (alM μ ko ki N K).2.1 (mN μ + 2 + j) = (ki, K) ∧ mI (alM μ ko ki N K) (mN μ + 2 + j) = (fun _ => 0) ∧ mL (alM μ ko ki N K) (mN μ + 2 + j) = (fun _ => 0) := by
  have h1 : ¬ mN μ + 2 + j = μ.1 + 1 := by unfold mN; omega
  have h2 : μ.1 + 1 < mN μ + 2 + j ∧ mN μ + 2 + j ≤ μ.1 + 1 + N := by unfold mN; omega
  have h3 : μ.1 < mN μ + 2 + j ∧ mN μ + 2 + j ≤ μ.1 + 1 + N := by unfold mN; omega
  refine ⟨?_, ?_, ?_⟩
  · show (if mN μ + 2 + j = μ.1 + 1 then (ko, N) else if μ.1 + 1 < mN μ + 2 + j ∧ mN μ + 2 + j ≤ μ.1 + 1 + N then (ki, K) else μ.2.1 (mN μ + 2 + j)) = _
    rw [if_neg h1, if_pos h2]
  · show (if μ.1 < mN μ + 2 + j ∧ mN μ + 2 + j ≤ μ.1 + 1 + N then (fun _ => 0) else μ.2.2.1 (mN μ + 2 + j)) = _
    rw [if_pos h3]
  · show (if μ.1 < mN μ + 2 + j ∧ mN μ + 2 + j ≤ μ.1 + 1 + N then (fun _ => 0) else μ.2.2.2.1 (mN μ + 2 + j)) = _
    rw [if_pos h3]
section JG
variable {p : Program} {l : Launch} {e : Env} {R : Room} {s : State} {m : MethodId} {args : Array Value} {below : List Frame} {meth : Method} {c : Code} {H H0 : Heap} {locs : List Loc} {cells slots : Nat} {Q : State → Prop} {cc : ByteArray} {pc : Nat} {ls : Array Slot} {rest : List Value} {b : Nat} {cs : Nat → ClassId} {D : va_G} {μ : Mem}
theorem g_mna (hx : p.tables.exec = Jvm.exec) (hb : c.code = cc) {own : String} {index : Nat} (ty : FieldType) (t ki : Nat) {cy : ClassId} {z : Nat → vp_A} (hown : s.vm.findClass own = some m.cls) (hclink : (Cond.classLink own index ("[" ++ (FieldType.array ty).toString)).before args s = true) (hover : (Cond.arrayOver (.array ty)).before args s = true) (harr : (Cond.arrayClass ty).before args s = true) (hcy : s.vm.findClass (FieldType.array ty).toString = some cy) (hcA : s.vm.findClass ("[" ++ (FieldType.array ty).toString) = some (cs (2 + t))) (hM : Wd (Ab b) b cs D H0 μ H locs) (hcs : s.heap.size + cells = b + mN μ + 1) {n k : Int32} {N K : Nat} (hn : ¬ n < 0) (hk : ¬ k < 0) (hN : n.toNatClampNeg = N) (hKk : k.toNatClampNeg = K)
    (hb1 : N * 4 ≤ 536870912) (hb2 : K * componentBytes ty ≤ 536870912) (hb3 : K ≤ 536870912) (hdf : fits ty (defaultValue ty) = true) (hdd : (defaultValue ty).isDefault = true) (hcells : cells + (1 + N) ≤ R.cells) (hslots : slots + (N + N * K) ≤ R.slots) (hrow : ∀ j, j < N → ce b cs (alM μ (102 + t) ki N K) (mN μ + 2 + j) = .inl (cy, z K)) (hz : ∀ c : ClassId, vp_cell c (z K) = arrV c K (fun _ => defaultValue ty)) (hdg : decode cc pc = .ok (.multianewarray index 2, 4))
    (kk : ∀ H : Heap, Wd (Ab b) b cs D H0 (alM μ (102 + t) ki N K) H locs → W p l e R s m args below meth c H locs (cells + 1 + N) (slots + N + N * K) Q (F0 m (pc + 4) ls (.ref (b + (mN μ + 1)) :: rest))) : W p l e R s m args below meth c H locs cells slots Q (F0 m pc ls (.int k :: .int n :: rest)) := by
  subst hN
  subst hKk
  refine W.sized fun hle => ?_
  have hsz : H.size = b + (mN μ + 1) := by have := hM.1; omega
  intro T hT Xs
  obtain ⟨vm₁, cA, comp, -, fA, fC, hO, -, X', step⟩ := Xs.multianewarray2F hx hown hclink hover harr (g := F0 m pc ls (.int k :: .int n :: rest)) rfl (by rw [hb]; exact hdg) rfl hn hk hb1 hb2 hb3 hdf hdd hcells hslots
  cases hcy.symm.trans fC
  cases hcA.symm.trans fA
  have hTh : (T.setVm vm₁).heap = H := hT
  obtain ⟨f1, f2, -, -⟩ := Jvm.Free.Multi.fill_facts (T.setVm vm₁) (cs (2 + t)) cy n.toNatClampNeg k.toNatClampNeg (defaultValue ty) n.toNatClampNeg
  have hold : ∀ x : Nat, x < H.size → (Jvm.Free.Multi.fill (T.setVm vm₁) (cs (2 + t)) cy n.toNatClampNeg k.toNatClampNeg (defaultValue ty) n.toNatClampNeg).heap[x]? = H[x]? := fun x hx9 => by
    rw [Jvm.Free.Multi.fill_old (T.setVm vm₁) (cs (2 + t)) cy n.toNatClampNeg k.toNatClampNeg (defaultValue ty) (a := x) (by rw [hTh]; exact hx9) n.toNatClampNeg, hTh]
  have hin : ∀ j : Nat, j < n.toNatClampNeg → (Jvm.Free.Multi.fill (T.setVm vm₁) (cs (2 + t)) cy n.toNatClampNeg k.toNatClampNeg (defaultValue ty) n.toNatClampNeg).heap[H.size + 1 + j]? = some (Jvm.Free.Multi.innerC cy k.toNatClampNeg (defaultValue ty)) := fun j hj => by
    rw [← hTh]
    exact Jvm.Free.Multi.fill_inner (T.setVm vm₁) (cs (2 + t)) cy n.toNatClampNeg k.toNatClampNeg (defaultValue ty) n.toNatClampNeg j hj
  rw [hTh] at f1 f2
  generalize hF : Jvm.Free.Multi.fill (T.setVm vm₁) (cs (2 + t)) cy n.toNatClampNeg k.toNatClampNeg (defaultValue ty) n.toNatClampNeg = F at X' step f1 f2 hold hin
  have hW : Wd (Ab b) b cs D H0 (alM μ (102 + t) ki n.toNatClampNeg k.toNatClampNeg) F.heap locs := by
    refine ⟨?_, ?_, ?_, fun k9 h1 _ => by show b < b + k9; omega⟩
    · show b + (mN μ + 1 + n.toNatClampNeg) < F.heap.size
      omega
    · intro i q hq
      obtain ⟨hi, rfl⟩ := en_at hq
      have hi : i < mN μ + 1 + n.toNatClampNeg := hi
      by_cases h1 : i + 1 ≤ mN μ
      · rw [alM_old h1]
        exact (hM.2.1 i _ (by have := en_get (b := b) (cs := cs) (k := i + 1) (Nat.succ_pos _) h1; exact this)).kept (hold _ (by rw [hsz]; show b + (i + 1) < _; omega))
      · by_cases h2 : i = mN μ
        · subst h2
          rw [alM_out]
          show F.heap[b + (mN μ + 1)]? = some (vp_cell _ _)
          rw [vp_cell_q, ← hsz, f2, gr_outer]
        · obtain ⟨j, rfl⟩ : ∃ j, i = mN μ + 1 + j := ⟨i - (mN μ + 1), by omega⟩
          have hj : j < n.toNatClampNeg := by omega
          rw [show mN μ + 1 + j + 1 = mN μ + 2 + j by omega, hrow j hj]
          show F.heap[b + (mN μ + 2 + j)]? = some (vp_cell _ _)
          rw [hz, show b + (mN μ + 2 + j) = H.size + 1 + j by omega, hin j hj, ← arrV_new]
          rfl
    · have hS := hM.2.2.1
      exact ⟨Nat.le_trans hS.1 (by omega), fun x h1 h2 => (hold x (Nat.lt_of_lt_of_le h1 hS.1)).trans (hS.2.1 x h1 h2), hS.2.2⟩
  obtain ⟨t9, a1, b1⟩ := kk F.heap hW F rfl X'
  refine ⟨t9, step t9 ?_, b1⟩
  have hTs : T.heap.size = b + (mN μ + 1) := by rw [hT]; exact hsz
  rw [hTs]
  exact a1
theorem g_mnaI (hx : p.tables.exec = Jvm.exec) (hb : c.code = cc) {own : String} {index : Nat} (hown : s.vm.findClass own = some m.cls) (hclink : (Cond.classLink own index ("[" ++ (FieldType.array .int).toString)).before args s = true) (harr : (Cond.arrayClass .int).before args s = true) (hK : Kw cs D s) (hM : Wd (Ab b) b cs D H0 μ H locs) (hcs : s.heap.size + cells = b + mN μ + 1) {n k : Int32} {N K : Nat} (hn : ¬ n < 0) (hk : ¬ k < 0) (hN : n.toNatClampNeg = N) (hKk : k.toNatClampNeg = K)
    (hb1 : N * 4 ≤ 536870912) (hb2 : K * 4 ≤ 536870912) (hcells : cells + (1 + N) ≤ R.cells) (hslots : slots + (N + N * K) ≤ R.slots) (hdg : decode cc pc = .ok (.multianewarray index 2, 4))
    (kk : ∀ H : Heap, Wd (Ab b) b cs D H0 (alM μ 104 100 N K) H locs → W p l e R s m args below meth c H locs (cells + 1 + N) (slots + N + N * K) Q (F0 m (pc + 4) ls (.ref (b + (mN μ + 1)) :: rest))) : W p l e R s m args below meth c H locs cells slots Q (F0 m pc ls (.int k :: .int n :: rest)) := by
  refine g_mna (z := fun K => (K, .inl (fun _ => 0))) (cy := cs 0) hx hb .int 2 100 hown hclink hK.over_I harr (hK.1.2 0 _ rfl).2 (hK.1.2 4 _ rfl).2 hM hcs hn hk hN hKk hb1 hb2 (by omega) rfl rfl hcells hslots (fun j hj => ?_) (fun c9 => vp_cell_i ..) hdg kk
  obtain ⟨e1, e2, -⟩ := alM_row (μ := μ) (ko := 104) (ki := 100) (K := K) hj
  have e3 : mK (alM μ 104 100 N K) (mN μ + 2 + j) = 100 := by unfold mK; rw [e1]
  have e4 : mZ (alM μ 104 100 N K) (mN μ + 2 + j) = K := by unfold mZ; rw [e1]
  rw [ce_int e3, e4, e2]
theorem g_mnaJ (hx : p.tables.exec = Jvm.exec) (hb : c.code = cc) {own : String} {index : Nat} (hown : s.vm.findClass own = some m.cls) (hclink : (Cond.classLink own index ("[" ++ (FieldType.array .long).toString)).before args s = true) (harr : (Cond.arrayClass .long).before args s = true) (hK : Kw cs D s) (hM : Wd (Ab b) b cs D H0 μ H locs) (hcs : s.heap.size + cells = b + mN μ + 1) {n k : Int32} {N K : Nat} (hn : ¬ n < 0) (hk : ¬ k < 0) (hN : n.toNatClampNeg = N) (hKk : k.toNatClampNeg = K)
    (hb1 : N * 4 ≤ 536870912) (hb2 : K * 8 ≤ 536870912) (hcells : cells + (1 + N) ≤ R.cells) (hslots : slots + (N + N * K) ≤ R.slots) (hdg : decode cc pc = .ok (.multianewarray index 2, 4))
    (kk : ∀ H : Heap, Wd (Ab b) b cs D H0 (alM μ 105 101 N K) H locs → W p l e R s m args below meth c H locs (cells + 1 + N) (slots + N + N * K) Q (F0 m (pc + 4) ls (.ref (b + (mN μ + 1)) :: rest))) : W p l e R s m args below meth c H locs cells slots Q (F0 m pc ls (.int k :: .int n :: rest)) := by
  refine g_mna (z := fun K => (K, .inr (.inl (fun _ => 0)))) (cy := cs 1) hx hb .long 3 101 hown hclink hK.over_J harr (hK.1.2 1 _ rfl).2 (hK.1.2 5 _ rfl).2 hM hcs hn hk hN hKk hb1 hb2 (by omega) rfl rfl hcells hslots (fun j hj => ?_) (fun c9 => vp_cell_l ..) hdg kk
  obtain ⟨e1, -, e2⟩ := alM_row (μ := μ) (ko := 105) (ki := 101) (K := K) hj
  have e3 : mK (alM μ 105 101 N K) (mN μ + 2 + j) = 101 := by unfold mK; rw [e1]
  have e4 : mZ (alM μ 105 101 N K) (mN μ + 2 + j) = K := by unfold mZ; rw [e1]
  rw [ce_long e3, e4, e2]
end JG
end
section
/-! Exceptions that the class throws, in launches without stack traces: the making and throwing of one, its way out of a method, its catching. -/
/-- the words on Throwable's two statics: the heap decides them too -/
def xS : List Cond := [.isRef (.static Bundle.tN "UNASSIGNED_STACK" Bundle.steD), .isRef (.static Bundle.tN "SUPPRESSED_SENTINEL" Bundle.listD), .laysStatic Bundle.tN "UNASSIGNED_STACK" Bundle.steD, .laysStatic Bundle.tN "SUPPRESSED_SENTINEL" Bundle.listD]
/-- the class's texts, by their entries -/
def jS : List (Nat × String) := [(143, "the question is no tree"), (104, "no such atom"), (130, "a variable of the head is in no atom"), (138, "more than 64 answers"), (119, "no such answer, or no such value in it")]
/-- what a state knows for throwing: the words held in some earlier state u0, all of whose cells lie at or below b and are as they were; and where the texts lie -/
def Zx (b : Nat) (U : State) (H : Heap) : Prop := (∃ u0 : State, (∀ w ∈ xS, w.before #[] u0 = true) ∧ u0.vm.Alike U.vm ∧ u0.heap.size ≤ b + 1 ∧ ∀ q : Nat, q < u0.heap.size → H[q]? = u0.heap[q]?) ∧ ∀ q ∈ jS, ∃ sa, vk_R "JoinedLeaves" q.1 q.2 sa U
theorem Zx.to {b : Nat} {u U : State} {H H1 : Heap} (hW : u.WarmedH U.vm) (h : Zx b u H) (hq : ∀ a : Nat, a < H.size → a ≤ b → H1[a]? = H[a]?) : Zx b U H1 := by
  obtain ⟨⟨u0, h1, h2, h3, h4⟩, h5⟩ := h
  refine ⟨⟨u0, h1, h2.trans hW.alike, h3, fun q hlt => ?_⟩, fun q hm => ?_⟩
  · have hsome : H[q]? = some u0.heap[q] := (h4 q hlt).trans (Array.getElem?_eq_getElem hlt)
    rw [hq q (Array.getElem?_eq_some_iff.mp hsome).1 (by omega)]
    exact h4 q hlt
  · obtain ⟨sa, h6⟩ := h5 q hm
    exact ⟨sa, vk_R.warm hW h6⟩
abbrev Px (b : Nat) (cs : Nat → ClassId) (D : va_G) (μ : Mem) (av : List Value) : Array Value → State → Prop := va_Pc av (fun U => Bw b cs D μ U ∧ Kw cs D U ∧ Zx b U U.heap)
/-- a method has thrown an E, with the memory μ' behind it -/
def QT (b : Nat) (cs : Nat → ClassId) (D : va_G) (E : String) (μ μ' : Mem) : Array Value → State → Outcome → State → Prop := fun _ st o t => ∃ (q : Addr) (ce : Cell) (L : List Loc), o = .threw q ∧ t.heap[q]? = some ce ∧ ce.vm = .none ∧ st.vm.findClass E = some ce.cls ∧ Bw b cs D μ' t ∧ va_F (Aw b (mN μ)) st t ∧ st.WarmedH t.vm ∧ st.sameButNew ({ t with vm := st.vm } : State) L 1 6 ∧ mN μ' ≤ mN μ ∧ ∀ z ∈ L, Aw b (mN μ) z.base
def MT (below : List Frame) (b : Nat) (cs : Nat → ClassId) (D : va_G) (E : String) (μ μ' : Mem) (a : Array Value) (s : State) : State → Prop := fun t => ∃ o, t.status = .running ∧ Ended t below o ∧ QT b cs D E μ μ' a s o t
def MetT (l : Launch) (y : MethodName) (ws : List Cond) (fr lo b : Nat) (cs : Nat → ClassId) (D : va_G) (μ : Mem) (av : List Value) (E : String) (μ' : Mem) : Prop := MetFree l y (headSpec ws { frames := fr, cells := 1, slots := 6, locals := lo }) (Px b cs D μ av) (fun _ _ _ _ _ => True) (QT b cs D E μ μ')
theorem MetT.ofW {l : Launch} {y : MethodName} {ws ws' : List Cond} {fr lo b : Nat} {cs : Nat → ClassId} {D : va_G} {μ μ' : Mem} {av : List Value} {E : String} {cc : ByteArray} {maxL : Nat} {ret : Option FieldType} (hy : plainName y.cls = true) (hw : ws = Cond.code y cc maxL ret :: ws')
    (body : ∀ p e s m args below meth c s₁, BodyLoose p l y (headSpec ws { frames := fr, cells := 1, slots := 6, locals := lo }) cc maxL ret e s m args below meth c s₁ → c.maxLocals = maxL → c.exceptionTable.isEmpty = true → Px b cs D μ av args s →
      W p l e (headSpec ws { frames := fr, cells := 1, slots := 6, locals := lo }).room s m args below meth c s.heap [] 0 0 (MT below b cs D E μ μ' args s) (entryFrame m args maxL)) : MetT l y ws fr lo b cs D μ av E μ' := by
  have hcode : ∀ (args : Array Value) (s : State), (headSpec ws { frames := fr, cells := 1, slots := 6, locals := lo }).pre.before args s = true → (Cond.code y cc maxL ret).before args s = true := fun args s h => atoms_spec (ws := ws) h _ (by rw [hw]; exact List.mem_cons_self)
  refine MetFree.of_bodyS (code := cc) (maxLocals := maxL) (ret := ret) hy ?_ ?_
  · intro args s m h hn
    obtain ⟨meth, c, h1, h2, h3, h4, h5, h6, -, -⟩ := Cond.code_spec hn (hcode args s h)
    exact ⟨meth, c, h1, h2, h3, h4, h5, h6⟩
  · intro p e s m args below meth c s₁ B hml hP _
    have hh0 : s₁.heap = s.heap := by rw [B.state]; rfl
    obtain ⟨t, a1, o, b1, b2, b3⟩ := body p e s m args below meth c s₁ B hml (B.noHandlers (hcode args s B.pre)) hP s₁ hh0 (Stand.of_body B)
    exact ⟨t, o, a1, b1, b2, b3⟩
section JX
variable {p : Program} {l : Launch} {e : Env} {R : Room} {s : State} {m : MethodId} {args : Array Value} {below : List Frame} {meth : Method} {c : Code} {H H0 : Heap} {locs : List Loc} {cells slots : Nat} {Q : State → Prop} {cc : ByteArray} {pc : Nat} {ls : Array Slot} {rest : List Value} {b : Nat} {cs : Nat → ClassId} {D : va_G} {μ : Mem}
theorem Wd.startX {av : List Value} (h : Px b cs D μ av args s) : args = av.toArray ∧ Kw cs D s ∧ Zx b s s.heap ∧ Wd (Aw b (mN μ)) b cs D s.heap μ s.heap [] := ⟨h.1, h.2.2.1, h.2.2.2, h.2.1.1, h.2.1.2, va_S.rf, Aw.all⟩
end JX
/-- the words on the two statics hold where the cells at or below b are as they were -/
theorem x_lays {args args0 : Array Value} {u s : State} {n d : String} (h : (Cond.laysStatic Bundle.tN n d).before args0 u = true) (hal : u.vm.Alike s.vm) (hh : ∀ q : Nat, q < u.heap.size → s.heap[q]? = u.heap[q]?) : ∃ (k : Class) (f : Field) (a : Nat) (cell : Cell) (c i : Nat), s.fieldFound? Bundle.tN n d = some (c, k, i, f) ∧ f.isStatic = true ∧ k.statics = some a ∧ u.heap[a]? = some cell ∧ s.heap[a]? = some cell ∧ cell.vm.isStatics = true ∧ (Cond.laysStatic Bundle.tN n d).before args s = true := by
  obtain ⟨c, k, i, f, a, cell, h1, h2, h3, h4, h5, h6, h7, h8, h9⟩ := Cond.laysStatic_spec (Cond.laysStatic_setVm hal h)
  have h5 : u.heap[a]? = some cell := h5
  have h10 : s.heap[a]? = some cell := (hh a (Array.getElem?_eq_some_iff.mp h5).1).trans h5
  exact ⟨k, f, a, cell, c, i, h2, h3, h4, h5, h10, h6, Cond.laysStatic_of (s := s) h1 h2 h3 h4 h10 h6 h7 h8 h9⟩
theorem x_ref {args args0 : Array Value} {u s : State} {n d : String} (hl : (Cond.laysStatic Bundle.tN n d).before args0 u = true) (h : (Cond.isRef (.static Bundle.tN n d)).before args0 u = true) (hal : u.vm.Alike s.vm) (hh : ∀ q : Nat, q < u.heap.size → s.heap[q]? = u.heap[q]?) : (Cond.isRef (.static Bundle.tN n d)).before args s = true := by
  obtain ⟨k, f, a, cell, c, i, h1, h2, h3, h4, h5, h6, -⟩ := x_lays (args := args) hl hal hh
  have hv := Cond.value_setVm (args := args0) (o := none) hal (.isRef (.static Bundle.tN n d)) [] rfl
  have hu : (Cond.isRef (.static Bundle.tN n d)).value args0 (u.setVm s.vm) none (u.setVm s.vm) [] = some true := by
    rw [hv]
    simpa [Cond.before, Cond.holds] using h
  have h1u : (u.setVm s.vm).fieldFound? Bundle.tN n d = some (c, k, i, f) := h1
  have h4u : (u.setVm s.vm).heap[a]? = some cell := h4
  have ev : ∀ (S : State) (A : Array Value), S.fieldFound? Bundle.tN n d = some (c, k, i, f) → S.heap[a]? = some cell → (Term.static Bundle.tN n d).eval A S none [] S = cell.slots[f.slot]? := by
    intro S A g1 g2
    simp [Term.eval, State.fieldNamed?, g1, h2, h3, g2, h6]
  simp only [Cond.value, ev _ _ h1u h4u] at hu
  simp only [Cond.before, Cond.holds, Cond.value, ev _ _ h1 h5, hu]
  rfl
theorem Zx.word {b : Nat} {s : State} {args : Array Value} (hZ : Zx b s s.heap) : ∀ w ∈ xS, w.before args s = true := by
  obtain ⟨⟨u0, h1, h2, -, h4⟩, -⟩ := hZ
  have m0 := h1 _ (List.mem_of_getElem? (i := 0) rfl)
  have m1 := h1 _ (List.mem_of_getElem? (i := 1) rfl)
  have m2 := h1 _ (List.mem_of_getElem? (i := 2) rfl)
  have m3 := h1 _ (List.mem_of_getElem? (i := 3) rfl)
  obtain ⟨-, -, -, -, -, -, -, -, -, -, -, -, l2⟩ := x_lays (args := args) m2 h2 h4
  obtain ⟨-, -, -, -, -, -, -, -, -, -, -, -, l3⟩ := x_lays (args := args) m3 h2 h4
  intro w hw
  simp only [xS, List.mem_cons, List.not_mem_nil, or_false] at hw
  rcases hw with rfl | rfl | rfl | rfl
  · exact x_ref m2 m0 h2 h4
  · exact x_ref m3 m1 h2 h4
  · exact l2
  · exact l3
end
section
/-! 'throw new E("text")' from the 'new' on, over the library's Stand.ctorThrowS -/
section JT
variable {p : Program} {l : Launch} {e : Env} {R : Room} {s : State} {m : MethodId} {args : Array Value} {below : List Frame} {meth : Method} {c : Code} {H H0 : Heap} {locs : List Loc} {cells slots : Nat} {Q : State → Prop} {cc : ByteArray} {pc : Nat} {ls : Array Slot} {rest : List Value} {b : Nat} {cs : Nat → ClassId} {D : va_G} {μ μ0 : Mem}
set_option maxRecDepth 100000 in
/-- a frame that stands may be taken as a call that begins in the heap as it is now: what is left of the room is its room -/
theorem x_anew {T : State} (X : Stand p l e R s m args below meth c T locs cells slots) (hc : cells + 1 ≤ R.cells) (hs : slots + 6 ≤ R.slots) :
    ∃ s' : State, s'.vm = s.vm ∧ s'.heap = T.heap ∧ s' = (T.setVm s.vm).setFrames (.invoking m args :: below) ∧ Stand p l e { frames := R.frames, cells := 1, slots := 6, locals := R.locals } s' m args below meth c T [] 0 0 := by
  obtain ⟨g0, hg0⟩ := X.frames_eq
  have hTf : (T.setVm s.vm).frames = .java g0 :: below := hg0
  obtain ⟨th, hth, -⟩ := State.frames_cons hTf
  have hcur : (T.setVm s.vm).cur < (T.setVm s.vm).threads.size := (Array.getElem?_eq_some_iff.mp hth).1
  obtain ⟨s', hs'⟩ : ∃ z, z = (T.setVm s.vm).setFrames (.invoking m args :: below) := ⟨_, rfl⟩
  have hF : s'.frames = .invoking m args :: below := by rw [hs']; exact State.frames_setFrames _ hcur
  have hback : T.setVm s.vm = s'.setFrames T.frames := by
    rw [hs', State.setFrames_setFrames]
    exact (State.setFrames_self hth).symm
  have hvm : s'.vm = s.vm := by rw [hs']; rfl
  have hheap : s'.heap = T.heap := by rw [hs']; rfl
  have hmeth : s'.vm.method? m = some meth := by rw [hvm]; exact X.method
  have hlim : e.platform.stackLimits s'.me = e.platform.stackLimits T.me := by rw [hs', State.stackLimits_setFrames]; rfl
  have hbyt : s'.me.stackBytes = T.me.stackBytes := by rw [hs', State.stackBytes_setFrames]; rfl
  have hloc : s'.localsInUse = s.localsInUse := by
    rw [State.localsInUse_invoking hF hmeth X.code, State.localsInUse_invoking X.frames X.method X.code]
  have hlen : s'.frames.length = s.frames.length := by rw [hF, X.frames, List.length_cons]
  have hreal := State.hasRoom_real X.room
  obtain ⟨r1, -, r3, -⟩ := State.hasRoom_stack X.room
  have hroom : s'.hasRoom e.platform { frames := R.frames, cells := 1, slots := 6, locals := R.locals } = true := by
    refine State.hasRoom_of ?_ ?_ ?_ ?_ ?_ ?_ ?_
    · rw [hbyt, X.bytes]
      exact State.hasRoom_plain X.room
    · rw [hlen]
      exact r1
    · rw [hloc]
      exact r3
    · rw [hheap]
      exact X.cellsAbove hc
    · rw [show s'.slotsUsed = T.slotsUsed by rw [hs']; rfl]
      exact X.slotsAbove hs
    · rw [hs']
      exact X.book
    · rw [hloc]
      exact hreal
  have hth' : s'.cur < s'.threads.size := State.cur_lt_of_frames hF
  obtain ⟨th', ht', -⟩ := State.frames_cons hF
  refine ⟨s', hvm, hheap, hs', X.admits, X.cas, X.clock, hF, hroom, ?_, hmeth, X.code, X.here, X.tail, ?_, hlim.symm, hbyt.symm, ?_⟩
  · rw [hs']
    exact X.hears
  · have h := X.warmed
    rw [hs']
    exact h
  · rw [hvm, hback]
    exact (State.sameButNew.refl s' ht').setFrames T.frames hth'
theorem isNest_on {w : Cond} (h : isNest w = true) : w.onTables = true := by
  cases w <;> first | rfl | (cases h; done)
/-- the words of a throw, where the tables are those of s and the cells at or below b are as they were -/
theorem x_words {s' : State} {L : List Cond} (hvm : s'.vm = s.vm) (hts : ∀ w ∈ jW, w.before args s = true) (hK : Kw cs D s) (hZ : Zx b s s.heap) (hh : ∀ q : Nat, q < s.heap.size → q ≤ b → s'.heap[q]? = s.heap[q]?) (hL : ∀ w ∈ L, w ∈ jW ∨ w ∈ jNest ∨ w ∈ xS) : ∀ w ∈ L, w.before args s' = true := by
  have hW : s.WarmedH s'.vm := by rw [hvm]; exact State.WarmedH.refl s
  intro w hw
  rcases hL w hw with h | h | h
  · exact word_at hW (good_of_word (List.all_eq_true.mp jW_good w h)) (hts w h)
  · exact va_Nw.use (isNest_on (jNest_ok w h)) (isNest_same (jNest_ok w h) hvm.symm (hK.2.1 w h))
  · exact (hZ.to (U := s') (H1 := s'.heap) hW hh).word w h
theorem g_throw (hx : p.tables.exec = Jvm.exec) (hb : c.code = cc) (hl : l.stackTraces = false) {own E text : String} {ik is ic sa : Nat} (names : List String) (hown : s.vm.findClass own = some m.cls) (hE : Bundle.fit E = true) (hnm : ∀ n ∈ names, Bundle.fit n = true) (hts : ∀ w ∈ jW, w.before args s = true) (hK : Kw cs D s) (hZ : Zx b s s.heap) (hk : Cond.classLink own ik E ∈ jW) (hi : Cond.initialized E ∈ jW) (hstr : vk_R own is text sa s) (hL : ∀ w ∈ Bundle.ownAtoms own ic E names, w ∈ jW ∨ w ∈ jNest ∨ w ∈ xS)
    (hM : Wd (Aw b (mN μ0)) b cs D s.heap μ H locs) (hsize : ls.size = c.maxLocals) (d0 : decode cc pc = .ok (.new ik, 3)) (d3 : decode cc (pc + 3) = .ok (.dup, 1)) (d4 : decode cc (pc + 4) = .ok (.ldc is, 2)) (d6 : decode cc (pc + 6) = .ok (.invokespecial ic, 3)) (d9 : decode cc (pc + 9) = .ok (.athrow, 1)) (hout : c.exceptionTable.isEmpty = true)
    (hRf : names.length + 3 < R.frames) (hRl : (rest.map fun v => v.category).sum + (13 * (names.length + 1) + 43) ≤ R.locals) (hRc : cells + 1 ≤ R.cells) (hRs : slots + 6 ≤ R.slots) (hc1 : cells = 0) (hs1 : slots = 0) (hlocks : meth.locks = false) : W p l e R s m args below meth c H locs cells slots (MT below b cs D E μ0 μ args s) (F0 m pc ls rest) := by
  subst hc1
  subst hs1
  intro T hT X
  have htr : e.platform.stackTraces = false := by
    have h : e.platform.stackTraces = l.stackTraces := by rw [X.admits.platform]
    rw [h]
    exact hl
  obtain ⟨s', hvm, hheap, hs', Y⟩ := x_anew X hRc hRs
  have hW0 : s.WarmedH s'.vm := by rw [hvm]; exact State.WarmedH.refl s
  have hold : ∀ q : Nat, q < s.heap.size → q ≤ b → s'.heap[q]? = s.heap[q]? := fun q h1 h2 => by
    rw [hheap, hT]
    exact hM.2.2.1.2.1 q h1 (fun z => by have := z.1; omega)
  have hw := x_words hvm hts hK hZ hold hL
  have hg := x_words (L := [Cond.classLink own ik E, Cond.initialized E]) hvm hts hK hZ hold (fun w h => by
    rcases List.mem_cons.mp h with rfl | h
    · exact Or.inl hk
    · rw [List.mem_singleton.mp h]
      exact Or.inl hi)
  have hown' : s'.vm.findClass own = some m.cls := by rw [hvm]; exact hown
  obtain ⟨vm1, cX, kX, hfX, hkX, -, -, X1, st1⟩ := Y.newCold hx (own := own) (C := E) (index := ik) (n := 6) hown' (hg _ List.mem_cons_self) (hw (.instantiable E 6) (by simp [Bundle.ownAtoms])) (hg _ (List.mem_cons_of_mem _ List.mem_cons_self)) (g := F0 m pc ls rest) rfl (by rw [hb]; exact d0) (Nat.le_refl _) (Nat.le_refl _)
  have hnew : ((T.setVm vm1).pushCell { cls := cX, slots := kX.instanceTypes.map defaultValue, vm := .none }).heap[T.heap.size]? = some (freshCell cX kX) := State.heap_pushCell_size _ _
  generalize (T.setVm vm1).pushCell { cls := cX, slots := kX.instanceTypes.map defaultValue, vm := .none } = T1 at X1 st1 hnew
  have hstr' := vk_R.warm hW0 hstr
  obtain ⟨U, hst, hrun, hend, hW, hsame, ce, hce, hO⟩ := X1.ctorThrowS hx htr (own := own) (cls := E) (names := names) (ic := ic) hown' hE hnm hw (fun x hx => absurd hx List.not_mem_nil) hfX hkX hnew (by rw [hheap]; exact Nat.le_refl _) (msg := .ref sa) rfl
    (g := F0 m (pc + 6) ls (.ref sa :: .ref T.heap.size :: .ref T.heap.size :: rest)) rfl hsize rfl rfl (rest := rest) rfl (by rw [hb]; exact d6) (by rw [hb]; exact d9) (by
      intro x hx9
      rw [Array.isEmpty_iff] at hout
      rw [hout] at hx9
      exact absurd hx9 (by simp)) hRf (by
      show 2 * 0 + (1 + (rest.map fun v => v.category).sum) + (13 * (names.length + 1) + 42) ≤ R.locals
      omega) hlocks
  have hkeep : ∀ q : Nat, q < T.heap.size → U.heap[q]? = T.heap[q]? := fun q hq => by
    have h1 : s'.heap[q]? = some T.heap[q] := by rw [hheap]; exact Array.getElem?_eq_getElem hq
    rw [Array.getElem?_eq_getElem hq]
    exact State.sameButNew.old_cell hsame h1
  have hgrow : T.heap.size ≤ U.heap.size := by rw [← hheap]; exact hsame.2.1
  have hfin : Bw b cs D μ U := ⟨Nat.lt_of_lt_of_le (by rw [hT]; exact hM.1) hgrow, hM.2.1.kept (fun k q hq => by
    have h2 := (hM.2.1 k q hq).lt
    rw [← hT] at h2 ⊢
    exact hkeep q.1 h2)⟩
  have hframe : va_F (Aw b (mN μ0)) s U := ⟨Nat.le_trans (by rw [hT]; exact hM.2.2.1.1) hgrow, fun q h1 h2 => by
    have h3 := hM.2.2.1.2.1 q h1 h2
    rw [hkeep q (Nat.lt_of_lt_of_le h1 (by rw [hT]; exact hM.2.2.1.1)), hT]
    exact h3⟩
  have hsame2 : s.sameButNew ({ U with vm := s.vm } : State) locs 1 6 := by
    have h1 := X.same.setFrames (.invoking m args :: below) X.cur
    rw [← hs'] at h1
    have h2 := h1.trans hsame
    rw [List.append_nil, hvm] at h2
    exact h2
  exact ⟨U, st1 _ (by
    show Steps p.tables e below (State.setTop _ (F0 m (pc + 3) ls (.ref T.heap.size :: rest))) _
    have d3' : decode c.code (pc + 3) = .ok (.dup, 1) := by rw [hb]; exact d3
    have hcat : (Value.ref T.heap.size).category = 1 := rfl
    jvm_step X1.here [X1.here.top, hx, d3', hcat]
    exact X1.ldcString hx (own := own) (text := text) (index := is) (a := sa) hown' hstr'.1 hstr'.2 (g := F0 m (pc + 4) ls (.ref T.heap.size :: .ref T.heap.size :: rest)) rfl (by rw [hb]; exact d4) _ hst), .threw T.heap.size, hrun, hend, T.heap.size, ce, locs, rfl, hce, hO.vm, by rw [← hvm]; exact hO.cls, hfin, hframe, hW0.trans hW, hsame2, Aw.le hM.2.2.2, hM.2.2.1.2.2⟩
end JT
end
section
/-! Calls of methods that throw: the exception goes on to the caller's caller, or is caught -/
/-- what a call of a throwing method begins with, and what stands behind it -/
def PreT (R : Room) (b : Nat) (cs : Nat → ClassId) (D : va_G) (μ : Mem) (av : List Value) : Pt → Array Value → Prop := fun A a => A.cells + 1 ≤ R.cells ∧ A.slots + 6 ≤ R.slots ∧ Px b cs D μ av a A.U
def PostT (b : Nat) (cs : Nat → ClassId) (D : va_G) (E : String) (μ μ' : Mem) : Pt → Array Value → Addr → Pt → Prop := fun A _ x B => ∃ (ce : Cell) (L : List Loc), B.U.heap[x]? = some ce ∧ ce.vm = .none ∧ A.U.vm.findClass E = some ce.cls ∧ Bw b cs D μ' B.U ∧ va_F (Aw b (mN μ)) A.U B.U ∧ mN μ' ≤ mN μ ∧ B.locs = A.locs ++ L ∧ (∀ z ∈ L, Aw b (mN μ) z.base) ∧ B.cells = A.cells + 1 ∧ B.slots = A.slots + 6
theorem Px_blind {b : Nat} {cs : Nat → ClassId} {D : va_G} {μ : Mem} {av : List Value} : FrameBlind (Px b cs D μ av) := fun a U g mk q => by
  obtain ⟨q0, q1, qK, qZ⟩ := q
  exact ⟨q0, q1, Kw.same (u := U) (U := U.calling g mk a) rfl qK, qZ.to (U := U.calling g mk a) (H1 := (U.calling g mk a).heap) (State.WarmedH.refl U) (fun _ _ _ => rfl)⟩
section JB
variable {p : Program} {l : Launch} {e : Env} {R : Room} {s : State} {m : MethodId} {args : Array Value} {below : List Frame} {meth : Method} {c : Code} {H H0 : Heap} {locs : List Loc} {cells slots : Nat} {Q : State → Prop} {cc : ByteArray} {pc : Nat} {ls : Array Slot} {rest : List Value} {b : Nat} {cs : Nat → ClassId} {D : va_G} {μ μ0 μ' : Mem}
theorem x_back {y : MethodName} {bytes : ByteArray} {maxL fr lo : Nat} {ret : Option FieldType} {av : List Value} {E : String} (hM : MetT l y (Cond.code y bytes maxL ret :: jW) fr lo b cs D μ av E μ') (hts : ∀ w ∈ jW, w.before args s = true) (hc : Cond.code y bytes maxL ret ∈ jW) (hi : Cond.initialized y.cls ∈ jW) (hfr : fr + 1 ≤ R.frames) (hlo : 8 + (maxL + 11) + lo ≤ R.locals) :
    Jvm.Free.BackT l R p e below s args y 3 8 (PreT R b cs D μ av) (PostT b cs D E μ μ') := by
  have hall : ∀ w ∈ Cond.code y bytes maxL ret :: jW, ∀ (a' : Array Value) (U : State), s.WarmedH U.vm → w.before a' U = true := pay_in hts (goodIn_g hc)
  refine Jvm.Free.BackT.of_free (bytes := bytes) (maxL := maxL) (ret := ret) (E := fun _ _ _ _ L k n => k = 1 ∧ n = 6 ∧ ∀ z ∈ L, Aw b (mN μ) z.base) hM hfr hlo ?_ ?_ (fun _ _ _ _ _ _ _ _ _ => trivial) ?_ ?_
  · intro m meth c A a X hp
    exact ⟨atoms_intro fun w hw => hall w hw _ _ X.warmed, hall _ List.mem_cons_self _ _ X.warmed, hall _ (List.mem_cons_of_mem _ hi) _ _ X.warmed, hp.1, hp.2.1⟩
  · intro m meth c A a g mk X hp
    exact Px_blind a A.U g mk hp.2.2
  · intro a st o t hq
    obtain ⟨q, ce, L, h1, h2, h3, h4, h5, h6, h7, h8, h9, h10⟩ := hq
    exact ⟨L, 1, 6, ⟨⟨q, h1⟩, h7, h8⟩, rfl, rfl, h10⟩
  · intro m meth c A a g mk v t L k n X hp hq hF hE
    obtain ⟨rfl, rfl, hL⟩ := hE
    obtain ⟨q, ce, L2, h1, h2, h3, h4, h5, h6, h7, h8, h9, h10⟩ := hq
    cases h1
    exact ⟨ce, L, h2, h3, h4, h5, h6, h9, rfl, hL, rfl, rfl⟩
/-- a call by invokevirtual that throws: the exception lies over the caller's frame -/
theorem x_runV {own C : String} {index nL n maxL fr lo : Nat} {y : MethodName} {bytes : ByteArray} {ret : Option FieldType} {k ci : Nat} {As : List Value} {E : String} {A0 : Nat → Prop} {q : vw_C} (hx : p.tables.exec = Jvm.exec) (hb : c.code = cc) (hml : c.maxLocals = nL) (hown : s.vm.findClass own = some m.cls) (hts : ∀ w ∈ jW, w.before args s = true) (hK : Kw cs D s) (hZ : Zx b s s.heap) (hM : Wd A0 b cs D s.heap μ H locs) (hb0 : ∀ x : Nat, x ≤ b → ¬ A0 x)
    (hM1 : MetT l y (Cond.code y bytes maxL ret :: jW) fr lo b cs D μ (.ref (b + k) :: As) E μ') (hc : Cond.code y bytes maxL ret ∈ jW) (hi : Cond.initialized y.cls ∈ jW) (hlink : Cond.methodLink own index y ∈ jW) (hinst : Cond.instanceMethod y ∈ jW) (hsel : Cond.selects C y y ∈ jW) (hy : y.cls ≠ "java/lang/invoke/MethodHandle" ∧ y.cls ≠ "java/lang/invoke/VarHandle" ∧ (parseMethodDescriptor y.desc).map (fun d => d.parameters.length) = some n) (hfr : fr + 1 ≤ R.frames) (hlo : 8 + (maxL + 11) + lo ≤ R.locals)
    (ho : ok μ k ci = true) (hci : ci < 100) (hcl : vwCl[ci]? = some q) (hqC : q.1 = C) (hn : As.length = n) (hls : ls.size = nL) (hcat : (rest.map fun v => v.category).sum ≤ 8) (hdg : decode cc pc = .ok (.invokevirtual index, 3)) (hRc : cells + 1 ≤ R.cells) (hRs : slots + 6 ≤ R.slots) {T : State} (hT : T.heap = H) (X : Stand p l e R s m args below meth c T locs cells slots) :
    ∃ (x : Addr) (T1 : State) (L : List Loc) (ce : Cell), Stand p l e R s m args below meth c T1 (locs ++ L) (cells + 1) (slots + 6) ∧ (∀ z ∈ L, Aw b (mN μ) z.base) ∧ T1.heap[x]? = some ce ∧ ce.vm = .none ∧ s.vm.findClass E = some ce.cls ∧ Wd A0 b cs D s.heap μ' T1.heap (locs ++ L) ∧
      ∀ target, Steps p.tables e below ((T1.setTop (F0 m pc ls rest)).pushFrame (.throwing x)) target → Steps p.tables e below (T.setTop (F0 m pc ls (As.reverse ++ .ref (b + k) :: rest))) target := by
  have hT1 := x_back (e := e) (p := p) (below := below) (R := R) hM1 hts hc hi hfr hlo
  obtain ⟨cellB, hcB, hoB, hclB⟩ := va_recv hK.1 hM.2.1 hcl (en_obj (b := b) (cs := cs) ho hci)
  obtain ⟨mk, methM, hnamed, hmethM, hstM, habM⟩ := Cond.instanceMethod_spec (hts _ hinst)
  obtain ⟨methM', cM, hmethM', -, -, -, -, -, -, hsigM⟩ := Cond.code_spec hnamed (hts _ hc)
  cases hmethM.symm.trans hmethM'
  obtain ⟨c2, r2, m2, q1, q2, q3, q4, kP, hkP, hkPi⟩ := Cond.selects_spec (hts _ hsel)
  rw [hqC] at hclB
  cases hclB.symm.trans q1
  cases (State.methodFound?_of_named hnamed ⟨hy.1, hy.2.1⟩).symm.trans q2
  cases hnamed.symm.trans q3
  have hselP : selectMethod e.platform s.vm cellB.cls mk = .method mk := by rw [Launch.admits_selectMethod X.admits]; exact q4
  have hlen : As.length = methM.sig.parameters.length := by
    have h1 := hy.2.2
    rw [hsigM] at h1
    rw [hn]
    exact (Option.some.inj h1).symm
  obtain ⟨vm1, X1, st1⟩ := X.invokevirtual hx hown (hts _ hlink) hnamed hmethM hstM hkP hkPi ⟨hy.1, hy.2.1⟩ (a := b + k) (cell := cellB) (by rw [hT]; exact hcB) (fun z h => by rw [h] at hoB; cases hoB) hselP hmethM habM hkP hkPi (g := F0 m pc ls (As.reverse ++ .ref (b + k) :: rest)) rfl (argsL := As) (rest := rest) hlen rfl (by rw [hb]; exact hdg)
  have hpre : PreT R b cs D μ (.ref (b + k) :: As) ⟨T.setVm vm1, locs, cells, slots⟩ (Value.ref (b + k) :: As).toArray := ⟨hRc, hRs, rfl, ⟨by show b + mN μ < T.heap.size; rw [hT]; exact hM.1, by show va_P D vwCl (en b cs μ) T.heap; rw [hT]; exact hM.2.1⟩, Kw.warm X1.warmed hK, hZ.to X1.warmed (fun a h1 h2 => by show T.heap[a]? = _; rw [hT]; exact hM.2.2.1.2.1 a h1 (hb0 a h2))⟩
  obtain ⟨x, B, X2, ⟨ce, L, g1, g2, g3, g4, g5, g6, g7, g8, g9, g10⟩, st2⟩ := hT1 m meth c ⟨T.setVm vm1, locs, cells, slots⟩ (F0 m pc ls rest) (.invokevirtual index) mk (Value.ref (b + k) :: As).toArray X1 rfl (hls.trans hml.symm) (by rw [hb]; exact hdg) (lv_room hcat) (X1.named hnamed) hpre
  obtain ⟨U2, L2, c9, s9⟩ := B
  dsimp only [Pt.U, Pt.locs, Pt.cells, Pt.slots] at X2 g1 g2 g3 g4 g5 g7 g9 g10 st2
  subst g7
  subst g9
  subst g10
  have hS : va_S A0 s.heap U2.heap (locs ++ L) := by
    have hS0 := hM.2.2.1
    have g5' : T.heap.size ≤ U2.heap.size ∧ ∀ z : Nat, z < T.heap.size → ¬ Aw b (mN μ) z → U2.heap[z]? = T.heap[z]? := g5
    rw [hT] at g5'
    refine ⟨Nat.le_trans hS0.1 g5'.1, fun z h1 h2 => ?_, fun z hz => ?_⟩
    · rw [g5'.2 z (Nat.lt_of_lt_of_le h1 hS0.1) (fun h => h2 (Aw.sub hM.2.2.2 h))]
      exact hS0.2.1 z h1 h2
    · rcases List.mem_append.mp hz with h | h
      · exact hS0.2.2 z h
      · exact Aw.sub hM.2.2.2 (g8 z h)
  refine ⟨x, U2, L, ce, X2, g8, g1, g2, ?_, Wd.back hM g6 g4 rfl hS, fun target h => st1 _ fun acts => by rw [doInvoke_state]; exact st2.trans h⟩
  have hal : s.vm.Alike vm1 := X1.warmed.alike
  have g3' : vm1.findClass E = some ce.cls := g3
  rw [hal.findClass] at g3'
  exact g3'
/-- not caught here: it goes on to the caller -/
theorem g_outV {own C : String} {index nL n maxL fr lo : Nat} {y : MethodName} {bytes : ByteArray} {ret : Option FieldType} {k ci : Nat} {As : List Value} {E : String} {q : vw_C} (hx : p.tables.exec = Jvm.exec) (hb : c.code = cc) (hml : c.maxLocals = nL) (hown : s.vm.findClass own = some m.cls) (hts : ∀ w ∈ jW, w.before args s = true) (hK : Kw cs D s) (hZ : Zx b s s.heap) (hM : Wd (Aw b (mN μ0)) b cs D s.heap μ H locs)
    (hM1 : MetT l y (Cond.code y bytes maxL ret :: jW) fr lo b cs D μ (.ref (b + k) :: As) E μ') (hc : Cond.code y bytes maxL ret ∈ jW) (hi : Cond.initialized y.cls ∈ jW) (hlink : Cond.methodLink own index y ∈ jW) (hinst : Cond.instanceMethod y ∈ jW) (hsel : Cond.selects C y y ∈ jW) (hy : y.cls ≠ "java/lang/invoke/MethodHandle" ∧ y.cls ≠ "java/lang/invoke/VarHandle" ∧ (parseMethodDescriptor y.desc).map (fun d => d.parameters.length) = some n) (hfr : fr + 1 ≤ R.frames) (hlo : 8 + (maxL + 11) + lo ≤ R.locals)
    (ho : ok μ k ci = true) (hci : ci < 100) (hcl : vwCl[ci]? = some q) (hqC : q.1 = C) (hn : As.length = n) (hls : ls.size = nL) (hcat : (rest.map fun v => v.category).sum ≤ 8) (hdg : decode cc pc = .ok (.invokevirtual index, 3)) (hRc : 0 + 1 ≤ R.cells) (hRs : 0 + 6 ≤ R.slots) (hout : c.exceptionTable.isEmpty = true) (hlocks : meth.locks = false) : W p l e R s m args below meth c H locs 0 0 (MT below b cs D E μ0 μ' args s) (F0 m pc ls (As.reverse ++ .ref (b + k) :: rest)) := by
  intro T hT X
  obtain ⟨x, T1, L, ce, X2, g1, g2, g3, g4, g5, st⟩ := x_runV hx hb hml hown hts hK hZ hM (fun z h1 h2 => by have := h2.1; omega) hM1 hc hi hlink hinst hsel hy hfr hlo ho hci hcl hqC hn hls hcat hdg hRc hRs hT X
  obtain ⟨w1, w2, w3, w4, w5⟩ := X2.leaveThrown x (g := F0 m pc ls rest) rfl rfl rfl (by
    intro z hz
    rw [Array.isEmpty_iff] at hout
    rw [hout] at hz
    exact absurd hz (by simp)) hlocks
  exact ⟨_, st _ w1, .threw x, w2, w3, x, ce, locs ++ L, rfl, g2, g3, g4, ⟨g5.1, g5.2.1⟩, g5.2.2.1.F rfl, w4, w5, Aw.le g5.2.2.2, g5.2.2.1.2.2⟩
end JB
end
