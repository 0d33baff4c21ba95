section
/-! Names, by program (wip/whole/names.py) out of the claim: code, method names, decode rows, fields, words. -/
abbrev b_JL_init : ByteArray := prog_1_method_1_code
abbrev y_JL_init : MethodName := ⟨"JoinedLeaves", "<init>", "()V"⟩
abbrev b_RE_init : ByteArray := prog_6_method_1_code
abbrev y_RE_init : MethodName := ⟨"JoinedLeaves$Relation", "<init>", "()V"⟩
abbrev b_QU_init : ByteArray := prog_5_method_1_code
abbrev y_QU_init : MethodName := ⟨"JoinedLeaves$Question", "<init>", "(LJoinedLeaves$Relation;)V"⟩
abbrev b_AT_init : ByteArray := prog_2_method_1_code
abbrev y_AT_init : MethodName := ⟨"JoinedLeaves$Atom", "<init>", "(LJoinedLeaves$Relation;)V"⟩
abbrev b_HA_init : ByteArray := prog_3_method_1_code
abbrev y_HA_init : MethodName := ⟨"JoinedLeaves$Hanging", "<init>", "(LJoinedLeaves$Question;)V"⟩
abbrev b_JO_init : ByteArray := prog_4_method_1_code
abbrev y_JO_init : MethodName := ⟨"JoinedLeaves$Join", "<init>", "(LJoinedLeaves$Question;LJoinedLeaves$Hanging;)V"⟩
abbrev b_JL_relation : ByteArray := prog_1_method_2_code
abbrev y_JL_relation : MethodName := ⟨"JoinedLeaves", "relation", "(I)I"⟩
abbrev b_JL_add : ByteArray := prog_1_method_3_code
abbrev y_JL_add : MethodName := ⟨"JoinedLeaves", "add", "(IIII)Z"⟩
abbrev b_JL_isBelow : ByteArray := prog_1_method_18_code
abbrev y_JL_isBelow : MethodName := ⟨"JoinedLeaves", "isBelow", "(II)Z"⟩
abbrev b_RE_put : ByteArray := prog_6_method_2_code
abbrev y_RE_put : MethodName := ⟨"JoinedLeaves$Relation", "put", "(III)Z"⟩
abbrev b_RE_pack : ByteArray := prog_6_method_5_code
abbrev y_RE_pack : MethodName := ⟨"JoinedLeaves$Relation", "pack", "(III)I"⟩
abbrev b_RE_placeOf : ByteArray := prog_6_method_6_code
abbrev y_RE_placeOf : MethodName := ⟨"JoinedLeaves$Relation", "placeOf", "(I)I"⟩
abbrev b_JL_drop : ByteArray := prog_1_method_4_code
abbrev y_JL_drop : MethodName := ⟨"JoinedLeaves", "drop", "(IIII)Z"⟩
abbrev b_RE_take : ByteArray := prog_6_method_3_code
abbrev y_RE_take : MethodName := ⟨"JoinedLeaves$Relation", "take", "(III)Z"⟩
abbrev b_JL_rows : ByteArray := prog_1_method_5_code
abbrev y_JL_rows : MethodName := ⟨"JoinedLeaves", "rows", "(I)I"⟩
abbrev b_JL_atom : ByteArray := prog_1_method_6_code
abbrev y_JL_atom : MethodName := ⟨"JoinedLeaves", "atom", "(IIII)I"⟩
abbrev b_QU_putAtom : ByteArray := prog_5_method_2_code
abbrev y_QU_putAtom : MethodName := ⟨"JoinedLeaves$Question", "putAtom", "(LJoinedLeaves$Relation;III)Z"⟩
abbrev b_AT_bind : ByteArray := prog_2_method_2_code
abbrev y_AT_bind : MethodName := ⟨"JoinedLeaves$Atom", "bind", "(LJoinedLeaves$Relation;III)Z"⟩
abbrev b_HA_hangAtoms : ByteArray := prog_3_method_4_code
abbrev y_HA_hangAtoms : MethodName := ⟨"JoinedLeaves$Hanging", "hangAtoms", "()V"⟩
abbrev b_HA_hangLeastEar : ByteArray := prog_3_method_5_code
abbrev y_HA_hangLeastEar : MethodName := ⟨"JoinedLeaves$Hanging", "hangLeastEar", "()V"⟩
abbrev b_HA_leastHolderOf : ByteArray := prog_3_method_6_code
abbrev y_HA_leastHolderOf : MethodName := ⟨"JoinedLeaves$Hanging", "leastHolderOf", "(I)I"⟩
abbrev b_JL_isIn : ByteArray := prog_1_method_19_code
abbrev y_JL_isIn : MethodName := ⟨"JoinedLeaves", "isIn", "(II)Z"⟩
abbrev b_HA_variablesOf : ByteArray := prog_3_method_7_code
abbrev y_HA_variablesOf : MethodName := ⟨"JoinedLeaves$Hanging", "variablesOf", "(I)I"⟩
abbrev b_JL_head : ByteArray := prog_1_method_7_code
abbrev y_JL_head : MethodName := ⟨"JoinedLeaves", "head", "(I)I"⟩
abbrev b_QU_putInHead : ByteArray := prog_5_method_3_code
abbrev y_QU_putInHead : MethodName := ⟨"JoinedLeaves$Question", "putInHead", "(I)Z"⟩
abbrev b_JL_clear : ByteArray := prog_1_method_8_code
abbrev y_JL_clear : MethodName := ⟨"JoinedLeaves", "clear", "()I"⟩
abbrev b_QU_empty : ByteArray := prog_5_method_4_code
abbrev y_QU_empty : MethodName := ⟨"JoinedLeaves$Question", "empty", "()V"⟩
abbrev b_JL_tree : ByteArray := prog_1_method_9_code
abbrev y_JL_tree : MethodName := ⟨"JoinedLeaves", "tree", "()Z"⟩
abbrev b_HA_isTree : ByteArray := prog_3_method_2_code
abbrev y_HA_isTree : MethodName := ⟨"JoinedLeaves$Hanging", "isTree", "()Z"⟩
abbrev b_JL_parent : ByteArray := prog_1_method_10_code
abbrev y_JL_parent : MethodName := ⟨"JoinedLeaves", "parent", "(I)I"⟩
abbrev b_JL_turn : ByteArray := prog_1_method_11_code
abbrev y_JL_turn : MethodName := ⟨"JoinedLeaves", "turn", "(I)I"⟩
abbrev b_LA_ways : ByteArray := method_3_code
abbrev y_LA_ways : MethodName := ⟨"JoinedLeavesLaw", "ways", "(LJoinedLeaves;[J)I"⟩
abbrev b_JL_ways : ByteArray := prog_1_method_12_code
abbrev y_JL_ways : MethodName := ⟨"JoinedLeaves", "ways", "()J"⟩
abbrev b_JL_requireTree : ByteArray := prog_1_method_17_code
abbrev y_JL_requireTree : MethodName := ⟨"JoinedLeaves", "requireTree", "()V"⟩
abbrev b_JO_countWays : ByteArray := prog_4_method_3_code
abbrev y_JO_countWays : MethodName := ⟨"JoinedLeaves$Join", "countWays", "()J"⟩
abbrev b_HA_root : ByteArray := prog_3_method_3_code
abbrev y_HA_root : MethodName := ⟨"JoinedLeaves$Hanging", "root", "()I"⟩
abbrev b_JO_compareRows : ByteArray := prog_4_method_6_code
abbrev y_JO_compareRows : MethodName := ⟨"JoinedLeaves$Join", "compareRows", "()V"⟩
abbrev b_AT_rowsAgreeingWithThemselves : ByteArray := prog_2_method_3_code
abbrev y_AT_rowsAgreeingWithThemselves : MethodName := ⟨"JoinedLeaves$Atom", "rowsAgreeingWithThemselves", "()I"⟩
abbrev b_AT_agreesWithItself : ByteArray := prog_2_method_4_code
abbrev y_AT_agreesWithItself : MethodName := ⟨"JoinedLeaves$Atom", "agreesWithItself", "(I)Z"⟩
abbrev b_RE_valueAt : ByteArray := prog_6_method_4_code
abbrev y_RE_valueAt : MethodName := ⟨"JoinedLeaves$Relation", "valueAt", "(II)I"⟩
abbrev b_AT_rowsAgreeingWith : ByteArray := prog_2_method_5_code
abbrev y_AT_rowsAgreeingWith : MethodName := ⟨"JoinedLeaves$Atom", "rowsAgreeingWith", "(LJoinedLeaves$Atom;I)I"⟩
abbrev b_AT_rowsAllowing : ByteArray := prog_2_method_6_code
abbrev y_AT_rowsAllowing : MethodName := ⟨"JoinedLeaves$Atom", "rowsAllowing", "(II)I"⟩
abbrev b_JO_startWeights : ByteArray := prog_4_method_11_code
abbrev y_JO_startWeights : MethodName := ⟨"JoinedLeaves$Join", "startWeights", "()V"⟩
abbrev b_JO_weighIntoParent : ByteArray := prog_4_method_12_code
abbrev y_JO_weighIntoParent : MethodName := ⟨"JoinedLeaves$Join", "weighIntoParent", "(I)V"⟩
abbrev b_JO_weightOf : ByteArray := prog_4_method_13_code
abbrev y_JO_weightOf : MethodName := ⟨"JoinedLeaves$Join", "weightOf", "(II)J"⟩
abbrev b_LA_live : ByteArray := method_4_code
abbrev y_LA_live : MethodName := ⟨"JoinedLeavesLaw", "live", "(LJoinedLeaves;I[J)I"⟩
abbrev b_JL_live : ByteArray := prog_1_method_13_code
abbrev y_JL_live : MethodName := ⟨"JoinedLeaves", "live", "(I)I"⟩
abbrev b_JO_countLiveRows : ByteArray := prog_4_method_2_code
abbrev y_JO_countLiveRows : MethodName := ⟨"JoinedLeaves$Join", "countLiveRows", "(I)I"⟩
abbrev b_JO_keepLiveRows : ByteArray := prog_4_method_7_code
abbrev y_JO_keepLiveRows : MethodName := ⟨"JoinedLeaves$Join", "keepLiveRows", "([I)V"⟩
abbrev b_JO_keepRowsOfParent : ByteArray := prog_4_method_8_code
abbrev y_JO_keepRowsOfParent : MethodName := ⟨"JoinedLeaves$Join", "keepRowsOfParent", "([II)V"⟩
abbrev b_JO_keepRowsOfChild : ByteArray := prog_4_method_9_code
abbrev y_JO_keepRowsOfChild : MethodName := ⟨"JoinedLeaves$Join", "keepRowsOfChild", "([II)V"⟩
abbrev b_JI_bitCount : ByteArray := prog_13_method_49_code
abbrev y_JI_bitCount : MethodName := ⟨"java/lang/Integer", "bitCount", "(I)I"⟩
abbrev b_LA_answers : ByteArray := method_5_code
abbrev y_LA_answers : MethodName := ⟨"JoinedLeavesLaw", "answers", "(LJoinedLeaves;[J)I"⟩
abbrev b_JL_answers : ByteArray := prog_1_method_14_code
abbrev y_JL_answers : MethodName := ⟨"JoinedLeaves", "answers", "()I"⟩
abbrev b_JL_findAnswers : ByteArray := prog_1_method_16_code
abbrev y_JL_findAnswers : MethodName := ⟨"JoinedLeaves", "findAnswers", "()V"⟩
abbrev b_QU_bindsHead : ByteArray := prog_5_method_5_code
abbrev y_QU_bindsHead : MethodName := ⟨"JoinedLeaves$Question", "bindsHead", "()Z"⟩
abbrev b_JO_search : ByteArray := prog_4_method_4_code
abbrev y_JO_search : MethodName := ⟨"JoinedLeaves$Join", "search", "()V"⟩
abbrev b_JO_hasWay : ByteArray := prog_4_method_10_code
abbrev y_JO_hasWay : MethodName := ⟨"JoinedLeaves$Join", "hasWay", "([I)Z"⟩
abbrev b_JO_choose : ByteArray := prog_4_method_14_code
abbrev y_JO_choose : MethodName := ⟨"JoinedLeaves$Join", "choose", "(II)V"⟩
abbrev b_JO_storeAnswer : ByteArray := prog_4_method_15_code
abbrev y_JO_storeAnswer : MethodName := ⟨"JoinedLeaves$Join", "storeAnswer", "(I)V"⟩
abbrev b_JO_liveValuesOf : ByteArray := prog_4_method_16_code
abbrev y_JO_liveValuesOf : MethodName := ⟨"JoinedLeaves$Join", "liveValuesOf", "(I[I)I"⟩
abbrev b_QU_atomWith : ByteArray := prog_5_method_6_code
abbrev y_QU_atomWith : MethodName := ⟨"JoinedLeaves$Question", "atomWith", "(I)I"⟩
abbrev b_AT_valuesOf : ByteArray := prog_2_method_7_code
abbrev y_AT_valuesOf : MethodName := ⟨"JoinedLeaves$Atom", "valuesOf", "(II)I"⟩
abbrev b_JO_keepRowsWith : ByteArray := prog_4_method_17_code
abbrev y_JO_keepRowsWith : MethodName := ⟨"JoinedLeaves$Join", "keepRowsWith", "(III)V"⟩
abbrev b_LA_answer : ByteArray := method_6_code
abbrev y_LA_answer : MethodName := ⟨"JoinedLeavesLaw", "answer", "(LJoinedLeaves;II[J)I"⟩
abbrev b_JL_answer : ByteArray := prog_1_method_15_code
abbrev y_JL_answer : MethodName := ⟨"JoinedLeaves", "answer", "(II)I"⟩
abbrev b_JO_valueInAnswer : ByteArray := prog_4_method_5_code
abbrev y_JO_valueInAnswer : MethodName := ⟨"JoinedLeaves$Join", "valueInAnswer", "(II)I"⟩
abbrev b_MO_init : ByteArray := prog_8_method_1_code
abbrev y_MO_init : MethodName := ⟨"JoinedLeavesModel", "<init>", "()V"⟩
abbrev b_MO_thrown : ByteArray := prog_8_method_2_code
abbrev y_MO_thrown : MethodName := ⟨"JoinedLeavesModel", "thrown", "()I"⟩
abbrev b_MO_relation : ByteArray := prog_8_method_5_code
abbrev y_MO_relation : MethodName := ⟨"JoinedLeavesModel", "relation", "(I)I"⟩
abbrev b_MO_add : ByteArray := prog_8_method_8_code
abbrev y_MO_add : MethodName := ⟨"JoinedLeavesModel", "add", "(IIII)Z"⟩
abbrev b_MO_isRelation : ByteArray := prog_8_method_3_code
abbrev y_MO_isRelation : MethodName := ⟨"JoinedLeavesModel", "isRelation", "(I)Z"⟩
abbrev b_MO_placeOf : ByteArray := prog_8_method_7_code
abbrev y_MO_placeOf : MethodName := ⟨"JoinedLeavesModel", "placeOf", "(IIII)I"⟩
abbrev b_MO_pick : ByteArray := prog_8_method_6_code
abbrev y_MO_pick : MethodName := ⟨"JoinedLeavesModel", "pick", "(IIII)I"⟩
abbrev b_MO_drop : ByteArray := prog_8_method_9_code
abbrev y_MO_drop : MethodName := ⟨"JoinedLeavesModel", "drop", "(IIII)Z"⟩
abbrev b_MO_rows : ByteArray := prog_8_method_10_code
abbrev y_MO_rows : MethodName := ⟨"JoinedLeavesModel", "rows", "(I)I"⟩
abbrev b_MO_atom : ByteArray := prog_8_method_11_code
abbrev y_MO_atom : MethodName := ⟨"JoinedLeavesModel", "atom", "(IIII)I"⟩
abbrev b_MO_head : ByteArray := prog_8_method_12_code
abbrev y_MO_head : MethodName := ⟨"JoinedLeavesModel", "head", "(I)I"⟩
abbrev b_MO_clear : ByteArray := prog_8_method_13_code
abbrev y_MO_clear : MethodName := ⟨"JoinedLeavesModel", "clear", "()I"⟩
abbrev b_MO_tree : ByteArray := prog_8_method_19_code
abbrev y_MO_tree : MethodName := ⟨"JoinedLeavesModel", "tree", "()Z"⟩
abbrev b_MO_isTree : ByteArray := prog_8_method_18_code
abbrev y_MO_isTree : MethodName := ⟨"JoinedLeavesModel", "isTree", "()Z"⟩
abbrev b_MO_hang : ByteArray := prog_8_method_17_code
abbrev y_MO_hang : MethodName := ⟨"JoinedLeavesModel", "hang", "()V"⟩
abbrev b_MO_isLeft : ByteArray := prog_8_method_15_code
abbrev y_MO_isLeft : MethodName := ⟨"JoinedLeavesModel", "isLeft", "(I)Z"⟩
abbrev b_MO_holder : ByteArray := prog_8_method_16_code
abbrev y_MO_holder : MethodName := ⟨"JoinedLeavesModel", "holder", "(I)I"⟩
abbrev b_MO_setOf : ByteArray := prog_8_method_14_code
abbrev y_MO_setOf : MethodName := ⟨"JoinedLeavesModel", "setOf", "(I)I"⟩
abbrev b_MO_parent : ByteArray := prog_8_method_20_code
abbrev y_MO_parent : MethodName := ⟨"JoinedLeavesModel", "parent", "(I)I"⟩
abbrev b_MO_isAtom : ByteArray := prog_8_method_4_code
abbrev y_MO_isAtom : MethodName := ⟨"JoinedLeavesModel", "isAtom", "(I)Z"⟩
abbrev b_MO_turn : ByteArray := prog_8_method_21_code
abbrev y_MO_turn : MethodName := ⟨"JoinedLeavesModel", "turn", "(I)I"⟩
abbrev b_MO_ways : ByteArray := prog_8_method_26_code
abbrev y_MO_ways : MethodName := ⟨"JoinedLeavesModel", "ways", "()J"⟩
abbrev b_MO_look : ByteArray := prog_8_method_25_code
abbrev y_MO_look : MethodName := ⟨"JoinedLeavesModel", "look", "()V"⟩
abbrev b_MO_note : ByteArray := prog_8_method_24_code
abbrev y_MO_note : MethodName := ⟨"JoinedLeavesModel", "note", "()V"⟩
abbrev b_MO_fits : ByteArray := prog_8_method_23_code
abbrev y_MO_fits : MethodName := ⟨"JoinedLeavesModel", "fits", "(II)Z"⟩
abbrev b_MO_before : ByteArray := prog_8_method_22_code
abbrev y_MO_before : MethodName := ⟨"JoinedLeavesModel", "before", "(I)I"⟩
abbrev b_MO_live : ByteArray := prog_8_method_27_code
abbrev y_MO_live : MethodName := ⟨"JoinedLeavesModel", "live", "(I)I"⟩
abbrev b_MO_answers : ByteArray := prog_8_method_30_code
abbrev y_MO_answers : MethodName := ⟨"JoinedLeavesModel", "answers", "()I"⟩
abbrev b_MO_codeOfAnswers : ByteArray := prog_8_method_29_code
abbrev y_MO_codeOfAnswers : MethodName := ⟨"JoinedLeavesModel", "codeOfAnswers", "()I"⟩
abbrev b_MO_isHeadBound : ByteArray := prog_8_method_28_code
abbrev y_MO_isHeadBound : MethodName := ⟨"JoinedLeavesModel", "isHeadBound", "()Z"⟩
abbrev b_MO_answer : ByteArray := prog_8_method_31_code
abbrev y_MO_answer : MethodName := ⟨"JoinedLeavesModel", "answer", "(II)I"⟩
def T_RE : u_T := fun k => match k with
  | 0 => ("JoinedLeaves$Relation", "packedRows", "[I", true)
  | 1 => ("JoinedLeaves$Relation", "width", "I", false)
  | _ => ("JoinedLeaves$Relation", "size", "I", false)
def t_RE : Nat → FieldType := fun k => match k with
  | 0 => .array (.int)
  | 1 => .int
  | _ => .int
theorem n_RE : ∀ a, a < 3 → ∀ b, b < 3 → a ≠ b → (T_RE a).2.1 ≠ (T_RE b).2.1 := by decide +kernel
theorem o_RE : ∀ k, k < 3 → parseFieldDescriptor (T_RE k).2.2.1 = some (t_RE k) := by decide +kernel
def T_AT : u_T := fun k => match k with
  | 0 => ("JoinedLeaves$Atom", "variables", "[I", true)
  | 1 => ("JoinedLeaves$Atom", "variableSet", "I", false)
  | _ => ("JoinedLeaves$Atom", "relation", "LJoinedLeaves$Relation;", false)
def t_AT : Nat → FieldType := fun k => match k with
  | 0 => .array (.int)
  | 1 => .int
  | _ => .object "JoinedLeaves$Relation"
theorem n_AT : ∀ a, a < 3 → ∀ b, b < 3 → a ≠ b → (T_AT a).2.1 ≠ (T_AT b).2.1 := by decide +kernel
theorem o_AT : ∀ k, k < 3 → parseFieldDescriptor (T_AT k).2.2.1 = some (t_AT k) := by decide +kernel
def T_QU : u_T := fun k => match k with
  | 0 => ("JoinedLeaves$Question", "atoms", "[LJoinedLeaves$Atom;", true)
  | 1 => ("JoinedLeaves$Question", "atomCount", "I", false)
  | 2 => ("JoinedLeaves$Question", "headVariables", "[I", true)
  | 3 => ("JoinedLeaves$Question", "headSize", "I", false)
  | _ => ("JoinedLeaves$Question", "headSet", "I", false)
def t_QU : Nat → FieldType := fun k => match k with
  | 0 => .array (.object "JoinedLeaves$Atom")
  | 1 => .int
  | 2 => .array (.int)
  | 3 => .int
  | _ => .int
theorem n_QU : ∀ a, a < 5 → ∀ b, b < 5 → a ≠ b → (T_QU a).2.1 ≠ (T_QU b).2.1 := by decide +kernel
theorem o_QU : ∀ k, k < 5 → parseFieldDescriptor (T_QU k).2.2.1 = some (t_QU k) := by decide +kernel
def T_HA : u_T := fun k => match k with
  | 0 => ("JoinedLeaves$Hanging", "question", "LJoinedLeaves$Question;", true)
  | 1 => ("JoinedLeaves$Hanging", "parents", "[I", true)
  | 2 => ("JoinedLeaves$Hanging", "turns", "[I", true)
  | 3 => ("JoinedLeaves$Hanging", "order", "[I", true)
  | 4 => ("JoinedLeaves$Hanging", "hungCount", "I", false)
  | _ => ("JoinedLeaves$Hanging", "left", "I", false)
def t_HA : Nat → FieldType := fun k => match k with
  | 0 => .object "JoinedLeaves$Question"
  | 1 => .array (.int)
  | 2 => .array (.int)
  | 3 => .array (.int)
  | 4 => .int
  | _ => .int
theorem n_HA : ∀ a, a < 6 → ∀ b, b < 6 → a ≠ b → (T_HA a).2.1 ≠ (T_HA b).2.1 := by decide +kernel
theorem o_HA : ∀ k, k < 6 → parseFieldDescriptor (T_HA k).2.2.1 = some (t_HA k) := by decide +kernel
def T_JO : u_T := fun k => match k with
  | 0 => ("JoinedLeaves$Join", "question", "LJoinedLeaves$Question;", true)
  | 1 => ("JoinedLeaves$Join", "hanging", "LJoinedLeaves$Hanging;", true)
  | 2 => ("JoinedLeaves$Join", "agreeing", "[[I", true)
  | 3 => ("JoinedLeaves$Join", "kept", "[[I", true)
  | 4 => ("JoinedLeaves$Join", "weights", "[[J", true)
  | 5 => ("JoinedLeaves$Join", "packedAnswers", "[I", true)
  | _ => ("JoinedLeaves$Join", "found", "I", false)
def t_JO : Nat → FieldType := fun k => match k with
  | 0 => .object "JoinedLeaves$Question"
  | 1 => .object "JoinedLeaves$Hanging"
  | 2 => .array (.array (.int))
  | 3 => .array (.array (.int))
  | 4 => .array (.array (.long))
  | 5 => .array (.int)
  | _ => .int
theorem n_JO : ∀ a, a < 7 → ∀ b, b < 7 → a ≠ b → (T_JO a).2.1 ≠ (T_JO b).2.1 := by decide +kernel
theorem o_JO : ∀ k, k < 7 → parseFieldDescriptor (T_JO k).2.2.1 = some (t_JO k) := by decide +kernel
def T_JL : u_T := fun k => match k with
  | 0 => ("JoinedLeaves", "relations", "[LJoinedLeaves$Relation;", true)
  | 1 => ("JoinedLeaves", "relationCount", "I", false)
  | 2 => ("JoinedLeaves", "question", "LJoinedLeaves$Question;", true)
  | 3 => ("JoinedLeaves", "hanging", "LJoinedLeaves$Hanging;", true)
  | _ => ("JoinedLeaves", "join", "LJoinedLeaves$Join;", true)
def t_JL : Nat → FieldType := fun k => match k with
  | 0 => .array (.object "JoinedLeaves$Relation")
  | 1 => .int
  | 2 => .object "JoinedLeaves$Question"
  | 3 => .object "JoinedLeaves$Hanging"
  | _ => .object "JoinedLeaves$Join"
theorem n_JL : ∀ a, a < 5 → ∀ b, b < 5 → a ≠ b → (T_JL a).2.1 ≠ (T_JL b).2.1 := by decide +kernel
theorem o_JL : ∀ k, k < 5 → parseFieldDescriptor (T_JL k).2.2.1 = some (t_JL k) := by decide +kernel
def T_MO : u_T := fun k => match k with
  | 0 => ("JoinedLeavesModel", "code", "I", false)
  | 1 => ("JoinedLeavesModel", "relations", "I", false)
  | 2 => ("JoinedLeavesModel", "widths", "[I", true)
  | 3 => ("JoinedLeavesModel", "counts", "[I", true)
  | 4 => ("JoinedLeavesModel", "values", "[I", true)
  | 5 => ("JoinedLeavesModel", "atoms", "I", false)
  | 6 => ("JoinedLeavesModel", "of", "[I", true)
  | 7 => ("JoinedLeavesModel", "variables", "[I", true)
  | 8 => ("JoinedLeavesModel", "headLength", "I", false)
  | 9 => ("JoinedLeavesModel", "heads", "[I", true)
  | 10 => ("JoinedLeavesModel", "left", "I", false)
  | 11 => ("JoinedLeavesModel", "parents", "[I", true)
  | 12 => ("JoinedLeavesModel", "turns", "[I", true)
  | 13 => ("JoinedLeavesModel", "known", "Z", false)
  | 14 => ("JoinedLeavesModel", "ways", "J", false)
  | 15 => ("JoinedLeavesModel", "value", "[I", true)
  | 16 => ("JoinedLeavesModel", "tries", "[I", true)
  | 17 => ("JoinedLeavesModel", "lives", "[I", true)
  | 18 => ("JoinedLeavesModel", "answered", "[I", true)
  | 19 => ("JoinedLeavesModel", "answers", "I", false)
  | _ => ("JoinedLeavesModel", "firsts", "[I", true)
def t_MO : Nat → FieldType := fun k => match k with
  | 0 => .int
  | 1 => .int
  | 2 => .array (.int)
  | 3 => .array (.int)
  | 4 => .array (.int)
  | 5 => .int
  | 6 => .array (.int)
  | 7 => .array (.int)
  | 8 => .int
  | 9 => .array (.int)
  | 10 => .int
  | 11 => .array (.int)
  | 12 => .array (.int)
  | 13 => .boolean
  | 14 => .long
  | 15 => .array (.int)
  | 16 => .array (.int)
  | 17 => .array (.int)
  | 18 => .array (.int)
  | 19 => .int
  | _ => .array (.int)
theorem n_MO : ∀ a, a < 21 → ∀ b, b < 21 → a ≠ b → (T_MO a).2.1 ≠ (T_MO b).2.1 := by decide +kernel
theorem o_MO : ∀ k, k < 21 → parseFieldDescriptor (T_MO k).2.2.1 = some (t_MO k) := by decide +kernel
abbrev vwCl : List vw_C := [("JoinedLeaves$Relation", T_RE, 3), ("JoinedLeaves$Atom", T_AT, 3), ("JoinedLeaves$Question", T_QU, 5), ("JoinedLeaves$Hanging", T_HA, 6), ("JoinedLeaves$Join", T_JO, 7), ("JoinedLeaves", T_JL, 5), ("JoinedLeavesModel", T_MO, 21)]
def jT : Nat → Nat → FieldType := fun ci => match ci with
  | 0 => t_RE
  | 1 => t_AT
  | 2 => t_QU
  | 3 => t_HA
  | 4 => t_JO
  | 5 => t_JL
  | _ => t_MO
abbrev jA (cs : Nat → ClassId) : List (ClassId × FieldType) := [(cs 0, .int), (cs 1, .long), (cs 2, .object "JoinedLeaves$Relation"), (cs 3, .object "JoinedLeaves$Atom"), (cs 4, .array .int), (cs 5, .array .long)]
def jW_0 : List Cond := [(Jvm.Cond.initialized "JoinedLeavesLaw"), (Jvm.Cond.initialized "JoinedLeaves"), (Jvm.Cond.initialized "JoinedLeaves$Relation"), (Jvm.Cond.initialized "JoinedLeaves$Question"), (Jvm.Cond.initialized "JoinedLeaves$Atom"), (Jvm.Cond.initialized "JoinedLeaves$Hanging"), (Jvm.Cond.initialized "JoinedLeaves$Join"), (Jvm.Cond.initialized "JoinedLeavesModel"), (Jvm.Cond.initialized "java/lang/Throwable"), (Jvm.Cond.initialized "java/lang/Exception"), (Jvm.Cond.initialized "java/lang/RuntimeException"), (Jvm.Cond.initialized "java/lang/IllegalStateException"), (Jvm.Cond.initialized "java/lang/IndexOutOfBoundsException"), (Jvm.Cond.initialized "java/lang/Integer"), (Jvm.Cond.initialized "java/lang/IllegalArgumentException"), (Jvm.Cond.initialized "java/lang/UnsupportedOperationException"), (Jvm.Cond.classLink "JoinedLeavesLaw" (8 : Nat) "JoinedLeaves"), (Jvm.Cond.instantiable "JoinedLeaves" (5 : Nat)), (Jvm.Cond.methodLink "JoinedLeavesLaw" (33 : Nat) ({ cls := "JoinedLeaves", name := "<init>", desc := "()V" } : Jvm.MethodName)), (Jvm.Cond.instanceMethod ({ cls := "JoinedLeaves", name := "<init>", desc := "()V" } : Jvm.MethodName)), (Jvm.Cond.code ({ cls := "JoinedLeaves", name := "<init>", desc := "()V" } : Jvm.MethodName) prog_1_method_1_code (2 : Nat) (Option.none : Option Jvm.ClassFile.FieldType)), (Jvm.Cond.methodLink "JoinedLeaves" (1 : Nat) ({ cls := "java/lang/Object", name := "<init>", desc := "()V" } : Jvm.MethodName)), (Jvm.Cond.instanceMethod ({ cls := "java/lang/Object", name := "<init>", desc := "()V" } : Jvm.MethodName)), (Jvm.Cond.code ({ cls := "java/lang/Object", name := "<init>", desc := "()V" } : Jvm.MethodName) object_method_1_code (1 : Nat) (Option.none : Option Jvm.ClassFile.FieldType)), (Jvm.Cond.classLink "JoinedLeaves" (9 : Nat) "JoinedLeaves$Relation"), (Jvm.Cond.instantiable "JoinedLeaves$Relation" (3 : Nat)), (Jvm.Cond.instanceMethod ({ cls := "JoinedLeaves$Relation", name := "<init>", desc := "()V" } : Jvm.MethodName)), (Jvm.Cond.code ({ cls := "JoinedLeaves$Relation", name := "<init>", desc := "()V" } : Jvm.MethodName) prog_6_method_1_code (1 : Nat) (Option.none : Option Jvm.ClassFile.FieldType)), (Jvm.Cond.methodLink "JoinedLeaves$Relation" (3 : Nat) ({ cls := "java/lang/Object", name := "<init>", desc := "()V" } : Jvm.MethodName)), (Jvm.Cond.fieldLink "JoinedLeaves$Relation" (9 : Nat) "JoinedLeaves$Relation" "packedRows" "[I"), (Jvm.Cond.fieldLink "JoinedLeaves$Relation" (27 : Nat) "JoinedLeaves$Relation" "width" "I"), (Jvm.Cond.fieldLink "JoinedLeaves$Relation" (19 : Nat) "JoinedLeaves$Relation" "size" "I"), (Jvm.Cond.laysFinal "JoinedLeaves$Relation" "JoinedLeaves$Relation" "packedRows" "[I"), (Jvm.Cond.lays "JoinedLeaves$Relation" "JoinedLeaves$Relation" "width" "I"), (Jvm.Cond.lays "JoinedLeaves$Relation" "JoinedLeaves$Relation" "size" "I"), (Jvm.Cond.superclass "JoinedLeaves$Relation" "java/lang/Object"), (Jvm.Cond.arrayClass Jvm.ClassFile.FieldType.int), (Jvm.Cond.classLink "JoinedLeaves" (16 : Nat) "JoinedLeaves$Question"), (Jvm.Cond.instantiable "JoinedLeaves$Question" (5 : Nat)), (Jvm.Cond.instanceMethod ({ cls := "JoinedLeaves$Question", name := "<init>", desc := "(LJoinedLeaves$Relation;)V" } : Jvm.MethodName)), (Jvm.Cond.code ({ cls := "JoinedLeaves$Question", name := "<init>", desc := "(LJoinedLeaves$Relation;)V" } : Jvm.MethodName) prog_5_method_1_code (3 : Nat) (Option.none : Option Jvm.ClassFile.FieldType)), (Jvm.Cond.methodLink "JoinedLeaves$Question" (3 : Nat) ({ cls := "java/lang/Object", name := "<init>", desc := "()V" } : Jvm.MethodName)), (Jvm.Cond.classLink "JoinedLeaves$Question" (9 : Nat) "JoinedLeaves$Atom"), (Jvm.Cond.instantiable "JoinedLeaves$Atom" (3 : Nat)), (Jvm.Cond.instanceMethod ({ cls := "JoinedLeaves$Atom", name := "<init>", desc := "(LJoinedLeaves$Relation;)V" } : Jvm.MethodName)), (Jvm.Cond.code ({ cls := "JoinedLeaves$Atom", name := "<init>", desc := "(LJoinedLeaves$Relation;)V" } : Jvm.MethodName) prog_2_method_1_code (2 : Nat) (Option.none : Option Jvm.ClassFile.FieldType)), (Jvm.Cond.methodLink "JoinedLeaves$Atom" (3 : Nat) ({ cls := "java/lang/Object", name := "<init>", desc := "()V" } : Jvm.MethodName)), (Jvm.Cond.fieldLink "JoinedLeaves$Atom" (9 : Nat) "JoinedLeaves$Atom" "variables" "[I")]
def jW_1 : List Cond := [(Jvm.Cond.fieldLink "JoinedLeaves$Atom" (29 : Nat) "JoinedLeaves$Atom" "variableSet" "I"), (Jvm.Cond.fieldLink "JoinedLeaves$Atom" (15 : Nat) "JoinedLeaves$Atom" "relation" "LJoinedLeaves$Relation;"), (Jvm.Cond.laysFinal "JoinedLeaves$Atom" "JoinedLeaves$Atom" "variables" "[I"), (Jvm.Cond.lays "JoinedLeaves$Atom" "JoinedLeaves$Atom" "variableSet" "I"), (Jvm.Cond.lays "JoinedLeaves$Atom" "JoinedLeaves$Atom" "relation" "LJoinedLeaves$Relation;"), (Jvm.Cond.superclass "JoinedLeaves$Atom" "java/lang/Object"), (Jvm.Cond.fieldLink "JoinedLeaves$Question" (11 : Nat) "JoinedLeaves$Question" "atoms" "[LJoinedLeaves$Atom;"), (Jvm.Cond.fieldLink "JoinedLeaves$Question" (24 : Nat) "JoinedLeaves$Question" "atomCount" "I"), (Jvm.Cond.fieldLink "JoinedLeaves$Question" (17 : Nat) "JoinedLeaves$Question" "headVariables" "[I"), (Jvm.Cond.fieldLink "JoinedLeaves$Question" (42 : Nat) "JoinedLeaves$Question" "headSize" "I"), (Jvm.Cond.fieldLink "JoinedLeaves$Question" (36 : Nat) "JoinedLeaves$Question" "headSet" "I"), (Jvm.Cond.laysFinal "JoinedLeaves$Question" "JoinedLeaves$Question" "atoms" "[LJoinedLeaves$Atom;"), (Jvm.Cond.lays "JoinedLeaves$Question" "JoinedLeaves$Question" "atomCount" "I"), (Jvm.Cond.laysFinal "JoinedLeaves$Question" "JoinedLeaves$Question" "headVariables" "[I"), (Jvm.Cond.lays "JoinedLeaves$Question" "JoinedLeaves$Question" "headSize" "I"), (Jvm.Cond.lays "JoinedLeaves$Question" "JoinedLeaves$Question" "headSet" "I"), (Jvm.Cond.superclass "JoinedLeaves$Question" "java/lang/Object"), (Jvm.Cond.classLink "JoinedLeaves" (25 : Nat) "JoinedLeaves$Hanging"), (Jvm.Cond.instantiable "JoinedLeaves$Hanging" (6 : Nat)), (Jvm.Cond.instanceMethod ({ cls := "JoinedLeaves$Hanging", name := "<init>", desc := "(LJoinedLeaves$Question;)V" } : Jvm.MethodName)), (Jvm.Cond.code ({ cls := "JoinedLeaves$Hanging", name := "<init>", desc := "(LJoinedLeaves$Question;)V" } : Jvm.MethodName) prog_3_method_1_code (2 : Nat) (Option.none : Option Jvm.ClassFile.FieldType)), (Jvm.Cond.methodLink "JoinedLeaves$Hanging" (3 : Nat) ({ cls := "java/lang/Object", name := "<init>", desc := "()V" } : Jvm.MethodName)), (Jvm.Cond.fieldLink "JoinedLeaves$Hanging" (21 : Nat) "JoinedLeaves$Hanging" "question" "LJoinedLeaves$Question;"), (Jvm.Cond.fieldLink "JoinedLeaves$Hanging" (9 : Nat) "JoinedLeaves$Hanging" "parents" "[I"), (Jvm.Cond.fieldLink "JoinedLeaves$Hanging" (15 : Nat) "JoinedLeaves$Hanging" "turns" "[I"), (Jvm.Cond.fieldLink "JoinedLeaves$Hanging" (18 : Nat) "JoinedLeaves$Hanging" "order" "[I"), (Jvm.Cond.fieldLink "JoinedLeaves$Hanging" (31 : Nat) "JoinedLeaves$Hanging" "hungCount" "I"), (Jvm.Cond.fieldLink "JoinedLeaves$Hanging" (34 : Nat) "JoinedLeaves$Hanging" "left" "I"), (Jvm.Cond.laysFinal "JoinedLeaves$Hanging" "JoinedLeaves$Hanging" "question" "LJoinedLeaves$Question;"), (Jvm.Cond.laysFinal "JoinedLeaves$Hanging" "JoinedLeaves$Hanging" "parents" "[I"), (Jvm.Cond.laysFinal "JoinedLeaves$Hanging" "JoinedLeaves$Hanging" "turns" "[I"), (Jvm.Cond.laysFinal "JoinedLeaves$Hanging" "JoinedLeaves$Hanging" "order" "[I"), (Jvm.Cond.lays "JoinedLeaves$Hanging" "JoinedLeaves$Hanging" "hungCount" "I"), (Jvm.Cond.lays "JoinedLeaves$Hanging" "JoinedLeaves$Hanging" "left" "I"), (Jvm.Cond.superclass "JoinedLeaves$Hanging" "java/lang/Object"), (Jvm.Cond.classLink "JoinedLeaves" (34 : Nat) "JoinedLeaves$Join"), (Jvm.Cond.instantiable "JoinedLeaves$Join" (7 : Nat)), (Jvm.Cond.instanceMethod ({ cls := "JoinedLeaves$Join", name := "<init>", desc := "(LJoinedLeaves$Question;LJoinedLeaves$Hanging;)V" } : Jvm.MethodName)), (Jvm.Cond.code ({ cls := "JoinedLeaves$Join", name := "<init>", desc := "(LJoinedLeaves$Question;LJoinedLeaves$Hanging;)V" } : Jvm.MethodName) prog_4_method_1_code (3 : Nat) (Option.none : Option Jvm.ClassFile.FieldType)), (Jvm.Cond.methodLink "JoinedLeaves$Join" (3 : Nat) ({ cls := "java/lang/Object", name := "<init>", desc := "()V" } : Jvm.MethodName)), (Jvm.Cond.classLink "JoinedLeaves$Join" (9 : Nat) "[[I"), (Jvm.Cond.classLink "JoinedLeaves$Join" (19 : Nat) "[[J"), (Jvm.Cond.fieldLink "JoinedLeaves$Join" (28 : Nat) "JoinedLeaves$Join" "question" "LJoinedLeaves$Question;"), (Jvm.Cond.fieldLink "JoinedLeaves$Join" (32 : Nat) "JoinedLeaves$Join" "hanging" "LJoinedLeaves$Hanging;"), (Jvm.Cond.fieldLink "JoinedLeaves$Join" (11 : Nat) "JoinedLeaves$Join" "agreeing" "[[I"), (Jvm.Cond.fieldLink "JoinedLeaves$Join" (16 : Nat) "JoinedLeaves$Join" "kept" "[[I"), (Jvm.Cond.fieldLink "JoinedLeaves$Join" (21 : Nat) "JoinedLeaves$Join" "weights" "[[J"), (Jvm.Cond.fieldLink "JoinedLeaves$Join" (24 : Nat) "JoinedLeaves$Join" "packedAnswers" "[I")]
def jW_2 : List Cond := [(Jvm.Cond.fieldLink "JoinedLeaves$Join" (73 : Nat) "JoinedLeaves$Join" "found" "I"), (Jvm.Cond.laysFinal "JoinedLeaves$Join" "JoinedLeaves$Join" "question" "LJoinedLeaves$Question;"), (Jvm.Cond.laysFinal "JoinedLeaves$Join" "JoinedLeaves$Join" "hanging" "LJoinedLeaves$Hanging;"), (Jvm.Cond.laysFinal "JoinedLeaves$Join" "JoinedLeaves$Join" "agreeing" "[[I"), (Jvm.Cond.laysFinal "JoinedLeaves$Join" "JoinedLeaves$Join" "kept" "[[I"), (Jvm.Cond.laysFinal "JoinedLeaves$Join" "JoinedLeaves$Join" "weights" "[[J"), (Jvm.Cond.laysFinal "JoinedLeaves$Join" "JoinedLeaves$Join" "packedAnswers" "[I"), (Jvm.Cond.lays "JoinedLeaves$Join" "JoinedLeaves$Join" "found" "I"), (Jvm.Cond.superclass "JoinedLeaves$Join" "java/lang/Object"), (Jvm.Cond.arrayClass Jvm.ClassFile.FieldType.long), (Jvm.Cond.fieldLink "JoinedLeaves" (11 : Nat) "JoinedLeaves" "relations" "[LJoinedLeaves$Relation;"), (Jvm.Cond.fieldLink "JoinedLeaves" (43 : Nat) "JoinedLeaves" "relationCount" "I"), (Jvm.Cond.fieldLink "JoinedLeaves" (21 : Nat) "JoinedLeaves" "question" "LJoinedLeaves$Question;"), (Jvm.Cond.fieldLink "JoinedLeaves" (30 : Nat) "JoinedLeaves" "hanging" "LJoinedLeaves$Hanging;"), (Jvm.Cond.fieldLink "JoinedLeaves" (39 : Nat) "JoinedLeaves" "join" "LJoinedLeaves$Join;"), (Jvm.Cond.laysFinal "JoinedLeaves" "JoinedLeaves" "relations" "[LJoinedLeaves$Relation;"), (Jvm.Cond.lays "JoinedLeaves" "JoinedLeaves" "relationCount" "I"), (Jvm.Cond.laysFinal "JoinedLeaves" "JoinedLeaves" "question" "LJoinedLeaves$Question;"), (Jvm.Cond.laysFinal "JoinedLeaves" "JoinedLeaves" "hanging" "LJoinedLeaves$Hanging;"), (Jvm.Cond.laysFinal "JoinedLeaves" "JoinedLeaves" "join" "LJoinedLeaves$Join;"), (Jvm.Cond.superclass "JoinedLeaves" "java/lang/Object"), (Jvm.Cond.methodLink "JoinedLeavesLaw" (37 : Nat) ({ cls := "JoinedLeaves", name := "relation", desc := "(I)I" } : Jvm.MethodName)), (Jvm.Cond.instanceMethod ({ cls := "JoinedLeaves", name := "relation", desc := "(I)I" } : Jvm.MethodName)), (Jvm.Cond.selects "JoinedLeaves" ({ cls := "JoinedLeaves", name := "relation", desc := "(I)I" } : Jvm.MethodName) ({ cls := "JoinedLeaves", name := "relation", desc := "(I)I" } : Jvm.MethodName)), (Jvm.Cond.code ({ cls := "JoinedLeaves", name := "relation", desc := "(I)I" } : Jvm.MethodName) prog_1_method_2_code (2 : Nat) (Option.some Jvm.ClassFile.FieldType.int)), (Jvm.Cond.methodLink "JoinedLeavesLaw" (41 : Nat) ({ cls := "JoinedLeaves", name := "add", desc := "(IIII)Z" } : Jvm.MethodName)), (Jvm.Cond.instanceMethod ({ cls := "JoinedLeaves", name := "add", desc := "(IIII)Z" } : Jvm.MethodName)), (Jvm.Cond.selects "JoinedLeaves" ({ cls := "JoinedLeaves", name := "add", desc := "(IIII)Z" } : Jvm.MethodName) ({ cls := "JoinedLeaves", name := "add", desc := "(IIII)Z" } : Jvm.MethodName)), (Jvm.Cond.code ({ cls := "JoinedLeaves", name := "add", desc := "(IIII)Z" } : Jvm.MethodName) prog_1_method_3_code (5 : Nat) (Option.some Jvm.ClassFile.FieldType.boolean)), (Jvm.Cond.methodLink "JoinedLeaves" (50 : Nat) ({ cls := "JoinedLeaves", name := "isBelow", desc := "(II)Z" } : Jvm.MethodName)), (Jvm.Cond.static ({ cls := "JoinedLeaves", name := "isBelow", desc := "(II)Z" } : Jvm.MethodName)), (Jvm.Cond.code ({ cls := "JoinedLeaves", name := "isBelow", desc := "(II)Z" } : Jvm.MethodName) prog_1_method_18_code (2 : Nat) (Option.some Jvm.ClassFile.FieldType.boolean)), (Jvm.Cond.instanceMethod ({ cls := "JoinedLeaves$Relation", name := "put", desc := "(III)Z" } : Jvm.MethodName)), (Jvm.Cond.code ({ cls := "JoinedLeaves$Relation", name := "put", desc := "(III)Z" } : Jvm.MethodName) prog_6_method_2_code (5 : Nat) (Option.some Jvm.ClassFile.FieldType.boolean)), (Jvm.Cond.methodLink "JoinedLeaves$Relation" (15 : Nat) ({ cls := "JoinedLeaves$Relation", name := "pack", desc := "(III)I" } : Jvm.MethodName)), (Jvm.Cond.instanceMethod ({ cls := "JoinedLeaves$Relation", name := "pack", desc := "(III)I" } : Jvm.MethodName)), (Jvm.Cond.code ({ cls := "JoinedLeaves$Relation", name := "pack", desc := "(III)I" } : Jvm.MethodName) prog_6_method_5_code (6 : Nat) (Option.some Jvm.ClassFile.FieldType.int)), (Jvm.Cond.methodLink "JoinedLeaves$Relation" (23 : Nat) ({ cls := "JoinedLeaves$Relation", name := "placeOf", desc := "(I)I" } : Jvm.MethodName)), (Jvm.Cond.instanceMethod ({ cls := "JoinedLeaves$Relation", name := "placeOf", desc := "(I)I" } : Jvm.MethodName)), (Jvm.Cond.code ({ cls := "JoinedLeaves$Relation", name := "placeOf", desc := "(I)I" } : Jvm.MethodName) prog_6_method_6_code (3 : Nat) (Option.some Jvm.ClassFile.FieldType.int)), (Jvm.Cond.methodLink "JoinedLeavesLaw" (46 : Nat) ({ cls := "JoinedLeaves", name := "drop", desc := "(IIII)Z" } : Jvm.MethodName)), (Jvm.Cond.instanceMethod ({ cls := "JoinedLeaves", name := "drop", desc := "(IIII)Z" } : Jvm.MethodName)), (Jvm.Cond.selects "JoinedLeaves" ({ cls := "JoinedLeaves", name := "drop", desc := "(IIII)Z" } : Jvm.MethodName) ({ cls := "JoinedLeaves", name := "drop", desc := "(IIII)Z" } : Jvm.MethodName)), (Jvm.Cond.code ({ cls := "JoinedLeaves", name := "drop", desc := "(IIII)Z" } : Jvm.MethodName) prog_1_method_4_code (5 : Nat) (Option.some Jvm.ClassFile.FieldType.boolean)), (Jvm.Cond.instanceMethod ({ cls := "JoinedLeaves$Relation", name := "take", desc := "(III)Z" } : Jvm.MethodName)), (Jvm.Cond.code ({ cls := "JoinedLeaves$Relation", name := "take", desc := "(III)Z" } : Jvm.MethodName) prog_6_method_3_code (5 : Nat) (Option.some Jvm.ClassFile.FieldType.boolean)), (Jvm.Cond.methodLink "JoinedLeavesLaw" (50 : Nat) ({ cls := "JoinedLeaves", name := "rows", desc := "(I)I" } : Jvm.MethodName)), (Jvm.Cond.instanceMethod ({ cls := "JoinedLeaves", name := "rows", desc := "(I)I" } : Jvm.MethodName))]
def jW_3 : List Cond := [(Jvm.Cond.selects "JoinedLeaves" ({ cls := "JoinedLeaves", name := "rows", desc := "(I)I" } : Jvm.MethodName) ({ cls := "JoinedLeaves", name := "rows", desc := "(I)I" } : Jvm.MethodName)), (Jvm.Cond.code ({ cls := "JoinedLeaves", name := "rows", desc := "(I)I" } : Jvm.MethodName) prog_1_method_5_code (2 : Nat) (Option.some Jvm.ClassFile.FieldType.int)), (Jvm.Cond.methodLink "JoinedLeavesLaw" (54 : Nat) ({ cls := "JoinedLeaves", name := "atom", desc := "(IIII)I" } : Jvm.MethodName)), (Jvm.Cond.instanceMethod ({ cls := "JoinedLeaves", name := "atom", desc := "(IIII)I" } : Jvm.MethodName)), (Jvm.Cond.selects "JoinedLeaves" ({ cls := "JoinedLeaves", name := "atom", desc := "(IIII)I" } : Jvm.MethodName) ({ cls := "JoinedLeaves", name := "atom", desc := "(IIII)I" } : Jvm.MethodName)), (Jvm.Cond.code ({ cls := "JoinedLeaves", name := "atom", desc := "(IIII)I" } : Jvm.MethodName) prog_1_method_6_code (5 : Nat) (Option.some Jvm.ClassFile.FieldType.int)), (Jvm.Cond.instanceMethod ({ cls := "JoinedLeaves$Question", name := "putAtom", desc := "(LJoinedLeaves$Relation;III)Z" } : Jvm.MethodName)), (Jvm.Cond.code ({ cls := "JoinedLeaves$Question", name := "putAtom", desc := "(LJoinedLeaves$Relation;III)Z" } : Jvm.MethodName) prog_5_method_2_code (5 : Nat) (Option.some Jvm.ClassFile.FieldType.boolean)), (Jvm.Cond.instanceMethod ({ cls := "JoinedLeaves$Atom", name := "bind", desc := "(LJoinedLeaves$Relation;III)Z" } : Jvm.MethodName)), (Jvm.Cond.code ({ cls := "JoinedLeaves$Atom", name := "bind", desc := "(LJoinedLeaves$Relation;III)Z" } : Jvm.MethodName) prog_2_method_2_code (7 : Nat) (Option.some Jvm.ClassFile.FieldType.boolean)), (Jvm.Cond.instanceMethod ({ cls := "JoinedLeaves$Hanging", name := "hangAtoms", desc := "()V" } : Jvm.MethodName)), (Jvm.Cond.code ({ cls := "JoinedLeaves$Hanging", name := "hangAtoms", desc := "()V" } : Jvm.MethodName) prog_3_method_4_code (2 : Nat) (Option.none : Option Jvm.ClassFile.FieldType)), (Jvm.Cond.methodLink "JoinedLeaves$Hanging" (41 : Nat) ({ cls := "JoinedLeaves$Hanging", name := "hangLeastEar", desc := "()V" } : Jvm.MethodName)), (Jvm.Cond.instanceMethod ({ cls := "JoinedLeaves$Hanging", name := "hangLeastEar", desc := "()V" } : Jvm.MethodName)), (Jvm.Cond.code ({ cls := "JoinedLeaves$Hanging", name := "hangLeastEar", desc := "()V" } : Jvm.MethodName) prog_3_method_5_code (3 : Nat) (Option.none : Option Jvm.ClassFile.FieldType)), (Jvm.Cond.methodLink "JoinedLeaves$Hanging" (44 : Nat) ({ cls := "JoinedLeaves$Hanging", name := "leastHolderOf", desc := "(I)I" } : Jvm.MethodName)), (Jvm.Cond.instanceMethod ({ cls := "JoinedLeaves$Hanging", name := "leastHolderOf", desc := "(I)I" } : Jvm.MethodName)), (Jvm.Cond.code ({ cls := "JoinedLeaves$Hanging", name := "leastHolderOf", desc := "(I)I" } : Jvm.MethodName) prog_3_method_6_code (5 : Nat) (Option.some Jvm.ClassFile.FieldType.int)), (Jvm.Cond.static ({ cls := "JoinedLeaves", name := "isIn", desc := "(II)Z" } : Jvm.MethodName)), (Jvm.Cond.code ({ cls := "JoinedLeaves", name := "isIn", desc := "(II)Z" } : Jvm.MethodName) prog_1_method_19_code (2 : Nat) (Option.some Jvm.ClassFile.FieldType.boolean)), (Jvm.Cond.methodLink "JoinedLeaves$Hanging" (57 : Nat) ({ cls := "JoinedLeaves$Hanging", name := "variablesOf", desc := "(I)I" } : Jvm.MethodName)), (Jvm.Cond.instanceMethod ({ cls := "JoinedLeaves$Hanging", name := "variablesOf", desc := "(I)I" } : Jvm.MethodName)), (Jvm.Cond.code ({ cls := "JoinedLeaves$Hanging", name := "variablesOf", desc := "(I)I" } : Jvm.MethodName) prog_3_method_7_code (4 : Nat) (Option.some Jvm.ClassFile.FieldType.int)), (Jvm.Cond.methodLink "JoinedLeavesLaw" (59 : Nat) ({ cls := "JoinedLeaves", name := "head", desc := "(I)I" } : Jvm.MethodName)), (Jvm.Cond.instanceMethod ({ cls := "JoinedLeaves", name := "head", desc := "(I)I" } : Jvm.MethodName)), (Jvm.Cond.selects "JoinedLeaves" ({ cls := "JoinedLeaves", name := "head", desc := "(I)I" } : Jvm.MethodName) ({ cls := "JoinedLeaves", name := "head", desc := "(I)I" } : Jvm.MethodName)), (Jvm.Cond.code ({ cls := "JoinedLeaves", name := "head", desc := "(I)I" } : Jvm.MethodName) prog_1_method_7_code (2 : Nat) (Option.some Jvm.ClassFile.FieldType.int)), (Jvm.Cond.instanceMethod ({ cls := "JoinedLeaves$Question", name := "putInHead", desc := "(I)Z" } : Jvm.MethodName)), (Jvm.Cond.code ({ cls := "JoinedLeaves$Question", name := "putInHead", desc := "(I)Z" } : Jvm.MethodName) prog_5_method_3_code (2 : Nat) (Option.some Jvm.ClassFile.FieldType.boolean)), (Jvm.Cond.methodLink "JoinedLeavesLaw" (63 : Nat) ({ cls := "JoinedLeaves", name := "clear", desc := "()I" } : Jvm.MethodName)), (Jvm.Cond.instanceMethod ({ cls := "JoinedLeaves", name := "clear", desc := "()I" } : Jvm.MethodName)), (Jvm.Cond.selects "JoinedLeaves" ({ cls := "JoinedLeaves", name := "clear", desc := "()I" } : Jvm.MethodName) ({ cls := "JoinedLeaves", name := "clear", desc := "()I" } : Jvm.MethodName)), (Jvm.Cond.code ({ cls := "JoinedLeaves", name := "clear", desc := "()I" } : Jvm.MethodName) prog_1_method_8_code (2 : Nat) (Option.some Jvm.ClassFile.FieldType.int)), (Jvm.Cond.instanceMethod ({ cls := "JoinedLeaves$Question", name := "empty", desc := "()V" } : Jvm.MethodName)), (Jvm.Cond.code ({ cls := "JoinedLeaves$Question", name := "empty", desc := "()V" } : Jvm.MethodName) prog_5_method_4_code (1 : Nat) (Option.none : Option Jvm.ClassFile.FieldType)), (Jvm.Cond.methodLink "JoinedLeavesLaw" (67 : Nat) ({ cls := "JoinedLeaves", name := "tree", desc := "()Z" } : Jvm.MethodName)), (Jvm.Cond.instanceMethod ({ cls := "JoinedLeaves", name := "tree", desc := "()Z" } : Jvm.MethodName)), (Jvm.Cond.selects "JoinedLeaves" ({ cls := "JoinedLeaves", name := "tree", desc := "()Z" } : Jvm.MethodName) ({ cls := "JoinedLeaves", name := "tree", desc := "()Z" } : Jvm.MethodName)), (Jvm.Cond.code ({ cls := "JoinedLeaves", name := "tree", desc := "()Z" } : Jvm.MethodName) prog_1_method_9_code (1 : Nat) (Option.some Jvm.ClassFile.FieldType.boolean)), (Jvm.Cond.instanceMethod ({ cls := "JoinedLeaves$Hanging", name := "isTree", desc := "()Z" } : Jvm.MethodName)), (Jvm.Cond.code ({ cls := "JoinedLeaves$Hanging", name := "isTree", desc := "()Z" } : Jvm.MethodName) prog_3_method_2_code (1 : Nat) (Option.some Jvm.ClassFile.FieldType.boolean)), (Jvm.Cond.methodLink "JoinedLeavesLaw" (72 : Nat) ({ cls := "JoinedLeaves", name := "parent", desc := "(I)I" } : Jvm.MethodName)), (Jvm.Cond.instanceMethod ({ cls := "JoinedLeaves", name := "parent", desc := "(I)I" } : Jvm.MethodName)), (Jvm.Cond.selects "JoinedLeaves" ({ cls := "JoinedLeaves", name := "parent", desc := "(I)I" } : Jvm.MethodName) ({ cls := "JoinedLeaves", name := "parent", desc := "(I)I" } : Jvm.MethodName)), (Jvm.Cond.code ({ cls := "JoinedLeaves", name := "parent", desc := "(I)I" } : Jvm.MethodName) prog_1_method_10_code (2 : Nat) (Option.some Jvm.ClassFile.FieldType.int)), (Jvm.Cond.methodLink "JoinedLeavesLaw" (76 : Nat) ({ cls := "JoinedLeaves", name := "turn", desc := "(I)I" } : Jvm.MethodName)), (Jvm.Cond.instanceMethod ({ cls := "JoinedLeaves", name := "turn", desc := "(I)I" } : Jvm.MethodName)), (Jvm.Cond.selects "JoinedLeaves" ({ cls := "JoinedLeaves", name := "turn", desc := "(I)I" } : Jvm.MethodName) ({ cls := "JoinedLeaves", name := "turn", desc := "(I)I" } : Jvm.MethodName))]
def jW_4 : List Cond := [(Jvm.Cond.code ({ cls := "JoinedLeaves", name := "turn", desc := "(I)I" } : Jvm.MethodName) prog_1_method_11_code (2 : Nat) (Option.some Jvm.ClassFile.FieldType.int)), (Jvm.Cond.methodLink "JoinedLeavesLaw" (80 : Nat) ({ cls := "JoinedLeavesLaw", name := "ways", desc := "(LJoinedLeaves;[J)I" } : Jvm.MethodName)), (Jvm.Cond.static ({ cls := "JoinedLeavesLaw", name := "ways", desc := "(LJoinedLeaves;[J)I" } : Jvm.MethodName)), (Jvm.Cond.classLink "JoinedLeavesLaw" (13 : Nat) "java/lang/IllegalStateException"), (Jvm.Cond.methodLink "JoinedLeavesLaw" (7 : Nat) ({ cls := "JoinedLeaves", name := "ways", desc := "()J" } : Jvm.MethodName)), (Jvm.Cond.instanceMethod ({ cls := "JoinedLeaves", name := "ways", desc := "()J" } : Jvm.MethodName)), (Jvm.Cond.selects "JoinedLeaves" ({ cls := "JoinedLeaves", name := "ways", desc := "()J" } : Jvm.MethodName) ({ cls := "JoinedLeaves", name := "ways", desc := "()J" } : Jvm.MethodName)), (Jvm.Cond.code ({ cls := "JoinedLeaves", name := "ways", desc := "()J" } : Jvm.MethodName) prog_1_method_12_code (1 : Nat) (Option.some Jvm.ClassFile.FieldType.long)), (Jvm.Cond.methodLink "JoinedLeaves" (95 : Nat) ({ cls := "JoinedLeaves", name := "requireTree", desc := "()V" } : Jvm.MethodName)), (Jvm.Cond.instanceMethod ({ cls := "JoinedLeaves", name := "requireTree", desc := "()V" } : Jvm.MethodName)), (Jvm.Cond.code ({ cls := "JoinedLeaves", name := "requireTree", desc := "()V" } : Jvm.MethodName) prog_1_method_17_code (1 : Nat) (Option.none : Option Jvm.ClassFile.FieldType)), (Jvm.Cond.classLink "JoinedLeaves" (141 : Nat) "java/lang/IllegalStateException"), (Jvm.Cond.instantiable "java/lang/IllegalStateException" (6 : Nat)), (Jvm.Cond.selects "java/lang/IllegalStateException" ({ cls := "java/lang/Throwable", name := "fillInStackTrace", desc := "(I)Ljava/lang/Throwable;" } : Jvm.MethodName) ({ cls := "java/lang/Throwable", name := "fillInStackTrace", desc := "(I)Ljava/lang/Throwable;" } : Jvm.MethodName)), (Jvm.Cond.selects "java/lang/IllegalStateException" ({ cls := "java/lang/Throwable", name := "fillInStackTrace", desc := "()Ljava/lang/Throwable;" } : Jvm.MethodName) ({ cls := "java/lang/Throwable", name := "fillInStackTrace", desc := "()Ljava/lang/Throwable;" } : Jvm.MethodName)), (Jvm.Cond.lays "java/lang/IllegalStateException" "java/lang/Throwable" "cause" "Ljava/lang/Throwable;"), (Jvm.Cond.lays "java/lang/Throwable" "java/lang/Throwable" "cause" "Ljava/lang/Throwable;"), (Jvm.Cond.lays "java/lang/IllegalStateException" "java/lang/Throwable" "stackTrace" "[Ljava/lang/StackTraceElement;"), (Jvm.Cond.lays "java/lang/Throwable" "java/lang/Throwable" "stackTrace" "[Ljava/lang/StackTraceElement;"), (Jvm.Cond.lays "java/lang/IllegalStateException" "java/lang/Throwable" "suppressedExceptions" "Ljava/util/List;"), (Jvm.Cond.lays "java/lang/Throwable" "java/lang/Throwable" "suppressedExceptions" "Ljava/util/List;"), (Jvm.Cond.lays "java/lang/IllegalStateException" "java/lang/Throwable" "detailMessage" "Ljava/lang/String;"), (Jvm.Cond.lays "java/lang/Throwable" "java/lang/Throwable" "detailMessage" "Ljava/lang/String;"), (Jvm.Cond.lays "java/lang/IllegalStateException" "java/lang/Throwable" "backtrace" "Ljava/lang/Object;"), (Jvm.Cond.lays "java/lang/Throwable" "java/lang/Throwable" "backtrace" "Ljava/lang/Object;"), (Jvm.Cond.fieldLink "java/lang/Throwable" (198 : Nat) "java/lang/Throwable" "backtrace" "Ljava/lang/Object;"), (Jvm.Cond.superclass "java/lang/Throwable" "java/lang/Object"), (Jvm.Cond.instanceMethod ({ cls := "java/lang/Throwable", name := "<init>", desc := "()V" } : Jvm.MethodName)), (Jvm.Cond.code ({ cls := "java/lang/Throwable", name := "<init>", desc := "()V" } : Jvm.MethodName) prog_16_method_1_code (1 : Nat) (Option.none : Option Jvm.ClassFile.FieldType)), (Jvm.Cond.methodLink "java/lang/Throwable" (1 : Nat) ({ cls := "java/lang/Object", name := "<init>", desc := "()V" } : Jvm.MethodName)), (Jvm.Cond.fieldLink "java/lang/Throwable" (13 : Nat) "java/lang/Throwable" "UNASSIGNED_STACK" "[Ljava/lang/StackTraceElement;"), (Jvm.Cond.fieldLink "java/lang/Throwable" (20 : Nat) "java/lang/Throwable" "SUPPRESSED_SENTINEL" "Ljava/util/List;"), (Jvm.Cond.methodLink "java/lang/Throwable" (27 : Nat) ({ cls := "java/lang/Throwable", name := "fillInStackTrace", desc := "()Ljava/lang/Throwable;" } : Jvm.MethodName)), (Jvm.Cond.instanceMethod ({ cls := "java/lang/Throwable", name := "fillInStackTrace", desc := "()Ljava/lang/Throwable;" } : Jvm.MethodName)), (Jvm.Cond.selects "java/lang/IllegalArgumentException" ({ cls := "java/lang/Throwable", name := "fillInStackTrace", desc := "()Ljava/lang/Throwable;" } : Jvm.MethodName) ({ cls := "java/lang/Throwable", name := "fillInStackTrace", desc := "()Ljava/lang/Throwable;" } : Jvm.MethodName)), (Jvm.Cond.selects "java/lang/IndexOutOfBoundsException" ({ cls := "java/lang/Throwable", name := "fillInStackTrace", desc := "()Ljava/lang/Throwable;" } : Jvm.MethodName) ({ cls := "java/lang/Throwable", name := "fillInStackTrace", desc := "()Ljava/lang/Throwable;" } : Jvm.MethodName)), (Jvm.Cond.selects "java/lang/UnsupportedOperationException" ({ cls := "java/lang/Throwable", name := "fillInStackTrace", desc := "()Ljava/lang/Throwable;" } : Jvm.MethodName) ({ cls := "java/lang/Throwable", name := "fillInStackTrace", desc := "()Ljava/lang/Throwable;" } : Jvm.MethodName)), (Jvm.Cond.methodLink "java/lang/Throwable" (202 : Nat) ({ cls := "java/lang/Throwable", name := "fillInStackTrace", desc := "(I)Ljava/lang/Throwable;" } : Jvm.MethodName)), (Jvm.Cond.instanceMethod ({ cls := "java/lang/Throwable", name := "fillInStackTrace", desc := "(I)Ljava/lang/Throwable;" } : Jvm.MethodName)), (Jvm.Cond.instantiable "java/lang/Throwable" (6 : Nat)), (Jvm.Cond.methodLink "JoinedLeaves" (145 : Nat) ({ cls := "java/lang/IllegalStateException", name := "<init>", desc := "(Ljava/lang/String;)V" } : Jvm.MethodName)), (Jvm.Cond.instanceMethod ({ cls := "java/lang/IllegalStateException", name := "<init>", desc := "(Ljava/lang/String;)V" } : Jvm.MethodName)), (Jvm.Cond.code ({ cls := "java/lang/IllegalStateException", name := "<init>", desc := "(Ljava/lang/String;)V" } : Jvm.MethodName) prog_11_method_2_code (2 : Nat) (Option.none : Option Jvm.ClassFile.FieldType)), (Jvm.Cond.methodLink "java/lang/IllegalStateException" (7 : Nat) ({ cls := "java/lang/RuntimeException", name := "<init>", desc := "(Ljava/lang/String;)V" } : Jvm.MethodName)), (Jvm.Cond.instanceMethod ({ cls := "java/lang/RuntimeException", name := "<init>", desc := "(Ljava/lang/String;)V" } : Jvm.MethodName)), (Jvm.Cond.code ({ cls := "java/lang/RuntimeException", name := "<init>", desc := "(Ljava/lang/String;)V" } : Jvm.MethodName) prog_14_method_2_code (2 : Nat) (Option.none : Option Jvm.ClassFile.FieldType)), (Jvm.Cond.methodLink "java/lang/RuntimeException" (7 : Nat) ({ cls := "java/lang/Exception", name := "<init>", desc := "(Ljava/lang/String;)V" } : Jvm.MethodName)), (Jvm.Cond.instanceMethod ({ cls := "java/lang/Exception", name := "<init>", desc := "(Ljava/lang/String;)V" } : Jvm.MethodName))]
def jW_5 : List Cond := [(Jvm.Cond.code ({ cls := "java/lang/Exception", name := "<init>", desc := "(Ljava/lang/String;)V" } : Jvm.MethodName) prog_9_method_2_code (2 : Nat) (Option.none : Option Jvm.ClassFile.FieldType)), (Jvm.Cond.methodLink "java/lang/Exception" (7 : Nat) ({ cls := "java/lang/Throwable", name := "<init>", desc := "(Ljava/lang/String;)V" } : Jvm.MethodName)), (Jvm.Cond.instanceMethod ({ cls := "java/lang/Throwable", name := "<init>", desc := "(Ljava/lang/String;)V" } : Jvm.MethodName)), (Jvm.Cond.code ({ cls := "java/lang/Throwable", name := "<init>", desc := "(Ljava/lang/String;)V" } : Jvm.MethodName) prog_16_method_2_code (2 : Nat) (Option.none : Option Jvm.ClassFile.FieldType)), (Jvm.Cond.fieldLink "java/lang/Throwable" (31 : Nat) "java/lang/Throwable" "detailMessage" "Ljava/lang/String;"), (Jvm.Cond.fieldLink "java/lang/Throwable" (7 : Nat) "java/lang/Throwable" "cause" "Ljava/lang/Throwable;"), (Jvm.Cond.fieldLink "java/lang/Throwable" (17 : Nat) "java/lang/Throwable" "stackTrace" "[Ljava/lang/StackTraceElement;"), (Jvm.Cond.fieldLink "java/lang/Throwable" (24 : Nat) "java/lang/Throwable" "suppressedExceptions" "Ljava/util/List;"), (Jvm.Cond.lays "java/lang/IllegalStateException" "java/lang/Throwable" "depth" "I"), (Jvm.Cond.superclass "java/lang/IllegalStateException" "java/lang/RuntimeException"), (Jvm.Cond.arrayClass Jvm.ClassFile.FieldType.byte), (Jvm.Cond.instanceMethod ({ cls := "JoinedLeaves$Join", name := "countWays", desc := "()J" } : Jvm.MethodName)), (Jvm.Cond.code ({ cls := "JoinedLeaves$Join", name := "countWays", desc := "()J" } : Jvm.MethodName) prog_4_method_3_code (3 : Nat) (Option.some Jvm.ClassFile.FieldType.long)), (Jvm.Cond.instanceMethod ({ cls := "JoinedLeaves$Hanging", name := "root", desc := "()I" } : Jvm.MethodName)), (Jvm.Cond.code ({ cls := "JoinedLeaves$Hanging", name := "root", desc := "()I" } : Jvm.MethodName) prog_3_method_3_code (2 : Nat) (Option.some Jvm.ClassFile.FieldType.int)), (Jvm.Cond.methodLink "JoinedLeaves$Join" (36 : Nat) ({ cls := "JoinedLeaves$Join", name := "compareRows", desc := "()V" } : Jvm.MethodName)), (Jvm.Cond.instanceMethod ({ cls := "JoinedLeaves$Join", name := "compareRows", desc := "()V" } : Jvm.MethodName)), (Jvm.Cond.code ({ cls := "JoinedLeaves$Join", name := "compareRows", desc := "()V" } : Jvm.MethodName) prog_4_method_6_code (5 : Nat) (Option.none : Option Jvm.ClassFile.FieldType)), (Jvm.Cond.instanceMethod ({ cls := "JoinedLeaves$Atom", name := "rowsAgreeingWithThemselves", desc := "()I" } : Jvm.MethodName)), (Jvm.Cond.code ({ cls := "JoinedLeaves$Atom", name := "rowsAgreeingWithThemselves", desc := "()I" } : Jvm.MethodName) prog_2_method_3_code (3 : Nat) (Option.some Jvm.ClassFile.FieldType.int)), (Jvm.Cond.methodLink "JoinedLeaves$Atom" (35 : Nat) ({ cls := "JoinedLeaves$Atom", name := "agreesWithItself", desc := "(I)Z" } : Jvm.MethodName)), (Jvm.Cond.instanceMethod ({ cls := "JoinedLeaves$Atom", name := "agreesWithItself", desc := "(I)Z" } : Jvm.MethodName)), (Jvm.Cond.code ({ cls := "JoinedLeaves$Atom", name := "agreesWithItself", desc := "(I)Z" } : Jvm.MethodName) prog_2_method_4_code (4 : Nat) (Option.some Jvm.ClassFile.FieldType.boolean)), (Jvm.Cond.instanceMethod ({ cls := "JoinedLeaves$Relation", name := "valueAt", desc := "(II)I" } : Jvm.MethodName)), (Jvm.Cond.code ({ cls := "JoinedLeaves$Relation", name := "valueAt", desc := "(II)I" } : Jvm.MethodName) prog_6_method_4_code (3 : Nat) (Option.some Jvm.ClassFile.FieldType.int)), (Jvm.Cond.instanceMethod ({ cls := "JoinedLeaves$Atom", name := "rowsAgreeingWith", desc := "(LJoinedLeaves$Atom;I)I" } : Jvm.MethodName)), (Jvm.Cond.code ({ cls := "JoinedLeaves$Atom", name := "rowsAgreeingWith", desc := "(LJoinedLeaves$Atom;I)I" } : Jvm.MethodName) prog_2_method_5_code (6 : Nat) (Option.some Jvm.ClassFile.FieldType.int)), (Jvm.Cond.methodLink "JoinedLeaves$Atom" (43 : Nat) ({ cls := "JoinedLeaves$Atom", name := "rowsAllowing", desc := "(II)I" } : Jvm.MethodName)), (Jvm.Cond.instanceMethod ({ cls := "JoinedLeaves$Atom", name := "rowsAllowing", desc := "(II)I" } : Jvm.MethodName)), (Jvm.Cond.code ({ cls := "JoinedLeaves$Atom", name := "rowsAllowing", desc := "(II)I" } : Jvm.MethodName) prog_2_method_6_code (6 : Nat) (Option.some Jvm.ClassFile.FieldType.int)), (Jvm.Cond.methodLink "JoinedLeaves$Join" (55 : Nat) ({ cls := "JoinedLeaves$Join", name := "startWeights", desc := "()V" } : Jvm.MethodName)), (Jvm.Cond.instanceMethod ({ cls := "JoinedLeaves$Join", name := "startWeights", desc := "()V" } : Jvm.MethodName)), (Jvm.Cond.code ({ cls := "JoinedLeaves$Join", name := "startWeights", desc := "()V" } : Jvm.MethodName) prog_4_method_11_code (3 : Nat) (Option.none : Option Jvm.ClassFile.FieldType)), (Jvm.Cond.methodLink "JoinedLeaves$Join" (65 : Nat) ({ cls := "JoinedLeaves$Join", name := "weighIntoParent", desc := "(I)V" } : Jvm.MethodName)), (Jvm.Cond.instanceMethod ({ cls := "JoinedLeaves$Join", name := "weighIntoParent", desc := "(I)V" } : Jvm.MethodName)), (Jvm.Cond.code ({ cls := "JoinedLeaves$Join", name := "weighIntoParent", desc := "(I)V" } : Jvm.MethodName) prog_4_method_12_code (4 : Nat) (Option.none : Option Jvm.ClassFile.FieldType)), (Jvm.Cond.methodLink "JoinedLeaves$Join" (69 : Nat) ({ cls := "JoinedLeaves$Join", name := "weightOf", desc := "(II)J" } : Jvm.MethodName)), (Jvm.Cond.instanceMethod ({ cls := "JoinedLeaves$Join", name := "weightOf", desc := "(II)J" } : Jvm.MethodName)), (Jvm.Cond.code ({ cls := "JoinedLeaves$Join", name := "weightOf", desc := "(II)J" } : Jvm.MethodName) prog_4_method_13_code (6 : Nat) (Option.some Jvm.ClassFile.FieldType.long)), (Jvm.Cond.methodLink "JoinedLeavesLaw" (89 : Nat) ({ cls := "JoinedLeavesLaw", name := "live", desc := "(LJoinedLeaves;I[J)I" } : Jvm.MethodName)), (Jvm.Cond.static ({ cls := "JoinedLeavesLaw", name := "live", desc := "(LJoinedLeaves;I[J)I" } : Jvm.MethodName)), (Jvm.Cond.classLink "JoinedLeavesLaw" (19 : Nat) "java/lang/IndexOutOfBoundsException"), (Jvm.Cond.methodLink "JoinedLeavesLaw" (15 : Nat) ({ cls := "JoinedLeaves", name := "live", desc := "(I)I" } : Jvm.MethodName)), (Jvm.Cond.instanceMethod ({ cls := "JoinedLeaves", name := "live", desc := "(I)I" } : Jvm.MethodName)), (Jvm.Cond.selects "JoinedLeaves" ({ cls := "JoinedLeaves", name := "live", desc := "(I)I" } : Jvm.MethodName) ({ cls := "JoinedLeaves", name := "live", desc := "(I)I" } : Jvm.MethodName)), (Jvm.Cond.code ({ cls := "JoinedLeaves", name := "live", desc := "(I)I" } : Jvm.MethodName) prog_1_method_13_code (2 : Nat) (Option.some Jvm.ClassFile.FieldType.int)), (Jvm.Cond.classLink "JoinedLeaves" (102 : Nat) "java/lang/IndexOutOfBoundsException"), (Jvm.Cond.instantiable "java/lang/IndexOutOfBoundsException" (6 : Nat))]
def jW_6 : List Cond := [(Jvm.Cond.selects "java/lang/IndexOutOfBoundsException" ({ cls := "java/lang/Throwable", name := "fillInStackTrace", desc := "(I)Ljava/lang/Throwable;" } : Jvm.MethodName) ({ cls := "java/lang/Throwable", name := "fillInStackTrace", desc := "(I)Ljava/lang/Throwable;" } : Jvm.MethodName)), (Jvm.Cond.lays "java/lang/IndexOutOfBoundsException" "java/lang/Throwable" "cause" "Ljava/lang/Throwable;"), (Jvm.Cond.lays "java/lang/IndexOutOfBoundsException" "java/lang/Throwable" "stackTrace" "[Ljava/lang/StackTraceElement;"), (Jvm.Cond.lays "java/lang/IndexOutOfBoundsException" "java/lang/Throwable" "suppressedExceptions" "Ljava/util/List;"), (Jvm.Cond.lays "java/lang/IndexOutOfBoundsException" "java/lang/Throwable" "detailMessage" "Ljava/lang/String;"), (Jvm.Cond.lays "java/lang/IndexOutOfBoundsException" "java/lang/Throwable" "backtrace" "Ljava/lang/Object;"), (Jvm.Cond.methodLink "JoinedLeaves" (106 : Nat) ({ cls := "java/lang/IndexOutOfBoundsException", name := "<init>", desc := "(Ljava/lang/String;)V" } : Jvm.MethodName)), (Jvm.Cond.instanceMethod ({ cls := "java/lang/IndexOutOfBoundsException", name := "<init>", desc := "(Ljava/lang/String;)V" } : Jvm.MethodName)), (Jvm.Cond.code ({ cls := "java/lang/IndexOutOfBoundsException", name := "<init>", desc := "(Ljava/lang/String;)V" } : Jvm.MethodName) prog_12_method_2_code (2 : Nat) (Option.none : Option Jvm.ClassFile.FieldType)), (Jvm.Cond.methodLink "java/lang/IndexOutOfBoundsException" (7 : Nat) ({ cls := "java/lang/RuntimeException", name := "<init>", desc := "(Ljava/lang/String;)V" } : Jvm.MethodName)), (Jvm.Cond.lays "java/lang/IndexOutOfBoundsException" "java/lang/Throwable" "depth" "I"), (Jvm.Cond.superclass "java/lang/IndexOutOfBoundsException" "java/lang/RuntimeException"), (Jvm.Cond.instanceMethod ({ cls := "JoinedLeaves$Join", name := "countLiveRows", desc := "(I)I" } : Jvm.MethodName)), (Jvm.Cond.code ({ cls := "JoinedLeaves$Join", name := "countLiveRows", desc := "(I)I" } : Jvm.MethodName) prog_4_method_2_code (2 : Nat) (Option.some Jvm.ClassFile.FieldType.int)), (Jvm.Cond.methodLink "JoinedLeaves$Join" (39 : Nat) ({ cls := "JoinedLeaves$Join", name := "keepLiveRows", desc := "([I)V" } : Jvm.MethodName)), (Jvm.Cond.instanceMethod ({ cls := "JoinedLeaves$Join", name := "keepLiveRows", desc := "([I)V" } : Jvm.MethodName)), (Jvm.Cond.code ({ cls := "JoinedLeaves$Join", name := "keepLiveRows", desc := "([I)V" } : Jvm.MethodName) prog_4_method_7_code (3 : Nat) (Option.none : Option Jvm.ClassFile.FieldType)), (Jvm.Cond.methodLink "JoinedLeaves$Join" (117 : Nat) ({ cls := "JoinedLeaves$Join", name := "keepRowsOfParent", desc := "([II)V" } : Jvm.MethodName)), (Jvm.Cond.instanceMethod ({ cls := "JoinedLeaves$Join", name := "keepRowsOfParent", desc := "([II)V" } : Jvm.MethodName)), (Jvm.Cond.code ({ cls := "JoinedLeaves$Join", name := "keepRowsOfParent", desc := "([II)V" } : Jvm.MethodName) prog_4_method_8_code (5 : Nat) (Option.none : Option Jvm.ClassFile.FieldType)), (Jvm.Cond.methodLink "JoinedLeaves$Join" (121 : Nat) ({ cls := "JoinedLeaves$Join", name := "keepRowsOfChild", desc := "([II)V" } : Jvm.MethodName)), (Jvm.Cond.instanceMethod ({ cls := "JoinedLeaves$Join", name := "keepRowsOfChild", desc := "([II)V" } : Jvm.MethodName)), (Jvm.Cond.code ({ cls := "JoinedLeaves$Join", name := "keepRowsOfChild", desc := "([II)V" } : Jvm.MethodName) prog_4_method_9_code (6 : Nat) (Option.none : Option Jvm.ClassFile.FieldType)), (Jvm.Cond.methodLink "JoinedLeaves$Join" (43 : Nat) ({ cls := "java/lang/Integer", name := "bitCount", desc := "(I)I" } : Jvm.MethodName)), (Jvm.Cond.static ({ cls := "java/lang/Integer", name := "bitCount", desc := "(I)I" } : Jvm.MethodName)), (Jvm.Cond.code ({ cls := "java/lang/Integer", name := "bitCount", desc := "(I)I" } : Jvm.MethodName) prog_13_method_49_code (1 : Nat) (Option.some Jvm.ClassFile.FieldType.int)), (Jvm.Cond.methodLink "JoinedLeavesLaw" (93 : Nat) ({ cls := "JoinedLeavesLaw", name := "answers", desc := "(LJoinedLeaves;[J)I" } : Jvm.MethodName)), (Jvm.Cond.static ({ cls := "JoinedLeavesLaw", name := "answers", desc := "(LJoinedLeaves;[J)I" } : Jvm.MethodName)), (Jvm.Cond.classLink "JoinedLeavesLaw" (25 : Nat) "java/lang/IllegalArgumentException"), (Jvm.Cond.classLink "JoinedLeavesLaw" (27 : Nat) "java/lang/UnsupportedOperationException"), (Jvm.Cond.methodLink "JoinedLeavesLaw" (21 : Nat) ({ cls := "JoinedLeaves", name := "answers", desc := "()I" } : Jvm.MethodName)), (Jvm.Cond.instanceMethod ({ cls := "JoinedLeaves", name := "answers", desc := "()I" } : Jvm.MethodName)), (Jvm.Cond.selects "JoinedLeaves" ({ cls := "JoinedLeaves", name := "answers", desc := "()I" } : Jvm.MethodName) ({ cls := "JoinedLeaves", name := "answers", desc := "()I" } : Jvm.MethodName)), (Jvm.Cond.code ({ cls := "JoinedLeaves", name := "answers", desc := "()I" } : Jvm.MethodName) prog_1_method_14_code (1 : Nat) (Option.some Jvm.ClassFile.FieldType.int)), (Jvm.Cond.methodLink "JoinedLeaves" (113 : Nat) ({ cls := "JoinedLeaves", name := "findAnswers", desc := "()V" } : Jvm.MethodName)), (Jvm.Cond.instanceMethod ({ cls := "JoinedLeaves", name := "findAnswers", desc := "()V" } : Jvm.MethodName)), (Jvm.Cond.code ({ cls := "JoinedLeaves", name := "findAnswers", desc := "()V" } : Jvm.MethodName) prog_1_method_16_code (1 : Nat) (Option.none : Option Jvm.ClassFile.FieldType)), (Jvm.Cond.instanceMethod ({ cls := "JoinedLeaves$Question", name := "bindsHead", desc := "()Z" } : Jvm.MethodName)), (Jvm.Cond.code ({ cls := "JoinedLeaves$Question", name := "bindsHead", desc := "()Z" } : Jvm.MethodName) prog_5_method_5_code (3 : Nat) (Option.some Jvm.ClassFile.FieldType.boolean)), (Jvm.Cond.classLink "JoinedLeaves" (128 : Nat) "java/lang/IllegalArgumentException"), (Jvm.Cond.instantiable "java/lang/IllegalArgumentException" (6 : Nat)), (Jvm.Cond.selects "java/lang/IllegalArgumentException" ({ cls := "java/lang/Throwable", name := "fillInStackTrace", desc := "(I)Ljava/lang/Throwable;" } : Jvm.MethodName) ({ cls := "java/lang/Throwable", name := "fillInStackTrace", desc := "(I)Ljava/lang/Throwable;" } : Jvm.MethodName)), (Jvm.Cond.lays "java/lang/IllegalArgumentException" "java/lang/Throwable" "cause" "Ljava/lang/Throwable;"), (Jvm.Cond.lays "java/lang/IllegalArgumentException" "java/lang/Throwable" "stackTrace" "[Ljava/lang/StackTraceElement;"), (Jvm.Cond.lays "java/lang/IllegalArgumentException" "java/lang/Throwable" "suppressedExceptions" "Ljava/util/List;"), (Jvm.Cond.lays "java/lang/IllegalArgumentException" "java/lang/Throwable" "detailMessage" "Ljava/lang/String;"), (Jvm.Cond.lays "java/lang/IllegalArgumentException" "java/lang/Throwable" "backtrace" "Ljava/lang/Object;"), (Jvm.Cond.methodLink "JoinedLeaves" (132 : Nat) ({ cls := "java/lang/IllegalArgumentException", name := "<init>", desc := "(Ljava/lang/String;)V" } : Jvm.MethodName))]
def jW_7 : List Cond := [(Jvm.Cond.instanceMethod ({ cls := "java/lang/IllegalArgumentException", name := "<init>", desc := "(Ljava/lang/String;)V" } : Jvm.MethodName)), (Jvm.Cond.code ({ cls := "java/lang/IllegalArgumentException", name := "<init>", desc := "(Ljava/lang/String;)V" } : Jvm.MethodName) prog_10_method_2_code (2 : Nat) (Option.none : Option Jvm.ClassFile.FieldType)), (Jvm.Cond.methodLink "java/lang/IllegalArgumentException" (7 : Nat) ({ cls := "java/lang/RuntimeException", name := "<init>", desc := "(Ljava/lang/String;)V" } : Jvm.MethodName)), (Jvm.Cond.lays "java/lang/IllegalArgumentException" "java/lang/Throwable" "depth" "I"), (Jvm.Cond.superclass "java/lang/IllegalArgumentException" "java/lang/RuntimeException"), (Jvm.Cond.instanceMethod ({ cls := "JoinedLeaves$Join", name := "search", desc := "()V" } : Jvm.MethodName)), (Jvm.Cond.code ({ cls := "JoinedLeaves$Join", name := "search", desc := "()V" } : Jvm.MethodName) prog_4_method_4_code (1 : Nat) (Option.none : Option Jvm.ClassFile.FieldType)), (Jvm.Cond.methodLink "JoinedLeaves$Join" (76 : Nat) ({ cls := "JoinedLeaves$Join", name := "hasWay", desc := "([I)Z" } : Jvm.MethodName)), (Jvm.Cond.instanceMethod ({ cls := "JoinedLeaves$Join", name := "hasWay", desc := "([I)Z" } : Jvm.MethodName)), (Jvm.Cond.code ({ cls := "JoinedLeaves$Join", name := "hasWay", desc := "([I)Z" } : Jvm.MethodName) prog_4_method_10_code (3 : Nat) (Option.some Jvm.ClassFile.FieldType.boolean)), (Jvm.Cond.methodLink "JoinedLeaves$Join" (80 : Nat) ({ cls := "JoinedLeaves$Join", name := "choose", desc := "(II)V" } : Jvm.MethodName)), (Jvm.Cond.instanceMethod ({ cls := "JoinedLeaves$Join", name := "choose", desc := "(II)V" } : Jvm.MethodName)), (Jvm.Cond.code ({ cls := "JoinedLeaves$Join", name := "choose", desc := "(II)V" } : Jvm.MethodName) prog_4_method_14_code (6 : Nat) (Option.none : Option Jvm.ClassFile.FieldType)), (Jvm.Cond.methodLink "JoinedLeaves$Join" (128 : Nat) ({ cls := "JoinedLeaves$Join", name := "storeAnswer", desc := "(I)V" } : Jvm.MethodName)), (Jvm.Cond.instanceMethod ({ cls := "JoinedLeaves$Join", name := "storeAnswer", desc := "(I)V" } : Jvm.MethodName)), (Jvm.Cond.code ({ cls := "JoinedLeaves$Join", name := "storeAnswer", desc := "(I)V" } : Jvm.MethodName) prog_4_method_15_code (2 : Nat) (Option.none : Option Jvm.ClassFile.FieldType)), (Jvm.Cond.methodLink "JoinedLeaves$Join" (134 : Nat) ({ cls := "JoinedLeaves$Join", name := "liveValuesOf", desc := "(I[I)I" } : Jvm.MethodName)), (Jvm.Cond.instanceMethod ({ cls := "JoinedLeaves$Join", name := "liveValuesOf", desc := "(I[I)I" } : Jvm.MethodName)), (Jvm.Cond.code ({ cls := "JoinedLeaves$Join", name := "liveValuesOf", desc := "(I[I)I" } : Jvm.MethodName) prog_4_method_16_code (4 : Nat) (Option.some Jvm.ClassFile.FieldType.int)), (Jvm.Cond.instanceMethod ({ cls := "JoinedLeaves$Question", name := "atomWith", desc := "(I)I" } : Jvm.MethodName)), (Jvm.Cond.code ({ cls := "JoinedLeaves$Question", name := "atomWith", desc := "(I)I" } : Jvm.MethodName) prog_5_method_6_code (3 : Nat) (Option.some Jvm.ClassFile.FieldType.int)), (Jvm.Cond.instanceMethod ({ cls := "JoinedLeaves$Atom", name := "valuesOf", desc := "(II)I" } : Jvm.MethodName)), (Jvm.Cond.code ({ cls := "JoinedLeaves$Atom", name := "valuesOf", desc := "(II)I" } : Jvm.MethodName) prog_2_method_7_code (6 : Nat) (Option.some Jvm.ClassFile.FieldType.int)), (Jvm.Cond.methodLink "JoinedLeaves$Join" (138 : Nat) ({ cls := "JoinedLeaves$Join", name := "keepRowsWith", desc := "(III)V" } : Jvm.MethodName)), (Jvm.Cond.instanceMethod ({ cls := "JoinedLeaves$Join", name := "keepRowsWith", desc := "(III)V" } : Jvm.MethodName)), (Jvm.Cond.code ({ cls := "JoinedLeaves$Join", name := "keepRowsWith", desc := "(III)V" } : Jvm.MethodName) prog_4_method_17_code (7 : Nat) (Option.none : Option Jvm.ClassFile.FieldType)), (Jvm.Cond.classLink "JoinedLeaves" (136 : Nat) "java/lang/UnsupportedOperationException"), (Jvm.Cond.instantiable "java/lang/UnsupportedOperationException" (6 : Nat)), (Jvm.Cond.selects "java/lang/UnsupportedOperationException" ({ cls := "java/lang/Throwable", name := "fillInStackTrace", desc := "(I)Ljava/lang/Throwable;" } : Jvm.MethodName) ({ cls := "java/lang/Throwable", name := "fillInStackTrace", desc := "(I)Ljava/lang/Throwable;" } : Jvm.MethodName)), (Jvm.Cond.lays "java/lang/UnsupportedOperationException" "java/lang/Throwable" "cause" "Ljava/lang/Throwable;"), (Jvm.Cond.lays "java/lang/UnsupportedOperationException" "java/lang/Throwable" "stackTrace" "[Ljava/lang/StackTraceElement;"), (Jvm.Cond.lays "java/lang/UnsupportedOperationException" "java/lang/Throwable" "suppressedExceptions" "Ljava/util/List;"), (Jvm.Cond.lays "java/lang/UnsupportedOperationException" "java/lang/Throwable" "detailMessage" "Ljava/lang/String;"), (Jvm.Cond.lays "java/lang/UnsupportedOperationException" "java/lang/Throwable" "backtrace" "Ljava/lang/Object;"), (Jvm.Cond.methodLink "JoinedLeaves" (140 : Nat) ({ cls := "java/lang/UnsupportedOperationException", name := "<init>", desc := "(Ljava/lang/String;)V" } : Jvm.MethodName)), (Jvm.Cond.instanceMethod ({ cls := "java/lang/UnsupportedOperationException", name := "<init>", desc := "(Ljava/lang/String;)V" } : Jvm.MethodName)), (Jvm.Cond.code ({ cls := "java/lang/UnsupportedOperationException", name := "<init>", desc := "(Ljava/lang/String;)V" } : Jvm.MethodName) prog_17_method_2_code (2 : Nat) (Option.none : Option Jvm.ClassFile.FieldType)), (Jvm.Cond.methodLink "java/lang/UnsupportedOperationException" (7 : Nat) ({ cls := "java/lang/RuntimeException", name := "<init>", desc := "(Ljava/lang/String;)V" } : Jvm.MethodName)), (Jvm.Cond.lays "java/lang/UnsupportedOperationException" "java/lang/Throwable" "depth" "I"), (Jvm.Cond.superclass "java/lang/UnsupportedOperationException" "java/lang/RuntimeException"), (Jvm.Cond.methodLink "JoinedLeavesLaw" (96 : Nat) ({ cls := "JoinedLeavesLaw", name := "answer", desc := "(LJoinedLeaves;II[J)I" } : Jvm.MethodName)), (Jvm.Cond.static ({ cls := "JoinedLeavesLaw", name := "answer", desc := "(LJoinedLeaves;II[J)I" } : Jvm.MethodName)), (Jvm.Cond.methodLink "JoinedLeavesLaw" (29 : Nat) ({ cls := "JoinedLeaves", name := "answer", desc := "(II)I" } : Jvm.MethodName)), (Jvm.Cond.instanceMethod ({ cls := "JoinedLeaves", name := "answer", desc := "(II)I" } : Jvm.MethodName)), (Jvm.Cond.selects "JoinedLeaves" ({ cls := "JoinedLeaves", name := "answer", desc := "(II)I" } : Jvm.MethodName) ({ cls := "JoinedLeaves", name := "answer", desc := "(II)I" } : Jvm.MethodName)), (Jvm.Cond.code ({ cls := "JoinedLeaves", name := "answer", desc := "(II)I" } : Jvm.MethodName) prog_1_method_15_code (3 : Nat) (Option.some Jvm.ClassFile.FieldType.int)), (Jvm.Cond.instanceMethod ({ cls := "JoinedLeaves$Join", name := "valueInAnswer", desc := "(II)I" } : Jvm.MethodName)), (Jvm.Cond.code ({ cls := "JoinedLeaves$Join", name := "valueInAnswer", desc := "(II)I" } : Jvm.MethodName) prog_4_method_5_code (3 : Nat) (Option.some Jvm.ClassFile.FieldType.int))]
def jW_8 : List Cond := [(Jvm.Cond.classLink "JoinedLeavesLaw" (34 : Nat) "JoinedLeavesModel"), (Jvm.Cond.instantiable "JoinedLeavesModel" (21 : Nat)), (Jvm.Cond.methodLink "JoinedLeavesLaw" (36 : Nat) ({ cls := "JoinedLeavesModel", name := "<init>", desc := "()V" } : Jvm.MethodName)), (Jvm.Cond.instanceMethod ({ cls := "JoinedLeavesModel", name := "<init>", desc := "()V" } : Jvm.MethodName)), (Jvm.Cond.code ({ cls := "JoinedLeavesModel", name := "<init>", desc := "()V" } : Jvm.MethodName) prog_8_method_1_code (1 : Nat) (Option.none : Option Jvm.ClassFile.FieldType)), (Jvm.Cond.methodLink "JoinedLeavesModel" (1 : Nat) ({ cls := "java/lang/Object", name := "<init>", desc := "()V" } : Jvm.MethodName)), (Jvm.Cond.fieldLink "JoinedLeavesModel" (49 : Nat) "JoinedLeavesModel" "code" "I"), (Jvm.Cond.fieldLink "JoinedLeavesModel" (53 : Nat) "JoinedLeavesModel" "relations" "I"), (Jvm.Cond.fieldLink "JoinedLeavesModel" (7 : Nat) "JoinedLeavesModel" "widths" "[I"), (Jvm.Cond.fieldLink "JoinedLeavesModel" (13 : Nat) "JoinedLeavesModel" "counts" "[I"), (Jvm.Cond.fieldLink "JoinedLeavesModel" (16 : Nat) "JoinedLeavesModel" "values" "[I"), (Jvm.Cond.fieldLink "JoinedLeavesModel" (56 : Nat) "JoinedLeavesModel" "atoms" "I"), (Jvm.Cond.fieldLink "JoinedLeavesModel" (19 : Nat) "JoinedLeavesModel" "of" "[I"), (Jvm.Cond.fieldLink "JoinedLeavesModel" (22 : Nat) "JoinedLeavesModel" "variables" "[I"), (Jvm.Cond.fieldLink "JoinedLeavesModel" (74 : Nat) "JoinedLeavesModel" "headLength" "I"), (Jvm.Cond.fieldLink "JoinedLeavesModel" (25 : Nat) "JoinedLeavesModel" "heads" "[I"), (Jvm.Cond.fieldLink "JoinedLeavesModel" (77 : Nat) "JoinedLeavesModel" "left" "I"), (Jvm.Cond.fieldLink "JoinedLeavesModel" (28 : Nat) "JoinedLeavesModel" "parents" "[I"), (Jvm.Cond.fieldLink "JoinedLeavesModel" (31 : Nat) "JoinedLeavesModel" "turns" "[I"), (Jvm.Cond.fieldLink "JoinedLeavesModel" (70 : Nat) "JoinedLeavesModel" "known" "Z"), (Jvm.Cond.fieldLink "JoinedLeavesModel" (103 : Nat) "JoinedLeavesModel" "ways" "J"), (Jvm.Cond.fieldLink "JoinedLeavesModel" (34 : Nat) "JoinedLeavesModel" "value" "[I"), (Jvm.Cond.fieldLink "JoinedLeavesModel" (37 : Nat) "JoinedLeavesModel" "tries" "[I"), (Jvm.Cond.fieldLink "JoinedLeavesModel" (40 : Nat) "JoinedLeavesModel" "lives" "[I"), (Jvm.Cond.fieldLink "JoinedLeavesModel" (43 : Nat) "JoinedLeavesModel" "answered" "[I"), (Jvm.Cond.fieldLink "JoinedLeavesModel" (114 : Nat) "JoinedLeavesModel" "answers" "I"), (Jvm.Cond.fieldLink "JoinedLeavesModel" (46 : Nat) "JoinedLeavesModel" "firsts" "[I"), (Jvm.Cond.lays "JoinedLeavesModel" "JoinedLeavesModel" "code" "I"), (Jvm.Cond.lays "JoinedLeavesModel" "JoinedLeavesModel" "relations" "I"), (Jvm.Cond.laysFinal "JoinedLeavesModel" "JoinedLeavesModel" "widths" "[I"), (Jvm.Cond.laysFinal "JoinedLeavesModel" "JoinedLeavesModel" "counts" "[I"), (Jvm.Cond.laysFinal "JoinedLeavesModel" "JoinedLeavesModel" "values" "[I"), (Jvm.Cond.lays "JoinedLeavesModel" "JoinedLeavesModel" "atoms" "I"), (Jvm.Cond.laysFinal "JoinedLeavesModel" "JoinedLeavesModel" "of" "[I"), (Jvm.Cond.laysFinal "JoinedLeavesModel" "JoinedLeavesModel" "variables" "[I"), (Jvm.Cond.lays "JoinedLeavesModel" "JoinedLeavesModel" "headLength" "I"), (Jvm.Cond.laysFinal "JoinedLeavesModel" "JoinedLeavesModel" "heads" "[I"), (Jvm.Cond.lays "JoinedLeavesModel" "JoinedLeavesModel" "left" "I"), (Jvm.Cond.laysFinal "JoinedLeavesModel" "JoinedLeavesModel" "parents" "[I"), (Jvm.Cond.laysFinal "JoinedLeavesModel" "JoinedLeavesModel" "turns" "[I"), (Jvm.Cond.lays "JoinedLeavesModel" "JoinedLeavesModel" "known" "Z"), (Jvm.Cond.lays "JoinedLeavesModel" "JoinedLeavesModel" "ways" "J"), (Jvm.Cond.laysFinal "JoinedLeavesModel" "JoinedLeavesModel" "value" "[I"), (Jvm.Cond.laysFinal "JoinedLeavesModel" "JoinedLeavesModel" "tries" "[I"), (Jvm.Cond.laysFinal "JoinedLeavesModel" "JoinedLeavesModel" "lives" "[I"), (Jvm.Cond.laysFinal "JoinedLeavesModel" "JoinedLeavesModel" "answered" "[I"), (Jvm.Cond.lays "JoinedLeavesModel" "JoinedLeavesModel" "answers" "I"), (Jvm.Cond.laysFinal "JoinedLeavesModel" "JoinedLeavesModel" "firsts" "[I")]
def jW_9 : List Cond := [(Jvm.Cond.superclass "JoinedLeavesModel" "java/lang/Object"), (Jvm.Cond.methodLink "JoinedLeavesLaw" (86 : Nat) ({ cls := "JoinedLeavesModel", name := "thrown", desc := "()I" } : Jvm.MethodName)), (Jvm.Cond.instanceMethod ({ cls := "JoinedLeavesModel", name := "thrown", desc := "()I" } : Jvm.MethodName)), (Jvm.Cond.selects "JoinedLeavesModel" ({ cls := "JoinedLeavesModel", name := "thrown", desc := "()I" } : Jvm.MethodName) ({ cls := "JoinedLeavesModel", name := "thrown", desc := "()I" } : Jvm.MethodName)), (Jvm.Cond.code ({ cls := "JoinedLeavesModel", name := "thrown", desc := "()I" } : Jvm.MethodName) prog_8_method_2_code (1 : Nat) (Option.some Jvm.ClassFile.FieldType.int)), (Jvm.Cond.methodLink "JoinedLeavesLaw" (40 : Nat) ({ cls := "JoinedLeavesModel", name := "relation", desc := "(I)I" } : Jvm.MethodName)), (Jvm.Cond.instanceMethod ({ cls := "JoinedLeavesModel", name := "relation", desc := "(I)I" } : Jvm.MethodName)), (Jvm.Cond.selects "JoinedLeavesModel" ({ cls := "JoinedLeavesModel", name := "relation", desc := "(I)I" } : Jvm.MethodName) ({ cls := "JoinedLeavesModel", name := "relation", desc := "(I)I" } : Jvm.MethodName)), (Jvm.Cond.code ({ cls := "JoinedLeavesModel", name := "relation", desc := "(I)I" } : Jvm.MethodName) prog_8_method_5_code (2 : Nat) (Option.some Jvm.ClassFile.FieldType.int)), (Jvm.Cond.methodLink "JoinedLeavesLaw" (45 : Nat) ({ cls := "JoinedLeavesModel", name := "add", desc := "(IIII)Z" } : Jvm.MethodName)), (Jvm.Cond.instanceMethod ({ cls := "JoinedLeavesModel", name := "add", desc := "(IIII)Z" } : Jvm.MethodName)), (Jvm.Cond.selects "JoinedLeavesModel" ({ cls := "JoinedLeavesModel", name := "add", desc := "(IIII)Z" } : Jvm.MethodName) ({ cls := "JoinedLeavesModel", name := "add", desc := "(IIII)Z" } : Jvm.MethodName)), (Jvm.Cond.code ({ cls := "JoinedLeavesModel", name := "add", desc := "(IIII)Z" } : Jvm.MethodName) prog_8_method_8_code (8 : Nat) (Option.some Jvm.ClassFile.FieldType.boolean)), (Jvm.Cond.methodLink "JoinedLeavesModel" (63 : Nat) ({ cls := "JoinedLeavesModel", name := "isRelation", desc := "(I)Z" } : Jvm.MethodName)), (Jvm.Cond.instanceMethod ({ cls := "JoinedLeavesModel", name := "isRelation", desc := "(I)Z" } : Jvm.MethodName)), (Jvm.Cond.code ({ cls := "JoinedLeavesModel", name := "isRelation", desc := "(I)Z" } : Jvm.MethodName) prog_8_method_3_code (2 : Nat) (Option.some Jvm.ClassFile.FieldType.boolean)), (Jvm.Cond.methodLink "JoinedLeavesModel" (67 : Nat) ({ cls := "JoinedLeavesModel", name := "placeOf", desc := "(IIII)I" } : Jvm.MethodName)), (Jvm.Cond.instanceMethod ({ cls := "JoinedLeavesModel", name := "placeOf", desc := "(IIII)I" } : Jvm.MethodName)), (Jvm.Cond.code ({ cls := "JoinedLeavesModel", name := "placeOf", desc := "(IIII)I" } : Jvm.MethodName) prog_8_method_7_code (9 : Nat) (Option.some Jvm.ClassFile.FieldType.int)), (Jvm.Cond.methodLink "JoinedLeavesModel" (59 : Nat) ({ cls := "JoinedLeavesModel", name := "pick", desc := "(IIII)I" } : Jvm.MethodName)), (Jvm.Cond.static ({ cls := "JoinedLeavesModel", name := "pick", desc := "(IIII)I" } : Jvm.MethodName)), (Jvm.Cond.code ({ cls := "JoinedLeavesModel", name := "pick", desc := "(IIII)I" } : Jvm.MethodName) prog_8_method_6_code (4 : Nat) (Option.some Jvm.ClassFile.FieldType.int)), (Jvm.Cond.methodLink "JoinedLeavesLaw" (49 : Nat) ({ cls := "JoinedLeavesModel", name := "drop", desc := "(IIII)Z" } : Jvm.MethodName)), (Jvm.Cond.instanceMethod ({ cls := "JoinedLeavesModel", name := "drop", desc := "(IIII)Z" } : Jvm.MethodName)), (Jvm.Cond.selects "JoinedLeavesModel" ({ cls := "JoinedLeavesModel", name := "drop", desc := "(IIII)Z" } : Jvm.MethodName) ({ cls := "JoinedLeavesModel", name := "drop", desc := "(IIII)Z" } : Jvm.MethodName)), (Jvm.Cond.code ({ cls := "JoinedLeavesModel", name := "drop", desc := "(IIII)Z" } : Jvm.MethodName) prog_8_method_9_code (7 : Nat) (Option.some Jvm.ClassFile.FieldType.boolean)), (Jvm.Cond.methodLink "JoinedLeavesLaw" (53 : Nat) ({ cls := "JoinedLeavesModel", name := "rows", desc := "(I)I" } : Jvm.MethodName)), (Jvm.Cond.instanceMethod ({ cls := "JoinedLeavesModel", name := "rows", desc := "(I)I" } : Jvm.MethodName)), (Jvm.Cond.selects "JoinedLeavesModel" ({ cls := "JoinedLeavesModel", name := "rows", desc := "(I)I" } : Jvm.MethodName) ({ cls := "JoinedLeavesModel", name := "rows", desc := "(I)I" } : Jvm.MethodName)), (Jvm.Cond.code ({ cls := "JoinedLeavesModel", name := "rows", desc := "(I)I" } : Jvm.MethodName) prog_8_method_10_code (2 : Nat) (Option.some Jvm.ClassFile.FieldType.int)), (Jvm.Cond.methodLink "JoinedLeavesLaw" (58 : Nat) ({ cls := "JoinedLeavesModel", name := "atom", desc := "(IIII)I" } : Jvm.MethodName)), (Jvm.Cond.instanceMethod ({ cls := "JoinedLeavesModel", name := "atom", desc := "(IIII)I" } : Jvm.MethodName)), (Jvm.Cond.selects "JoinedLeavesModel" ({ cls := "JoinedLeavesModel", name := "atom", desc := "(IIII)I" } : Jvm.MethodName) ({ cls := "JoinedLeavesModel", name := "atom", desc := "(IIII)I" } : Jvm.MethodName)), (Jvm.Cond.code ({ cls := "JoinedLeavesModel", name := "atom", desc := "(IIII)I" } : Jvm.MethodName) prog_8_method_11_code (8 : Nat) (Option.some Jvm.ClassFile.FieldType.int)), (Jvm.Cond.methodLink "JoinedLeavesLaw" (62 : Nat) ({ cls := "JoinedLeavesModel", name := "head", desc := "(I)I" } : Jvm.MethodName)), (Jvm.Cond.instanceMethod ({ cls := "JoinedLeavesModel", name := "head", desc := "(I)I" } : Jvm.MethodName)), (Jvm.Cond.selects "JoinedLeavesModel" ({ cls := "JoinedLeavesModel", name := "head", desc := "(I)I" } : Jvm.MethodName) ({ cls := "JoinedLeavesModel", name := "head", desc := "(I)I" } : Jvm.MethodName)), (Jvm.Cond.code ({ cls := "JoinedLeavesModel", name := "head", desc := "(I)I" } : Jvm.MethodName) prog_8_method_12_code (4 : Nat) (Option.some Jvm.ClassFile.FieldType.int)), (Jvm.Cond.methodLink "JoinedLeavesLaw" (66 : Nat) ({ cls := "JoinedLeavesModel", name := "clear", desc := "()I" } : Jvm.MethodName)), (Jvm.Cond.instanceMethod ({ cls := "JoinedLeavesModel", name := "clear", desc := "()I" } : Jvm.MethodName)), (Jvm.Cond.selects "JoinedLeavesModel" ({ cls := "JoinedLeavesModel", name := "clear", desc := "()I" } : Jvm.MethodName) ({ cls := "JoinedLeavesModel", name := "clear", desc := "()I" } : Jvm.MethodName)), (Jvm.Cond.code ({ cls := "JoinedLeavesModel", name := "clear", desc := "()I" } : Jvm.MethodName) prog_8_method_13_code (2 : Nat) (Option.some Jvm.ClassFile.FieldType.int)), (Jvm.Cond.methodLink "JoinedLeavesLaw" (71 : Nat) ({ cls := "JoinedLeavesModel", name := "tree", desc := "()Z" } : Jvm.MethodName)), (Jvm.Cond.instanceMethod ({ cls := "JoinedLeavesModel", name := "tree", desc := "()Z" } : Jvm.MethodName)), (Jvm.Cond.selects "JoinedLeavesModel" ({ cls := "JoinedLeavesModel", name := "tree", desc := "()Z" } : Jvm.MethodName) ({ cls := "JoinedLeavesModel", name := "tree", desc := "()Z" } : Jvm.MethodName)), (Jvm.Cond.code ({ cls := "JoinedLeavesModel", name := "tree", desc := "()Z" } : Jvm.MethodName) prog_8_method_19_code (1 : Nat) (Option.some Jvm.ClassFile.FieldType.boolean)), (Jvm.Cond.methodLink "JoinedLeavesModel" (93 : Nat) ({ cls := "JoinedLeavesModel", name := "isTree", desc := "()Z" } : Jvm.MethodName)), (Jvm.Cond.instanceMethod ({ cls := "JoinedLeavesModel", name := "isTree", desc := "()Z" } : Jvm.MethodName))]
def jW_10 : List Cond := [(Jvm.Cond.code ({ cls := "JoinedLeavesModel", name := "isTree", desc := "()Z" } : Jvm.MethodName) prog_8_method_18_code (1 : Nat) (Option.some Jvm.ClassFile.FieldType.boolean)), (Jvm.Cond.methodLink "JoinedLeavesModel" (90 : Nat) ({ cls := "JoinedLeavesModel", name := "hang", desc := "()V" } : Jvm.MethodName)), (Jvm.Cond.instanceMethod ({ cls := "JoinedLeavesModel", name := "hang", desc := "()V" } : Jvm.MethodName)), (Jvm.Cond.code ({ cls := "JoinedLeavesModel", name := "hang", desc := "()V" } : Jvm.MethodName) prog_8_method_17_code (4 : Nat) (Option.none : Option Jvm.ClassFile.FieldType)), (Jvm.Cond.methodLink "JoinedLeavesModel" (80 : Nat) ({ cls := "JoinedLeavesModel", name := "isLeft", desc := "(I)Z" } : Jvm.MethodName)), (Jvm.Cond.instanceMethod ({ cls := "JoinedLeavesModel", name := "isLeft", desc := "(I)Z" } : Jvm.MethodName)), (Jvm.Cond.code ({ cls := "JoinedLeavesModel", name := "isLeft", desc := "(I)Z" } : Jvm.MethodName) prog_8_method_15_code (2 : Nat) (Option.some Jvm.ClassFile.FieldType.boolean)), (Jvm.Cond.methodLink "JoinedLeavesModel" (87 : Nat) ({ cls := "JoinedLeavesModel", name := "holder", desc := "(I)I" } : Jvm.MethodName)), (Jvm.Cond.instanceMethod ({ cls := "JoinedLeavesModel", name := "holder", desc := "(I)I" } : Jvm.MethodName)), (Jvm.Cond.code ({ cls := "JoinedLeavesModel", name := "holder", desc := "(I)I" } : Jvm.MethodName) prog_8_method_16_code (5 : Nat) (Option.some Jvm.ClassFile.FieldType.int)), (Jvm.Cond.methodLink "JoinedLeavesModel" (83 : Nat) ({ cls := "JoinedLeavesModel", name := "setOf", desc := "(I)I" } : Jvm.MethodName)), (Jvm.Cond.instanceMethod ({ cls := "JoinedLeavesModel", name := "setOf", desc := "(I)I" } : Jvm.MethodName)), (Jvm.Cond.code ({ cls := "JoinedLeavesModel", name := "setOf", desc := "(I)I" } : Jvm.MethodName) prog_8_method_14_code (4 : Nat) (Option.some Jvm.ClassFile.FieldType.int)), (Jvm.Cond.methodLink "JoinedLeavesLaw" (75 : Nat) ({ cls := "JoinedLeavesModel", name := "parent", desc := "(I)I" } : Jvm.MethodName)), (Jvm.Cond.instanceMethod ({ cls := "JoinedLeavesModel", name := "parent", desc := "(I)I" } : Jvm.MethodName)), (Jvm.Cond.selects "JoinedLeavesModel" ({ cls := "JoinedLeavesModel", name := "parent", desc := "(I)I" } : Jvm.MethodName) ({ cls := "JoinedLeavesModel", name := "parent", desc := "(I)I" } : Jvm.MethodName)), (Jvm.Cond.code ({ cls := "JoinedLeavesModel", name := "parent", desc := "(I)I" } : Jvm.MethodName) prog_8_method_20_code (2 : Nat) (Option.some Jvm.ClassFile.FieldType.int)), (Jvm.Cond.methodLink "JoinedLeavesModel" (97 : Nat) ({ cls := "JoinedLeavesModel", name := "isAtom", desc := "(I)Z" } : Jvm.MethodName)), (Jvm.Cond.instanceMethod ({ cls := "JoinedLeavesModel", name := "isAtom", desc := "(I)Z" } : Jvm.MethodName)), (Jvm.Cond.code ({ cls := "JoinedLeavesModel", name := "isAtom", desc := "(I)Z" } : Jvm.MethodName) prog_8_method_4_code (2 : Nat) (Option.some Jvm.ClassFile.FieldType.boolean)), (Jvm.Cond.methodLink "JoinedLeavesLaw" (79 : Nat) ({ cls := "JoinedLeavesModel", name := "turn", desc := "(I)I" } : Jvm.MethodName)), (Jvm.Cond.instanceMethod ({ cls := "JoinedLeavesModel", name := "turn", desc := "(I)I" } : Jvm.MethodName)), (Jvm.Cond.selects "JoinedLeavesModel" ({ cls := "JoinedLeavesModel", name := "turn", desc := "(I)I" } : Jvm.MethodName) ({ cls := "JoinedLeavesModel", name := "turn", desc := "(I)I" } : Jvm.MethodName)), (Jvm.Cond.code ({ cls := "JoinedLeavesModel", name := "turn", desc := "(I)I" } : Jvm.MethodName) prog_8_method_21_code (2 : Nat) (Option.some Jvm.ClassFile.FieldType.int)), (Jvm.Cond.methodLink "JoinedLeavesLaw" (85 : Nat) ({ cls := "JoinedLeavesModel", name := "ways", desc := "()J" } : Jvm.MethodName)), (Jvm.Cond.instanceMethod ({ cls := "JoinedLeavesModel", name := "ways", desc := "()J" } : Jvm.MethodName)), (Jvm.Cond.selects "JoinedLeavesModel" ({ cls := "JoinedLeavesModel", name := "ways", desc := "()J" } : Jvm.MethodName) ({ cls := "JoinedLeavesModel", name := "ways", desc := "()J" } : Jvm.MethodName)), (Jvm.Cond.code ({ cls := "JoinedLeavesModel", name := "ways", desc := "()J" } : Jvm.MethodName) prog_8_method_26_code (1 : Nat) (Option.some Jvm.ClassFile.FieldType.long)), (Jvm.Cond.methodLink "JoinedLeavesModel" (118 : Nat) ({ cls := "JoinedLeavesModel", name := "look", desc := "()V" } : Jvm.MethodName)), (Jvm.Cond.instanceMethod ({ cls := "JoinedLeavesModel", name := "look", desc := "()V" } : Jvm.MethodName)), (Jvm.Cond.code ({ cls := "JoinedLeavesModel", name := "look", desc := "()V" } : Jvm.MethodName) prog_8_method_25_code (3 : Nat) (Option.none : Option Jvm.ClassFile.FieldType)), (Jvm.Cond.methodLink "JoinedLeavesModel" (107 : Nat) ({ cls := "JoinedLeavesModel", name := "note", desc := "()V" } : Jvm.MethodName)), (Jvm.Cond.instanceMethod ({ cls := "JoinedLeavesModel", name := "note", desc := "()V" } : Jvm.MethodName)), (Jvm.Cond.code ({ cls := "JoinedLeavesModel", name := "note", desc := "()V" } : Jvm.MethodName) prog_8_method_24_code (3 : Nat) (Option.none : Option Jvm.ClassFile.FieldType)), (Jvm.Cond.methodLink "JoinedLeavesModel" (110 : Nat) ({ cls := "JoinedLeavesModel", name := "fits", desc := "(II)Z" } : Jvm.MethodName)), (Jvm.Cond.instanceMethod ({ cls := "JoinedLeavesModel", name := "fits", desc := "(II)Z" } : Jvm.MethodName)), (Jvm.Cond.code ({ cls := "JoinedLeavesModel", name := "fits", desc := "(II)Z" } : Jvm.MethodName) prog_8_method_23_code (9 : Nat) (Option.some Jvm.ClassFile.FieldType.boolean)), (Jvm.Cond.methodLink "JoinedLeavesModel" (100 : Nat) ({ cls := "JoinedLeavesModel", name := "before", desc := "(I)I" } : Jvm.MethodName)), (Jvm.Cond.instanceMethod ({ cls := "JoinedLeavesModel", name := "before", desc := "(I)I" } : Jvm.MethodName)), (Jvm.Cond.code ({ cls := "JoinedLeavesModel", name := "before", desc := "(I)I" } : Jvm.MethodName) prog_8_method_22_code (4 : Nat) (Option.some Jvm.ClassFile.FieldType.int)), (Jvm.Cond.methodLink "JoinedLeavesLaw" (92 : Nat) ({ cls := "JoinedLeavesModel", name := "live", desc := "(I)I" } : Jvm.MethodName)), (Jvm.Cond.instanceMethod ({ cls := "JoinedLeavesModel", name := "live", desc := "(I)I" } : Jvm.MethodName)), (Jvm.Cond.selects "JoinedLeavesModel" ({ cls := "JoinedLeavesModel", name := "live", desc := "(I)I" } : Jvm.MethodName) ({ cls := "JoinedLeavesModel", name := "live", desc := "(I)I" } : Jvm.MethodName)), (Jvm.Cond.code ({ cls := "JoinedLeavesModel", name := "live", desc := "(I)I" } : Jvm.MethodName) prog_8_method_27_code (4 : Nat) (Option.some Jvm.ClassFile.FieldType.int)), (Jvm.Cond.methodLink "JoinedLeavesLaw" (95 : Nat) ({ cls := "JoinedLeavesModel", name := "answers", desc := "()I" } : Jvm.MethodName)), (Jvm.Cond.instanceMethod ({ cls := "JoinedLeavesModel", name := "answers", desc := "()I" } : Jvm.MethodName)), (Jvm.Cond.selects "JoinedLeavesModel" ({ cls := "JoinedLeavesModel", name := "answers", desc := "()I" } : Jvm.MethodName) ({ cls := "JoinedLeavesModel", name := "answers", desc := "()I" } : Jvm.MethodName)), (Jvm.Cond.code ({ cls := "JoinedLeavesModel", name := "answers", desc := "()I" } : Jvm.MethodName) prog_8_method_30_code (1 : Nat) (Option.some Jvm.ClassFile.FieldType.int))]
def jW_11 : List Cond := [(Jvm.Cond.methodLink "JoinedLeavesModel" (124 : Nat) ({ cls := "JoinedLeavesModel", name := "codeOfAnswers", desc := "()I" } : Jvm.MethodName)), (Jvm.Cond.instanceMethod ({ cls := "JoinedLeavesModel", name := "codeOfAnswers", desc := "()I" } : Jvm.MethodName)), (Jvm.Cond.code ({ cls := "JoinedLeavesModel", name := "codeOfAnswers", desc := "()I" } : Jvm.MethodName) prog_8_method_29_code (1 : Nat) (Option.some Jvm.ClassFile.FieldType.int)), (Jvm.Cond.methodLink "JoinedLeavesModel" (121 : Nat) ({ cls := "JoinedLeavesModel", name := "isHeadBound", desc := "()Z" } : Jvm.MethodName)), (Jvm.Cond.instanceMethod ({ cls := "JoinedLeavesModel", name := "isHeadBound", desc := "()Z" } : Jvm.MethodName)), (Jvm.Cond.code ({ cls := "JoinedLeavesModel", name := "isHeadBound", desc := "()Z" } : Jvm.MethodName) prog_8_method_28_code (3 : Nat) (Option.some Jvm.ClassFile.FieldType.boolean)), (Jvm.Cond.methodLink "JoinedLeavesLaw" (99 : Nat) ({ cls := "JoinedLeavesModel", name := "answer", desc := "(II)I" } : Jvm.MethodName)), (Jvm.Cond.instanceMethod ({ cls := "JoinedLeavesModel", name := "answer", desc := "(II)I" } : Jvm.MethodName)), (Jvm.Cond.selects "JoinedLeavesModel" ({ cls := "JoinedLeavesModel", name := "answer", desc := "(II)I" } : Jvm.MethodName) ({ cls := "JoinedLeavesModel", name := "answer", desc := "(II)I" } : Jvm.MethodName)), (Jvm.Cond.code ({ cls := "JoinedLeavesModel", name := "answer", desc := "(II)I" } : Jvm.MethodName) prog_8_method_31_code (3 : Nat) (Option.some Jvm.ClassFile.FieldType.int)), (Jvm.Cond.selects "JoinedLeaves$Relation" ({ cls := "JoinedLeaves$Relation", name := "put", desc := "(III)Z" } : Jvm.MethodName) ({ cls := "JoinedLeaves$Relation", name := "put", desc := "(III)Z" } : Jvm.MethodName)), (Jvm.Cond.selects "JoinedLeaves$Relation" ({ cls := "JoinedLeaves$Relation", name := "pack", desc := "(III)I" } : Jvm.MethodName) ({ cls := "JoinedLeaves$Relation", name := "pack", desc := "(III)I" } : Jvm.MethodName)), (Jvm.Cond.selects "JoinedLeaves$Relation" ({ cls := "JoinedLeaves$Relation", name := "placeOf", desc := "(I)I" } : Jvm.MethodName) ({ cls := "JoinedLeaves$Relation", name := "placeOf", desc := "(I)I" } : Jvm.MethodName)), (Jvm.Cond.selects "JoinedLeaves$Relation" ({ cls := "JoinedLeaves$Relation", name := "take", desc := "(III)Z" } : Jvm.MethodName) ({ cls := "JoinedLeaves$Relation", name := "take", desc := "(III)Z" } : Jvm.MethodName)), (Jvm.Cond.selects "JoinedLeaves$Question" ({ cls := "JoinedLeaves$Question", name := "putAtom", desc := "(LJoinedLeaves$Relation;III)Z" } : Jvm.MethodName) ({ cls := "JoinedLeaves$Question", name := "putAtom", desc := "(LJoinedLeaves$Relation;III)Z" } : Jvm.MethodName)), (Jvm.Cond.selects "JoinedLeaves$Atom" ({ cls := "JoinedLeaves$Atom", name := "bind", desc := "(LJoinedLeaves$Relation;III)Z" } : Jvm.MethodName) ({ cls := "JoinedLeaves$Atom", name := "bind", desc := "(LJoinedLeaves$Relation;III)Z" } : Jvm.MethodName)), (Jvm.Cond.selects "JoinedLeaves$Hanging" ({ cls := "JoinedLeaves$Hanging", name := "hangAtoms", desc := "()V" } : Jvm.MethodName) ({ cls := "JoinedLeaves$Hanging", name := "hangAtoms", desc := "()V" } : Jvm.MethodName)), (Jvm.Cond.selects "JoinedLeaves$Hanging" ({ cls := "JoinedLeaves$Hanging", name := "hangLeastEar", desc := "()V" } : Jvm.MethodName) ({ cls := "JoinedLeaves$Hanging", name := "hangLeastEar", desc := "()V" } : Jvm.MethodName)), (Jvm.Cond.selects "JoinedLeaves$Hanging" ({ cls := "JoinedLeaves$Hanging", name := "leastHolderOf", desc := "(I)I" } : Jvm.MethodName) ({ cls := "JoinedLeaves$Hanging", name := "leastHolderOf", desc := "(I)I" } : Jvm.MethodName)), (Jvm.Cond.selects "JoinedLeaves$Hanging" ({ cls := "JoinedLeaves$Hanging", name := "variablesOf", desc := "(I)I" } : Jvm.MethodName) ({ cls := "JoinedLeaves$Hanging", name := "variablesOf", desc := "(I)I" } : Jvm.MethodName)), (Jvm.Cond.selects "JoinedLeaves$Question" ({ cls := "JoinedLeaves$Question", name := "putInHead", desc := "(I)Z" } : Jvm.MethodName) ({ cls := "JoinedLeaves$Question", name := "putInHead", desc := "(I)Z" } : Jvm.MethodName)), (Jvm.Cond.selects "JoinedLeaves$Question" ({ cls := "JoinedLeaves$Question", name := "empty", desc := "()V" } : Jvm.MethodName) ({ cls := "JoinedLeaves$Question", name := "empty", desc := "()V" } : Jvm.MethodName)), (Jvm.Cond.selects "JoinedLeaves$Hanging" ({ cls := "JoinedLeaves$Hanging", name := "isTree", desc := "()Z" } : Jvm.MethodName) ({ cls := "JoinedLeaves$Hanging", name := "isTree", desc := "()Z" } : Jvm.MethodName)), (Jvm.Cond.selects "JoinedLeaves" ({ cls := "JoinedLeaves", name := "requireTree", desc := "()V" } : Jvm.MethodName) ({ cls := "JoinedLeaves", name := "requireTree", desc := "()V" } : Jvm.MethodName)), (Jvm.Cond.selects "java/lang/Throwable" ({ cls := "java/lang/Throwable", name := "fillInStackTrace", desc := "(I)Ljava/lang/Throwable;" } : Jvm.MethodName) ({ cls := "java/lang/Throwable", name := "fillInStackTrace", desc := "(I)Ljava/lang/Throwable;" } : Jvm.MethodName)), (Jvm.Cond.selects "JoinedLeaves$Join" ({ cls := "JoinedLeaves$Join", name := "countWays", desc := "()J" } : Jvm.MethodName) ({ cls := "JoinedLeaves$Join", name := "countWays", desc := "()J" } : Jvm.MethodName)), (Jvm.Cond.selects "JoinedLeaves$Hanging" ({ cls := "JoinedLeaves$Hanging", name := "root", desc := "()I" } : Jvm.MethodName) ({ cls := "JoinedLeaves$Hanging", name := "root", desc := "()I" } : Jvm.MethodName)), (Jvm.Cond.selects "JoinedLeaves$Join" ({ cls := "JoinedLeaves$Join", name := "compareRows", desc := "()V" } : Jvm.MethodName) ({ cls := "JoinedLeaves$Join", name := "compareRows", desc := "()V" } : Jvm.MethodName)), (Jvm.Cond.selects "JoinedLeaves$Atom" ({ cls := "JoinedLeaves$Atom", name := "rowsAgreeingWithThemselves", desc := "()I" } : Jvm.MethodName) ({ cls := "JoinedLeaves$Atom", name := "rowsAgreeingWithThemselves", desc := "()I" } : Jvm.MethodName)), (Jvm.Cond.selects "JoinedLeaves$Atom" ({ cls := "JoinedLeaves$Atom", name := "agreesWithItself", desc := "(I)Z" } : Jvm.MethodName) ({ cls := "JoinedLeaves$Atom", name := "agreesWithItself", desc := "(I)Z" } : Jvm.MethodName)), (Jvm.Cond.selects "JoinedLeaves$Relation" ({ cls := "JoinedLeaves$Relation", name := "valueAt", desc := "(II)I" } : Jvm.MethodName) ({ cls := "JoinedLeaves$Relation", name := "valueAt", desc := "(II)I" } : Jvm.MethodName)), (Jvm.Cond.selects "JoinedLeaves$Atom" ({ cls := "JoinedLeaves$Atom", name := "rowsAgreeingWith", desc := "(LJoinedLeaves$Atom;I)I" } : Jvm.MethodName) ({ cls := "JoinedLeaves$Atom", name := "rowsAgreeingWith", desc := "(LJoinedLeaves$Atom;I)I" } : Jvm.MethodName)), (Jvm.Cond.selects "JoinedLeaves$Atom" ({ cls := "JoinedLeaves$Atom", name := "rowsAllowing", desc := "(II)I" } : Jvm.MethodName) ({ cls := "JoinedLeaves$Atom", name := "rowsAllowing", desc := "(II)I" } : Jvm.MethodName)), (Jvm.Cond.selects "JoinedLeaves$Join" ({ cls := "JoinedLeaves$Join", name := "startWeights", desc := "()V" } : Jvm.MethodName) ({ cls := "JoinedLeaves$Join", name := "startWeights", desc := "()V" } : Jvm.MethodName)), (Jvm.Cond.selects "JoinedLeaves$Join" ({ cls := "JoinedLeaves$Join", name := "weighIntoParent", desc := "(I)V" } : Jvm.MethodName) ({ cls := "JoinedLeaves$Join", name := "weighIntoParent", desc := "(I)V" } : Jvm.MethodName)), (Jvm.Cond.selects "JoinedLeaves$Join" ({ cls := "JoinedLeaves$Join", name := "weightOf", desc := "(II)J" } : Jvm.MethodName) ({ cls := "JoinedLeaves$Join", name := "weightOf", desc := "(II)J" } : Jvm.MethodName)), (Jvm.Cond.selects "JoinedLeaves$Join" ({ cls := "JoinedLeaves$Join", name := "countLiveRows", desc := "(I)I" } : Jvm.MethodName) ({ cls := "JoinedLeaves$Join", name := "countLiveRows", desc := "(I)I" } : Jvm.MethodName)), (Jvm.Cond.selects "JoinedLeaves$Join" ({ cls := "JoinedLeaves$Join", name := "keepLiveRows", desc := "([I)V" } : Jvm.MethodName) ({ cls := "JoinedLeaves$Join", name := "keepLiveRows", desc := "([I)V" } : Jvm.MethodName)), (Jvm.Cond.selects "JoinedLeaves$Join" ({ cls := "JoinedLeaves$Join", name := "keepRowsOfParent", desc := "([II)V" } : Jvm.MethodName) ({ cls := "JoinedLeaves$Join", name := "keepRowsOfParent", desc := "([II)V" } : Jvm.MethodName)), (Jvm.Cond.selects "JoinedLeaves$Join" ({ cls := "JoinedLeaves$Join", name := "keepRowsOfChild", desc := "([II)V" } : Jvm.MethodName) ({ cls := "JoinedLeaves$Join", name := "keepRowsOfChild", desc := "([II)V" } : Jvm.MethodName)), (Jvm.Cond.selects "JoinedLeaves" ({ cls := "JoinedLeaves", name := "findAnswers", desc := "()V" } : Jvm.MethodName) ({ cls := "JoinedLeaves", name := "findAnswers", desc := "()V" } : Jvm.MethodName)), (Jvm.Cond.selects "JoinedLeaves$Question" ({ cls := "JoinedLeaves$Question", name := "bindsHead", desc := "()Z" } : Jvm.MethodName) ({ cls := "JoinedLeaves$Question", name := "bindsHead", desc := "()Z" } : Jvm.MethodName)), (Jvm.Cond.selects "JoinedLeaves$Join" ({ cls := "JoinedLeaves$Join", name := "search", desc := "()V" } : Jvm.MethodName) ({ cls := "JoinedLeaves$Join", name := "search", desc := "()V" } : Jvm.MethodName)), (Jvm.Cond.selects "JoinedLeaves$Join" ({ cls := "JoinedLeaves$Join", name := "hasWay", desc := "([I)Z" } : Jvm.MethodName) ({ cls := "JoinedLeaves$Join", name := "hasWay", desc := "([I)Z" } : Jvm.MethodName)), (Jvm.Cond.selects "JoinedLeaves$Join" ({ cls := "JoinedLeaves$Join", name := "choose", desc := "(II)V" } : Jvm.MethodName) ({ cls := "JoinedLeaves$Join", name := "choose", desc := "(II)V" } : Jvm.MethodName)), (Jvm.Cond.selects "JoinedLeaves$Join" ({ cls := "JoinedLeaves$Join", name := "storeAnswer", desc := "(I)V" } : Jvm.MethodName) ({ cls := "JoinedLeaves$Join", name := "storeAnswer", desc := "(I)V" } : Jvm.MethodName)), (Jvm.Cond.selects "JoinedLeaves$Join" ({ cls := "JoinedLeaves$Join", name := "liveValuesOf", desc := "(I[I)I" } : Jvm.MethodName) ({ cls := "JoinedLeaves$Join", name := "liveValuesOf", desc := "(I[I)I" } : Jvm.MethodName)), (Jvm.Cond.selects "JoinedLeaves$Question" ({ cls := "JoinedLeaves$Question", name := "atomWith", desc := "(I)I" } : Jvm.MethodName) ({ cls := "JoinedLeaves$Question", name := "atomWith", desc := "(I)I" } : Jvm.MethodName))]
def jW_12 : List Cond := [(Jvm.Cond.selects "JoinedLeaves$Atom" ({ cls := "JoinedLeaves$Atom", name := "valuesOf", desc := "(II)I" } : Jvm.MethodName) ({ cls := "JoinedLeaves$Atom", name := "valuesOf", desc := "(II)I" } : Jvm.MethodName)), (Jvm.Cond.selects "JoinedLeaves$Join" ({ cls := "JoinedLeaves$Join", name := "keepRowsWith", desc := "(III)V" } : Jvm.MethodName) ({ cls := "JoinedLeaves$Join", name := "keepRowsWith", desc := "(III)V" } : Jvm.MethodName)), (Jvm.Cond.selects "JoinedLeaves$Join" ({ cls := "JoinedLeaves$Join", name := "valueInAnswer", desc := "(II)I" } : Jvm.MethodName) ({ cls := "JoinedLeaves$Join", name := "valueInAnswer", desc := "(II)I" } : Jvm.MethodName)), (Jvm.Cond.selects "JoinedLeavesModel" ({ cls := "JoinedLeavesModel", name := "isRelation", desc := "(I)Z" } : Jvm.MethodName) ({ cls := "JoinedLeavesModel", name := "isRelation", desc := "(I)Z" } : Jvm.MethodName)), (Jvm.Cond.selects "JoinedLeavesModel" ({ cls := "JoinedLeavesModel", name := "placeOf", desc := "(IIII)I" } : Jvm.MethodName) ({ cls := "JoinedLeavesModel", name := "placeOf", desc := "(IIII)I" } : Jvm.MethodName)), (Jvm.Cond.selects "JoinedLeavesModel" ({ cls := "JoinedLeavesModel", name := "isTree", desc := "()Z" } : Jvm.MethodName) ({ cls := "JoinedLeavesModel", name := "isTree", desc := "()Z" } : Jvm.MethodName)), (Jvm.Cond.selects "JoinedLeavesModel" ({ cls := "JoinedLeavesModel", name := "hang", desc := "()V" } : Jvm.MethodName) ({ cls := "JoinedLeavesModel", name := "hang", desc := "()V" } : Jvm.MethodName)), (Jvm.Cond.selects "JoinedLeavesModel" ({ cls := "JoinedLeavesModel", name := "isLeft", desc := "(I)Z" } : Jvm.MethodName) ({ cls := "JoinedLeavesModel", name := "isLeft", desc := "(I)Z" } : Jvm.MethodName)), (Jvm.Cond.selects "JoinedLeavesModel" ({ cls := "JoinedLeavesModel", name := "holder", desc := "(I)I" } : Jvm.MethodName) ({ cls := "JoinedLeavesModel", name := "holder", desc := "(I)I" } : Jvm.MethodName)), (Jvm.Cond.selects "JoinedLeavesModel" ({ cls := "JoinedLeavesModel", name := "setOf", desc := "(I)I" } : Jvm.MethodName) ({ cls := "JoinedLeavesModel", name := "setOf", desc := "(I)I" } : Jvm.MethodName)), (Jvm.Cond.selects "JoinedLeavesModel" ({ cls := "JoinedLeavesModel", name := "isAtom", desc := "(I)Z" } : Jvm.MethodName) ({ cls := "JoinedLeavesModel", name := "isAtom", desc := "(I)Z" } : Jvm.MethodName)), (Jvm.Cond.selects "JoinedLeavesModel" ({ cls := "JoinedLeavesModel", name := "look", desc := "()V" } : Jvm.MethodName) ({ cls := "JoinedLeavesModel", name := "look", desc := "()V" } : Jvm.MethodName)), (Jvm.Cond.selects "JoinedLeavesModel" ({ cls := "JoinedLeavesModel", name := "note", desc := "()V" } : Jvm.MethodName) ({ cls := "JoinedLeavesModel", name := "note", desc := "()V" } : Jvm.MethodName)), (Jvm.Cond.selects "JoinedLeavesModel" ({ cls := "JoinedLeavesModel", name := "fits", desc := "(II)Z" } : Jvm.MethodName) ({ cls := "JoinedLeavesModel", name := "fits", desc := "(II)Z" } : Jvm.MethodName)), (Jvm.Cond.selects "JoinedLeavesModel" ({ cls := "JoinedLeavesModel", name := "before", desc := "(I)I" } : Jvm.MethodName) ({ cls := "JoinedLeavesModel", name := "before", desc := "(I)I" } : Jvm.MethodName)), (Jvm.Cond.selects "JoinedLeavesModel" ({ cls := "JoinedLeavesModel", name := "codeOfAnswers", desc := "()I" } : Jvm.MethodName) ({ cls := "JoinedLeavesModel", name := "codeOfAnswers", desc := "()I" } : Jvm.MethodName)), (Jvm.Cond.selects "JoinedLeavesModel" ({ cls := "JoinedLeavesModel", name := "isHeadBound", desc := "()Z" } : Jvm.MethodName) ({ cls := "JoinedLeavesModel", name := "isHeadBound", desc := "()Z" } : Jvm.MethodName))]
def jW : List Cond := jW_0 ++ (jW_1 ++ (jW_2 ++ (jW_3 ++ (jW_4 ++ (jW_5 ++ (jW_6 ++ (jW_7 ++ (jW_8 ++ (jW_9 ++ (jW_10 ++ (jW_11 ++ (jW_12))))))))))))
theorem jC_0 : ∀ w ∈ jW_0, w ∈ jW := fun _ h => List.mem_append_left _ h
theorem jC_1 : ∀ w ∈ jW_1, w ∈ jW := fun _ h => List.mem_append_right _ (List.mem_append_left _ h)
theorem jC_2 : ∀ w ∈ jW_2, w ∈ jW := fun _ h => List.mem_append_right _ (List.mem_append_right _ (List.mem_append_left _ h))
theorem jC_3 : ∀ w ∈ jW_3, w ∈ jW := fun _ h => List.mem_append_right _ (List.mem_append_right _ (List.mem_append_right _ (List.mem_append_left _ h)))
theorem jC_4 : ∀ w ∈ jW_4, w ∈ jW := fun _ h => List.mem_append_right _ (List.mem_append_right _ (List.mem_append_right _ (List.mem_append_right _ (List.mem_append_left _ h))))
theorem jC_5 : ∀ w ∈ jW_5, w ∈ jW := fun _ h => List.mem_append_right _ (List.mem_append_right _ (List.mem_append_right _ (List.mem_append_right _ (List.mem_append_right _ (List.mem_append_left _ h)))))
theorem jC_6 : ∀ w ∈ jW_6, w ∈ jW := fun _ h => List.mem_append_right _ (List.mem_append_right _ (List.mem_append_right _ (List.mem_append_right _ (List.mem_append_right _ (List.mem_append_right _ (List.mem_append_left _ h))))))
theorem jC_7 : ∀ w ∈ jW_7, w ∈ jW := fun _ h => List.mem_append_right _ (List.mem_append_right _ (List.mem_append_right _ (List.mem_append_right _ (List.mem_append_right _ (List.mem_append_right _ (List.mem_append_right _ (List.mem_append_left _ h)))))))
theorem jC_8 : ∀ w ∈ jW_8, w ∈ jW := fun _ h => List.mem_append_right _ (List.mem_append_right _ (List.mem_append_right _ (List.mem_append_right _ (List.mem_append_right _ (List.mem_append_right _ (List.mem_append_right _ (List.mem_append_right _ (List.mem_append_left _ h))))))))
theorem jC_9 : ∀ w ∈ jW_9, w ∈ jW := fun _ h => List.mem_append_right _ (List.mem_append_right _ (List.mem_append_right _ (List.mem_append_right _ (List.mem_append_right _ (List.mem_append_right _ (List.mem_append_right _ (List.mem_append_right _ (List.mem_append_right _ (List.mem_append_left _ h)))))))))
theorem jC_10 : ∀ w ∈ jW_10, w ∈ jW := fun _ h => List.mem_append_right _ (List.mem_append_right _ (List.mem_append_right _ (List.mem_append_right _ (List.mem_append_right _ (List.mem_append_right _ (List.mem_append_right _ (List.mem_append_right _ (List.mem_append_right _ (List.mem_append_right _ (List.mem_append_left _ h))))))))))
theorem jC_11 : ∀ w ∈ jW_11, w ∈ jW := fun _ h => List.mem_append_right _ (List.mem_append_right _ (List.mem_append_right _ (List.mem_append_right _ (List.mem_append_right _ (List.mem_append_right _ (List.mem_append_right _ (List.mem_append_right _ (List.mem_append_right _ (List.mem_append_right _ (List.mem_append_right _ (List.mem_append_left _ h)))))))))))
theorem jC_12 : ∀ w ∈ jW_12, w ∈ jW := fun _ h => List.mem_append_right _ (List.mem_append_right _ (List.mem_append_right _ (List.mem_append_right _ (List.mem_append_right _ (List.mem_append_right _ (List.mem_append_right _ (List.mem_append_right _ (List.mem_append_right _ (List.mem_append_right _ (List.mem_append_right _ (List.mem_append_right _ (h))))))))))))
theorem jW_good : jW.all goodWord = true := by decide +kernel
theorem goodIn_g {w : Cond} (h : w ∈ jW) : GoodIn jW (w :: jW) := fun v hv => by
  have hm : v ∈ jW := by
    rcases List.mem_cons.mp hv with e | e
    · rw [e]; exact h
    · exact e
  exact ⟨hm, good_of_word (List.all_eq_true.mp jW_good v hm)⟩
def jNest : List Cond := [(Jvm.Cond.methodLinkNest "JoinedLeaves" (15 : Nat) ({ cls := "JoinedLeaves$Relation", name := "<init>", desc := "()V" } : Jvm.MethodName) "JoinedLeaves"), (Jvm.Cond.fieldLinkNest "JoinedLeaves$Atom" (19 : Nat) "JoinedLeaves$Relation" "width" "I" "JoinedLeaves"), (Jvm.Cond.fieldLinkNest "JoinedLeaves" (47 : Nat) "JoinedLeaves$Relation" "width" "I" "JoinedLeaves"), (Jvm.Cond.fieldLinkNest "JoinedLeaves$Atom" (32 : Nat) "JoinedLeaves$Relation" "size" "I" "JoinedLeaves"), (Jvm.Cond.fieldLinkNest "JoinedLeaves" (61 : Nat) "JoinedLeaves$Relation" "size" "I" "JoinedLeaves"), (Jvm.Cond.fieldLinkNest "JoinedLeaves$Join" (108 : Nat) "JoinedLeaves$Relation" "size" "I" "JoinedLeaves"), (Jvm.Cond.methodLinkNest "JoinedLeaves" (18 : Nat) ({ cls := "JoinedLeaves$Question", name := "<init>", desc := "(LJoinedLeaves$Relation;)V" } : Jvm.MethodName) "JoinedLeaves"), (Jvm.Cond.methodLinkNest "JoinedLeaves$Question" (21 : Nat) ({ cls := "JoinedLeaves$Atom", name := "<init>", desc := "(LJoinedLeaves$Relation;)V" } : Jvm.MethodName) "JoinedLeaves"), (Jvm.Cond.fieldLinkNest "JoinedLeaves$Question" (45 : Nat) "JoinedLeaves$Atom" "variableSet" "I" "JoinedLeaves"), (Jvm.Cond.fieldLinkNest "JoinedLeaves$Hanging" (52 : Nat) "JoinedLeaves$Atom" "variableSet" "I" "JoinedLeaves"), (Jvm.Cond.fieldLinkNest "JoinedLeaves$Join" (104 : Nat) "JoinedLeaves$Atom" "relation" "LJoinedLeaves$Relation;" "JoinedLeaves"), (Jvm.Cond.fieldLinkNest "JoinedLeaves$Join" (92 : Nat) "JoinedLeaves$Question" "atoms" "[LJoinedLeaves$Atom;" "JoinedLeaves"), (Jvm.Cond.fieldLinkNest "JoinedLeaves$Hanging" (48 : Nat) "JoinedLeaves$Question" "atoms" "[LJoinedLeaves$Atom;" "JoinedLeaves"), (Jvm.Cond.fieldLinkNest "JoinedLeaves$Hanging" (25 : Nat) "JoinedLeaves$Question" "atomCount" "I" "JoinedLeaves"), (Jvm.Cond.fieldLinkNest "JoinedLeaves$Join" (89 : Nat) "JoinedLeaves$Question" "atomCount" "I" "JoinedLeaves"), (Jvm.Cond.fieldLinkNest "JoinedLeaves" (71 : Nat) "JoinedLeaves$Question" "atomCount" "I" "JoinedLeaves"), (Jvm.Cond.fieldLinkNest "JoinedLeaves$Join" (131 : Nat) "JoinedLeaves$Question" "headVariables" "[I" "JoinedLeaves"), (Jvm.Cond.fieldLinkNest "JoinedLeaves$Join" (84 : Nat) "JoinedLeaves$Question" "headSize" "I" "JoinedLeaves"), (Jvm.Cond.fieldLinkNest "JoinedLeaves" (78 : Nat) "JoinedLeaves$Question" "headSize" "I" "JoinedLeaves"), (Jvm.Cond.methodLinkNest "JoinedLeaves" (27 : Nat) ({ cls := "JoinedLeaves$Hanging", name := "<init>", desc := "(LJoinedLeaves$Question;)V" } : Jvm.MethodName) "JoinedLeaves"), (Jvm.Cond.fieldLinkNest "JoinedLeaves$Join" (101 : Nat) "JoinedLeaves$Hanging" "parents" "[I" "JoinedLeaves"), (Jvm.Cond.fieldLinkNest "JoinedLeaves" (88 : Nat) "JoinedLeaves$Hanging" "parents" "[I" "JoinedLeaves"), (Jvm.Cond.fieldLinkNest "JoinedLeaves" (92 : Nat) "JoinedLeaves$Hanging" "turns" "[I" "JoinedLeaves"), (Jvm.Cond.fieldLinkNest "JoinedLeaves$Join" (62 : Nat) "JoinedLeaves$Hanging" "order" "[I" "JoinedLeaves"), (Jvm.Cond.fieldLinkNest "JoinedLeaves$Join" (58 : Nat) "JoinedLeaves$Hanging" "hungCount" "I" "JoinedLeaves"), (Jvm.Cond.methodLinkNest "JoinedLeaves" (36 : Nat) ({ cls := "JoinedLeaves$Join", name := "<init>", desc := "(LJoinedLeaves$Question;LJoinedLeaves$Hanging;)V" } : Jvm.MethodName) "JoinedLeaves"), (Jvm.Cond.fieldLinkNest "JoinedLeaves" (116 : Nat) "JoinedLeaves$Join" "found" "I" "JoinedLeaves"), (Jvm.Cond.methodLinkNest "JoinedLeaves" (54 : Nat) ({ cls := "JoinedLeaves$Relation", name := "put", desc := "(III)Z" } : Jvm.MethodName) "JoinedLeaves"), (Jvm.Cond.methodLinkNest "JoinedLeaves$Relation" (30 : Nat) ({ cls := "JoinedLeaves", name := "isBelow", desc := "(II)Z" } : Jvm.MethodName) "JoinedLeaves"), (Jvm.Cond.methodLinkNest "JoinedLeaves" (58 : Nat) ({ cls := "JoinedLeaves$Relation", name := "take", desc := "(III)Z" } : Jvm.MethodName) "JoinedLeaves"), (Jvm.Cond.methodLinkNest "JoinedLeaves" (64 : Nat) ({ cls := "JoinedLeaves$Question", name := "putAtom", desc := "(LJoinedLeaves$Relation;III)Z" } : Jvm.MethodName) "JoinedLeaves"), (Jvm.Cond.methodLinkNest "JoinedLeaves$Question" (28 : Nat) ({ cls := "JoinedLeaves$Atom", name := "bind", desc := "(LJoinedLeaves$Relation;III)Z" } : Jvm.MethodName) "JoinedLeaves"), (Jvm.Cond.methodLinkNest "JoinedLeaves$Atom" (25 : Nat) ({ cls := "JoinedLeaves", name := "isBelow", desc := "(II)Z" } : Jvm.MethodName) "JoinedLeaves"), (Jvm.Cond.methodLinkNest "JoinedLeaves" (68 : Nat) ({ cls := "JoinedLeaves$Hanging", name := "hangAtoms", desc := "()V" } : Jvm.MethodName) "JoinedLeaves"), (Jvm.Cond.methodLinkNest "JoinedLeaves$Hanging" (37 : Nat) ({ cls := "JoinedLeaves", name := "isIn", desc := "(II)Z" } : Jvm.MethodName) "JoinedLeaves"), (Jvm.Cond.methodLinkNest "JoinedLeaves" (74 : Nat) ({ cls := "JoinedLeaves$Question", name := "putInHead", desc := "(I)Z" } : Jvm.MethodName) "JoinedLeaves"), (Jvm.Cond.methodLinkNest "JoinedLeaves$Question" (32 : Nat) ({ cls := "JoinedLeaves", name := "isBelow", desc := "(II)Z" } : Jvm.MethodName) "JoinedLeaves"), (Jvm.Cond.methodLinkNest "JoinedLeaves$Question" (39 : Nat) ({ cls := "JoinedLeaves", name := "isIn", desc := "(II)Z" } : Jvm.MethodName) "JoinedLeaves"), (Jvm.Cond.methodLinkNest "JoinedLeaves" (81 : Nat) ({ cls := "JoinedLeaves$Question", name := "empty", desc := "()V" } : Jvm.MethodName) "JoinedLeaves"), (Jvm.Cond.methodLinkNest "JoinedLeaves" (84 : Nat) ({ cls := "JoinedLeaves$Hanging", name := "isTree", desc := "()Z" } : Jvm.MethodName) "JoinedLeaves"), (Jvm.Cond.methodLinkNest "JoinedLeaves" (98 : Nat) ({ cls := "JoinedLeaves$Join", name := "countWays", desc := "()J" } : Jvm.MethodName) "JoinedLeaves"), (Jvm.Cond.methodLinkNest "JoinedLeaves$Join" (49 : Nat) ({ cls := "JoinedLeaves$Hanging", name := "root", desc := "()I" } : Jvm.MethodName) "JoinedLeaves"), (Jvm.Cond.methodLinkNest "JoinedLeaves$Join" (96 : Nat) ({ cls := "JoinedLeaves$Atom", name := "rowsAgreeingWithThemselves", desc := "()I" } : Jvm.MethodName) "JoinedLeaves"), (Jvm.Cond.methodLinkNest "JoinedLeaves$Atom" (39 : Nat) ({ cls := "JoinedLeaves$Relation", name := "valueAt", desc := "(II)I" } : Jvm.MethodName) "JoinedLeaves"), (Jvm.Cond.methodLinkNest "JoinedLeaves$Join" (113 : Nat) ({ cls := "JoinedLeaves$Atom", name := "rowsAgreeingWith", desc := "(LJoinedLeaves$Atom;I)I" } : Jvm.MethodName) "JoinedLeaves"), (Jvm.Cond.methodLinkNest "JoinedLeaves$Join" (124 : Nat) ({ cls := "JoinedLeaves", name := "isIn", desc := "(II)Z" } : Jvm.MethodName) "JoinedLeaves"), (Jvm.Cond.methodLinkNest "JoinedLeaves" (109 : Nat) ({ cls := "JoinedLeaves$Join", name := "countLiveRows", desc := "(I)I" } : Jvm.MethodName) "JoinedLeaves"), (Jvm.Cond.methodLinkNest "JoinedLeaves" (125 : Nat) ({ cls := "JoinedLeaves$Question", name := "bindsHead", desc := "()Z" } : Jvm.MethodName) "JoinedLeaves"), (Jvm.Cond.methodLinkNest "JoinedLeaves" (133 : Nat) ({ cls := "JoinedLeaves$Join", name := "search", desc := "()V" } : Jvm.MethodName) "JoinedLeaves"), (Jvm.Cond.methodLinkNest "JoinedLeaves$Join" (142 : Nat) ({ cls := "JoinedLeaves$Question", name := "atomWith", desc := "(I)I" } : Jvm.MethodName) "JoinedLeaves"), (Jvm.Cond.methodLinkNest "JoinedLeaves$Join" (145 : Nat) ({ cls := "JoinedLeaves$Atom", name := "valuesOf", desc := "(II)I" } : Jvm.MethodName) "JoinedLeaves"), (Jvm.Cond.methodLinkNest "JoinedLeaves$Atom" (46 : Nat) ({ cls := "JoinedLeaves", name := "isIn", desc := "(II)Z" } : Jvm.MethodName) "JoinedLeaves"), (Jvm.Cond.methodLinkNest "JoinedLeaves$Join" (149 : Nat) ({ cls := "JoinedLeaves$Atom", name := "rowsAllowing", desc := "(II)I" } : Jvm.MethodName) "JoinedLeaves"), (Jvm.Cond.methodLinkNest "JoinedLeaves" (121 : Nat) ({ cls := "JoinedLeaves$Join", name := "valueInAnswer", desc := "(II)I" } : Jvm.MethodName) "JoinedLeaves")]
end
section
theorem jm_0_0 : (Jvm.Cond.initialized "JoinedLeavesLaw") ∈ jW := jC_0 _ (List.mem_of_getElem? (i := 0) rfl)
theorem jm_0_1 : (Jvm.Cond.initialized "JoinedLeaves") ∈ jW := jC_0 _ (List.mem_of_getElem? (i := 1) rfl)
theorem jm_0_2 : (Jvm.Cond.initialized "JoinedLeaves$Relation") ∈ jW := jC_0 _ (List.mem_of_getElem? (i := 2) rfl)
theorem jm_0_3 : (Jvm.Cond.initialized "JoinedLeaves$Question") ∈ jW := jC_0 _ (List.mem_of_getElem? (i := 3) rfl)
theorem jm_0_4 : (Jvm.Cond.initialized "JoinedLeaves$Atom") ∈ jW := jC_0 _ (List.mem_of_getElem? (i := 4) rfl)
theorem jm_0_5 : (Jvm.Cond.initialized "JoinedLeaves$Hanging") ∈ jW := jC_0 _ (List.mem_of_getElem? (i := 5) rfl)
theorem jm_0_6 : (Jvm.Cond.initialized "JoinedLeaves$Join") ∈ jW := jC_0 _ (List.mem_of_getElem? (i := 6) rfl)
theorem jm_0_7 : (Jvm.Cond.initialized "JoinedLeavesModel") ∈ jW := jC_0 _ (List.mem_of_getElem? (i := 7) rfl)
theorem jm_0_8 : (Jvm.Cond.initialized "java/lang/Throwable") ∈ jW := jC_0 _ (List.mem_of_getElem? (i := 8) rfl)
theorem jm_0_9 : (Jvm.Cond.initialized "java/lang/Exception") ∈ jW := jC_0 _ (List.mem_of_getElem? (i := 9) rfl)
theorem jm_0_10 : (Jvm.Cond.initialized "java/lang/RuntimeException") ∈ jW := jC_0 _ (List.mem_of_getElem? (i := 10) rfl)
theorem jm_0_11 : (Jvm.Cond.initialized "java/lang/IllegalStateException") ∈ jW := jC_0 _ (List.mem_of_getElem? (i := 11) rfl)
theorem jm_0_12 : (Jvm.Cond.initialized "java/lang/IndexOutOfBoundsException") ∈ jW := jC_0 _ (List.mem_of_getElem? (i := 12) rfl)
theorem jm_0_13 : (Jvm.Cond.initialized "java/lang/Integer") ∈ jW := jC_0 _ (List.mem_of_getElem? (i := 13) rfl)
theorem jm_0_14 : (Jvm.Cond.initialized "java/lang/IllegalArgumentException") ∈ jW := jC_0 _ (List.mem_of_getElem? (i := 14) rfl)
theorem jm_0_15 : (Jvm.Cond.initialized "java/lang/UnsupportedOperationException") ∈ jW := jC_0 _ (List.mem_of_getElem? (i := 15) rfl)
theorem jm_0_16 : (Jvm.Cond.classLink "JoinedLeavesLaw" (8 : Nat) "JoinedLeaves") ∈ jW := jC_0 _ (List.mem_of_getElem? (i := 16) rfl)
theorem jm_0_17 : (Jvm.Cond.instantiable "JoinedLeaves" (5 : Nat)) ∈ jW := jC_0 _ (List.mem_of_getElem? (i := 17) rfl)
theorem jm_0_18 : (Jvm.Cond.methodLink "JoinedLeavesLaw" (33 : Nat) ({ cls := "JoinedLeaves", name := "<init>", desc := "()V" } : Jvm.MethodName)) ∈ jW := jC_0 _ (List.mem_of_getElem? (i := 18) rfl)
theorem jm_0_19 : (Jvm.Cond.instanceMethod ({ cls := "JoinedLeaves", name := "<init>", desc := "()V" } : Jvm.MethodName)) ∈ jW := jC_0 _ (List.mem_of_getElem? (i := 19) rfl)
theorem jm_0_20 : (Jvm.Cond.code ({ cls := "JoinedLeaves", name := "<init>", desc := "()V" } : Jvm.MethodName) prog_1_method_1_code (2 : Nat) (Option.none : Option Jvm.ClassFile.FieldType)) ∈ jW := jC_0 _ (List.mem_of_getElem? (i := 20) rfl)
theorem jm_0_21 : (Jvm.Cond.methodLink "JoinedLeaves" (1 : Nat) ({ cls := "java/lang/Object", name := "<init>", desc := "()V" } : Jvm.MethodName)) ∈ jW := jC_0 _ (List.mem_of_getElem? (i := 21) rfl)
theorem jm_0_22 : (Jvm.Cond.instanceMethod ({ cls := "java/lang/Object", name := "<init>", desc := "()V" } : Jvm.MethodName)) ∈ jW := jC_0 _ (List.mem_of_getElem? (i := 22) rfl)
theorem jm_0_23 : (Jvm.Cond.code ({ cls := "java/lang/Object", name := "<init>", desc := "()V" } : Jvm.MethodName) object_method_1_code (1 : Nat) (Option.none : Option Jvm.ClassFile.FieldType)) ∈ jW := jC_0 _ (List.mem_of_getElem? (i := 23) rfl)
theorem jm_0_24 : (Jvm.Cond.classLink "JoinedLeaves" (9 : Nat) "JoinedLeaves$Relation") ∈ jW := jC_0 _ (List.mem_of_getElem? (i := 24) rfl)
theorem jm_0_25 : (Jvm.Cond.instantiable "JoinedLeaves$Relation" (3 : Nat)) ∈ jW := jC_0 _ (List.mem_of_getElem? (i := 25) rfl)
theorem jm_0_26 : (Jvm.Cond.instanceMethod ({ cls := "JoinedLeaves$Relation", name := "<init>", desc := "()V" } : Jvm.MethodName)) ∈ jW := jC_0 _ (List.mem_of_getElem? (i := 26) rfl)
theorem jm_0_27 : (Jvm.Cond.code ({ cls := "JoinedLeaves$Relation", name := "<init>", desc := "()V" } : Jvm.MethodName) prog_6_method_1_code (1 : Nat) (Option.none : Option Jvm.ClassFile.FieldType)) ∈ jW := jC_0 _ (List.mem_of_getElem? (i := 27) rfl)
theorem jm_0_28 : (Jvm.Cond.methodLink "JoinedLeaves$Relation" (3 : Nat) ({ cls := "java/lang/Object", name := "<init>", desc := "()V" } : Jvm.MethodName)) ∈ jW := jC_0 _ (List.mem_of_getElem? (i := 28) rfl)
theorem jm_0_29 : (Jvm.Cond.fieldLink "JoinedLeaves$Relation" (9 : Nat) "JoinedLeaves$Relation" "packedRows" "[I") ∈ jW := jC_0 _ (List.mem_of_getElem? (i := 29) rfl)
theorem jm_0_30 : (Jvm.Cond.fieldLink "JoinedLeaves$Relation" (27 : Nat) "JoinedLeaves$Relation" "width" "I") ∈ jW := jC_0 _ (List.mem_of_getElem? (i := 30) rfl)
theorem jm_0_31 : (Jvm.Cond.fieldLink "JoinedLeaves$Relation" (19 : Nat) "JoinedLeaves$Relation" "size" "I") ∈ jW := jC_0 _ (List.mem_of_getElem? (i := 31) rfl)
theorem jm_0_32 : (Jvm.Cond.laysFinal "JoinedLeaves$Relation" "JoinedLeaves$Relation" "packedRows" "[I") ∈ jW := jC_0 _ (List.mem_of_getElem? (i := 32) rfl)
theorem jm_0_33 : (Jvm.Cond.lays "JoinedLeaves$Relation" "JoinedLeaves$Relation" "width" "I") ∈ jW := jC_0 _ (List.mem_of_getElem? (i := 33) rfl)
theorem jm_0_34 : (Jvm.Cond.lays "JoinedLeaves$Relation" "JoinedLeaves$Relation" "size" "I") ∈ jW := jC_0 _ (List.mem_of_getElem? (i := 34) rfl)
theorem jm_0_35 : (Jvm.Cond.superclass "JoinedLeaves$Relation" "java/lang/Object") ∈ jW := jC_0 _ (List.mem_of_getElem? (i := 35) rfl)
theorem jm_0_36 : (Jvm.Cond.arrayClass Jvm.ClassFile.FieldType.int) ∈ jW := jC_0 _ (List.mem_of_getElem? (i := 36) rfl)
theorem jm_0_37 : (Jvm.Cond.classLink "JoinedLeaves" (16 : Nat) "JoinedLeaves$Question") ∈ jW := jC_0 _ (List.mem_of_getElem? (i := 37) rfl)
theorem jm_0_38 : (Jvm.Cond.instantiable "JoinedLeaves$Question" (5 : Nat)) ∈ jW := jC_0 _ (List.mem_of_getElem? (i := 38) rfl)
theorem jm_0_39 : (Jvm.Cond.instanceMethod ({ cls := "JoinedLeaves$Question", name := "<init>", desc := "(LJoinedLeaves$Relation;)V" } : Jvm.MethodName)) ∈ jW := jC_0 _ (List.mem_of_getElem? (i := 39) rfl)
theorem jm_0_40 : (Jvm.Cond.code ({ cls := "JoinedLeaves$Question", name := "<init>", desc := "(LJoinedLeaves$Relation;)V" } : Jvm.MethodName) prog_5_method_1_code (3 : Nat) (Option.none : Option Jvm.ClassFile.FieldType)) ∈ jW := jC_0 _ (List.mem_of_getElem? (i := 40) rfl)
theorem jm_0_41 : (Jvm.Cond.methodLink "JoinedLeaves$Question" (3 : Nat) ({ cls := "java/lang/Object", name := "<init>", desc := "()V" } : Jvm.MethodName)) ∈ jW := jC_0 _ (List.mem_of_getElem? (i := 41) rfl)
theorem jm_0_42 : (Jvm.Cond.classLink "JoinedLeaves$Question" (9 : Nat) "JoinedLeaves$Atom") ∈ jW := jC_0 _ (List.mem_of_getElem? (i := 42) rfl)
theorem jm_0_43 : (Jvm.Cond.instantiable "JoinedLeaves$Atom" (3 : Nat)) ∈ jW := jC_0 _ (List.mem_of_getElem? (i := 43) rfl)
theorem jm_0_44 : (Jvm.Cond.instanceMethod ({ cls := "JoinedLeaves$Atom", name := "<init>", desc := "(LJoinedLeaves$Relation;)V" } : Jvm.MethodName)) ∈ jW := jC_0 _ (List.mem_of_getElem? (i := 44) rfl)
theorem jm_0_45 : (Jvm.Cond.code ({ cls := "JoinedLeaves$Atom", name := "<init>", desc := "(LJoinedLeaves$Relation;)V" } : Jvm.MethodName) prog_2_method_1_code (2 : Nat) (Option.none : Option Jvm.ClassFile.FieldType)) ∈ jW := jC_0 _ (List.mem_of_getElem? (i := 45) rfl)
theorem jm_0_46 : (Jvm.Cond.methodLink "JoinedLeaves$Atom" (3 : Nat) ({ cls := "java/lang/Object", name := "<init>", desc := "()V" } : Jvm.MethodName)) ∈ jW := jC_0 _ (List.mem_of_getElem? (i := 46) rfl)
theorem jm_0_47 : (Jvm.Cond.fieldLink "JoinedLeaves$Atom" (9 : Nat) "JoinedLeaves$Atom" "variables" "[I") ∈ jW := jC_0 _ (List.mem_of_getElem? (i := 47) rfl)
theorem jm_1_0 : (Jvm.Cond.fieldLink "JoinedLeaves$Atom" (29 : Nat) "JoinedLeaves$Atom" "variableSet" "I") ∈ jW := jC_1 _ (List.mem_of_getElem? (i := 0) rfl)
theorem jm_1_1 : (Jvm.Cond.fieldLink "JoinedLeaves$Atom" (15 : Nat) "JoinedLeaves$Atom" "relation" "LJoinedLeaves$Relation;") ∈ jW := jC_1 _ (List.mem_of_getElem? (i := 1) rfl)
theorem jm_1_2 : (Jvm.Cond.laysFinal "JoinedLeaves$Atom" "JoinedLeaves$Atom" "variables" "[I") ∈ jW := jC_1 _ (List.mem_of_getElem? (i := 2) rfl)
theorem jm_1_3 : (Jvm.Cond.lays "JoinedLeaves$Atom" "JoinedLeaves$Atom" "variableSet" "I") ∈ jW := jC_1 _ (List.mem_of_getElem? (i := 3) rfl)
theorem jm_1_4 : (Jvm.Cond.lays "JoinedLeaves$Atom" "JoinedLeaves$Atom" "relation" "LJoinedLeaves$Relation;") ∈ jW := jC_1 _ (List.mem_of_getElem? (i := 4) rfl)
theorem jm_1_5 : (Jvm.Cond.superclass "JoinedLeaves$Atom" "java/lang/Object") ∈ jW := jC_1 _ (List.mem_of_getElem? (i := 5) rfl)
theorem jm_1_6 : (Jvm.Cond.fieldLink "JoinedLeaves$Question" (11 : Nat) "JoinedLeaves$Question" "atoms" "[LJoinedLeaves$Atom;") ∈ jW := jC_1 _ (List.mem_of_getElem? (i := 6) rfl)
theorem jm_1_7 : (Jvm.Cond.fieldLink "JoinedLeaves$Question" (24 : Nat) "JoinedLeaves$Question" "atomCount" "I") ∈ jW := jC_1 _ (List.mem_of_getElem? (i := 7) rfl)
theorem jm_1_8 : (Jvm.Cond.fieldLink "JoinedLeaves$Question" (17 : Nat) "JoinedLeaves$Question" "headVariables" "[I") ∈ jW := jC_1 _ (List.mem_of_getElem? (i := 8) rfl)
theorem jm_1_9 : (Jvm.Cond.fieldLink "JoinedLeaves$Question" (42 : Nat) "JoinedLeaves$Question" "headSize" "I") ∈ jW := jC_1 _ (List.mem_of_getElem? (i := 9) rfl)
theorem jm_1_10 : (Jvm.Cond.fieldLink "JoinedLeaves$Question" (36 : Nat) "JoinedLeaves$Question" "headSet" "I") ∈ jW := jC_1 _ (List.mem_of_getElem? (i := 10) rfl)
theorem jm_1_11 : (Jvm.Cond.laysFinal "JoinedLeaves$Question" "JoinedLeaves$Question" "atoms" "[LJoinedLeaves$Atom;") ∈ jW := jC_1 _ (List.mem_of_getElem? (i := 11) rfl)
theorem jm_1_12 : (Jvm.Cond.lays "JoinedLeaves$Question" "JoinedLeaves$Question" "atomCount" "I") ∈ jW := jC_1 _ (List.mem_of_getElem? (i := 12) rfl)
theorem jm_1_13 : (Jvm.Cond.laysFinal "JoinedLeaves$Question" "JoinedLeaves$Question" "headVariables" "[I") ∈ jW := jC_1 _ (List.mem_of_getElem? (i := 13) rfl)
theorem jm_1_14 : (Jvm.Cond.lays "JoinedLeaves$Question" "JoinedLeaves$Question" "headSize" "I") ∈ jW := jC_1 _ (List.mem_of_getElem? (i := 14) rfl)
theorem jm_1_15 : (Jvm.Cond.lays "JoinedLeaves$Question" "JoinedLeaves$Question" "headSet" "I") ∈ jW := jC_1 _ (List.mem_of_getElem? (i := 15) rfl)
theorem jm_1_16 : (Jvm.Cond.superclass "JoinedLeaves$Question" "java/lang/Object") ∈ jW := jC_1 _ (List.mem_of_getElem? (i := 16) rfl)
theorem jm_1_17 : (Jvm.Cond.classLink "JoinedLeaves" (25 : Nat) "JoinedLeaves$Hanging") ∈ jW := jC_1 _ (List.mem_of_getElem? (i := 17) rfl)
theorem jm_1_18 : (Jvm.Cond.instantiable "JoinedLeaves$Hanging" (6 : Nat)) ∈ jW := jC_1 _ (List.mem_of_getElem? (i := 18) rfl)
theorem jm_1_19 : (Jvm.Cond.instanceMethod ({ cls := "JoinedLeaves$Hanging", name := "<init>", desc := "(LJoinedLeaves$Question;)V" } : Jvm.MethodName)) ∈ jW := jC_1 _ (List.mem_of_getElem? (i := 19) rfl)
theorem jm_1_20 : (Jvm.Cond.code ({ cls := "JoinedLeaves$Hanging", name := "<init>", desc := "(LJoinedLeaves$Question;)V" } : Jvm.MethodName) prog_3_method_1_code (2 : Nat) (Option.none : Option Jvm.ClassFile.FieldType)) ∈ jW := jC_1 _ (List.mem_of_getElem? (i := 20) rfl)
theorem jm_1_21 : (Jvm.Cond.methodLink "JoinedLeaves$Hanging" (3 : Nat) ({ cls := "java/lang/Object", name := "<init>", desc := "()V" } : Jvm.MethodName)) ∈ jW := jC_1 _ (List.mem_of_getElem? (i := 21) rfl)
theorem jm_1_22 : (Jvm.Cond.fieldLink "JoinedLeaves$Hanging" (21 : Nat) "JoinedLeaves$Hanging" "question" "LJoinedLeaves$Question;") ∈ jW := jC_1 _ (List.mem_of_getElem? (i := 22) rfl)
theorem jm_1_23 : (Jvm.Cond.fieldLink "JoinedLeaves$Hanging" (9 : Nat) "JoinedLeaves$Hanging" "parents" "[I") ∈ jW := jC_1 _ (List.mem_of_getElem? (i := 23) rfl)
theorem jm_1_24 : (Jvm.Cond.fieldLink "JoinedLeaves$Hanging" (15 : Nat) "JoinedLeaves$Hanging" "turns" "[I") ∈ jW := jC_1 _ (List.mem_of_getElem? (i := 24) rfl)
theorem jm_1_25 : (Jvm.Cond.fieldLink "JoinedLeaves$Hanging" (18 : Nat) "JoinedLeaves$Hanging" "order" "[I") ∈ jW := jC_1 _ (List.mem_of_getElem? (i := 25) rfl)
theorem jm_1_26 : (Jvm.Cond.fieldLink "JoinedLeaves$Hanging" (31 : Nat) "JoinedLeaves$Hanging" "hungCount" "I") ∈ jW := jC_1 _ (List.mem_of_getElem? (i := 26) rfl)
theorem jm_1_27 : (Jvm.Cond.fieldLink "JoinedLeaves$Hanging" (34 : Nat) "JoinedLeaves$Hanging" "left" "I") ∈ jW := jC_1 _ (List.mem_of_getElem? (i := 27) rfl)
theorem jm_1_28 : (Jvm.Cond.laysFinal "JoinedLeaves$Hanging" "JoinedLeaves$Hanging" "question" "LJoinedLeaves$Question;") ∈ jW := jC_1 _ (List.mem_of_getElem? (i := 28) rfl)
theorem jm_1_29 : (Jvm.Cond.laysFinal "JoinedLeaves$Hanging" "JoinedLeaves$Hanging" "parents" "[I") ∈ jW := jC_1 _ (List.mem_of_getElem? (i := 29) rfl)
theorem jm_1_30 : (Jvm.Cond.laysFinal "JoinedLeaves$Hanging" "JoinedLeaves$Hanging" "turns" "[I") ∈ jW := jC_1 _ (List.mem_of_getElem? (i := 30) rfl)
theorem jm_1_31 : (Jvm.Cond.laysFinal "JoinedLeaves$Hanging" "JoinedLeaves$Hanging" "order" "[I") ∈ jW := jC_1 _ (List.mem_of_getElem? (i := 31) rfl)
theorem jm_1_32 : (Jvm.Cond.lays "JoinedLeaves$Hanging" "JoinedLeaves$Hanging" "hungCount" "I") ∈ jW := jC_1 _ (List.mem_of_getElem? (i := 32) rfl)
theorem jm_1_33 : (Jvm.Cond.lays "JoinedLeaves$Hanging" "JoinedLeaves$Hanging" "left" "I") ∈ jW := jC_1 _ (List.mem_of_getElem? (i := 33) rfl)
theorem jm_1_34 : (Jvm.Cond.superclass "JoinedLeaves$Hanging" "java/lang/Object") ∈ jW := jC_1 _ (List.mem_of_getElem? (i := 34) rfl)
theorem jm_1_35 : (Jvm.Cond.classLink "JoinedLeaves" (34 : Nat) "JoinedLeaves$Join") ∈ jW := jC_1 _ (List.mem_of_getElem? (i := 35) rfl)
theorem jm_1_36 : (Jvm.Cond.instantiable "JoinedLeaves$Join" (7 : Nat)) ∈ jW := jC_1 _ (List.mem_of_getElem? (i := 36) rfl)
theorem jm_1_37 : (Jvm.Cond.instanceMethod ({ cls := "JoinedLeaves$Join", name := "<init>", desc := "(LJoinedLeaves$Question;LJoinedLeaves$Hanging;)V" } : Jvm.MethodName)) ∈ jW := jC_1 _ (List.mem_of_getElem? (i := 37) rfl)
theorem jm_1_38 : (Jvm.Cond.code ({ cls := "JoinedLeaves$Join", name := "<init>", desc := "(LJoinedLeaves$Question;LJoinedLeaves$Hanging;)V" } : Jvm.MethodName) prog_4_method_1_code (3 : Nat) (Option.none : Option Jvm.ClassFile.FieldType)) ∈ jW := jC_1 _ (List.mem_of_getElem? (i := 38) rfl)
theorem jm_1_39 : (Jvm.Cond.methodLink "JoinedLeaves$Join" (3 : Nat) ({ cls := "java/lang/Object", name := "<init>", desc := "()V" } : Jvm.MethodName)) ∈ jW := jC_1 _ (List.mem_of_getElem? (i := 39) rfl)
theorem jm_1_40 : (Jvm.Cond.classLink "JoinedLeaves$Join" (9 : Nat) "[[I") ∈ jW := jC_1 _ (List.mem_of_getElem? (i := 40) rfl)
theorem jm_1_41 : (Jvm.Cond.classLink "JoinedLeaves$Join" (19 : Nat) "[[J") ∈ jW := jC_1 _ (List.mem_of_getElem? (i := 41) rfl)
theorem jm_1_42 : (Jvm.Cond.fieldLink "JoinedLeaves$Join" (28 : Nat) "JoinedLeaves$Join" "question" "LJoinedLeaves$Question;") ∈ jW := jC_1 _ (List.mem_of_getElem? (i := 42) rfl)
theorem jm_1_43 : (Jvm.Cond.fieldLink "JoinedLeaves$Join" (32 : Nat) "JoinedLeaves$Join" "hanging" "LJoinedLeaves$Hanging;") ∈ jW := jC_1 _ (List.mem_of_getElem? (i := 43) rfl)
theorem jm_1_44 : (Jvm.Cond.fieldLink "JoinedLeaves$Join" (11 : Nat) "JoinedLeaves$Join" "agreeing" "[[I") ∈ jW := jC_1 _ (List.mem_of_getElem? (i := 44) rfl)
theorem jm_1_45 : (Jvm.Cond.fieldLink "JoinedLeaves$Join" (16 : Nat) "JoinedLeaves$Join" "kept" "[[I") ∈ jW := jC_1 _ (List.mem_of_getElem? (i := 45) rfl)
theorem jm_1_46 : (Jvm.Cond.fieldLink "JoinedLeaves$Join" (21 : Nat) "JoinedLeaves$Join" "weights" "[[J") ∈ jW := jC_1 _ (List.mem_of_getElem? (i := 46) rfl)
theorem jm_1_47 : (Jvm.Cond.fieldLink "JoinedLeaves$Join" (24 : Nat) "JoinedLeaves$Join" "packedAnswers" "[I") ∈ jW := jC_1 _ (List.mem_of_getElem? (i := 47) rfl)
theorem jm_2_0 : (Jvm.Cond.fieldLink "JoinedLeaves$Join" (73 : Nat) "JoinedLeaves$Join" "found" "I") ∈ jW := jC_2 _ (List.mem_of_getElem? (i := 0) rfl)
theorem jm_2_1 : (Jvm.Cond.laysFinal "JoinedLeaves$Join" "JoinedLeaves$Join" "question" "LJoinedLeaves$Question;") ∈ jW := jC_2 _ (List.mem_of_getElem? (i := 1) rfl)
theorem jm_2_2 : (Jvm.Cond.laysFinal "JoinedLeaves$Join" "JoinedLeaves$Join" "hanging" "LJoinedLeaves$Hanging;") ∈ jW := jC_2 _ (List.mem_of_getElem? (i := 2) rfl)
theorem jm_2_3 : (Jvm.Cond.laysFinal "JoinedLeaves$Join" "JoinedLeaves$Join" "agreeing" "[[I") ∈ jW := jC_2 _ (List.mem_of_getElem? (i := 3) rfl)
theorem jm_2_4 : (Jvm.Cond.laysFinal "JoinedLeaves$Join" "JoinedLeaves$Join" "kept" "[[I") ∈ jW := jC_2 _ (List.mem_of_getElem? (i := 4) rfl)
theorem jm_2_5 : (Jvm.Cond.laysFinal "JoinedLeaves$Join" "JoinedLeaves$Join" "weights" "[[J") ∈ jW := jC_2 _ (List.mem_of_getElem? (i := 5) rfl)
theorem jm_2_6 : (Jvm.Cond.laysFinal "JoinedLeaves$Join" "JoinedLeaves$Join" "packedAnswers" "[I") ∈ jW := jC_2 _ (List.mem_of_getElem? (i := 6) rfl)
theorem jm_2_7 : (Jvm.Cond.lays "JoinedLeaves$Join" "JoinedLeaves$Join" "found" "I") ∈ jW := jC_2 _ (List.mem_of_getElem? (i := 7) rfl)
theorem jm_2_8 : (Jvm.Cond.superclass "JoinedLeaves$Join" "java/lang/Object") ∈ jW := jC_2 _ (List.mem_of_getElem? (i := 8) rfl)
theorem jm_2_9 : (Jvm.Cond.arrayClass Jvm.ClassFile.FieldType.long) ∈ jW := jC_2 _ (List.mem_of_getElem? (i := 9) rfl)
theorem jm_2_10 : (Jvm.Cond.fieldLink "JoinedLeaves" (11 : Nat) "JoinedLeaves" "relations" "[LJoinedLeaves$Relation;") ∈ jW := jC_2 _ (List.mem_of_getElem? (i := 10) rfl)
theorem jm_2_11 : (Jvm.Cond.fieldLink "JoinedLeaves" (43 : Nat) "JoinedLeaves" "relationCount" "I") ∈ jW := jC_2 _ (List.mem_of_getElem? (i := 11) rfl)
theorem jm_2_12 : (Jvm.Cond.fieldLink "JoinedLeaves" (21 : Nat) "JoinedLeaves" "question" "LJoinedLeaves$Question;") ∈ jW := jC_2 _ (List.mem_of_getElem? (i := 12) rfl)
theorem jm_2_13 : (Jvm.Cond.fieldLink "JoinedLeaves" (30 : Nat) "JoinedLeaves" "hanging" "LJoinedLeaves$Hanging;") ∈ jW := jC_2 _ (List.mem_of_getElem? (i := 13) rfl)
theorem jm_2_14 : (Jvm.Cond.fieldLink "JoinedLeaves" (39 : Nat) "JoinedLeaves" "join" "LJoinedLeaves$Join;") ∈ jW := jC_2 _ (List.mem_of_getElem? (i := 14) rfl)
theorem jm_2_15 : (Jvm.Cond.laysFinal "JoinedLeaves" "JoinedLeaves" "relations" "[LJoinedLeaves$Relation;") ∈ jW := jC_2 _ (List.mem_of_getElem? (i := 15) rfl)
theorem jm_2_16 : (Jvm.Cond.lays "JoinedLeaves" "JoinedLeaves" "relationCount" "I") ∈ jW := jC_2 _ (List.mem_of_getElem? (i := 16) rfl)
theorem jm_2_17 : (Jvm.Cond.laysFinal "JoinedLeaves" "JoinedLeaves" "question" "LJoinedLeaves$Question;") ∈ jW := jC_2 _ (List.mem_of_getElem? (i := 17) rfl)
theorem jm_2_18 : (Jvm.Cond.laysFinal "JoinedLeaves" "JoinedLeaves" "hanging" "LJoinedLeaves$Hanging;") ∈ jW := jC_2 _ (List.mem_of_getElem? (i := 18) rfl)
theorem jm_2_19 : (Jvm.Cond.laysFinal "JoinedLeaves" "JoinedLeaves" "join" "LJoinedLeaves$Join;") ∈ jW := jC_2 _ (List.mem_of_getElem? (i := 19) rfl)
theorem jm_2_20 : (Jvm.Cond.superclass "JoinedLeaves" "java/lang/Object") ∈ jW := jC_2 _ (List.mem_of_getElem? (i := 20) rfl)
theorem jm_2_21 : (Jvm.Cond.methodLink "JoinedLeavesLaw" (37 : Nat) ({ cls := "JoinedLeaves", name := "relation", desc := "(I)I" } : Jvm.MethodName)) ∈ jW := jC_2 _ (List.mem_of_getElem? (i := 21) rfl)
theorem jm_2_22 : (Jvm.Cond.instanceMethod ({ cls := "JoinedLeaves", name := "relation", desc := "(I)I" } : Jvm.MethodName)) ∈ jW := jC_2 _ (List.mem_of_getElem? (i := 22) rfl)
theorem jm_2_23 : (Jvm.Cond.selects "JoinedLeaves" ({ cls := "JoinedLeaves", name := "relation", desc := "(I)I" } : Jvm.MethodName) ({ cls := "JoinedLeaves", name := "relation", desc := "(I)I" } : Jvm.MethodName)) ∈ jW := jC_2 _ (List.mem_of_getElem? (i := 23) rfl)
theorem jm_2_24 : (Jvm.Cond.code ({ cls := "JoinedLeaves", name := "relation", desc := "(I)I" } : Jvm.MethodName) prog_1_method_2_code (2 : Nat) (Option.some Jvm.ClassFile.FieldType.int)) ∈ jW := jC_2 _ (List.mem_of_getElem? (i := 24) rfl)
theorem jm_2_25 : (Jvm.Cond.methodLink "JoinedLeavesLaw" (41 : Nat) ({ cls := "JoinedLeaves", name := "add", desc := "(IIII)Z" } : Jvm.MethodName)) ∈ jW := jC_2 _ (List.mem_of_getElem? (i := 25) rfl)
theorem jm_2_26 : (Jvm.Cond.instanceMethod ({ cls := "JoinedLeaves", name := "add", desc := "(IIII)Z" } : Jvm.MethodName)) ∈ jW := jC_2 _ (List.mem_of_getElem? (i := 26) rfl)
theorem jm_2_27 : (Jvm.Cond.selects "JoinedLeaves" ({ cls := "JoinedLeaves", name := "add", desc := "(IIII)Z" } : Jvm.MethodName) ({ cls := "JoinedLeaves", name := "add", desc := "(IIII)Z" } : Jvm.MethodName)) ∈ jW := jC_2 _ (List.mem_of_getElem? (i := 27) rfl)
theorem jm_2_28 : (Jvm.Cond.code ({ cls := "JoinedLeaves", name := "add", desc := "(IIII)Z" } : Jvm.MethodName) prog_1_method_3_code (5 : Nat) (Option.some Jvm.ClassFile.FieldType.boolean)) ∈ jW := jC_2 _ (List.mem_of_getElem? (i := 28) rfl)
theorem jm_2_29 : (Jvm.Cond.methodLink "JoinedLeaves" (50 : Nat) ({ cls := "JoinedLeaves", name := "isBelow", desc := "(II)Z" } : Jvm.MethodName)) ∈ jW := jC_2 _ (List.mem_of_getElem? (i := 29) rfl)
theorem jm_2_30 : (Jvm.Cond.static ({ cls := "JoinedLeaves", name := "isBelow", desc := "(II)Z" } : Jvm.MethodName)) ∈ jW := jC_2 _ (List.mem_of_getElem? (i := 30) rfl)
theorem jm_2_31 : (Jvm.Cond.code ({ cls := "JoinedLeaves", name := "isBelow", desc := "(II)Z" } : Jvm.MethodName) prog_1_method_18_code (2 : Nat) (Option.some Jvm.ClassFile.FieldType.boolean)) ∈ jW := jC_2 _ (List.mem_of_getElem? (i := 31) rfl)
theorem jm_2_32 : (Jvm.Cond.instanceMethod ({ cls := "JoinedLeaves$Relation", name := "put", desc := "(III)Z" } : Jvm.MethodName)) ∈ jW := jC_2 _ (List.mem_of_getElem? (i := 32) rfl)
theorem jm_2_33 : (Jvm.Cond.code ({ cls := "JoinedLeaves$Relation", name := "put", desc := "(III)Z" } : Jvm.MethodName) prog_6_method_2_code (5 : Nat) (Option.some Jvm.ClassFile.FieldType.boolean)) ∈ jW := jC_2 _ (List.mem_of_getElem? (i := 33) rfl)
theorem jm_2_34 : (Jvm.Cond.methodLink "JoinedLeaves$Relation" (15 : Nat) ({ cls := "JoinedLeaves$Relation", name := "pack", desc := "(III)I" } : Jvm.MethodName)) ∈ jW := jC_2 _ (List.mem_of_getElem? (i := 34) rfl)
theorem jm_2_35 : (Jvm.Cond.instanceMethod ({ cls := "JoinedLeaves$Relation", name := "pack", desc := "(III)I" } : Jvm.MethodName)) ∈ jW := jC_2 _ (List.mem_of_getElem? (i := 35) rfl)
theorem jm_2_36 : (Jvm.Cond.code ({ cls := "JoinedLeaves$Relation", name := "pack", desc := "(III)I" } : Jvm.MethodName) prog_6_method_5_code (6 : Nat) (Option.some Jvm.ClassFile.FieldType.int)) ∈ jW := jC_2 _ (List.mem_of_getElem? (i := 36) rfl)
theorem jm_2_37 : (Jvm.Cond.methodLink "JoinedLeaves$Relation" (23 : Nat) ({ cls := "JoinedLeaves$Relation", name := "placeOf", desc := "(I)I" } : Jvm.MethodName)) ∈ jW := jC_2 _ (List.mem_of_getElem? (i := 37) rfl)
theorem jm_2_38 : (Jvm.Cond.instanceMethod ({ cls := "JoinedLeaves$Relation", name := "placeOf", desc := "(I)I" } : Jvm.MethodName)) ∈ jW := jC_2 _ (List.mem_of_getElem? (i := 38) rfl)
theorem jm_2_39 : (Jvm.Cond.code ({ cls := "JoinedLeaves$Relation", name := "placeOf", desc := "(I)I" } : Jvm.MethodName) prog_6_method_6_code (3 : Nat) (Option.some Jvm.ClassFile.FieldType.int)) ∈ jW := jC_2 _ (List.mem_of_getElem? (i := 39) rfl)
theorem jm_2_40 : (Jvm.Cond.methodLink "JoinedLeavesLaw" (46 : Nat) ({ cls := "JoinedLeaves", name := "drop", desc := "(IIII)Z" } : Jvm.MethodName)) ∈ jW := jC_2 _ (List.mem_of_getElem? (i := 40) rfl)
theorem jm_2_41 : (Jvm.Cond.instanceMethod ({ cls := "JoinedLeaves", name := "drop", desc := "(IIII)Z" } : Jvm.MethodName)) ∈ jW := jC_2 _ (List.mem_of_getElem? (i := 41) rfl)
theorem jm_2_42 : (Jvm.Cond.selects "JoinedLeaves" ({ cls := "JoinedLeaves", name := "drop", desc := "(IIII)Z" } : Jvm.MethodName) ({ cls := "JoinedLeaves", name := "drop", desc := "(IIII)Z" } : Jvm.MethodName)) ∈ jW := jC_2 _ (List.mem_of_getElem? (i := 42) rfl)
theorem jm_2_43 : (Jvm.Cond.code ({ cls := "JoinedLeaves", name := "drop", desc := "(IIII)Z" } : Jvm.MethodName) prog_1_method_4_code (5 : Nat) (Option.some Jvm.ClassFile.FieldType.boolean)) ∈ jW := jC_2 _ (List.mem_of_getElem? (i := 43) rfl)
theorem jm_2_44 : (Jvm.Cond.instanceMethod ({ cls := "JoinedLeaves$Relation", name := "take", desc := "(III)Z" } : Jvm.MethodName)) ∈ jW := jC_2 _ (List.mem_of_getElem? (i := 44) rfl)
theorem jm_2_45 : (Jvm.Cond.code ({ cls := "JoinedLeaves$Relation", name := "take", desc := "(III)Z" } : Jvm.MethodName) prog_6_method_3_code (5 : Nat) (Option.some Jvm.ClassFile.FieldType.boolean)) ∈ jW := jC_2 _ (List.mem_of_getElem? (i := 45) rfl)
theorem jm_2_46 : (Jvm.Cond.methodLink "JoinedLeavesLaw" (50 : Nat) ({ cls := "JoinedLeaves", name := "rows", desc := "(I)I" } : Jvm.MethodName)) ∈ jW := jC_2 _ (List.mem_of_getElem? (i := 46) rfl)
theorem jm_2_47 : (Jvm.Cond.instanceMethod ({ cls := "JoinedLeaves", name := "rows", desc := "(I)I" } : Jvm.MethodName)) ∈ jW := jC_2 _ (List.mem_of_getElem? (i := 47) rfl)
theorem jm_3_0 : (Jvm.Cond.selects "JoinedLeaves" ({ cls := "JoinedLeaves", name := "rows", desc := "(I)I" } : Jvm.MethodName) ({ cls := "JoinedLeaves", name := "rows", desc := "(I)I" } : Jvm.MethodName)) ∈ jW := jC_3 _ (List.mem_of_getElem? (i := 0) rfl)
theorem jm_3_1 : (Jvm.Cond.code ({ cls := "JoinedLeaves", name := "rows", desc := "(I)I" } : Jvm.MethodName) prog_1_method_5_code (2 : Nat) (Option.some Jvm.ClassFile.FieldType.int)) ∈ jW := jC_3 _ (List.mem_of_getElem? (i := 1) rfl)
theorem jm_3_2 : (Jvm.Cond.methodLink "JoinedLeavesLaw" (54 : Nat) ({ cls := "JoinedLeaves", name := "atom", desc := "(IIII)I" } : Jvm.MethodName)) ∈ jW := jC_3 _ (List.mem_of_getElem? (i := 2) rfl)
theorem jm_3_3 : (Jvm.Cond.instanceMethod ({ cls := "JoinedLeaves", name := "atom", desc := "(IIII)I" } : Jvm.MethodName)) ∈ jW := jC_3 _ (List.mem_of_getElem? (i := 3) rfl)
theorem jm_3_4 : (Jvm.Cond.selects "JoinedLeaves" ({ cls := "JoinedLeaves", name := "atom", desc := "(IIII)I" } : Jvm.MethodName) ({ cls := "JoinedLeaves", name := "atom", desc := "(IIII)I" } : Jvm.MethodName)) ∈ jW := jC_3 _ (List.mem_of_getElem? (i := 4) rfl)
theorem jm_3_5 : (Jvm.Cond.code ({ cls := "JoinedLeaves", name := "atom", desc := "(IIII)I" } : Jvm.MethodName) prog_1_method_6_code (5 : Nat) (Option.some Jvm.ClassFile.FieldType.int)) ∈ jW := jC_3 _ (List.mem_of_getElem? (i := 5) rfl)
theorem jm_3_6 : (Jvm.Cond.instanceMethod ({ cls := "JoinedLeaves$Question", name := "putAtom", desc := "(LJoinedLeaves$Relation;III)Z" } : Jvm.MethodName)) ∈ jW := jC_3 _ (List.mem_of_getElem? (i := 6) rfl)
theorem jm_3_7 : (Jvm.Cond.code ({ cls := "JoinedLeaves$Question", name := "putAtom", desc := "(LJoinedLeaves$Relation;III)Z" } : Jvm.MethodName) prog_5_method_2_code (5 : Nat) (Option.some Jvm.ClassFile.FieldType.boolean)) ∈ jW := jC_3 _ (List.mem_of_getElem? (i := 7) rfl)
theorem jm_3_8 : (Jvm.Cond.instanceMethod ({ cls := "JoinedLeaves$Atom", name := "bind", desc := "(LJoinedLeaves$Relation;III)Z" } : Jvm.MethodName)) ∈ jW := jC_3 _ (List.mem_of_getElem? (i := 8) rfl)
theorem jm_3_9 : (Jvm.Cond.code ({ cls := "JoinedLeaves$Atom", name := "bind", desc := "(LJoinedLeaves$Relation;III)Z" } : Jvm.MethodName) prog_2_method_2_code (7 : Nat) (Option.some Jvm.ClassFile.FieldType.boolean)) ∈ jW := jC_3 _ (List.mem_of_getElem? (i := 9) rfl)
theorem jm_3_10 : (Jvm.Cond.instanceMethod ({ cls := "JoinedLeaves$Hanging", name := "hangAtoms", desc := "()V" } : Jvm.MethodName)) ∈ jW := jC_3 _ (List.mem_of_getElem? (i := 10) rfl)
theorem jm_3_11 : (Jvm.Cond.code ({ cls := "JoinedLeaves$Hanging", name := "hangAtoms", desc := "()V" } : Jvm.MethodName) prog_3_method_4_code (2 : Nat) (Option.none : Option Jvm.ClassFile.FieldType)) ∈ jW := jC_3 _ (List.mem_of_getElem? (i := 11) rfl)
theorem jm_3_12 : (Jvm.Cond.methodLink "JoinedLeaves$Hanging" (41 : Nat) ({ cls := "JoinedLeaves$Hanging", name := "hangLeastEar", desc := "()V" } : Jvm.MethodName)) ∈ jW := jC_3 _ (List.mem_of_getElem? (i := 12) rfl)
theorem jm_3_13 : (Jvm.Cond.instanceMethod ({ cls := "JoinedLeaves$Hanging", name := "hangLeastEar", desc := "()V" } : Jvm.MethodName)) ∈ jW := jC_3 _ (List.mem_of_getElem? (i := 13) rfl)
theorem jm_3_14 : (Jvm.Cond.code ({ cls := "JoinedLeaves$Hanging", name := "hangLeastEar", desc := "()V" } : Jvm.MethodName) prog_3_method_5_code (3 : Nat) (Option.none : Option Jvm.ClassFile.FieldType)) ∈ jW := jC_3 _ (List.mem_of_getElem? (i := 14) rfl)
theorem jm_3_15 : (Jvm.Cond.methodLink "JoinedLeaves$Hanging" (44 : Nat) ({ cls := "JoinedLeaves$Hanging", name := "leastHolderOf", desc := "(I)I" } : Jvm.MethodName)) ∈ jW := jC_3 _ (List.mem_of_getElem? (i := 15) rfl)
theorem jm_3_16 : (Jvm.Cond.instanceMethod ({ cls := "JoinedLeaves$Hanging", name := "leastHolderOf", desc := "(I)I" } : Jvm.MethodName)) ∈ jW := jC_3 _ (List.mem_of_getElem? (i := 16) rfl)
theorem jm_3_17 : (Jvm.Cond.code ({ cls := "JoinedLeaves$Hanging", name := "leastHolderOf", desc := "(I)I" } : Jvm.MethodName) prog_3_method_6_code (5 : Nat) (Option.some Jvm.ClassFile.FieldType.int)) ∈ jW := jC_3 _ (List.mem_of_getElem? (i := 17) rfl)
theorem jm_3_18 : (Jvm.Cond.static ({ cls := "JoinedLeaves", name := "isIn", desc := "(II)Z" } : Jvm.MethodName)) ∈ jW := jC_3 _ (List.mem_of_getElem? (i := 18) rfl)
theorem jm_3_19 : (Jvm.Cond.code ({ cls := "JoinedLeaves", name := "isIn", desc := "(II)Z" } : Jvm.MethodName) prog_1_method_19_code (2 : Nat) (Option.some Jvm.ClassFile.FieldType.boolean)) ∈ jW := jC_3 _ (List.mem_of_getElem? (i := 19) rfl)
theorem jm_3_20 : (Jvm.Cond.methodLink "JoinedLeaves$Hanging" (57 : Nat) ({ cls := "JoinedLeaves$Hanging", name := "variablesOf", desc := "(I)I" } : Jvm.MethodName)) ∈ jW := jC_3 _ (List.mem_of_getElem? (i := 20) rfl)
theorem jm_3_21 : (Jvm.Cond.instanceMethod ({ cls := "JoinedLeaves$Hanging", name := "variablesOf", desc := "(I)I" } : Jvm.MethodName)) ∈ jW := jC_3 _ (List.mem_of_getElem? (i := 21) rfl)
theorem jm_3_22 : (Jvm.Cond.code ({ cls := "JoinedLeaves$Hanging", name := "variablesOf", desc := "(I)I" } : Jvm.MethodName) prog_3_method_7_code (4 : Nat) (Option.some Jvm.ClassFile.FieldType.int)) ∈ jW := jC_3 _ (List.mem_of_getElem? (i := 22) rfl)
theorem jm_3_23 : (Jvm.Cond.methodLink "JoinedLeavesLaw" (59 : Nat) ({ cls := "JoinedLeaves", name := "head", desc := "(I)I" } : Jvm.MethodName)) ∈ jW := jC_3 _ (List.mem_of_getElem? (i := 23) rfl)
theorem jm_3_24 : (Jvm.Cond.instanceMethod ({ cls := "JoinedLeaves", name := "head", desc := "(I)I" } : Jvm.MethodName)) ∈ jW := jC_3 _ (List.mem_of_getElem? (i := 24) rfl)
theorem jm_3_25 : (Jvm.Cond.selects "JoinedLeaves" ({ cls := "JoinedLeaves", name := "head", desc := "(I)I" } : Jvm.MethodName) ({ cls := "JoinedLeaves", name := "head", desc := "(I)I" } : Jvm.MethodName)) ∈ jW := jC_3 _ (List.mem_of_getElem? (i := 25) rfl)
theorem jm_3_26 : (Jvm.Cond.code ({ cls := "JoinedLeaves", name := "head", desc := "(I)I" } : Jvm.MethodName) prog_1_method_7_code (2 : Nat) (Option.some Jvm.ClassFile.FieldType.int)) ∈ jW := jC_3 _ (List.mem_of_getElem? (i := 26) rfl)
theorem jm_3_27 : (Jvm.Cond.instanceMethod ({ cls := "JoinedLeaves$Question", name := "putInHead", desc := "(I)Z" } : Jvm.MethodName)) ∈ jW := jC_3 _ (List.mem_of_getElem? (i := 27) rfl)
theorem jm_3_28 : (Jvm.Cond.code ({ cls := "JoinedLeaves$Question", name := "putInHead", desc := "(I)Z" } : Jvm.MethodName) prog_5_method_3_code (2 : Nat) (Option.some Jvm.ClassFile.FieldType.boolean)) ∈ jW := jC_3 _ (List.mem_of_getElem? (i := 28) rfl)
theorem jm_3_29 : (Jvm.Cond.methodLink "JoinedLeavesLaw" (63 : Nat) ({ cls := "JoinedLeaves", name := "clear", desc := "()I" } : Jvm.MethodName)) ∈ jW := jC_3 _ (List.mem_of_getElem? (i := 29) rfl)
theorem jm_3_30 : (Jvm.Cond.instanceMethod ({ cls := "JoinedLeaves", name := "clear", desc := "()I" } : Jvm.MethodName)) ∈ jW := jC_3 _ (List.mem_of_getElem? (i := 30) rfl)
theorem jm_3_31 : (Jvm.Cond.selects "JoinedLeaves" ({ cls := "JoinedLeaves", name := "clear", desc := "()I" } : Jvm.MethodName) ({ cls := "JoinedLeaves", name := "clear", desc := "()I" } : Jvm.MethodName)) ∈ jW := jC_3 _ (List.mem_of_getElem? (i := 31) rfl)
theorem jm_3_32 : (Jvm.Cond.code ({ cls := "JoinedLeaves", name := "clear", desc := "()I" } : Jvm.MethodName) prog_1_method_8_code (2 : Nat) (Option.some Jvm.ClassFile.FieldType.int)) ∈ jW := jC_3 _ (List.mem_of_getElem? (i := 32) rfl)
theorem jm_3_33 : (Jvm.Cond.instanceMethod ({ cls := "JoinedLeaves$Question", name := "empty", desc := "()V" } : Jvm.MethodName)) ∈ jW := jC_3 _ (List.mem_of_getElem? (i := 33) rfl)
theorem jm_3_34 : (Jvm.Cond.code ({ cls := "JoinedLeaves$Question", name := "empty", desc := "()V" } : Jvm.MethodName) prog_5_method_4_code (1 : Nat) (Option.none : Option Jvm.ClassFile.FieldType)) ∈ jW := jC_3 _ (List.mem_of_getElem? (i := 34) rfl)
theorem jm_3_35 : (Jvm.Cond.methodLink "JoinedLeavesLaw" (67 : Nat) ({ cls := "JoinedLeaves", name := "tree", desc := "()Z" } : Jvm.MethodName)) ∈ jW := jC_3 _ (List.mem_of_getElem? (i := 35) rfl)
theorem jm_3_36 : (Jvm.Cond.instanceMethod ({ cls := "JoinedLeaves", name := "tree", desc := "()Z" } : Jvm.MethodName)) ∈ jW := jC_3 _ (List.mem_of_getElem? (i := 36) rfl)
theorem jm_3_37 : (Jvm.Cond.selects "JoinedLeaves" ({ cls := "JoinedLeaves", name := "tree", desc := "()Z" } : Jvm.MethodName) ({ cls := "JoinedLeaves", name := "tree", desc := "()Z" } : Jvm.MethodName)) ∈ jW := jC_3 _ (List.mem_of_getElem? (i := 37) rfl)
theorem jm_3_38 : (Jvm.Cond.code ({ cls := "JoinedLeaves", name := "tree", desc := "()Z" } : Jvm.MethodName) prog_1_method_9_code (1 : Nat) (Option.some Jvm.ClassFile.FieldType.boolean)) ∈ jW := jC_3 _ (List.mem_of_getElem? (i := 38) rfl)
theorem jm_3_39 : (Jvm.Cond.instanceMethod ({ cls := "JoinedLeaves$Hanging", name := "isTree", desc := "()Z" } : Jvm.MethodName)) ∈ jW := jC_3 _ (List.mem_of_getElem? (i := 39) rfl)
theorem jm_3_40 : (Jvm.Cond.code ({ cls := "JoinedLeaves$Hanging", name := "isTree", desc := "()Z" } : Jvm.MethodName) prog_3_method_2_code (1 : Nat) (Option.some Jvm.ClassFile.FieldType.boolean)) ∈ jW := jC_3 _ (List.mem_of_getElem? (i := 40) rfl)
theorem jm_3_41 : (Jvm.Cond.methodLink "JoinedLeavesLaw" (72 : Nat) ({ cls := "JoinedLeaves", name := "parent", desc := "(I)I" } : Jvm.MethodName)) ∈ jW := jC_3 _ (List.mem_of_getElem? (i := 41) rfl)
theorem jm_3_42 : (Jvm.Cond.instanceMethod ({ cls := "JoinedLeaves", name := "parent", desc := "(I)I" } : Jvm.MethodName)) ∈ jW := jC_3 _ (List.mem_of_getElem? (i := 42) rfl)
theorem jm_3_43 : (Jvm.Cond.selects "JoinedLeaves" ({ cls := "JoinedLeaves", name := "parent", desc := "(I)I" } : Jvm.MethodName) ({ cls := "JoinedLeaves", name := "parent", desc := "(I)I" } : Jvm.MethodName)) ∈ jW := jC_3 _ (List.mem_of_getElem? (i := 43) rfl)
theorem jm_3_44 : (Jvm.Cond.code ({ cls := "JoinedLeaves", name := "parent", desc := "(I)I" } : Jvm.MethodName) prog_1_method_10_code (2 : Nat) (Option.some Jvm.ClassFile.FieldType.int)) ∈ jW := jC_3 _ (List.mem_of_getElem? (i := 44) rfl)
theorem jm_3_45 : (Jvm.Cond.methodLink "JoinedLeavesLaw" (76 : Nat) ({ cls := "JoinedLeaves", name := "turn", desc := "(I)I" } : Jvm.MethodName)) ∈ jW := jC_3 _ (List.mem_of_getElem? (i := 45) rfl)
theorem jm_3_46 : (Jvm.Cond.instanceMethod ({ cls := "JoinedLeaves", name := "turn", desc := "(I)I" } : Jvm.MethodName)) ∈ jW := jC_3 _ (List.mem_of_getElem? (i := 46) rfl)
theorem jm_3_47 : (Jvm.Cond.selects "JoinedLeaves" ({ cls := "JoinedLeaves", name := "turn", desc := "(I)I" } : Jvm.MethodName) ({ cls := "JoinedLeaves", name := "turn", desc := "(I)I" } : Jvm.MethodName)) ∈ jW := jC_3 _ (List.mem_of_getElem? (i := 47) rfl)
theorem jm_4_0 : (Jvm.Cond.code ({ cls := "JoinedLeaves", name := "turn", desc := "(I)I" } : Jvm.MethodName) prog_1_method_11_code (2 : Nat) (Option.some Jvm.ClassFile.FieldType.int)) ∈ jW := jC_4 _ (List.mem_of_getElem? (i := 0) rfl)
theorem jm_4_1 : (Jvm.Cond.methodLink "JoinedLeavesLaw" (80 : Nat) ({ cls := "JoinedLeavesLaw", name := "ways", desc := "(LJoinedLeaves;[J)I" } : Jvm.MethodName)) ∈ jW := jC_4 _ (List.mem_of_getElem? (i := 1) rfl)
theorem jm_4_2 : (Jvm.Cond.static ({ cls := "JoinedLeavesLaw", name := "ways", desc := "(LJoinedLeaves;[J)I" } : Jvm.MethodName)) ∈ jW := jC_4 _ (List.mem_of_getElem? (i := 2) rfl)
theorem jm_4_3 : (Jvm.Cond.classLink "JoinedLeavesLaw" (13 : Nat) "java/lang/IllegalStateException") ∈ jW := jC_4 _ (List.mem_of_getElem? (i := 3) rfl)
theorem jm_4_4 : (Jvm.Cond.methodLink "JoinedLeavesLaw" (7 : Nat) ({ cls := "JoinedLeaves", name := "ways", desc := "()J" } : Jvm.MethodName)) ∈ jW := jC_4 _ (List.mem_of_getElem? (i := 4) rfl)
theorem jm_4_5 : (Jvm.Cond.instanceMethod ({ cls := "JoinedLeaves", name := "ways", desc := "()J" } : Jvm.MethodName)) ∈ jW := jC_4 _ (List.mem_of_getElem? (i := 5) rfl)
theorem jm_4_6 : (Jvm.Cond.selects "JoinedLeaves" ({ cls := "JoinedLeaves", name := "ways", desc := "()J" } : Jvm.MethodName) ({ cls := "JoinedLeaves", name := "ways", desc := "()J" } : Jvm.MethodName)) ∈ jW := jC_4 _ (List.mem_of_getElem? (i := 6) rfl)
theorem jm_4_7 : (Jvm.Cond.code ({ cls := "JoinedLeaves", name := "ways", desc := "()J" } : Jvm.MethodName) prog_1_method_12_code (1 : Nat) (Option.some Jvm.ClassFile.FieldType.long)) ∈ jW := jC_4 _ (List.mem_of_getElem? (i := 7) rfl)
theorem jm_4_8 : (Jvm.Cond.methodLink "JoinedLeaves" (95 : Nat) ({ cls := "JoinedLeaves", name := "requireTree", desc := "()V" } : Jvm.MethodName)) ∈ jW := jC_4 _ (List.mem_of_getElem? (i := 8) rfl)
theorem jm_4_9 : (Jvm.Cond.instanceMethod ({ cls := "JoinedLeaves", name := "requireTree", desc := "()V" } : Jvm.MethodName)) ∈ jW := jC_4 _ (List.mem_of_getElem? (i := 9) rfl)
theorem jm_4_10 : (Jvm.Cond.code ({ cls := "JoinedLeaves", name := "requireTree", desc := "()V" } : Jvm.MethodName) prog_1_method_17_code (1 : Nat) (Option.none : Option Jvm.ClassFile.FieldType)) ∈ jW := jC_4 _ (List.mem_of_getElem? (i := 10) rfl)
theorem jm_4_11 : (Jvm.Cond.classLink "JoinedLeaves" (141 : Nat) "java/lang/IllegalStateException") ∈ jW := jC_4 _ (List.mem_of_getElem? (i := 11) rfl)
theorem jm_4_12 : (Jvm.Cond.instantiable "java/lang/IllegalStateException" (6 : Nat)) ∈ jW := jC_4 _ (List.mem_of_getElem? (i := 12) rfl)
theorem jm_4_13 : (Jvm.Cond.selects "java/lang/IllegalStateException" ({ cls := "java/lang/Throwable", name := "fillInStackTrace", desc := "(I)Ljava/lang/Throwable;" } : Jvm.MethodName) ({ cls := "java/lang/Throwable", name := "fillInStackTrace", desc := "(I)Ljava/lang/Throwable;" } : Jvm.MethodName)) ∈ jW := jC_4 _ (List.mem_of_getElem? (i := 13) rfl)
theorem jm_4_14 : (Jvm.Cond.selects "java/lang/IllegalStateException" ({ cls := "java/lang/Throwable", name := "fillInStackTrace", desc := "()Ljava/lang/Throwable;" } : Jvm.MethodName) ({ cls := "java/lang/Throwable", name := "fillInStackTrace", desc := "()Ljava/lang/Throwable;" } : Jvm.MethodName)) ∈ jW := jC_4 _ (List.mem_of_getElem? (i := 14) rfl)
theorem jm_4_15 : (Jvm.Cond.lays "java/lang/IllegalStateException" "java/lang/Throwable" "cause" "Ljava/lang/Throwable;") ∈ jW := jC_4 _ (List.mem_of_getElem? (i := 15) rfl)
theorem jm_4_16 : (Jvm.Cond.lays "java/lang/Throwable" "java/lang/Throwable" "cause" "Ljava/lang/Throwable;") ∈ jW := jC_4 _ (List.mem_of_getElem? (i := 16) rfl)
theorem jm_4_17 : (Jvm.Cond.lays "java/lang/IllegalStateException" "java/lang/Throwable" "stackTrace" "[Ljava/lang/StackTraceElement;") ∈ jW := jC_4 _ (List.mem_of_getElem? (i := 17) rfl)
theorem jm_4_18 : (Jvm.Cond.lays "java/lang/Throwable" "java/lang/Throwable" "stackTrace" "[Ljava/lang/StackTraceElement;") ∈ jW := jC_4 _ (List.mem_of_getElem? (i := 18) rfl)
theorem jm_4_19 : (Jvm.Cond.lays "java/lang/IllegalStateException" "java/lang/Throwable" "suppressedExceptions" "Ljava/util/List;") ∈ jW := jC_4 _ (List.mem_of_getElem? (i := 19) rfl)
theorem jm_4_20 : (Jvm.Cond.lays "java/lang/Throwable" "java/lang/Throwable" "suppressedExceptions" "Ljava/util/List;") ∈ jW := jC_4 _ (List.mem_of_getElem? (i := 20) rfl)
theorem jm_4_21 : (Jvm.Cond.lays "java/lang/IllegalStateException" "java/lang/Throwable" "detailMessage" "Ljava/lang/String;") ∈ jW := jC_4 _ (List.mem_of_getElem? (i := 21) rfl)
theorem jm_4_22 : (Jvm.Cond.lays "java/lang/Throwable" "java/lang/Throwable" "detailMessage" "Ljava/lang/String;") ∈ jW := jC_4 _ (List.mem_of_getElem? (i := 22) rfl)
theorem jm_4_23 : (Jvm.Cond.lays "java/lang/IllegalStateException" "java/lang/Throwable" "backtrace" "Ljava/lang/Object;") ∈ jW := jC_4 _ (List.mem_of_getElem? (i := 23) rfl)
theorem jm_4_24 : (Jvm.Cond.lays "java/lang/Throwable" "java/lang/Throwable" "backtrace" "Ljava/lang/Object;") ∈ jW := jC_4 _ (List.mem_of_getElem? (i := 24) rfl)
theorem jm_4_25 : (Jvm.Cond.fieldLink "java/lang/Throwable" (198 : Nat) "java/lang/Throwable" "backtrace" "Ljava/lang/Object;") ∈ jW := jC_4 _ (List.mem_of_getElem? (i := 25) rfl)
theorem jm_4_26 : (Jvm.Cond.superclass "java/lang/Throwable" "java/lang/Object") ∈ jW := jC_4 _ (List.mem_of_getElem? (i := 26) rfl)
theorem jm_4_27 : (Jvm.Cond.instanceMethod ({ cls := "java/lang/Throwable", name := "<init>", desc := "()V" } : Jvm.MethodName)) ∈ jW := jC_4 _ (List.mem_of_getElem? (i := 27) rfl)
theorem jm_4_28 : (Jvm.Cond.code ({ cls := "java/lang/Throwable", name := "<init>", desc := "()V" } : Jvm.MethodName) prog_16_method_1_code (1 : Nat) (Option.none : Option Jvm.ClassFile.FieldType)) ∈ jW := jC_4 _ (List.mem_of_getElem? (i := 28) rfl)
theorem jm_4_29 : (Jvm.Cond.methodLink "java/lang/Throwable" (1 : Nat) ({ cls := "java/lang/Object", name := "<init>", desc := "()V" } : Jvm.MethodName)) ∈ jW := jC_4 _ (List.mem_of_getElem? (i := 29) rfl)
theorem jm_4_30 : (Jvm.Cond.fieldLink "java/lang/Throwable" (13 : Nat) "java/lang/Throwable" "UNASSIGNED_STACK" "[Ljava/lang/StackTraceElement;") ∈ jW := jC_4 _ (List.mem_of_getElem? (i := 30) rfl)
theorem jm_4_31 : (Jvm.Cond.fieldLink "java/lang/Throwable" (20 : Nat) "java/lang/Throwable" "SUPPRESSED_SENTINEL" "Ljava/util/List;") ∈ jW := jC_4 _ (List.mem_of_getElem? (i := 31) rfl)
theorem jm_4_32 : (Jvm.Cond.methodLink "java/lang/Throwable" (27 : Nat) ({ cls := "java/lang/Throwable", name := "fillInStackTrace", desc := "()Ljava/lang/Throwable;" } : Jvm.MethodName)) ∈ jW := jC_4 _ (List.mem_of_getElem? (i := 32) rfl)
theorem jm_4_33 : (Jvm.Cond.instanceMethod ({ cls := "java/lang/Throwable", name := "fillInStackTrace", desc := "()Ljava/lang/Throwable;" } : Jvm.MethodName)) ∈ jW := jC_4 _ (List.mem_of_getElem? (i := 33) rfl)
theorem jm_4_34 : (Jvm.Cond.selects "java/lang/IllegalArgumentException" ({ cls := "java/lang/Throwable", name := "fillInStackTrace", desc := "()Ljava/lang/Throwable;" } : Jvm.MethodName) ({ cls := "java/lang/Throwable", name := "fillInStackTrace", desc := "()Ljava/lang/Throwable;" } : Jvm.MethodName)) ∈ jW := jC_4 _ (List.mem_of_getElem? (i := 34) rfl)
theorem jm_4_35 : (Jvm.Cond.selects "java/lang/IndexOutOfBoundsException" ({ cls := "java/lang/Throwable", name := "fillInStackTrace", desc := "()Ljava/lang/Throwable;" } : Jvm.MethodName) ({ cls := "java/lang/Throwable", name := "fillInStackTrace", desc := "()Ljava/lang/Throwable;" } : Jvm.MethodName)) ∈ jW := jC_4 _ (List.mem_of_getElem? (i := 35) rfl)
theorem jm_4_36 : (Jvm.Cond.selects "java/lang/UnsupportedOperationException" ({ cls := "java/lang/Throwable", name := "fillInStackTrace", desc := "()Ljava/lang/Throwable;" } : Jvm.MethodName) ({ cls := "java/lang/Throwable", name := "fillInStackTrace", desc := "()Ljava/lang/Throwable;" } : Jvm.MethodName)) ∈ jW := jC_4 _ (List.mem_of_getElem? (i := 36) rfl)
theorem jm_4_37 : (Jvm.Cond.methodLink "java/lang/Throwable" (202 : Nat) ({ cls := "java/lang/Throwable", name := "fillInStackTrace", desc := "(I)Ljava/lang/Throwable;" } : Jvm.MethodName)) ∈ jW := jC_4 _ (List.mem_of_getElem? (i := 37) rfl)
theorem jm_4_38 : (Jvm.Cond.instanceMethod ({ cls := "java/lang/Throwable", name := "fillInStackTrace", desc := "(I)Ljava/lang/Throwable;" } : Jvm.MethodName)) ∈ jW := jC_4 _ (List.mem_of_getElem? (i := 38) rfl)
theorem jm_4_39 : (Jvm.Cond.instantiable "java/lang/Throwable" (6 : Nat)) ∈ jW := jC_4 _ (List.mem_of_getElem? (i := 39) rfl)
theorem jm_4_40 : (Jvm.Cond.methodLink "JoinedLeaves" (145 : Nat) ({ cls := "java/lang/IllegalStateException", name := "<init>", desc := "(Ljava/lang/String;)V" } : Jvm.MethodName)) ∈ jW := jC_4 _ (List.mem_of_getElem? (i := 40) rfl)
theorem jm_4_41 : (Jvm.Cond.instanceMethod ({ cls := "java/lang/IllegalStateException", name := "<init>", desc := "(Ljava/lang/String;)V" } : Jvm.MethodName)) ∈ jW := jC_4 _ (List.mem_of_getElem? (i := 41) rfl)
theorem jm_4_42 : (Jvm.Cond.code ({ cls := "java/lang/IllegalStateException", name := "<init>", desc := "(Ljava/lang/String;)V" } : Jvm.MethodName) prog_11_method_2_code (2 : Nat) (Option.none : Option Jvm.ClassFile.FieldType)) ∈ jW := jC_4 _ (List.mem_of_getElem? (i := 42) rfl)
theorem jm_4_43 : (Jvm.Cond.methodLink "java/lang/IllegalStateException" (7 : Nat) ({ cls := "java/lang/RuntimeException", name := "<init>", desc := "(Ljava/lang/String;)V" } : Jvm.MethodName)) ∈ jW := jC_4 _ (List.mem_of_getElem? (i := 43) rfl)
theorem jm_4_44 : (Jvm.Cond.instanceMethod ({ cls := "java/lang/RuntimeException", name := "<init>", desc := "(Ljava/lang/String;)V" } : Jvm.MethodName)) ∈ jW := jC_4 _ (List.mem_of_getElem? (i := 44) rfl)
theorem jm_4_45 : (Jvm.Cond.code ({ cls := "java/lang/RuntimeException", name := "<init>", desc := "(Ljava/lang/String;)V" } : Jvm.MethodName) prog_14_method_2_code (2 : Nat) (Option.none : Option Jvm.ClassFile.FieldType)) ∈ jW := jC_4 _ (List.mem_of_getElem? (i := 45) rfl)
theorem jm_4_46 : (Jvm.Cond.methodLink "java/lang/RuntimeException" (7 : Nat) ({ cls := "java/lang/Exception", name := "<init>", desc := "(Ljava/lang/String;)V" } : Jvm.MethodName)) ∈ jW := jC_4 _ (List.mem_of_getElem? (i := 46) rfl)
theorem jm_4_47 : (Jvm.Cond.instanceMethod ({ cls := "java/lang/Exception", name := "<init>", desc := "(Ljava/lang/String;)V" } : Jvm.MethodName)) ∈ jW := jC_4 _ (List.mem_of_getElem? (i := 47) rfl)
theorem jm_5_0 : (Jvm.Cond.code ({ cls := "java/lang/Exception", name := "<init>", desc := "(Ljava/lang/String;)V" } : Jvm.MethodName) prog_9_method_2_code (2 : Nat) (Option.none : Option Jvm.ClassFile.FieldType)) ∈ jW := jC_5 _ (List.mem_of_getElem? (i := 0) rfl)
theorem jm_5_1 : (Jvm.Cond.methodLink "java/lang/Exception" (7 : Nat) ({ cls := "java/lang/Throwable", name := "<init>", desc := "(Ljava/lang/String;)V" } : Jvm.MethodName)) ∈ jW := jC_5 _ (List.mem_of_getElem? (i := 1) rfl)
theorem jm_5_2 : (Jvm.Cond.instanceMethod ({ cls := "java/lang/Throwable", name := "<init>", desc := "(Ljava/lang/String;)V" } : Jvm.MethodName)) ∈ jW := jC_5 _ (List.mem_of_getElem? (i := 2) rfl)
theorem jm_5_3 : (Jvm.Cond.code ({ cls := "java/lang/Throwable", name := "<init>", desc := "(Ljava/lang/String;)V" } : Jvm.MethodName) prog_16_method_2_code (2 : Nat) (Option.none : Option Jvm.ClassFile.FieldType)) ∈ jW := jC_5 _ (List.mem_of_getElem? (i := 3) rfl)
theorem jm_5_4 : (Jvm.Cond.fieldLink "java/lang/Throwable" (31 : Nat) "java/lang/Throwable" "detailMessage" "Ljava/lang/String;") ∈ jW := jC_5 _ (List.mem_of_getElem? (i := 4) rfl)
theorem jm_5_5 : (Jvm.Cond.fieldLink "java/lang/Throwable" (7 : Nat) "java/lang/Throwable" "cause" "Ljava/lang/Throwable;") ∈ jW := jC_5 _ (List.mem_of_getElem? (i := 5) rfl)
theorem jm_5_6 : (Jvm.Cond.fieldLink "java/lang/Throwable" (17 : Nat) "java/lang/Throwable" "stackTrace" "[Ljava/lang/StackTraceElement;") ∈ jW := jC_5 _ (List.mem_of_getElem? (i := 6) rfl)
theorem jm_5_7 : (Jvm.Cond.fieldLink "java/lang/Throwable" (24 : Nat) "java/lang/Throwable" "suppressedExceptions" "Ljava/util/List;") ∈ jW := jC_5 _ (List.mem_of_getElem? (i := 7) rfl)
theorem jm_5_8 : (Jvm.Cond.lays "java/lang/IllegalStateException" "java/lang/Throwable" "depth" "I") ∈ jW := jC_5 _ (List.mem_of_getElem? (i := 8) rfl)
theorem jm_5_9 : (Jvm.Cond.superclass "java/lang/IllegalStateException" "java/lang/RuntimeException") ∈ jW := jC_5 _ (List.mem_of_getElem? (i := 9) rfl)
theorem jm_5_10 : (Jvm.Cond.arrayClass Jvm.ClassFile.FieldType.byte) ∈ jW := jC_5 _ (List.mem_of_getElem? (i := 10) rfl)
theorem jm_5_11 : (Jvm.Cond.instanceMethod ({ cls := "JoinedLeaves$Join", name := "countWays", desc := "()J" } : Jvm.MethodName)) ∈ jW := jC_5 _ (List.mem_of_getElem? (i := 11) rfl)
theorem jm_5_12 : (Jvm.Cond.code ({ cls := "JoinedLeaves$Join", name := "countWays", desc := "()J" } : Jvm.MethodName) prog_4_method_3_code (3 : Nat) (Option.some Jvm.ClassFile.FieldType.long)) ∈ jW := jC_5 _ (List.mem_of_getElem? (i := 12) rfl)
theorem jm_5_13 : (Jvm.Cond.instanceMethod ({ cls := "JoinedLeaves$Hanging", name := "root", desc := "()I" } : Jvm.MethodName)) ∈ jW := jC_5 _ (List.mem_of_getElem? (i := 13) rfl)
theorem jm_5_14 : (Jvm.Cond.code ({ cls := "JoinedLeaves$Hanging", name := "root", desc := "()I" } : Jvm.MethodName) prog_3_method_3_code (2 : Nat) (Option.some Jvm.ClassFile.FieldType.int)) ∈ jW := jC_5 _ (List.mem_of_getElem? (i := 14) rfl)
theorem jm_5_15 : (Jvm.Cond.methodLink "JoinedLeaves$Join" (36 : Nat) ({ cls := "JoinedLeaves$Join", name := "compareRows", desc := "()V" } : Jvm.MethodName)) ∈ jW := jC_5 _ (List.mem_of_getElem? (i := 15) rfl)
theorem jm_5_16 : (Jvm.Cond.instanceMethod ({ cls := "JoinedLeaves$Join", name := "compareRows", desc := "()V" } : Jvm.MethodName)) ∈ jW := jC_5 _ (List.mem_of_getElem? (i := 16) rfl)
theorem jm_5_17 : (Jvm.Cond.code ({ cls := "JoinedLeaves$Join", name := "compareRows", desc := "()V" } : Jvm.MethodName) prog_4_method_6_code (5 : Nat) (Option.none : Option Jvm.ClassFile.FieldType)) ∈ jW := jC_5 _ (List.mem_of_getElem? (i := 17) rfl)
theorem jm_5_18 : (Jvm.Cond.instanceMethod ({ cls := "JoinedLeaves$Atom", name := "rowsAgreeingWithThemselves", desc := "()I" } : Jvm.MethodName)) ∈ jW := jC_5 _ (List.mem_of_getElem? (i := 18) rfl)
theorem jm_5_19 : (Jvm.Cond.code ({ cls := "JoinedLeaves$Atom", name := "rowsAgreeingWithThemselves", desc := "()I" } : Jvm.MethodName) prog_2_method_3_code (3 : Nat) (Option.some Jvm.ClassFile.FieldType.int)) ∈ jW := jC_5 _ (List.mem_of_getElem? (i := 19) rfl)
theorem jm_5_20 : (Jvm.Cond.methodLink "JoinedLeaves$Atom" (35 : Nat) ({ cls := "JoinedLeaves$Atom", name := "agreesWithItself", desc := "(I)Z" } : Jvm.MethodName)) ∈ jW := jC_5 _ (List.mem_of_getElem? (i := 20) rfl)
theorem jm_5_21 : (Jvm.Cond.instanceMethod ({ cls := "JoinedLeaves$Atom", name := "agreesWithItself", desc := "(I)Z" } : Jvm.MethodName)) ∈ jW := jC_5 _ (List.mem_of_getElem? (i := 21) rfl)
theorem jm_5_22 : (Jvm.Cond.code ({ cls := "JoinedLeaves$Atom", name := "agreesWithItself", desc := "(I)Z" } : Jvm.MethodName) prog_2_method_4_code (4 : Nat) (Option.some Jvm.ClassFile.FieldType.boolean)) ∈ jW := jC_5 _ (List.mem_of_getElem? (i := 22) rfl)
theorem jm_5_23 : (Jvm.Cond.instanceMethod ({ cls := "JoinedLeaves$Relation", name := "valueAt", desc := "(II)I" } : Jvm.MethodName)) ∈ jW := jC_5 _ (List.mem_of_getElem? (i := 23) rfl)
theorem jm_5_24 : (Jvm.Cond.code ({ cls := "JoinedLeaves$Relation", name := "valueAt", desc := "(II)I" } : Jvm.MethodName) prog_6_method_4_code (3 : Nat) (Option.some Jvm.ClassFile.FieldType.int)) ∈ jW := jC_5 _ (List.mem_of_getElem? (i := 24) rfl)
theorem jm_5_25 : (Jvm.Cond.instanceMethod ({ cls := "JoinedLeaves$Atom", name := "rowsAgreeingWith", desc := "(LJoinedLeaves$Atom;I)I" } : Jvm.MethodName)) ∈ jW := jC_5 _ (List.mem_of_getElem? (i := 25) rfl)
theorem jm_5_26 : (Jvm.Cond.code ({ cls := "JoinedLeaves$Atom", name := "rowsAgreeingWith", desc := "(LJoinedLeaves$Atom;I)I" } : Jvm.MethodName) prog_2_method_5_code (6 : Nat) (Option.some Jvm.ClassFile.FieldType.int)) ∈ jW := jC_5 _ (List.mem_of_getElem? (i := 26) rfl)
theorem jm_5_27 : (Jvm.Cond.methodLink "JoinedLeaves$Atom" (43 : Nat) ({ cls := "JoinedLeaves$Atom", name := "rowsAllowing", desc := "(II)I" } : Jvm.MethodName)) ∈ jW := jC_5 _ (List.mem_of_getElem? (i := 27) rfl)
theorem jm_5_28 : (Jvm.Cond.instanceMethod ({ cls := "JoinedLeaves$Atom", name := "rowsAllowing", desc := "(II)I" } : Jvm.MethodName)) ∈ jW := jC_5 _ (List.mem_of_getElem? (i := 28) rfl)
theorem jm_5_29 : (Jvm.Cond.code ({ cls := "JoinedLeaves$Atom", name := "rowsAllowing", desc := "(II)I" } : Jvm.MethodName) prog_2_method_6_code (6 : Nat) (Option.some Jvm.ClassFile.FieldType.int)) ∈ jW := jC_5 _ (List.mem_of_getElem? (i := 29) rfl)
theorem jm_5_30 : (Jvm.Cond.methodLink "JoinedLeaves$Join" (55 : Nat) ({ cls := "JoinedLeaves$Join", name := "startWeights", desc := "()V" } : Jvm.MethodName)) ∈ jW := jC_5 _ (List.mem_of_getElem? (i := 30) rfl)
theorem jm_5_31 : (Jvm.Cond.instanceMethod ({ cls := "JoinedLeaves$Join", name := "startWeights", desc := "()V" } : Jvm.MethodName)) ∈ jW := jC_5 _ (List.mem_of_getElem? (i := 31) rfl)
theorem jm_5_32 : (Jvm.Cond.code ({ cls := "JoinedLeaves$Join", name := "startWeights", desc := "()V" } : Jvm.MethodName) prog_4_method_11_code (3 : Nat) (Option.none : Option Jvm.ClassFile.FieldType)) ∈ jW := jC_5 _ (List.mem_of_getElem? (i := 32) rfl)
theorem jm_5_33 : (Jvm.Cond.methodLink "JoinedLeaves$Join" (65 : Nat) ({ cls := "JoinedLeaves$Join", name := "weighIntoParent", desc := "(I)V" } : Jvm.MethodName)) ∈ jW := jC_5 _ (List.mem_of_getElem? (i := 33) rfl)
theorem jm_5_34 : (Jvm.Cond.instanceMethod ({ cls := "JoinedLeaves$Join", name := "weighIntoParent", desc := "(I)V" } : Jvm.MethodName)) ∈ jW := jC_5 _ (List.mem_of_getElem? (i := 34) rfl)
theorem jm_5_35 : (Jvm.Cond.code ({ cls := "JoinedLeaves$Join", name := "weighIntoParent", desc := "(I)V" } : Jvm.MethodName) prog_4_method_12_code (4 : Nat) (Option.none : Option Jvm.ClassFile.FieldType)) ∈ jW := jC_5 _ (List.mem_of_getElem? (i := 35) rfl)
theorem jm_5_36 : (Jvm.Cond.methodLink "JoinedLeaves$Join" (69 : Nat) ({ cls := "JoinedLeaves$Join", name := "weightOf", desc := "(II)J" } : Jvm.MethodName)) ∈ jW := jC_5 _ (List.mem_of_getElem? (i := 36) rfl)
theorem jm_5_37 : (Jvm.Cond.instanceMethod ({ cls := "JoinedLeaves$Join", name := "weightOf", desc := "(II)J" } : Jvm.MethodName)) ∈ jW := jC_5 _ (List.mem_of_getElem? (i := 37) rfl)
theorem jm_5_38 : (Jvm.Cond.code ({ cls := "JoinedLeaves$Join", name := "weightOf", desc := "(II)J" } : Jvm.MethodName) prog_4_method_13_code (6 : Nat) (Option.some Jvm.ClassFile.FieldType.long)) ∈ jW := jC_5 _ (List.mem_of_getElem? (i := 38) rfl)
theorem jm_5_39 : (Jvm.Cond.methodLink "JoinedLeavesLaw" (89 : Nat) ({ cls := "JoinedLeavesLaw", name := "live", desc := "(LJoinedLeaves;I[J)I" } : Jvm.MethodName)) ∈ jW := jC_5 _ (List.mem_of_getElem? (i := 39) rfl)
theorem jm_5_40 : (Jvm.Cond.static ({ cls := "JoinedLeavesLaw", name := "live", desc := "(LJoinedLeaves;I[J)I" } : Jvm.MethodName)) ∈ jW := jC_5 _ (List.mem_of_getElem? (i := 40) rfl)
theorem jm_5_41 : (Jvm.Cond.classLink "JoinedLeavesLaw" (19 : Nat) "java/lang/IndexOutOfBoundsException") ∈ jW := jC_5 _ (List.mem_of_getElem? (i := 41) rfl)
theorem jm_5_42 : (Jvm.Cond.methodLink "JoinedLeavesLaw" (15 : Nat) ({ cls := "JoinedLeaves", name := "live", desc := "(I)I" } : Jvm.MethodName)) ∈ jW := jC_5 _ (List.mem_of_getElem? (i := 42) rfl)
theorem jm_5_43 : (Jvm.Cond.instanceMethod ({ cls := "JoinedLeaves", name := "live", desc := "(I)I" } : Jvm.MethodName)) ∈ jW := jC_5 _ (List.mem_of_getElem? (i := 43) rfl)
theorem jm_5_44 : (Jvm.Cond.selects "JoinedLeaves" ({ cls := "JoinedLeaves", name := "live", desc := "(I)I" } : Jvm.MethodName) ({ cls := "JoinedLeaves", name := "live", desc := "(I)I" } : Jvm.MethodName)) ∈ jW := jC_5 _ (List.mem_of_getElem? (i := 44) rfl)
theorem jm_5_45 : (Jvm.Cond.code ({ cls := "JoinedLeaves", name := "live", desc := "(I)I" } : Jvm.MethodName) prog_1_method_13_code (2 : Nat) (Option.some Jvm.ClassFile.FieldType.int)) ∈ jW := jC_5 _ (List.mem_of_getElem? (i := 45) rfl)
theorem jm_5_46 : (Jvm.Cond.classLink "JoinedLeaves" (102 : Nat) "java/lang/IndexOutOfBoundsException") ∈ jW := jC_5 _ (List.mem_of_getElem? (i := 46) rfl)
theorem jm_5_47 : (Jvm.Cond.instantiable "java/lang/IndexOutOfBoundsException" (6 : Nat)) ∈ jW := jC_5 _ (List.mem_of_getElem? (i := 47) rfl)
theorem jm_6_0 : (Jvm.Cond.selects "java/lang/IndexOutOfBoundsException" ({ cls := "java/lang/Throwable", name := "fillInStackTrace", desc := "(I)Ljava/lang/Throwable;" } : Jvm.MethodName) ({ cls := "java/lang/Throwable", name := "fillInStackTrace", desc := "(I)Ljava/lang/Throwable;" } : Jvm.MethodName)) ∈ jW := jC_6 _ (List.mem_of_getElem? (i := 0) rfl)
theorem jm_6_1 : (Jvm.Cond.lays "java/lang/IndexOutOfBoundsException" "java/lang/Throwable" "cause" "Ljava/lang/Throwable;") ∈ jW := jC_6 _ (List.mem_of_getElem? (i := 1) rfl)
theorem jm_6_2 : (Jvm.Cond.lays "java/lang/IndexOutOfBoundsException" "java/lang/Throwable" "stackTrace" "[Ljava/lang/StackTraceElement;") ∈ jW := jC_6 _ (List.mem_of_getElem? (i := 2) rfl)
theorem jm_6_3 : (Jvm.Cond.lays "java/lang/IndexOutOfBoundsException" "java/lang/Throwable" "suppressedExceptions" "Ljava/util/List;") ∈ jW := jC_6 _ (List.mem_of_getElem? (i := 3) rfl)
theorem jm_6_4 : (Jvm.Cond.lays "java/lang/IndexOutOfBoundsException" "java/lang/Throwable" "detailMessage" "Ljava/lang/String;") ∈ jW := jC_6 _ (List.mem_of_getElem? (i := 4) rfl)
theorem jm_6_5 : (Jvm.Cond.lays "java/lang/IndexOutOfBoundsException" "java/lang/Throwable" "backtrace" "Ljava/lang/Object;") ∈ jW := jC_6 _ (List.mem_of_getElem? (i := 5) rfl)
theorem jm_6_6 : (Jvm.Cond.methodLink "JoinedLeaves" (106 : Nat) ({ cls := "java/lang/IndexOutOfBoundsException", name := "<init>", desc := "(Ljava/lang/String;)V" } : Jvm.MethodName)) ∈ jW := jC_6 _ (List.mem_of_getElem? (i := 6) rfl)
theorem jm_6_7 : (Jvm.Cond.instanceMethod ({ cls := "java/lang/IndexOutOfBoundsException", name := "<init>", desc := "(Ljava/lang/String;)V" } : Jvm.MethodName)) ∈ jW := jC_6 _ (List.mem_of_getElem? (i := 7) rfl)
theorem jm_6_8 : (Jvm.Cond.code ({ cls := "java/lang/IndexOutOfBoundsException", name := "<init>", desc := "(Ljava/lang/String;)V" } : Jvm.MethodName) prog_12_method_2_code (2 : Nat) (Option.none : Option Jvm.ClassFile.FieldType)) ∈ jW := jC_6 _ (List.mem_of_getElem? (i := 8) rfl)
theorem jm_6_9 : (Jvm.Cond.methodLink "java/lang/IndexOutOfBoundsException" (7 : Nat) ({ cls := "java/lang/RuntimeException", name := "<init>", desc := "(Ljava/lang/String;)V" } : Jvm.MethodName)) ∈ jW := jC_6 _ (List.mem_of_getElem? (i := 9) rfl)
theorem jm_6_10 : (Jvm.Cond.lays "java/lang/IndexOutOfBoundsException" "java/lang/Throwable" "depth" "I") ∈ jW := jC_6 _ (List.mem_of_getElem? (i := 10) rfl)
theorem jm_6_11 : (Jvm.Cond.superclass "java/lang/IndexOutOfBoundsException" "java/lang/RuntimeException") ∈ jW := jC_6 _ (List.mem_of_getElem? (i := 11) rfl)
theorem jm_6_12 : (Jvm.Cond.instanceMethod ({ cls := "JoinedLeaves$Join", name := "countLiveRows", desc := "(I)I" } : Jvm.MethodName)) ∈ jW := jC_6 _ (List.mem_of_getElem? (i := 12) rfl)
theorem jm_6_13 : (Jvm.Cond.code ({ cls := "JoinedLeaves$Join", name := "countLiveRows", desc := "(I)I" } : Jvm.MethodName) prog_4_method_2_code (2 : Nat) (Option.some Jvm.ClassFile.FieldType.int)) ∈ jW := jC_6 _ (List.mem_of_getElem? (i := 13) rfl)
theorem jm_6_14 : (Jvm.Cond.methodLink "JoinedLeaves$Join" (39 : Nat) ({ cls := "JoinedLeaves$Join", name := "keepLiveRows", desc := "([I)V" } : Jvm.MethodName)) ∈ jW := jC_6 _ (List.mem_of_getElem? (i := 14) rfl)
theorem jm_6_15 : (Jvm.Cond.instanceMethod ({ cls := "JoinedLeaves$Join", name := "keepLiveRows", desc := "([I)V" } : Jvm.MethodName)) ∈ jW := jC_6 _ (List.mem_of_getElem? (i := 15) rfl)
theorem jm_6_16 : (Jvm.Cond.code ({ cls := "JoinedLeaves$Join", name := "keepLiveRows", desc := "([I)V" } : Jvm.MethodName) prog_4_method_7_code (3 : Nat) (Option.none : Option Jvm.ClassFile.FieldType)) ∈ jW := jC_6 _ (List.mem_of_getElem? (i := 16) rfl)
theorem jm_6_17 : (Jvm.Cond.methodLink "JoinedLeaves$Join" (117 : Nat) ({ cls := "JoinedLeaves$Join", name := "keepRowsOfParent", desc := "([II)V" } : Jvm.MethodName)) ∈ jW := jC_6 _ (List.mem_of_getElem? (i := 17) rfl)
theorem jm_6_18 : (Jvm.Cond.instanceMethod ({ cls := "JoinedLeaves$Join", name := "keepRowsOfParent", desc := "([II)V" } : Jvm.MethodName)) ∈ jW := jC_6 _ (List.mem_of_getElem? (i := 18) rfl)
theorem jm_6_19 : (Jvm.Cond.code ({ cls := "JoinedLeaves$Join", name := "keepRowsOfParent", desc := "([II)V" } : Jvm.MethodName) prog_4_method_8_code (5 : Nat) (Option.none : Option Jvm.ClassFile.FieldType)) ∈ jW := jC_6 _ (List.mem_of_getElem? (i := 19) rfl)
theorem jm_6_20 : (Jvm.Cond.methodLink "JoinedLeaves$Join" (121 : Nat) ({ cls := "JoinedLeaves$Join", name := "keepRowsOfChild", desc := "([II)V" } : Jvm.MethodName)) ∈ jW := jC_6 _ (List.mem_of_getElem? (i := 20) rfl)
theorem jm_6_21 : (Jvm.Cond.instanceMethod ({ cls := "JoinedLeaves$Join", name := "keepRowsOfChild", desc := "([II)V" } : Jvm.MethodName)) ∈ jW := jC_6 _ (List.mem_of_getElem? (i := 21) rfl)
theorem jm_6_22 : (Jvm.Cond.code ({ cls := "JoinedLeaves$Join", name := "keepRowsOfChild", desc := "([II)V" } : Jvm.MethodName) prog_4_method_9_code (6 : Nat) (Option.none : Option Jvm.ClassFile.FieldType)) ∈ jW := jC_6 _ (List.mem_of_getElem? (i := 22) rfl)
theorem jm_6_23 : (Jvm.Cond.methodLink "JoinedLeaves$Join" (43 : Nat) ({ cls := "java/lang/Integer", name := "bitCount", desc := "(I)I" } : Jvm.MethodName)) ∈ jW := jC_6 _ (List.mem_of_getElem? (i := 23) rfl)
theorem jm_6_24 : (Jvm.Cond.static ({ cls := "java/lang/Integer", name := "bitCount", desc := "(I)I" } : Jvm.MethodName)) ∈ jW := jC_6 _ (List.mem_of_getElem? (i := 24) rfl)
theorem jm_6_25 : (Jvm.Cond.code ({ cls := "java/lang/Integer", name := "bitCount", desc := "(I)I" } : Jvm.MethodName) prog_13_method_49_code (1 : Nat) (Option.some Jvm.ClassFile.FieldType.int)) ∈ jW := jC_6 _ (List.mem_of_getElem? (i := 25) rfl)
theorem jm_6_26 : (Jvm.Cond.methodLink "JoinedLeavesLaw" (93 : Nat) ({ cls := "JoinedLeavesLaw", name := "answers", desc := "(LJoinedLeaves;[J)I" } : Jvm.MethodName)) ∈ jW := jC_6 _ (List.mem_of_getElem? (i := 26) rfl)
theorem jm_6_27 : (Jvm.Cond.static ({ cls := "JoinedLeavesLaw", name := "answers", desc := "(LJoinedLeaves;[J)I" } : Jvm.MethodName)) ∈ jW := jC_6 _ (List.mem_of_getElem? (i := 27) rfl)
theorem jm_6_28 : (Jvm.Cond.classLink "JoinedLeavesLaw" (25 : Nat) "java/lang/IllegalArgumentException") ∈ jW := jC_6 _ (List.mem_of_getElem? (i := 28) rfl)
theorem jm_6_29 : (Jvm.Cond.classLink "JoinedLeavesLaw" (27 : Nat) "java/lang/UnsupportedOperationException") ∈ jW := jC_6 _ (List.mem_of_getElem? (i := 29) rfl)
theorem jm_6_30 : (Jvm.Cond.methodLink "JoinedLeavesLaw" (21 : Nat) ({ cls := "JoinedLeaves", name := "answers", desc := "()I" } : Jvm.MethodName)) ∈ jW := jC_6 _ (List.mem_of_getElem? (i := 30) rfl)
theorem jm_6_31 : (Jvm.Cond.instanceMethod ({ cls := "JoinedLeaves", name := "answers", desc := "()I" } : Jvm.MethodName)) ∈ jW := jC_6 _ (List.mem_of_getElem? (i := 31) rfl)
theorem jm_6_32 : (Jvm.Cond.selects "JoinedLeaves" ({ cls := "JoinedLeaves", name := "answers", desc := "()I" } : Jvm.MethodName) ({ cls := "JoinedLeaves", name := "answers", desc := "()I" } : Jvm.MethodName)) ∈ jW := jC_6 _ (List.mem_of_getElem? (i := 32) rfl)
theorem jm_6_33 : (Jvm.Cond.code ({ cls := "JoinedLeaves", name := "answers", desc := "()I" } : Jvm.MethodName) prog_1_method_14_code (1 : Nat) (Option.some Jvm.ClassFile.FieldType.int)) ∈ jW := jC_6 _ (List.mem_of_getElem? (i := 33) rfl)
theorem jm_6_34 : (Jvm.Cond.methodLink "JoinedLeaves" (113 : Nat) ({ cls := "JoinedLeaves", name := "findAnswers", desc := "()V" } : Jvm.MethodName)) ∈ jW := jC_6 _ (List.mem_of_getElem? (i := 34) rfl)
theorem jm_6_35 : (Jvm.Cond.instanceMethod ({ cls := "JoinedLeaves", name := "findAnswers", desc := "()V" } : Jvm.MethodName)) ∈ jW := jC_6 _ (List.mem_of_getElem? (i := 35) rfl)
theorem jm_6_36 : (Jvm.Cond.code ({ cls := "JoinedLeaves", name := "findAnswers", desc := "()V" } : Jvm.MethodName) prog_1_method_16_code (1 : Nat) (Option.none : Option Jvm.ClassFile.FieldType)) ∈ jW := jC_6 _ (List.mem_of_getElem? (i := 36) rfl)
theorem jm_6_37 : (Jvm.Cond.instanceMethod ({ cls := "JoinedLeaves$Question", name := "bindsHead", desc := "()Z" } : Jvm.MethodName)) ∈ jW := jC_6 _ (List.mem_of_getElem? (i := 37) rfl)
theorem jm_6_38 : (Jvm.Cond.code ({ cls := "JoinedLeaves$Question", name := "bindsHead", desc := "()Z" } : Jvm.MethodName) prog_5_method_5_code (3 : Nat) (Option.some Jvm.ClassFile.FieldType.boolean)) ∈ jW := jC_6 _ (List.mem_of_getElem? (i := 38) rfl)
theorem jm_6_39 : (Jvm.Cond.classLink "JoinedLeaves" (128 : Nat) "java/lang/IllegalArgumentException") ∈ jW := jC_6 _ (List.mem_of_getElem? (i := 39) rfl)
theorem jm_6_40 : (Jvm.Cond.instantiable "java/lang/IllegalArgumentException" (6 : Nat)) ∈ jW := jC_6 _ (List.mem_of_getElem? (i := 40) rfl)
theorem jm_6_41 : (Jvm.Cond.selects "java/lang/IllegalArgumentException" ({ cls := "java/lang/Throwable", name := "fillInStackTrace", desc := "(I)Ljava/lang/Throwable;" } : Jvm.MethodName) ({ cls := "java/lang/Throwable", name := "fillInStackTrace", desc := "(I)Ljava/lang/Throwable;" } : Jvm.MethodName)) ∈ jW := jC_6 _ (List.mem_of_getElem? (i := 41) rfl)
theorem jm_6_42 : (Jvm.Cond.lays "java/lang/IllegalArgumentException" "java/lang/Throwable" "cause" "Ljava/lang/Throwable;") ∈ jW := jC_6 _ (List.mem_of_getElem? (i := 42) rfl)
theorem jm_6_43 : (Jvm.Cond.lays "java/lang/IllegalArgumentException" "java/lang/Throwable" "stackTrace" "[Ljava/lang/StackTraceElement;") ∈ jW := jC_6 _ (List.mem_of_getElem? (i := 43) rfl)
theorem jm_6_44 : (Jvm.Cond.lays "java/lang/IllegalArgumentException" "java/lang/Throwable" "suppressedExceptions" "Ljava/util/List;") ∈ jW := jC_6 _ (List.mem_of_getElem? (i := 44) rfl)
theorem jm_6_45 : (Jvm.Cond.lays "java/lang/IllegalArgumentException" "java/lang/Throwable" "detailMessage" "Ljava/lang/String;") ∈ jW := jC_6 _ (List.mem_of_getElem? (i := 45) rfl)
theorem jm_6_46 : (Jvm.Cond.lays "java/lang/IllegalArgumentException" "java/lang/Throwable" "backtrace" "Ljava/lang/Object;") ∈ jW := jC_6 _ (List.mem_of_getElem? (i := 46) rfl)
theorem jm_6_47 : (Jvm.Cond.methodLink "JoinedLeaves" (132 : Nat) ({ cls := "java/lang/IllegalArgumentException", name := "<init>", desc := "(Ljava/lang/String;)V" } : Jvm.MethodName)) ∈ jW := jC_6 _ (List.mem_of_getElem? (i := 47) rfl)
theorem jm_7_0 : (Jvm.Cond.instanceMethod ({ cls := "java/lang/IllegalArgumentException", name := "<init>", desc := "(Ljava/lang/String;)V" } : Jvm.MethodName)) ∈ jW := jC_7 _ (List.mem_of_getElem? (i := 0) rfl)
theorem jm_7_1 : (Jvm.Cond.code ({ cls := "java/lang/IllegalArgumentException", name := "<init>", desc := "(Ljava/lang/String;)V" } : Jvm.MethodName) prog_10_method_2_code (2 : Nat) (Option.none : Option Jvm.ClassFile.FieldType)) ∈ jW := jC_7 _ (List.mem_of_getElem? (i := 1) rfl)
theorem jm_7_2 : (Jvm.Cond.methodLink "java/lang/IllegalArgumentException" (7 : Nat) ({ cls := "java/lang/RuntimeException", name := "<init>", desc := "(Ljava/lang/String;)V" } : Jvm.MethodName)) ∈ jW := jC_7 _ (List.mem_of_getElem? (i := 2) rfl)
theorem jm_7_3 : (Jvm.Cond.lays "java/lang/IllegalArgumentException" "java/lang/Throwable" "depth" "I") ∈ jW := jC_7 _ (List.mem_of_getElem? (i := 3) rfl)
theorem jm_7_4 : (Jvm.Cond.superclass "java/lang/IllegalArgumentException" "java/lang/RuntimeException") ∈ jW := jC_7 _ (List.mem_of_getElem? (i := 4) rfl)
theorem jm_7_5 : (Jvm.Cond.instanceMethod ({ cls := "JoinedLeaves$Join", name := "search", desc := "()V" } : Jvm.MethodName)) ∈ jW := jC_7 _ (List.mem_of_getElem? (i := 5) rfl)
theorem jm_7_6 : (Jvm.Cond.code ({ cls := "JoinedLeaves$Join", name := "search", desc := "()V" } : Jvm.MethodName) prog_4_method_4_code (1 : Nat) (Option.none : Option Jvm.ClassFile.FieldType)) ∈ jW := jC_7 _ (List.mem_of_getElem? (i := 6) rfl)
theorem jm_7_7 : (Jvm.Cond.methodLink "JoinedLeaves$Join" (76 : Nat) ({ cls := "JoinedLeaves$Join", name := "hasWay", desc := "([I)Z" } : Jvm.MethodName)) ∈ jW := jC_7 _ (List.mem_of_getElem? (i := 7) rfl)
theorem jm_7_8 : (Jvm.Cond.instanceMethod ({ cls := "JoinedLeaves$Join", name := "hasWay", desc := "([I)Z" } : Jvm.MethodName)) ∈ jW := jC_7 _ (List.mem_of_getElem? (i := 8) rfl)
theorem jm_7_9 : (Jvm.Cond.code ({ cls := "JoinedLeaves$Join", name := "hasWay", desc := "([I)Z" } : Jvm.MethodName) prog_4_method_10_code (3 : Nat) (Option.some Jvm.ClassFile.FieldType.boolean)) ∈ jW := jC_7 _ (List.mem_of_getElem? (i := 9) rfl)
theorem jm_7_10 : (Jvm.Cond.methodLink "JoinedLeaves$Join" (80 : Nat) ({ cls := "JoinedLeaves$Join", name := "choose", desc := "(II)V" } : Jvm.MethodName)) ∈ jW := jC_7 _ (List.mem_of_getElem? (i := 10) rfl)
theorem jm_7_11 : (Jvm.Cond.instanceMethod ({ cls := "JoinedLeaves$Join", name := "choose", desc := "(II)V" } : Jvm.MethodName)) ∈ jW := jC_7 _ (List.mem_of_getElem? (i := 11) rfl)
theorem jm_7_12 : (Jvm.Cond.code ({ cls := "JoinedLeaves$Join", name := "choose", desc := "(II)V" } : Jvm.MethodName) prog_4_method_14_code (6 : Nat) (Option.none : Option Jvm.ClassFile.FieldType)) ∈ jW := jC_7 _ (List.mem_of_getElem? (i := 12) rfl)
theorem jm_7_13 : (Jvm.Cond.methodLink "JoinedLeaves$Join" (128 : Nat) ({ cls := "JoinedLeaves$Join", name := "storeAnswer", desc := "(I)V" } : Jvm.MethodName)) ∈ jW := jC_7 _ (List.mem_of_getElem? (i := 13) rfl)
theorem jm_7_14 : (Jvm.Cond.instanceMethod ({ cls := "JoinedLeaves$Join", name := "storeAnswer", desc := "(I)V" } : Jvm.MethodName)) ∈ jW := jC_7 _ (List.mem_of_getElem? (i := 14) rfl)
theorem jm_7_15 : (Jvm.Cond.code ({ cls := "JoinedLeaves$Join", name := "storeAnswer", desc := "(I)V" } : Jvm.MethodName) prog_4_method_15_code (2 : Nat) (Option.none : Option Jvm.ClassFile.FieldType)) ∈ jW := jC_7 _ (List.mem_of_getElem? (i := 15) rfl)
theorem jm_7_16 : (Jvm.Cond.methodLink "JoinedLeaves$Join" (134 : Nat) ({ cls := "JoinedLeaves$Join", name := "liveValuesOf", desc := "(I[I)I" } : Jvm.MethodName)) ∈ jW := jC_7 _ (List.mem_of_getElem? (i := 16) rfl)
theorem jm_7_17 : (Jvm.Cond.instanceMethod ({ cls := "JoinedLeaves$Join", name := "liveValuesOf", desc := "(I[I)I" } : Jvm.MethodName)) ∈ jW := jC_7 _ (List.mem_of_getElem? (i := 17) rfl)
theorem jm_7_18 : (Jvm.Cond.code ({ cls := "JoinedLeaves$Join", name := "liveValuesOf", desc := "(I[I)I" } : Jvm.MethodName) prog_4_method_16_code (4 : Nat) (Option.some Jvm.ClassFile.FieldType.int)) ∈ jW := jC_7 _ (List.mem_of_getElem? (i := 18) rfl)
theorem jm_7_19 : (Jvm.Cond.instanceMethod ({ cls := "JoinedLeaves$Question", name := "atomWith", desc := "(I)I" } : Jvm.MethodName)) ∈ jW := jC_7 _ (List.mem_of_getElem? (i := 19) rfl)
theorem jm_7_20 : (Jvm.Cond.code ({ cls := "JoinedLeaves$Question", name := "atomWith", desc := "(I)I" } : Jvm.MethodName) prog_5_method_6_code (3 : Nat) (Option.some Jvm.ClassFile.FieldType.int)) ∈ jW := jC_7 _ (List.mem_of_getElem? (i := 20) rfl)
theorem jm_7_21 : (Jvm.Cond.instanceMethod ({ cls := "JoinedLeaves$Atom", name := "valuesOf", desc := "(II)I" } : Jvm.MethodName)) ∈ jW := jC_7 _ (List.mem_of_getElem? (i := 21) rfl)
theorem jm_7_22 : (Jvm.Cond.code ({ cls := "JoinedLeaves$Atom", name := "valuesOf", desc := "(II)I" } : Jvm.MethodName) prog_2_method_7_code (6 : Nat) (Option.some Jvm.ClassFile.FieldType.int)) ∈ jW := jC_7 _ (List.mem_of_getElem? (i := 22) rfl)
theorem jm_7_23 : (Jvm.Cond.methodLink "JoinedLeaves$Join" (138 : Nat) ({ cls := "JoinedLeaves$Join", name := "keepRowsWith", desc := "(III)V" } : Jvm.MethodName)) ∈ jW := jC_7 _ (List.mem_of_getElem? (i := 23) rfl)
theorem jm_7_24 : (Jvm.Cond.instanceMethod ({ cls := "JoinedLeaves$Join", name := "keepRowsWith", desc := "(III)V" } : Jvm.MethodName)) ∈ jW := jC_7 _ (List.mem_of_getElem? (i := 24) rfl)
theorem jm_7_25 : (Jvm.Cond.code ({ cls := "JoinedLeaves$Join", name := "keepRowsWith", desc := "(III)V" } : Jvm.MethodName) prog_4_method_17_code (7 : Nat) (Option.none : Option Jvm.ClassFile.FieldType)) ∈ jW := jC_7 _ (List.mem_of_getElem? (i := 25) rfl)
theorem jm_7_26 : (Jvm.Cond.classLink "JoinedLeaves" (136 : Nat) "java/lang/UnsupportedOperationException") ∈ jW := jC_7 _ (List.mem_of_getElem? (i := 26) rfl)
theorem jm_7_27 : (Jvm.Cond.instantiable "java/lang/UnsupportedOperationException" (6 : Nat)) ∈ jW := jC_7 _ (List.mem_of_getElem? (i := 27) rfl)
theorem jm_7_28 : (Jvm.Cond.selects "java/lang/UnsupportedOperationException" ({ cls := "java/lang/Throwable", name := "fillInStackTrace", desc := "(I)Ljava/lang/Throwable;" } : Jvm.MethodName) ({ cls := "java/lang/Throwable", name := "fillInStackTrace", desc := "(I)Ljava/lang/Throwable;" } : Jvm.MethodName)) ∈ jW := jC_7 _ (List.mem_of_getElem? (i := 28) rfl)
theorem jm_7_29 : (Jvm.Cond.lays "java/lang/UnsupportedOperationException" "java/lang/Throwable" "cause" "Ljava/lang/Throwable;") ∈ jW := jC_7 _ (List.mem_of_getElem? (i := 29) rfl)
theorem jm_7_30 : (Jvm.Cond.lays "java/lang/UnsupportedOperationException" "java/lang/Throwable" "stackTrace" "[Ljava/lang/StackTraceElement;") ∈ jW := jC_7 _ (List.mem_of_getElem? (i := 30) rfl)
theorem jm_7_31 : (Jvm.Cond.lays "java/lang/UnsupportedOperationException" "java/lang/Throwable" "suppressedExceptions" "Ljava/util/List;") ∈ jW := jC_7 _ (List.mem_of_getElem? (i := 31) rfl)
theorem jm_7_32 : (Jvm.Cond.lays "java/lang/UnsupportedOperationException" "java/lang/Throwable" "detailMessage" "Ljava/lang/String;") ∈ jW := jC_7 _ (List.mem_of_getElem? (i := 32) rfl)
theorem jm_7_33 : (Jvm.Cond.lays "java/lang/UnsupportedOperationException" "java/lang/Throwable" "backtrace" "Ljava/lang/Object;") ∈ jW := jC_7 _ (List.mem_of_getElem? (i := 33) rfl)
theorem jm_7_34 : (Jvm.Cond.methodLink "JoinedLeaves" (140 : Nat) ({ cls := "java/lang/UnsupportedOperationException", name := "<init>", desc := "(Ljava/lang/String;)V" } : Jvm.MethodName)) ∈ jW := jC_7 _ (List.mem_of_getElem? (i := 34) rfl)
theorem jm_7_35 : (Jvm.Cond.instanceMethod ({ cls := "java/lang/UnsupportedOperationException", name := "<init>", desc := "(Ljava/lang/String;)V" } : Jvm.MethodName)) ∈ jW := jC_7 _ (List.mem_of_getElem? (i := 35) rfl)
theorem jm_7_36 : (Jvm.Cond.code ({ cls := "java/lang/UnsupportedOperationException", name := "<init>", desc := "(Ljava/lang/String;)V" } : Jvm.MethodName) prog_17_method_2_code (2 : Nat) (Option.none : Option Jvm.ClassFile.FieldType)) ∈ jW := jC_7 _ (List.mem_of_getElem? (i := 36) rfl)
theorem jm_7_37 : (Jvm.Cond.methodLink "java/lang/UnsupportedOperationException" (7 : Nat) ({ cls := "java/lang/RuntimeException", name := "<init>", desc := "(Ljava/lang/String;)V" } : Jvm.MethodName)) ∈ jW := jC_7 _ (List.mem_of_getElem? (i := 37) rfl)
theorem jm_7_38 : (Jvm.Cond.lays "java/lang/UnsupportedOperationException" "java/lang/Throwable" "depth" "I") ∈ jW := jC_7 _ (List.mem_of_getElem? (i := 38) rfl)
theorem jm_7_39 : (Jvm.Cond.superclass "java/lang/UnsupportedOperationException" "java/lang/RuntimeException") ∈ jW := jC_7 _ (List.mem_of_getElem? (i := 39) rfl)
theorem jm_7_40 : (Jvm.Cond.methodLink "JoinedLeavesLaw" (96 : Nat) ({ cls := "JoinedLeavesLaw", name := "answer", desc := "(LJoinedLeaves;II[J)I" } : Jvm.MethodName)) ∈ jW := jC_7 _ (List.mem_of_getElem? (i := 40) rfl)
theorem jm_7_41 : (Jvm.Cond.static ({ cls := "JoinedLeavesLaw", name := "answer", desc := "(LJoinedLeaves;II[J)I" } : Jvm.MethodName)) ∈ jW := jC_7 _ (List.mem_of_getElem? (i := 41) rfl)
theorem jm_7_42 : (Jvm.Cond.methodLink "JoinedLeavesLaw" (29 : Nat) ({ cls := "JoinedLeaves", name := "answer", desc := "(II)I" } : Jvm.MethodName)) ∈ jW := jC_7 _ (List.mem_of_getElem? (i := 42) rfl)
theorem jm_7_43 : (Jvm.Cond.instanceMethod ({ cls := "JoinedLeaves", name := "answer", desc := "(II)I" } : Jvm.MethodName)) ∈ jW := jC_7 _ (List.mem_of_getElem? (i := 43) rfl)
theorem jm_7_44 : (Jvm.Cond.selects "JoinedLeaves" ({ cls := "JoinedLeaves", name := "answer", desc := "(II)I" } : Jvm.MethodName) ({ cls := "JoinedLeaves", name := "answer", desc := "(II)I" } : Jvm.MethodName)) ∈ jW := jC_7 _ (List.mem_of_getElem? (i := 44) rfl)
theorem jm_7_45 : (Jvm.Cond.code ({ cls := "JoinedLeaves", name := "answer", desc := "(II)I" } : Jvm.MethodName) prog_1_method_15_code (3 : Nat) (Option.some Jvm.ClassFile.FieldType.int)) ∈ jW := jC_7 _ (List.mem_of_getElem? (i := 45) rfl)
theorem jm_7_46 : (Jvm.Cond.instanceMethod ({ cls := "JoinedLeaves$Join", name := "valueInAnswer", desc := "(II)I" } : Jvm.MethodName)) ∈ jW := jC_7 _ (List.mem_of_getElem? (i := 46) rfl)
theorem jm_7_47 : (Jvm.Cond.code ({ cls := "JoinedLeaves$Join", name := "valueInAnswer", desc := "(II)I" } : Jvm.MethodName) prog_4_method_5_code (3 : Nat) (Option.some Jvm.ClassFile.FieldType.int)) ∈ jW := jC_7 _ (List.mem_of_getElem? (i := 47) rfl)
theorem jm_8_0 : (Jvm.Cond.classLink "JoinedLeavesLaw" (34 : Nat) "JoinedLeavesModel") ∈ jW := jC_8 _ (List.mem_of_getElem? (i := 0) rfl)
theorem jm_8_1 : (Jvm.Cond.instantiable "JoinedLeavesModel" (21 : Nat)) ∈ jW := jC_8 _ (List.mem_of_getElem? (i := 1) rfl)
theorem jm_8_2 : (Jvm.Cond.methodLink "JoinedLeavesLaw" (36 : Nat) ({ cls := "JoinedLeavesModel", name := "<init>", desc := "()V" } : Jvm.MethodName)) ∈ jW := jC_8 _ (List.mem_of_getElem? (i := 2) rfl)
theorem jm_8_3 : (Jvm.Cond.instanceMethod ({ cls := "JoinedLeavesModel", name := "<init>", desc := "()V" } : Jvm.MethodName)) ∈ jW := jC_8 _ (List.mem_of_getElem? (i := 3) rfl)
theorem jm_8_4 : (Jvm.Cond.code ({ cls := "JoinedLeavesModel", name := "<init>", desc := "()V" } : Jvm.MethodName) prog_8_method_1_code (1 : Nat) (Option.none : Option Jvm.ClassFile.FieldType)) ∈ jW := jC_8 _ (List.mem_of_getElem? (i := 4) rfl)
theorem jm_8_5 : (Jvm.Cond.methodLink "JoinedLeavesModel" (1 : Nat) ({ cls := "java/lang/Object", name := "<init>", desc := "()V" } : Jvm.MethodName)) ∈ jW := jC_8 _ (List.mem_of_getElem? (i := 5) rfl)
theorem jm_8_6 : (Jvm.Cond.fieldLink "JoinedLeavesModel" (49 : Nat) "JoinedLeavesModel" "code" "I") ∈ jW := jC_8 _ (List.mem_of_getElem? (i := 6) rfl)
theorem jm_8_7 : (Jvm.Cond.fieldLink "JoinedLeavesModel" (53 : Nat) "JoinedLeavesModel" "relations" "I") ∈ jW := jC_8 _ (List.mem_of_getElem? (i := 7) rfl)
theorem jm_8_8 : (Jvm.Cond.fieldLink "JoinedLeavesModel" (7 : Nat) "JoinedLeavesModel" "widths" "[I") ∈ jW := jC_8 _ (List.mem_of_getElem? (i := 8) rfl)
theorem jm_8_9 : (Jvm.Cond.fieldLink "JoinedLeavesModel" (13 : Nat) "JoinedLeavesModel" "counts" "[I") ∈ jW := jC_8 _ (List.mem_of_getElem? (i := 9) rfl)
theorem jm_8_10 : (Jvm.Cond.fieldLink "JoinedLeavesModel" (16 : Nat) "JoinedLeavesModel" "values" "[I") ∈ jW := jC_8 _ (List.mem_of_getElem? (i := 10) rfl)
theorem jm_8_11 : (Jvm.Cond.fieldLink "JoinedLeavesModel" (56 : Nat) "JoinedLeavesModel" "atoms" "I") ∈ jW := jC_8 _ (List.mem_of_getElem? (i := 11) rfl)
theorem jm_8_12 : (Jvm.Cond.fieldLink "JoinedLeavesModel" (19 : Nat) "JoinedLeavesModel" "of" "[I") ∈ jW := jC_8 _ (List.mem_of_getElem? (i := 12) rfl)
theorem jm_8_13 : (Jvm.Cond.fieldLink "JoinedLeavesModel" (22 : Nat) "JoinedLeavesModel" "variables" "[I") ∈ jW := jC_8 _ (List.mem_of_getElem? (i := 13) rfl)
theorem jm_8_14 : (Jvm.Cond.fieldLink "JoinedLeavesModel" (74 : Nat) "JoinedLeavesModel" "headLength" "I") ∈ jW := jC_8 _ (List.mem_of_getElem? (i := 14) rfl)
theorem jm_8_15 : (Jvm.Cond.fieldLink "JoinedLeavesModel" (25 : Nat) "JoinedLeavesModel" "heads" "[I") ∈ jW := jC_8 _ (List.mem_of_getElem? (i := 15) rfl)
theorem jm_8_16 : (Jvm.Cond.fieldLink "JoinedLeavesModel" (77 : Nat) "JoinedLeavesModel" "left" "I") ∈ jW := jC_8 _ (List.mem_of_getElem? (i := 16) rfl)
theorem jm_8_17 : (Jvm.Cond.fieldLink "JoinedLeavesModel" (28 : Nat) "JoinedLeavesModel" "parents" "[I") ∈ jW := jC_8 _ (List.mem_of_getElem? (i := 17) rfl)
theorem jm_8_18 : (Jvm.Cond.fieldLink "JoinedLeavesModel" (31 : Nat) "JoinedLeavesModel" "turns" "[I") ∈ jW := jC_8 _ (List.mem_of_getElem? (i := 18) rfl)
theorem jm_8_19 : (Jvm.Cond.fieldLink "JoinedLeavesModel" (70 : Nat) "JoinedLeavesModel" "known" "Z") ∈ jW := jC_8 _ (List.mem_of_getElem? (i := 19) rfl)
theorem jm_8_20 : (Jvm.Cond.fieldLink "JoinedLeavesModel" (103 : Nat) "JoinedLeavesModel" "ways" "J") ∈ jW := jC_8 _ (List.mem_of_getElem? (i := 20) rfl)
theorem jm_8_21 : (Jvm.Cond.fieldLink "JoinedLeavesModel" (34 : Nat) "JoinedLeavesModel" "value" "[I") ∈ jW := jC_8 _ (List.mem_of_getElem? (i := 21) rfl)
theorem jm_8_22 : (Jvm.Cond.fieldLink "JoinedLeavesModel" (37 : Nat) "JoinedLeavesModel" "tries" "[I") ∈ jW := jC_8 _ (List.mem_of_getElem? (i := 22) rfl)
theorem jm_8_23 : (Jvm.Cond.fieldLink "JoinedLeavesModel" (40 : Nat) "JoinedLeavesModel" "lives" "[I") ∈ jW := jC_8 _ (List.mem_of_getElem? (i := 23) rfl)
theorem jm_8_24 : (Jvm.Cond.fieldLink "JoinedLeavesModel" (43 : Nat) "JoinedLeavesModel" "answered" "[I") ∈ jW := jC_8 _ (List.mem_of_getElem? (i := 24) rfl)
theorem jm_8_25 : (Jvm.Cond.fieldLink "JoinedLeavesModel" (114 : Nat) "JoinedLeavesModel" "answers" "I") ∈ jW := jC_8 _ (List.mem_of_getElem? (i := 25) rfl)
theorem jm_8_26 : (Jvm.Cond.fieldLink "JoinedLeavesModel" (46 : Nat) "JoinedLeavesModel" "firsts" "[I") ∈ jW := jC_8 _ (List.mem_of_getElem? (i := 26) rfl)
theorem jm_8_27 : (Jvm.Cond.lays "JoinedLeavesModel" "JoinedLeavesModel" "code" "I") ∈ jW := jC_8 _ (List.mem_of_getElem? (i := 27) rfl)
theorem jm_8_28 : (Jvm.Cond.lays "JoinedLeavesModel" "JoinedLeavesModel" "relations" "I") ∈ jW := jC_8 _ (List.mem_of_getElem? (i := 28) rfl)
theorem jm_8_29 : (Jvm.Cond.laysFinal "JoinedLeavesModel" "JoinedLeavesModel" "widths" "[I") ∈ jW := jC_8 _ (List.mem_of_getElem? (i := 29) rfl)
theorem jm_8_30 : (Jvm.Cond.laysFinal "JoinedLeavesModel" "JoinedLeavesModel" "counts" "[I") ∈ jW := jC_8 _ (List.mem_of_getElem? (i := 30) rfl)
theorem jm_8_31 : (Jvm.Cond.laysFinal "JoinedLeavesModel" "JoinedLeavesModel" "values" "[I") ∈ jW := jC_8 _ (List.mem_of_getElem? (i := 31) rfl)
theorem jm_8_32 : (Jvm.Cond.lays "JoinedLeavesModel" "JoinedLeavesModel" "atoms" "I") ∈ jW := jC_8 _ (List.mem_of_getElem? (i := 32) rfl)
theorem jm_8_33 : (Jvm.Cond.laysFinal "JoinedLeavesModel" "JoinedLeavesModel" "of" "[I") ∈ jW := jC_8 _ (List.mem_of_getElem? (i := 33) rfl)
theorem jm_8_34 : (Jvm.Cond.laysFinal "JoinedLeavesModel" "JoinedLeavesModel" "variables" "[I") ∈ jW := jC_8 _ (List.mem_of_getElem? (i := 34) rfl)
theorem jm_8_35 : (Jvm.Cond.lays "JoinedLeavesModel" "JoinedLeavesModel" "headLength" "I") ∈ jW := jC_8 _ (List.mem_of_getElem? (i := 35) rfl)
theorem jm_8_36 : (Jvm.Cond.laysFinal "JoinedLeavesModel" "JoinedLeavesModel" "heads" "[I") ∈ jW := jC_8 _ (List.mem_of_getElem? (i := 36) rfl)
theorem jm_8_37 : (Jvm.Cond.lays "JoinedLeavesModel" "JoinedLeavesModel" "left" "I") ∈ jW := jC_8 _ (List.mem_of_getElem? (i := 37) rfl)
theorem jm_8_38 : (Jvm.Cond.laysFinal "JoinedLeavesModel" "JoinedLeavesModel" "parents" "[I") ∈ jW := jC_8 _ (List.mem_of_getElem? (i := 38) rfl)
theorem jm_8_39 : (Jvm.Cond.laysFinal "JoinedLeavesModel" "JoinedLeavesModel" "turns" "[I") ∈ jW := jC_8 _ (List.mem_of_getElem? (i := 39) rfl)
theorem jm_8_40 : (Jvm.Cond.lays "JoinedLeavesModel" "JoinedLeavesModel" "known" "Z") ∈ jW := jC_8 _ (List.mem_of_getElem? (i := 40) rfl)
theorem jm_8_41 : (Jvm.Cond.lays "JoinedLeavesModel" "JoinedLeavesModel" "ways" "J") ∈ jW := jC_8 _ (List.mem_of_getElem? (i := 41) rfl)
theorem jm_8_42 : (Jvm.Cond.laysFinal "JoinedLeavesModel" "JoinedLeavesModel" "value" "[I") ∈ jW := jC_8 _ (List.mem_of_getElem? (i := 42) rfl)
theorem jm_8_43 : (Jvm.Cond.laysFinal "JoinedLeavesModel" "JoinedLeavesModel" "tries" "[I") ∈ jW := jC_8 _ (List.mem_of_getElem? (i := 43) rfl)
theorem jm_8_44 : (Jvm.Cond.laysFinal "JoinedLeavesModel" "JoinedLeavesModel" "lives" "[I") ∈ jW := jC_8 _ (List.mem_of_getElem? (i := 44) rfl)
theorem jm_8_45 : (Jvm.Cond.laysFinal "JoinedLeavesModel" "JoinedLeavesModel" "answered" "[I") ∈ jW := jC_8 _ (List.mem_of_getElem? (i := 45) rfl)
theorem jm_8_46 : (Jvm.Cond.lays "JoinedLeavesModel" "JoinedLeavesModel" "answers" "I") ∈ jW := jC_8 _ (List.mem_of_getElem? (i := 46) rfl)
theorem jm_8_47 : (Jvm.Cond.laysFinal "JoinedLeavesModel" "JoinedLeavesModel" "firsts" "[I") ∈ jW := jC_8 _ (List.mem_of_getElem? (i := 47) rfl)
theorem jm_9_0 : (Jvm.Cond.superclass "JoinedLeavesModel" "java/lang/Object") ∈ jW := jC_9 _ (List.mem_of_getElem? (i := 0) rfl)
theorem jm_9_1 : (Jvm.Cond.methodLink "JoinedLeavesLaw" (86 : Nat) ({ cls := "JoinedLeavesModel", name := "thrown", desc := "()I" } : Jvm.MethodName)) ∈ jW := jC_9 _ (List.mem_of_getElem? (i := 1) rfl)
theorem jm_9_2 : (Jvm.Cond.instanceMethod ({ cls := "JoinedLeavesModel", name := "thrown", desc := "()I" } : Jvm.MethodName)) ∈ jW := jC_9 _ (List.mem_of_getElem? (i := 2) rfl)
theorem jm_9_3 : (Jvm.Cond.selects "JoinedLeavesModel" ({ cls := "JoinedLeavesModel", name := "thrown", desc := "()I" } : Jvm.MethodName) ({ cls := "JoinedLeavesModel", name := "thrown", desc := "()I" } : Jvm.MethodName)) ∈ jW := jC_9 _ (List.mem_of_getElem? (i := 3) rfl)
theorem jm_9_4 : (Jvm.Cond.code ({ cls := "JoinedLeavesModel", name := "thrown", desc := "()I" } : Jvm.MethodName) prog_8_method_2_code (1 : Nat) (Option.some Jvm.ClassFile.FieldType.int)) ∈ jW := jC_9 _ (List.mem_of_getElem? (i := 4) rfl)
theorem jm_9_5 : (Jvm.Cond.methodLink "JoinedLeavesLaw" (40 : Nat) ({ cls := "JoinedLeavesModel", name := "relation", desc := "(I)I" } : Jvm.MethodName)) ∈ jW := jC_9 _ (List.mem_of_getElem? (i := 5) rfl)
theorem jm_9_6 : (Jvm.Cond.instanceMethod ({ cls := "JoinedLeavesModel", name := "relation", desc := "(I)I" } : Jvm.MethodName)) ∈ jW := jC_9 _ (List.mem_of_getElem? (i := 6) rfl)
theorem jm_9_7 : (Jvm.Cond.selects "JoinedLeavesModel" ({ cls := "JoinedLeavesModel", name := "relation", desc := "(I)I" } : Jvm.MethodName) ({ cls := "JoinedLeavesModel", name := "relation", desc := "(I)I" } : Jvm.MethodName)) ∈ jW := jC_9 _ (List.mem_of_getElem? (i := 7) rfl)
theorem jm_9_8 : (Jvm.Cond.code ({ cls := "JoinedLeavesModel", name := "relation", desc := "(I)I" } : Jvm.MethodName) prog_8_method_5_code (2 : Nat) (Option.some Jvm.ClassFile.FieldType.int)) ∈ jW := jC_9 _ (List.mem_of_getElem? (i := 8) rfl)
theorem jm_9_9 : (Jvm.Cond.methodLink "JoinedLeavesLaw" (45 : Nat) ({ cls := "JoinedLeavesModel", name := "add", desc := "(IIII)Z" } : Jvm.MethodName)) ∈ jW := jC_9 _ (List.mem_of_getElem? (i := 9) rfl)
theorem jm_9_10 : (Jvm.Cond.instanceMethod ({ cls := "JoinedLeavesModel", name := "add", desc := "(IIII)Z" } : Jvm.MethodName)) ∈ jW := jC_9 _ (List.mem_of_getElem? (i := 10) rfl)
theorem jm_9_11 : (Jvm.Cond.selects "JoinedLeavesModel" ({ cls := "JoinedLeavesModel", name := "add", desc := "(IIII)Z" } : Jvm.MethodName) ({ cls := "JoinedLeavesModel", name := "add", desc := "(IIII)Z" } : Jvm.MethodName)) ∈ jW := jC_9 _ (List.mem_of_getElem? (i := 11) rfl)
theorem jm_9_12 : (Jvm.Cond.code ({ cls := "JoinedLeavesModel", name := "add", desc := "(IIII)Z" } : Jvm.MethodName) prog_8_method_8_code (8 : Nat) (Option.some Jvm.ClassFile.FieldType.boolean)) ∈ jW := jC_9 _ (List.mem_of_getElem? (i := 12) rfl)
theorem jm_9_13 : (Jvm.Cond.methodLink "JoinedLeavesModel" (63 : Nat) ({ cls := "JoinedLeavesModel", name := "isRelation", desc := "(I)Z" } : Jvm.MethodName)) ∈ jW := jC_9 _ (List.mem_of_getElem? (i := 13) rfl)
theorem jm_9_14 : (Jvm.Cond.instanceMethod ({ cls := "JoinedLeavesModel", name := "isRelation", desc := "(I)Z" } : Jvm.MethodName)) ∈ jW := jC_9 _ (List.mem_of_getElem? (i := 14) rfl)
theorem jm_9_15 : (Jvm.Cond.code ({ cls := "JoinedLeavesModel", name := "isRelation", desc := "(I)Z" } : Jvm.MethodName) prog_8_method_3_code (2 : Nat) (Option.some Jvm.ClassFile.FieldType.boolean)) ∈ jW := jC_9 _ (List.mem_of_getElem? (i := 15) rfl)
theorem jm_9_16 : (Jvm.Cond.methodLink "JoinedLeavesModel" (67 : Nat) ({ cls := "JoinedLeavesModel", name := "placeOf", desc := "(IIII)I" } : Jvm.MethodName)) ∈ jW := jC_9 _ (List.mem_of_getElem? (i := 16) rfl)
theorem jm_9_17 : (Jvm.Cond.instanceMethod ({ cls := "JoinedLeavesModel", name := "placeOf", desc := "(IIII)I" } : Jvm.MethodName)) ∈ jW := jC_9 _ (List.mem_of_getElem? (i := 17) rfl)
theorem jm_9_18 : (Jvm.Cond.code ({ cls := "JoinedLeavesModel", name := "placeOf", desc := "(IIII)I" } : Jvm.MethodName) prog_8_method_7_code (9 : Nat) (Option.some Jvm.ClassFile.FieldType.int)) ∈ jW := jC_9 _ (List.mem_of_getElem? (i := 18) rfl)
theorem jm_9_19 : (Jvm.Cond.methodLink "JoinedLeavesModel" (59 : Nat) ({ cls := "JoinedLeavesModel", name := "pick", desc := "(IIII)I" } : Jvm.MethodName)) ∈ jW := jC_9 _ (List.mem_of_getElem? (i := 19) rfl)
theorem jm_9_20 : (Jvm.Cond.static ({ cls := "JoinedLeavesModel", name := "pick", desc := "(IIII)I" } : Jvm.MethodName)) ∈ jW := jC_9 _ (List.mem_of_getElem? (i := 20) rfl)
theorem jm_9_21 : (Jvm.Cond.code ({ cls := "JoinedLeavesModel", name := "pick", desc := "(IIII)I" } : Jvm.MethodName) prog_8_method_6_code (4 : Nat) (Option.some Jvm.ClassFile.FieldType.int)) ∈ jW := jC_9 _ (List.mem_of_getElem? (i := 21) rfl)
theorem jm_9_22 : (Jvm.Cond.methodLink "JoinedLeavesLaw" (49 : Nat) ({ cls := "JoinedLeavesModel", name := "drop", desc := "(IIII)Z" } : Jvm.MethodName)) ∈ jW := jC_9 _ (List.mem_of_getElem? (i := 22) rfl)
theorem jm_9_23 : (Jvm.Cond.instanceMethod ({ cls := "JoinedLeavesModel", name := "drop", desc := "(IIII)Z" } : Jvm.MethodName)) ∈ jW := jC_9 _ (List.mem_of_getElem? (i := 23) rfl)
theorem jm_9_24 : (Jvm.Cond.selects "JoinedLeavesModel" ({ cls := "JoinedLeavesModel", name := "drop", desc := "(IIII)Z" } : Jvm.MethodName) ({ cls := "JoinedLeavesModel", name := "drop", desc := "(IIII)Z" } : Jvm.MethodName)) ∈ jW := jC_9 _ (List.mem_of_getElem? (i := 24) rfl)
theorem jm_9_25 : (Jvm.Cond.code ({ cls := "JoinedLeavesModel", name := "drop", desc := "(IIII)Z" } : Jvm.MethodName) prog_8_method_9_code (7 : Nat) (Option.some Jvm.ClassFile.FieldType.boolean)) ∈ jW := jC_9 _ (List.mem_of_getElem? (i := 25) rfl)
theorem jm_9_26 : (Jvm.Cond.methodLink "JoinedLeavesLaw" (53 : Nat) ({ cls := "JoinedLeavesModel", name := "rows", desc := "(I)I" } : Jvm.MethodName)) ∈ jW := jC_9 _ (List.mem_of_getElem? (i := 26) rfl)
theorem jm_9_27 : (Jvm.Cond.instanceMethod ({ cls := "JoinedLeavesModel", name := "rows", desc := "(I)I" } : Jvm.MethodName)) ∈ jW := jC_9 _ (List.mem_of_getElem? (i := 27) rfl)
theorem jm_9_28 : (Jvm.Cond.selects "JoinedLeavesModel" ({ cls := "JoinedLeavesModel", name := "rows", desc := "(I)I" } : Jvm.MethodName) ({ cls := "JoinedLeavesModel", name := "rows", desc := "(I)I" } : Jvm.MethodName)) ∈ jW := jC_9 _ (List.mem_of_getElem? (i := 28) rfl)
theorem jm_9_29 : (Jvm.Cond.code ({ cls := "JoinedLeavesModel", name := "rows", desc := "(I)I" } : Jvm.MethodName) prog_8_method_10_code (2 : Nat) (Option.some Jvm.ClassFile.FieldType.int)) ∈ jW := jC_9 _ (List.mem_of_getElem? (i := 29) rfl)
theorem jm_9_30 : (Jvm.Cond.methodLink "JoinedLeavesLaw" (58 : Nat) ({ cls := "JoinedLeavesModel", name := "atom", desc := "(IIII)I" } : Jvm.MethodName)) ∈ jW := jC_9 _ (List.mem_of_getElem? (i := 30) rfl)
theorem jm_9_31 : (Jvm.Cond.instanceMethod ({ cls := "JoinedLeavesModel", name := "atom", desc := "(IIII)I" } : Jvm.MethodName)) ∈ jW := jC_9 _ (List.mem_of_getElem? (i := 31) rfl)
theorem jm_9_32 : (Jvm.Cond.selects "JoinedLeavesModel" ({ cls := "JoinedLeavesModel", name := "atom", desc := "(IIII)I" } : Jvm.MethodName) ({ cls := "JoinedLeavesModel", name := "atom", desc := "(IIII)I" } : Jvm.MethodName)) ∈ jW := jC_9 _ (List.mem_of_getElem? (i := 32) rfl)
theorem jm_9_33 : (Jvm.Cond.code ({ cls := "JoinedLeavesModel", name := "atom", desc := "(IIII)I" } : Jvm.MethodName) prog_8_method_11_code (8 : Nat) (Option.some Jvm.ClassFile.FieldType.int)) ∈ jW := jC_9 _ (List.mem_of_getElem? (i := 33) rfl)
theorem jm_9_34 : (Jvm.Cond.methodLink "JoinedLeavesLaw" (62 : Nat) ({ cls := "JoinedLeavesModel", name := "head", desc := "(I)I" } : Jvm.MethodName)) ∈ jW := jC_9 _ (List.mem_of_getElem? (i := 34) rfl)
theorem jm_9_35 : (Jvm.Cond.instanceMethod ({ cls := "JoinedLeavesModel", name := "head", desc := "(I)I" } : Jvm.MethodName)) ∈ jW := jC_9 _ (List.mem_of_getElem? (i := 35) rfl)
theorem jm_9_36 : (Jvm.Cond.selects "JoinedLeavesModel" ({ cls := "JoinedLeavesModel", name := "head", desc := "(I)I" } : Jvm.MethodName) ({ cls := "JoinedLeavesModel", name := "head", desc := "(I)I" } : Jvm.MethodName)) ∈ jW := jC_9 _ (List.mem_of_getElem? (i := 36) rfl)
theorem jm_9_37 : (Jvm.Cond.code ({ cls := "JoinedLeavesModel", name := "head", desc := "(I)I" } : Jvm.MethodName) prog_8_method_12_code (4 : Nat) (Option.some Jvm.ClassFile.FieldType.int)) ∈ jW := jC_9 _ (List.mem_of_getElem? (i := 37) rfl)
theorem jm_9_38 : (Jvm.Cond.methodLink "JoinedLeavesLaw" (66 : Nat) ({ cls := "JoinedLeavesModel", name := "clear", desc := "()I" } : Jvm.MethodName)) ∈ jW := jC_9 _ (List.mem_of_getElem? (i := 38) rfl)
theorem jm_9_39 : (Jvm.Cond.instanceMethod ({ cls := "JoinedLeavesModel", name := "clear", desc := "()I" } : Jvm.MethodName)) ∈ jW := jC_9 _ (List.mem_of_getElem? (i := 39) rfl)
theorem jm_9_40 : (Jvm.Cond.selects "JoinedLeavesModel" ({ cls := "JoinedLeavesModel", name := "clear", desc := "()I" } : Jvm.MethodName) ({ cls := "JoinedLeavesModel", name := "clear", desc := "()I" } : Jvm.MethodName)) ∈ jW := jC_9 _ (List.mem_of_getElem? (i := 40) rfl)
theorem jm_9_41 : (Jvm.Cond.code ({ cls := "JoinedLeavesModel", name := "clear", desc := "()I" } : Jvm.MethodName) prog_8_method_13_code (2 : Nat) (Option.some Jvm.ClassFile.FieldType.int)) ∈ jW := jC_9 _ (List.mem_of_getElem? (i := 41) rfl)
theorem jm_9_42 : (Jvm.Cond.methodLink "JoinedLeavesLaw" (71 : Nat) ({ cls := "JoinedLeavesModel", name := "tree", desc := "()Z" } : Jvm.MethodName)) ∈ jW := jC_9 _ (List.mem_of_getElem? (i := 42) rfl)
theorem jm_9_43 : (Jvm.Cond.instanceMethod ({ cls := "JoinedLeavesModel", name := "tree", desc := "()Z" } : Jvm.MethodName)) ∈ jW := jC_9 _ (List.mem_of_getElem? (i := 43) rfl)
theorem jm_9_44 : (Jvm.Cond.selects "JoinedLeavesModel" ({ cls := "JoinedLeavesModel", name := "tree", desc := "()Z" } : Jvm.MethodName) ({ cls := "JoinedLeavesModel", name := "tree", desc := "()Z" } : Jvm.MethodName)) ∈ jW := jC_9 _ (List.mem_of_getElem? (i := 44) rfl)
theorem jm_9_45 : (Jvm.Cond.code ({ cls := "JoinedLeavesModel", name := "tree", desc := "()Z" } : Jvm.MethodName) prog_8_method_19_code (1 : Nat) (Option.some Jvm.ClassFile.FieldType.boolean)) ∈ jW := jC_9 _ (List.mem_of_getElem? (i := 45) rfl)
theorem jm_9_46 : (Jvm.Cond.methodLink "JoinedLeavesModel" (93 : Nat) ({ cls := "JoinedLeavesModel", name := "isTree", desc := "()Z" } : Jvm.MethodName)) ∈ jW := jC_9 _ (List.mem_of_getElem? (i := 46) rfl)
theorem jm_9_47 : (Jvm.Cond.instanceMethod ({ cls := "JoinedLeavesModel", name := "isTree", desc := "()Z" } : Jvm.MethodName)) ∈ jW := jC_9 _ (List.mem_of_getElem? (i := 47) rfl)
theorem jm_10_0 : (Jvm.Cond.code ({ cls := "JoinedLeavesModel", name := "isTree", desc := "()Z" } : Jvm.MethodName) prog_8_method_18_code (1 : Nat) (Option.some Jvm.ClassFile.FieldType.boolean)) ∈ jW := jC_10 _ (List.mem_of_getElem? (i := 0) rfl)
theorem jm_10_1 : (Jvm.Cond.methodLink "JoinedLeavesModel" (90 : Nat) ({ cls := "JoinedLeavesModel", name := "hang", desc := "()V" } : Jvm.MethodName)) ∈ jW := jC_10 _ (List.mem_of_getElem? (i := 1) rfl)
theorem jm_10_2 : (Jvm.Cond.instanceMethod ({ cls := "JoinedLeavesModel", name := "hang", desc := "()V" } : Jvm.MethodName)) ∈ jW := jC_10 _ (List.mem_of_getElem? (i := 2) rfl)
theorem jm_10_3 : (Jvm.Cond.code ({ cls := "JoinedLeavesModel", name := "hang", desc := "()V" } : Jvm.MethodName) prog_8_method_17_code (4 : Nat) (Option.none : Option Jvm.ClassFile.FieldType)) ∈ jW := jC_10 _ (List.mem_of_getElem? (i := 3) rfl)
theorem jm_10_4 : (Jvm.Cond.methodLink "JoinedLeavesModel" (80 : Nat) ({ cls := "JoinedLeavesModel", name := "isLeft", desc := "(I)Z" } : Jvm.MethodName)) ∈ jW := jC_10 _ (List.mem_of_getElem? (i := 4) rfl)
theorem jm_10_5 : (Jvm.Cond.instanceMethod ({ cls := "JoinedLeavesModel", name := "isLeft", desc := "(I)Z" } : Jvm.MethodName)) ∈ jW := jC_10 _ (List.mem_of_getElem? (i := 5) rfl)
theorem jm_10_6 : (Jvm.Cond.code ({ cls := "JoinedLeavesModel", name := "isLeft", desc := "(I)Z" } : Jvm.MethodName) prog_8_method_15_code (2 : Nat) (Option.some Jvm.ClassFile.FieldType.boolean)) ∈ jW := jC_10 _ (List.mem_of_getElem? (i := 6) rfl)
theorem jm_10_7 : (Jvm.Cond.methodLink "JoinedLeavesModel" (87 : Nat) ({ cls := "JoinedLeavesModel", name := "holder", desc := "(I)I" } : Jvm.MethodName)) ∈ jW := jC_10 _ (List.mem_of_getElem? (i := 7) rfl)
theorem jm_10_8 : (Jvm.Cond.instanceMethod ({ cls := "JoinedLeavesModel", name := "holder", desc := "(I)I" } : Jvm.MethodName)) ∈ jW := jC_10 _ (List.mem_of_getElem? (i := 8) rfl)
theorem jm_10_9 : (Jvm.Cond.code ({ cls := "JoinedLeavesModel", name := "holder", desc := "(I)I" } : Jvm.MethodName) prog_8_method_16_code (5 : Nat) (Option.some Jvm.ClassFile.FieldType.int)) ∈ jW := jC_10 _ (List.mem_of_getElem? (i := 9) rfl)
theorem jm_10_10 : (Jvm.Cond.methodLink "JoinedLeavesModel" (83 : Nat) ({ cls := "JoinedLeavesModel", name := "setOf", desc := "(I)I" } : Jvm.MethodName)) ∈ jW := jC_10 _ (List.mem_of_getElem? (i := 10) rfl)
theorem jm_10_11 : (Jvm.Cond.instanceMethod ({ cls := "JoinedLeavesModel", name := "setOf", desc := "(I)I" } : Jvm.MethodName)) ∈ jW := jC_10 _ (List.mem_of_getElem? (i := 11) rfl)
theorem jm_10_12 : (Jvm.Cond.code ({ cls := "JoinedLeavesModel", name := "setOf", desc := "(I)I" } : Jvm.MethodName) prog_8_method_14_code (4 : Nat) (Option.some Jvm.ClassFile.FieldType.int)) ∈ jW := jC_10 _ (List.mem_of_getElem? (i := 12) rfl)
theorem jm_10_13 : (Jvm.Cond.methodLink "JoinedLeavesLaw" (75 : Nat) ({ cls := "JoinedLeavesModel", name := "parent", desc := "(I)I" } : Jvm.MethodName)) ∈ jW := jC_10 _ (List.mem_of_getElem? (i := 13) rfl)
theorem jm_10_14 : (Jvm.Cond.instanceMethod ({ cls := "JoinedLeavesModel", name := "parent", desc := "(I)I" } : Jvm.MethodName)) ∈ jW := jC_10 _ (List.mem_of_getElem? (i := 14) rfl)
theorem jm_10_15 : (Jvm.Cond.selects "JoinedLeavesModel" ({ cls := "JoinedLeavesModel", name := "parent", desc := "(I)I" } : Jvm.MethodName) ({ cls := "JoinedLeavesModel", name := "parent", desc := "(I)I" } : Jvm.MethodName)) ∈ jW := jC_10 _ (List.mem_of_getElem? (i := 15) rfl)
theorem jm_10_16 : (Jvm.Cond.code ({ cls := "JoinedLeavesModel", name := "parent", desc := "(I)I" } : Jvm.MethodName) prog_8_method_20_code (2 : Nat) (Option.some Jvm.ClassFile.FieldType.int)) ∈ jW := jC_10 _ (List.mem_of_getElem? (i := 16) rfl)
theorem jm_10_17 : (Jvm.Cond.methodLink "JoinedLeavesModel" (97 : Nat) ({ cls := "JoinedLeavesModel", name := "isAtom", desc := "(I)Z" } : Jvm.MethodName)) ∈ jW := jC_10 _ (List.mem_of_getElem? (i := 17) rfl)
theorem jm_10_18 : (Jvm.Cond.instanceMethod ({ cls := "JoinedLeavesModel", name := "isAtom", desc := "(I)Z" } : Jvm.MethodName)) ∈ jW := jC_10 _ (List.mem_of_getElem? (i := 18) rfl)
theorem jm_10_19 : (Jvm.Cond.code ({ cls := "JoinedLeavesModel", name := "isAtom", desc := "(I)Z" } : Jvm.MethodName) prog_8_method_4_code (2 : Nat) (Option.some Jvm.ClassFile.FieldType.boolean)) ∈ jW := jC_10 _ (List.mem_of_getElem? (i := 19) rfl)
theorem jm_10_20 : (Jvm.Cond.methodLink "JoinedLeavesLaw" (79 : Nat) ({ cls := "JoinedLeavesModel", name := "turn", desc := "(I)I" } : Jvm.MethodName)) ∈ jW := jC_10 _ (List.mem_of_getElem? (i := 20) rfl)
theorem jm_10_21 : (Jvm.Cond.instanceMethod ({ cls := "JoinedLeavesModel", name := "turn", desc := "(I)I" } : Jvm.MethodName)) ∈ jW := jC_10 _ (List.mem_of_getElem? (i := 21) rfl)
theorem jm_10_22 : (Jvm.Cond.selects "JoinedLeavesModel" ({ cls := "JoinedLeavesModel", name := "turn", desc := "(I)I" } : Jvm.MethodName) ({ cls := "JoinedLeavesModel", name := "turn", desc := "(I)I" } : Jvm.MethodName)) ∈ jW := jC_10 _ (List.mem_of_getElem? (i := 22) rfl)
theorem jm_10_23 : (Jvm.Cond.code ({ cls := "JoinedLeavesModel", name := "turn", desc := "(I)I" } : Jvm.MethodName) prog_8_method_21_code (2 : Nat) (Option.some Jvm.ClassFile.FieldType.int)) ∈ jW := jC_10 _ (List.mem_of_getElem? (i := 23) rfl)
theorem jm_10_24 : (Jvm.Cond.methodLink "JoinedLeavesLaw" (85 : Nat) ({ cls := "JoinedLeavesModel", name := "ways", desc := "()J" } : Jvm.MethodName)) ∈ jW := jC_10 _ (List.mem_of_getElem? (i := 24) rfl)
theorem jm_10_25 : (Jvm.Cond.instanceMethod ({ cls := "JoinedLeavesModel", name := "ways", desc := "()J" } : Jvm.MethodName)) ∈ jW := jC_10 _ (List.mem_of_getElem? (i := 25) rfl)
theorem jm_10_26 : (Jvm.Cond.selects "JoinedLeavesModel" ({ cls := "JoinedLeavesModel", name := "ways", desc := "()J" } : Jvm.MethodName) ({ cls := "JoinedLeavesModel", name := "ways", desc := "()J" } : Jvm.MethodName)) ∈ jW := jC_10 _ (List.mem_of_getElem? (i := 26) rfl)
theorem jm_10_27 : (Jvm.Cond.code ({ cls := "JoinedLeavesModel", name := "ways", desc := "()J" } : Jvm.MethodName) prog_8_method_26_code (1 : Nat) (Option.some Jvm.ClassFile.FieldType.long)) ∈ jW := jC_10 _ (List.mem_of_getElem? (i := 27) rfl)
theorem jm_10_28 : (Jvm.Cond.methodLink "JoinedLeavesModel" (118 : Nat) ({ cls := "JoinedLeavesModel", name := "look", desc := "()V" } : Jvm.MethodName)) ∈ jW := jC_10 _ (List.mem_of_getElem? (i := 28) rfl)
theorem jm_10_29 : (Jvm.Cond.instanceMethod ({ cls := "JoinedLeavesModel", name := "look", desc := "()V" } : Jvm.MethodName)) ∈ jW := jC_10 _ (List.mem_of_getElem? (i := 29) rfl)
theorem jm_10_30 : (Jvm.Cond.code ({ cls := "JoinedLeavesModel", name := "look", desc := "()V" } : Jvm.MethodName) prog_8_method_25_code (3 : Nat) (Option.none : Option Jvm.ClassFile.FieldType)) ∈ jW := jC_10 _ (List.mem_of_getElem? (i := 30) rfl)
theorem jm_10_31 : (Jvm.Cond.methodLink "JoinedLeavesModel" (107 : Nat) ({ cls := "JoinedLeavesModel", name := "note", desc := "()V" } : Jvm.MethodName)) ∈ jW := jC_10 _ (List.mem_of_getElem? (i := 31) rfl)
theorem jm_10_32 : (Jvm.Cond.instanceMethod ({ cls := "JoinedLeavesModel", name := "note", desc := "()V" } : Jvm.MethodName)) ∈ jW := jC_10 _ (List.mem_of_getElem? (i := 32) rfl)
theorem jm_10_33 : (Jvm.Cond.code ({ cls := "JoinedLeavesModel", name := "note", desc := "()V" } : Jvm.MethodName) prog_8_method_24_code (3 : Nat) (Option.none : Option Jvm.ClassFile.FieldType)) ∈ jW := jC_10 _ (List.mem_of_getElem? (i := 33) rfl)
theorem jm_10_34 : (Jvm.Cond.methodLink "JoinedLeavesModel" (110 : Nat) ({ cls := "JoinedLeavesModel", name := "fits", desc := "(II)Z" } : Jvm.MethodName)) ∈ jW := jC_10 _ (List.mem_of_getElem? (i := 34) rfl)
theorem jm_10_35 : (Jvm.Cond.instanceMethod ({ cls := "JoinedLeavesModel", name := "fits", desc := "(II)Z" } : Jvm.MethodName)) ∈ jW := jC_10 _ (List.mem_of_getElem? (i := 35) rfl)
theorem jm_10_36 : (Jvm.Cond.code ({ cls := "JoinedLeavesModel", name := "fits", desc := "(II)Z" } : Jvm.MethodName) prog_8_method_23_code (9 : Nat) (Option.some Jvm.ClassFile.FieldType.boolean)) ∈ jW := jC_10 _ (List.mem_of_getElem? (i := 36) rfl)
theorem jm_10_37 : (Jvm.Cond.methodLink "JoinedLeavesModel" (100 : Nat) ({ cls := "JoinedLeavesModel", name := "before", desc := "(I)I" } : Jvm.MethodName)) ∈ jW := jC_10 _ (List.mem_of_getElem? (i := 37) rfl)
theorem jm_10_38 : (Jvm.Cond.instanceMethod ({ cls := "JoinedLeavesModel", name := "before", desc := "(I)I" } : Jvm.MethodName)) ∈ jW := jC_10 _ (List.mem_of_getElem? (i := 38) rfl)
theorem jm_10_39 : (Jvm.Cond.code ({ cls := "JoinedLeavesModel", name := "before", desc := "(I)I" } : Jvm.MethodName) prog_8_method_22_code (4 : Nat) (Option.some Jvm.ClassFile.FieldType.int)) ∈ jW := jC_10 _ (List.mem_of_getElem? (i := 39) rfl)
theorem jm_10_40 : (Jvm.Cond.methodLink "JoinedLeavesLaw" (92 : Nat) ({ cls := "JoinedLeavesModel", name := "live", desc := "(I)I" } : Jvm.MethodName)) ∈ jW := jC_10 _ (List.mem_of_getElem? (i := 40) rfl)
theorem jm_10_41 : (Jvm.Cond.instanceMethod ({ cls := "JoinedLeavesModel", name := "live", desc := "(I)I" } : Jvm.MethodName)) ∈ jW := jC_10 _ (List.mem_of_getElem? (i := 41) rfl)
theorem jm_10_42 : (Jvm.Cond.selects "JoinedLeavesModel" ({ cls := "JoinedLeavesModel", name := "live", desc := "(I)I" } : Jvm.MethodName) ({ cls := "JoinedLeavesModel", name := "live", desc := "(I)I" } : Jvm.MethodName)) ∈ jW := jC_10 _ (List.mem_of_getElem? (i := 42) rfl)
theorem jm_10_43 : (Jvm.Cond.code ({ cls := "JoinedLeavesModel", name := "live", desc := "(I)I" } : Jvm.MethodName) prog_8_method_27_code (4 : Nat) (Option.some Jvm.ClassFile.FieldType.int)) ∈ jW := jC_10 _ (List.mem_of_getElem? (i := 43) rfl)
theorem jm_10_44 : (Jvm.Cond.methodLink "JoinedLeavesLaw" (95 : Nat) ({ cls := "JoinedLeavesModel", name := "answers", desc := "()I" } : Jvm.MethodName)) ∈ jW := jC_10 _ (List.mem_of_getElem? (i := 44) rfl)
theorem jm_10_45 : (Jvm.Cond.instanceMethod ({ cls := "JoinedLeavesModel", name := "answers", desc := "()I" } : Jvm.MethodName)) ∈ jW := jC_10 _ (List.mem_of_getElem? (i := 45) rfl)
theorem jm_10_46 : (Jvm.Cond.selects "JoinedLeavesModel" ({ cls := "JoinedLeavesModel", name := "answers", desc := "()I" } : Jvm.MethodName) ({ cls := "JoinedLeavesModel", name := "answers", desc := "()I" } : Jvm.MethodName)) ∈ jW := jC_10 _ (List.mem_of_getElem? (i := 46) rfl)
theorem jm_10_47 : (Jvm.Cond.code ({ cls := "JoinedLeavesModel", name := "answers", desc := "()I" } : Jvm.MethodName) prog_8_method_30_code (1 : Nat) (Option.some Jvm.ClassFile.FieldType.int)) ∈ jW := jC_10 _ (List.mem_of_getElem? (i := 47) rfl)
theorem jm_11_0 : (Jvm.Cond.methodLink "JoinedLeavesModel" (124 : Nat) ({ cls := "JoinedLeavesModel", name := "codeOfAnswers", desc := "()I" } : Jvm.MethodName)) ∈ jW := jC_11 _ (List.mem_of_getElem? (i := 0) rfl)
theorem jm_11_1 : (Jvm.Cond.instanceMethod ({ cls := "JoinedLeavesModel", name := "codeOfAnswers", desc := "()I" } : Jvm.MethodName)) ∈ jW := jC_11 _ (List.mem_of_getElem? (i := 1) rfl)
theorem jm_11_2 : (Jvm.Cond.code ({ cls := "JoinedLeavesModel", name := "codeOfAnswers", desc := "()I" } : Jvm.MethodName) prog_8_method_29_code (1 : Nat) (Option.some Jvm.ClassFile.FieldType.int)) ∈ jW := jC_11 _ (List.mem_of_getElem? (i := 2) rfl)
theorem jm_11_3 : (Jvm.Cond.methodLink "JoinedLeavesModel" (121 : Nat) ({ cls := "JoinedLeavesModel", name := "isHeadBound", desc := "()Z" } : Jvm.MethodName)) ∈ jW := jC_11 _ (List.mem_of_getElem? (i := 3) rfl)
theorem jm_11_4 : (Jvm.Cond.instanceMethod ({ cls := "JoinedLeavesModel", name := "isHeadBound", desc := "()Z" } : Jvm.MethodName)) ∈ jW := jC_11 _ (List.mem_of_getElem? (i := 4) rfl)
theorem jm_11_5 : (Jvm.Cond.code ({ cls := "JoinedLeavesModel", name := "isHeadBound", desc := "()Z" } : Jvm.MethodName) prog_8_method_28_code (3 : Nat) (Option.some Jvm.ClassFile.FieldType.boolean)) ∈ jW := jC_11 _ (List.mem_of_getElem? (i := 5) rfl)
theorem jm_11_6 : (Jvm.Cond.methodLink "JoinedLeavesLaw" (99 : Nat) ({ cls := "JoinedLeavesModel", name := "answer", desc := "(II)I" } : Jvm.MethodName)) ∈ jW := jC_11 _ (List.mem_of_getElem? (i := 6) rfl)
theorem jm_11_7 : (Jvm.Cond.instanceMethod ({ cls := "JoinedLeavesModel", name := "answer", desc := "(II)I" } : Jvm.MethodName)) ∈ jW := jC_11 _ (List.mem_of_getElem? (i := 7) rfl)
theorem jm_11_8 : (Jvm.Cond.selects "JoinedLeavesModel" ({ cls := "JoinedLeavesModel", name := "answer", desc := "(II)I" } : Jvm.MethodName) ({ cls := "JoinedLeavesModel", name := "answer", desc := "(II)I" } : Jvm.MethodName)) ∈ jW := jC_11 _ (List.mem_of_getElem? (i := 8) rfl)
theorem jm_11_9 : (Jvm.Cond.code ({ cls := "JoinedLeavesModel", name := "answer", desc := "(II)I" } : Jvm.MethodName) prog_8_method_31_code (3 : Nat) (Option.some Jvm.ClassFile.FieldType.int)) ∈ jW := jC_11 _ (List.mem_of_getElem? (i := 9) rfl)
theorem jm_11_10 : (Jvm.Cond.selects "JoinedLeaves$Relation" ({ cls := "JoinedLeaves$Relation", name := "put", desc := "(III)Z" } : Jvm.MethodName) ({ cls := "JoinedLeaves$Relation", name := "put", desc := "(III)Z" } : Jvm.MethodName)) ∈ jW := jC_11 _ (List.mem_of_getElem? (i := 10) rfl)
theorem jm_11_11 : (Jvm.Cond.selects "JoinedLeaves$Relation" ({ cls := "JoinedLeaves$Relation", name := "pack", desc := "(III)I" } : Jvm.MethodName) ({ cls := "JoinedLeaves$Relation", name := "pack", desc := "(III)I" } : Jvm.MethodName)) ∈ jW := jC_11 _ (List.mem_of_getElem? (i := 11) rfl)
theorem jm_11_12 : (Jvm.Cond.selects "JoinedLeaves$Relation" ({ cls := "JoinedLeaves$Relation", name := "placeOf", desc := "(I)I" } : Jvm.MethodName) ({ cls := "JoinedLeaves$Relation", name := "placeOf", desc := "(I)I" } : Jvm.MethodName)) ∈ jW := jC_11 _ (List.mem_of_getElem? (i := 12) rfl)
theorem jm_11_13 : (Jvm.Cond.selects "JoinedLeaves$Relation" ({ cls := "JoinedLeaves$Relation", name := "take", desc := "(III)Z" } : Jvm.MethodName) ({ cls := "JoinedLeaves$Relation", name := "take", desc := "(III)Z" } : Jvm.MethodName)) ∈ jW := jC_11 _ (List.mem_of_getElem? (i := 13) rfl)
theorem jm_11_14 : (Jvm.Cond.selects "JoinedLeaves$Question" ({ cls := "JoinedLeaves$Question", name := "putAtom", desc := "(LJoinedLeaves$Relation;III)Z" } : Jvm.MethodName) ({ cls := "JoinedLeaves$Question", name := "putAtom", desc := "(LJoinedLeaves$Relation;III)Z" } : Jvm.MethodName)) ∈ jW := jC_11 _ (List.mem_of_getElem? (i := 14) rfl)
theorem jm_11_15 : (Jvm.Cond.selects "JoinedLeaves$Atom" ({ cls := "JoinedLeaves$Atom", name := "bind", desc := "(LJoinedLeaves$Relation;III)Z" } : Jvm.MethodName) ({ cls := "JoinedLeaves$Atom", name := "bind", desc := "(LJoinedLeaves$Relation;III)Z" } : Jvm.MethodName)) ∈ jW := jC_11 _ (List.mem_of_getElem? (i := 15) rfl)
theorem jm_11_16 : (Jvm.Cond.selects "JoinedLeaves$Hanging" ({ cls := "JoinedLeaves$Hanging", name := "hangAtoms", desc := "()V" } : Jvm.MethodName) ({ cls := "JoinedLeaves$Hanging", name := "hangAtoms", desc := "()V" } : Jvm.MethodName)) ∈ jW := jC_11 _ (List.mem_of_getElem? (i := 16) rfl)
theorem jm_11_17 : (Jvm.Cond.selects "JoinedLeaves$Hanging" ({ cls := "JoinedLeaves$Hanging", name := "hangLeastEar", desc := "()V" } : Jvm.MethodName) ({ cls := "JoinedLeaves$Hanging", name := "hangLeastEar", desc := "()V" } : Jvm.MethodName)) ∈ jW := jC_11 _ (List.mem_of_getElem? (i := 17) rfl)
theorem jm_11_18 : (Jvm.Cond.selects "JoinedLeaves$Hanging" ({ cls := "JoinedLeaves$Hanging", name := "leastHolderOf", desc := "(I)I" } : Jvm.MethodName) ({ cls := "JoinedLeaves$Hanging", name := "leastHolderOf", desc := "(I)I" } : Jvm.MethodName)) ∈ jW := jC_11 _ (List.mem_of_getElem? (i := 18) rfl)
theorem jm_11_19 : (Jvm.Cond.selects "JoinedLeaves$Hanging" ({ cls := "JoinedLeaves$Hanging", name := "variablesOf", desc := "(I)I" } : Jvm.MethodName) ({ cls := "JoinedLeaves$Hanging", name := "variablesOf", desc := "(I)I" } : Jvm.MethodName)) ∈ jW := jC_11 _ (List.mem_of_getElem? (i := 19) rfl)
theorem jm_11_20 : (Jvm.Cond.selects "JoinedLeaves$Question" ({ cls := "JoinedLeaves$Question", name := "putInHead", desc := "(I)Z" } : Jvm.MethodName) ({ cls := "JoinedLeaves$Question", name := "putInHead", desc := "(I)Z" } : Jvm.MethodName)) ∈ jW := jC_11 _ (List.mem_of_getElem? (i := 20) rfl)
theorem jm_11_21 : (Jvm.Cond.selects "JoinedLeaves$Question" ({ cls := "JoinedLeaves$Question", name := "empty", desc := "()V" } : Jvm.MethodName) ({ cls := "JoinedLeaves$Question", name := "empty", desc := "()V" } : Jvm.MethodName)) ∈ jW := jC_11 _ (List.mem_of_getElem? (i := 21) rfl)
theorem jm_11_22 : (Jvm.Cond.selects "JoinedLeaves$Hanging" ({ cls := "JoinedLeaves$Hanging", name := "isTree", desc := "()Z" } : Jvm.MethodName) ({ cls := "JoinedLeaves$Hanging", name := "isTree", desc := "()Z" } : Jvm.MethodName)) ∈ jW := jC_11 _ (List.mem_of_getElem? (i := 22) rfl)
theorem jm_11_23 : (Jvm.Cond.selects "JoinedLeaves" ({ cls := "JoinedLeaves", name := "requireTree", desc := "()V" } : Jvm.MethodName) ({ cls := "JoinedLeaves", name := "requireTree", desc := "()V" } : Jvm.MethodName)) ∈ jW := jC_11 _ (List.mem_of_getElem? (i := 23) rfl)
theorem jm_11_24 : (Jvm.Cond.selects "java/lang/Throwable" ({ cls := "java/lang/Throwable", name := "fillInStackTrace", desc := "(I)Ljava/lang/Throwable;" } : Jvm.MethodName) ({ cls := "java/lang/Throwable", name := "fillInStackTrace", desc := "(I)Ljava/lang/Throwable;" } : Jvm.MethodName)) ∈ jW := jC_11 _ (List.mem_of_getElem? (i := 24) rfl)
theorem jm_11_25 : (Jvm.Cond.selects "JoinedLeaves$Join" ({ cls := "JoinedLeaves$Join", name := "countWays", desc := "()J" } : Jvm.MethodName) ({ cls := "JoinedLeaves$Join", name := "countWays", desc := "()J" } : Jvm.MethodName)) ∈ jW := jC_11 _ (List.mem_of_getElem? (i := 25) rfl)
theorem jm_11_26 : (Jvm.Cond.selects "JoinedLeaves$Hanging" ({ cls := "JoinedLeaves$Hanging", name := "root", desc := "()I" } : Jvm.MethodName) ({ cls := "JoinedLeaves$Hanging", name := "root", desc := "()I" } : Jvm.MethodName)) ∈ jW := jC_11 _ (List.mem_of_getElem? (i := 26) rfl)
theorem jm_11_27 : (Jvm.Cond.selects "JoinedLeaves$Join" ({ cls := "JoinedLeaves$Join", name := "compareRows", desc := "()V" } : Jvm.MethodName) ({ cls := "JoinedLeaves$Join", name := "compareRows", desc := "()V" } : Jvm.MethodName)) ∈ jW := jC_11 _ (List.mem_of_getElem? (i := 27) rfl)
theorem jm_11_28 : (Jvm.Cond.selects "JoinedLeaves$Atom" ({ cls := "JoinedLeaves$Atom", name := "rowsAgreeingWithThemselves", desc := "()I" } : Jvm.MethodName) ({ cls := "JoinedLeaves$Atom", name := "rowsAgreeingWithThemselves", desc := "()I" } : Jvm.MethodName)) ∈ jW := jC_11 _ (List.mem_of_getElem? (i := 28) rfl)
theorem jm_11_29 : (Jvm.Cond.selects "JoinedLeaves$Atom" ({ cls := "JoinedLeaves$Atom", name := "agreesWithItself", desc := "(I)Z" } : Jvm.MethodName) ({ cls := "JoinedLeaves$Atom", name := "agreesWithItself", desc := "(I)Z" } : Jvm.MethodName)) ∈ jW := jC_11 _ (List.mem_of_getElem? (i := 29) rfl)
theorem jm_11_30 : (Jvm.Cond.selects "JoinedLeaves$Relation" ({ cls := "JoinedLeaves$Relation", name := "valueAt", desc := "(II)I" } : Jvm.MethodName) ({ cls := "JoinedLeaves$Relation", name := "valueAt", desc := "(II)I" } : Jvm.MethodName)) ∈ jW := jC_11 _ (List.mem_of_getElem? (i := 30) rfl)
theorem jm_11_31 : (Jvm.Cond.selects "JoinedLeaves$Atom" ({ cls := "JoinedLeaves$Atom", name := "rowsAgreeingWith", desc := "(LJoinedLeaves$Atom;I)I" } : Jvm.MethodName) ({ cls := "JoinedLeaves$Atom", name := "rowsAgreeingWith", desc := "(LJoinedLeaves$Atom;I)I" } : Jvm.MethodName)) ∈ jW := jC_11 _ (List.mem_of_getElem? (i := 31) rfl)
theorem jm_11_32 : (Jvm.Cond.selects "JoinedLeaves$Atom" ({ cls := "JoinedLeaves$Atom", name := "rowsAllowing", desc := "(II)I" } : Jvm.MethodName) ({ cls := "JoinedLeaves$Atom", name := "rowsAllowing", desc := "(II)I" } : Jvm.MethodName)) ∈ jW := jC_11 _ (List.mem_of_getElem? (i := 32) rfl)
theorem jm_11_33 : (Jvm.Cond.selects "JoinedLeaves$Join" ({ cls := "JoinedLeaves$Join", name := "startWeights", desc := "()V" } : Jvm.MethodName) ({ cls := "JoinedLeaves$Join", name := "startWeights", desc := "()V" } : Jvm.MethodName)) ∈ jW := jC_11 _ (List.mem_of_getElem? (i := 33) rfl)
theorem jm_11_34 : (Jvm.Cond.selects "JoinedLeaves$Join" ({ cls := "JoinedLeaves$Join", name := "weighIntoParent", desc := "(I)V" } : Jvm.MethodName) ({ cls := "JoinedLeaves$Join", name := "weighIntoParent", desc := "(I)V" } : Jvm.MethodName)) ∈ jW := jC_11 _ (List.mem_of_getElem? (i := 34) rfl)
theorem jm_11_35 : (Jvm.Cond.selects "JoinedLeaves$Join" ({ cls := "JoinedLeaves$Join", name := "weightOf", desc := "(II)J" } : Jvm.MethodName) ({ cls := "JoinedLeaves$Join", name := "weightOf", desc := "(II)J" } : Jvm.MethodName)) ∈ jW := jC_11 _ (List.mem_of_getElem? (i := 35) rfl)
theorem jm_11_36 : (Jvm.Cond.selects "JoinedLeaves$Join" ({ cls := "JoinedLeaves$Join", name := "countLiveRows", desc := "(I)I" } : Jvm.MethodName) ({ cls := "JoinedLeaves$Join", name := "countLiveRows", desc := "(I)I" } : Jvm.MethodName)) ∈ jW := jC_11 _ (List.mem_of_getElem? (i := 36) rfl)
theorem jm_11_37 : (Jvm.Cond.selects "JoinedLeaves$Join" ({ cls := "JoinedLeaves$Join", name := "keepLiveRows", desc := "([I)V" } : Jvm.MethodName) ({ cls := "JoinedLeaves$Join", name := "keepLiveRows", desc := "([I)V" } : Jvm.MethodName)) ∈ jW := jC_11 _ (List.mem_of_getElem? (i := 37) rfl)
theorem jm_11_38 : (Jvm.Cond.selects "JoinedLeaves$Join" ({ cls := "JoinedLeaves$Join", name := "keepRowsOfParent", desc := "([II)V" } : Jvm.MethodName) ({ cls := "JoinedLeaves$Join", name := "keepRowsOfParent", desc := "([II)V" } : Jvm.MethodName)) ∈ jW := jC_11 _ (List.mem_of_getElem? (i := 38) rfl)
theorem jm_11_39 : (Jvm.Cond.selects "JoinedLeaves$Join" ({ cls := "JoinedLeaves$Join", name := "keepRowsOfChild", desc := "([II)V" } : Jvm.MethodName) ({ cls := "JoinedLeaves$Join", name := "keepRowsOfChild", desc := "([II)V" } : Jvm.MethodName)) ∈ jW := jC_11 _ (List.mem_of_getElem? (i := 39) rfl)
theorem jm_11_40 : (Jvm.Cond.selects "JoinedLeaves" ({ cls := "JoinedLeaves", name := "findAnswers", desc := "()V" } : Jvm.MethodName) ({ cls := "JoinedLeaves", name := "findAnswers", desc := "()V" } : Jvm.MethodName)) ∈ jW := jC_11 _ (List.mem_of_getElem? (i := 40) rfl)
theorem jm_11_41 : (Jvm.Cond.selects "JoinedLeaves$Question" ({ cls := "JoinedLeaves$Question", name := "bindsHead", desc := "()Z" } : Jvm.MethodName) ({ cls := "JoinedLeaves$Question", name := "bindsHead", desc := "()Z" } : Jvm.MethodName)) ∈ jW := jC_11 _ (List.mem_of_getElem? (i := 41) rfl)
theorem jm_11_42 : (Jvm.Cond.selects "JoinedLeaves$Join" ({ cls := "JoinedLeaves$Join", name := "search", desc := "()V" } : Jvm.MethodName) ({ cls := "JoinedLeaves$Join", name := "search", desc := "()V" } : Jvm.MethodName)) ∈ jW := jC_11 _ (List.mem_of_getElem? (i := 42) rfl)
theorem jm_11_43 : (Jvm.Cond.selects "JoinedLeaves$Join" ({ cls := "JoinedLeaves$Join", name := "hasWay", desc := "([I)Z" } : Jvm.MethodName) ({ cls := "JoinedLeaves$Join", name := "hasWay", desc := "([I)Z" } : Jvm.MethodName)) ∈ jW := jC_11 _ (List.mem_of_getElem? (i := 43) rfl)
theorem jm_11_44 : (Jvm.Cond.selects "JoinedLeaves$Join" ({ cls := "JoinedLeaves$Join", name := "choose", desc := "(II)V" } : Jvm.MethodName) ({ cls := "JoinedLeaves$Join", name := "choose", desc := "(II)V" } : Jvm.MethodName)) ∈ jW := jC_11 _ (List.mem_of_getElem? (i := 44) rfl)
theorem jm_11_45 : (Jvm.Cond.selects "JoinedLeaves$Join" ({ cls := "JoinedLeaves$Join", name := "storeAnswer", desc := "(I)V" } : Jvm.MethodName) ({ cls := "JoinedLeaves$Join", name := "storeAnswer", desc := "(I)V" } : Jvm.MethodName)) ∈ jW := jC_11 _ (List.mem_of_getElem? (i := 45) rfl)
theorem jm_11_46 : (Jvm.Cond.selects "JoinedLeaves$Join" ({ cls := "JoinedLeaves$Join", name := "liveValuesOf", desc := "(I[I)I" } : Jvm.MethodName) ({ cls := "JoinedLeaves$Join", name := "liveValuesOf", desc := "(I[I)I" } : Jvm.MethodName)) ∈ jW := jC_11 _ (List.mem_of_getElem? (i := 46) rfl)
theorem jm_11_47 : (Jvm.Cond.selects "JoinedLeaves$Question" ({ cls := "JoinedLeaves$Question", name := "atomWith", desc := "(I)I" } : Jvm.MethodName) ({ cls := "JoinedLeaves$Question", name := "atomWith", desc := "(I)I" } : Jvm.MethodName)) ∈ jW := jC_11 _ (List.mem_of_getElem? (i := 47) rfl)
theorem jm_12_0 : (Jvm.Cond.selects "JoinedLeaves$Atom" ({ cls := "JoinedLeaves$Atom", name := "valuesOf", desc := "(II)I" } : Jvm.MethodName) ({ cls := "JoinedLeaves$Atom", name := "valuesOf", desc := "(II)I" } : Jvm.MethodName)) ∈ jW := jC_12 _ (List.mem_of_getElem? (i := 0) rfl)
theorem jm_12_1 : (Jvm.Cond.selects "JoinedLeaves$Join" ({ cls := "JoinedLeaves$Join", name := "keepRowsWith", desc := "(III)V" } : Jvm.MethodName) ({ cls := "JoinedLeaves$Join", name := "keepRowsWith", desc := "(III)V" } : Jvm.MethodName)) ∈ jW := jC_12 _ (List.mem_of_getElem? (i := 1) rfl)
theorem jm_12_2 : (Jvm.Cond.selects "JoinedLeaves$Join" ({ cls := "JoinedLeaves$Join", name := "valueInAnswer", desc := "(II)I" } : Jvm.MethodName) ({ cls := "JoinedLeaves$Join", name := "valueInAnswer", desc := "(II)I" } : Jvm.MethodName)) ∈ jW := jC_12 _ (List.mem_of_getElem? (i := 2) rfl)
theorem jm_12_3 : (Jvm.Cond.selects "JoinedLeavesModel" ({ cls := "JoinedLeavesModel", name := "isRelation", desc := "(I)Z" } : Jvm.MethodName) ({ cls := "JoinedLeavesModel", name := "isRelation", desc := "(I)Z" } : Jvm.MethodName)) ∈ jW := jC_12 _ (List.mem_of_getElem? (i := 3) rfl)
theorem jm_12_4 : (Jvm.Cond.selects "JoinedLeavesModel" ({ cls := "JoinedLeavesModel", name := "placeOf", desc := "(IIII)I" } : Jvm.MethodName) ({ cls := "JoinedLeavesModel", name := "placeOf", desc := "(IIII)I" } : Jvm.MethodName)) ∈ jW := jC_12 _ (List.mem_of_getElem? (i := 4) rfl)
theorem jm_12_5 : (Jvm.Cond.selects "JoinedLeavesModel" ({ cls := "JoinedLeavesModel", name := "isTree", desc := "()Z" } : Jvm.MethodName) ({ cls := "JoinedLeavesModel", name := "isTree", desc := "()Z" } : Jvm.MethodName)) ∈ jW := jC_12 _ (List.mem_of_getElem? (i := 5) rfl)
theorem jm_12_6 : (Jvm.Cond.selects "JoinedLeavesModel" ({ cls := "JoinedLeavesModel", name := "hang", desc := "()V" } : Jvm.MethodName) ({ cls := "JoinedLeavesModel", name := "hang", desc := "()V" } : Jvm.MethodName)) ∈ jW := jC_12 _ (List.mem_of_getElem? (i := 6) rfl)
theorem jm_12_7 : (Jvm.Cond.selects "JoinedLeavesModel" ({ cls := "JoinedLeavesModel", name := "isLeft", desc := "(I)Z" } : Jvm.MethodName) ({ cls := "JoinedLeavesModel", name := "isLeft", desc := "(I)Z" } : Jvm.MethodName)) ∈ jW := jC_12 _ (List.mem_of_getElem? (i := 7) rfl)
theorem jm_12_8 : (Jvm.Cond.selects "JoinedLeavesModel" ({ cls := "JoinedLeavesModel", name := "holder", desc := "(I)I" } : Jvm.MethodName) ({ cls := "JoinedLeavesModel", name := "holder", desc := "(I)I" } : Jvm.MethodName)) ∈ jW := jC_12 _ (List.mem_of_getElem? (i := 8) rfl)
theorem jm_12_9 : (Jvm.Cond.selects "JoinedLeavesModel" ({ cls := "JoinedLeavesModel", name := "setOf", desc := "(I)I" } : Jvm.MethodName) ({ cls := "JoinedLeavesModel", name := "setOf", desc := "(I)I" } : Jvm.MethodName)) ∈ jW := jC_12 _ (List.mem_of_getElem? (i := 9) rfl)
theorem jm_12_10 : (Jvm.Cond.selects "JoinedLeavesModel" ({ cls := "JoinedLeavesModel", name := "isAtom", desc := "(I)Z" } : Jvm.MethodName) ({ cls := "JoinedLeavesModel", name := "isAtom", desc := "(I)Z" } : Jvm.MethodName)) ∈ jW := jC_12 _ (List.mem_of_getElem? (i := 10) rfl)
theorem jm_12_11 : (Jvm.Cond.selects "JoinedLeavesModel" ({ cls := "JoinedLeavesModel", name := "look", desc := "()V" } : Jvm.MethodName) ({ cls := "JoinedLeavesModel", name := "look", desc := "()V" } : Jvm.MethodName)) ∈ jW := jC_12 _ (List.mem_of_getElem? (i := 11) rfl)
theorem jm_12_12 : (Jvm.Cond.selects "JoinedLeavesModel" ({ cls := "JoinedLeavesModel", name := "note", desc := "()V" } : Jvm.MethodName) ({ cls := "JoinedLeavesModel", name := "note", desc := "()V" } : Jvm.MethodName)) ∈ jW := jC_12 _ (List.mem_of_getElem? (i := 12) rfl)
theorem jm_12_13 : (Jvm.Cond.selects "JoinedLeavesModel" ({ cls := "JoinedLeavesModel", name := "fits", desc := "(II)Z" } : Jvm.MethodName) ({ cls := "JoinedLeavesModel", name := "fits", desc := "(II)Z" } : Jvm.MethodName)) ∈ jW := jC_12 _ (List.mem_of_getElem? (i := 13) rfl)
theorem jm_12_14 : (Jvm.Cond.selects "JoinedLeavesModel" ({ cls := "JoinedLeavesModel", name := "before", desc := "(I)I" } : Jvm.MethodName) ({ cls := "JoinedLeavesModel", name := "before", desc := "(I)I" } : Jvm.MethodName)) ∈ jW := jC_12 _ (List.mem_of_getElem? (i := 14) rfl)
theorem jm_12_15 : (Jvm.Cond.selects "JoinedLeavesModel" ({ cls := "JoinedLeavesModel", name := "codeOfAnswers", desc := "()I" } : Jvm.MethodName) ({ cls := "JoinedLeavesModel", name := "codeOfAnswers", desc := "()I" } : Jvm.MethodName)) ∈ jW := jC_12 _ (List.mem_of_getElem? (i := 15) rfl)
theorem jm_12_16 : (Jvm.Cond.selects "JoinedLeavesModel" ({ cls := "JoinedLeavesModel", name := "isHeadBound", desc := "()Z" } : Jvm.MethodName) ({ cls := "JoinedLeavesModel", name := "isHeadBound", desc := "()Z" } : Jvm.MethodName)) ∈ jW := jC_12 _ (List.mem_of_getElem? (i := 16) rfl)
theorem jF_RE : ∀ w ∈ u_ws "JoinedLeaves$Relation" T_RE 3, w ∈ jW := by decide +kernel
theorem jF_AT : ∀ w ∈ u_ws "JoinedLeaves$Atom" T_AT 3, w ∈ jW := by decide +kernel
theorem jF_QU : ∀ w ∈ u_ws "JoinedLeaves$Question" T_QU 5, w ∈ jW := by decide +kernel
theorem jF_HA : ∀ w ∈ u_ws "JoinedLeaves$Hanging" T_HA 6, w ∈ jW := by decide +kernel
theorem jF_JO : ∀ w ∈ u_ws "JoinedLeaves$Join" T_JO 7, w ∈ jW := by decide +kernel
theorem jF_JL : ∀ w ∈ u_ws "JoinedLeaves" T_JL 5, w ∈ jW := by decide +kernel
theorem jF_MO : ∀ w ∈ u_ws "JoinedLeavesModel" T_MO 21, w ∈ jW := by decide +kernel
theorem jn_0 : (Jvm.Cond.methodLinkNest "JoinedLeaves" (15 : Nat) ({ cls := "JoinedLeaves$Relation", name := "<init>", desc := "()V" } : Jvm.MethodName) "JoinedLeaves") ∈ jNest := List.mem_of_getElem? (i := 0) rfl
theorem jn_1 : (Jvm.Cond.fieldLinkNest "JoinedLeaves$Atom" (19 : Nat) "JoinedLeaves$Relation" "width" "I" "JoinedLeaves") ∈ jNest := List.mem_of_getElem? (i := 1) rfl
theorem jn_2 : (Jvm.Cond.fieldLinkNest "JoinedLeaves" (47 : Nat) "JoinedLeaves$Relation" "width" "I" "JoinedLeaves") ∈ jNest := List.mem_of_getElem? (i := 2) rfl
theorem jn_3 : (Jvm.Cond.fieldLinkNest "JoinedLeaves$Atom" (32 : Nat) "JoinedLeaves$Relation" "size" "I" "JoinedLeaves") ∈ jNest := List.mem_of_getElem? (i := 3) rfl
theorem jn_4 : (Jvm.Cond.fieldLinkNest "JoinedLeaves" (61 : Nat) "JoinedLeaves$Relation" "size" "I" "JoinedLeaves") ∈ jNest := List.mem_of_getElem? (i := 4) rfl
theorem jn_5 : (Jvm.Cond.fieldLinkNest "JoinedLeaves$Join" (108 : Nat) "JoinedLeaves$Relation" "size" "I" "JoinedLeaves") ∈ jNest := List.mem_of_getElem? (i := 5) rfl
theorem jn_6 : (Jvm.Cond.methodLinkNest "JoinedLeaves" (18 : Nat) ({ cls := "JoinedLeaves$Question", name := "<init>", desc := "(LJoinedLeaves$Relation;)V" } : Jvm.MethodName) "JoinedLeaves") ∈ jNest := List.mem_of_getElem? (i := 6) rfl
theorem jn_7 : (Jvm.Cond.methodLinkNest "JoinedLeaves$Question" (21 : Nat) ({ cls := "JoinedLeaves$Atom", name := "<init>", desc := "(LJoinedLeaves$Relation;)V" } : Jvm.MethodName) "JoinedLeaves") ∈ jNest := List.mem_of_getElem? (i := 7) rfl
theorem jn_8 : (Jvm.Cond.fieldLinkNest "JoinedLeaves$Question" (45 : Nat) "JoinedLeaves$Atom" "variableSet" "I" "JoinedLeaves") ∈ jNest := List.mem_of_getElem? (i := 8) rfl
theorem jn_9 : (Jvm.Cond.fieldLinkNest "JoinedLeaves$Hanging" (52 : Nat) "JoinedLeaves$Atom" "variableSet" "I" "JoinedLeaves") ∈ jNest := List.mem_of_getElem? (i := 9) rfl
theorem jn_10 : (Jvm.Cond.fieldLinkNest "JoinedLeaves$Join" (104 : Nat) "JoinedLeaves$Atom" "relation" "LJoinedLeaves$Relation;" "JoinedLeaves") ∈ jNest := List.mem_of_getElem? (i := 10) rfl
theorem jn_11 : (Jvm.Cond.fieldLinkNest "JoinedLeaves$Join" (92 : Nat) "JoinedLeaves$Question" "atoms" "[LJoinedLeaves$Atom;" "JoinedLeaves") ∈ jNest := List.mem_of_getElem? (i := 11) rfl
theorem jn_12 : (Jvm.Cond.fieldLinkNest "JoinedLeaves$Hanging" (48 : Nat) "JoinedLeaves$Question" "atoms" "[LJoinedLeaves$Atom;" "JoinedLeaves") ∈ jNest := List.mem_of_getElem? (i := 12) rfl
theorem jn_13 : (Jvm.Cond.fieldLinkNest "JoinedLeaves$Hanging" (25 : Nat) "JoinedLeaves$Question" "atomCount" "I" "JoinedLeaves") ∈ jNest := List.mem_of_getElem? (i := 13) rfl
theorem jn_14 : (Jvm.Cond.fieldLinkNest "JoinedLeaves$Join" (89 : Nat) "JoinedLeaves$Question" "atomCount" "I" "JoinedLeaves") ∈ jNest := List.mem_of_getElem? (i := 14) rfl
theorem jn_15 : (Jvm.Cond.fieldLinkNest "JoinedLeaves" (71 : Nat) "JoinedLeaves$Question" "atomCount" "I" "JoinedLeaves") ∈ jNest := List.mem_of_getElem? (i := 15) rfl
theorem jn_16 : (Jvm.Cond.fieldLinkNest "JoinedLeaves$Join" (131 : Nat) "JoinedLeaves$Question" "headVariables" "[I" "JoinedLeaves") ∈ jNest := List.mem_of_getElem? (i := 16) rfl
theorem jn_17 : (Jvm.Cond.fieldLinkNest "JoinedLeaves$Join" (84 : Nat) "JoinedLeaves$Question" "headSize" "I" "JoinedLeaves") ∈ jNest := List.mem_of_getElem? (i := 17) rfl
theorem jn_18 : (Jvm.Cond.fieldLinkNest "JoinedLeaves" (78 : Nat) "JoinedLeaves$Question" "headSize" "I" "JoinedLeaves") ∈ jNest := List.mem_of_getElem? (i := 18) rfl
theorem jn_19 : (Jvm.Cond.methodLinkNest "JoinedLeaves" (27 : Nat) ({ cls := "JoinedLeaves$Hanging", name := "<init>", desc := "(LJoinedLeaves$Question;)V" } : Jvm.MethodName) "JoinedLeaves") ∈ jNest := List.mem_of_getElem? (i := 19) rfl
theorem jn_20 : (Jvm.Cond.fieldLinkNest "JoinedLeaves$Join" (101 : Nat) "JoinedLeaves$Hanging" "parents" "[I" "JoinedLeaves") ∈ jNest := List.mem_of_getElem? (i := 20) rfl
theorem jn_21 : (Jvm.Cond.fieldLinkNest "JoinedLeaves" (88 : Nat) "JoinedLeaves$Hanging" "parents" "[I" "JoinedLeaves") ∈ jNest := List.mem_of_getElem? (i := 21) rfl
theorem jn_22 : (Jvm.Cond.fieldLinkNest "JoinedLeaves" (92 : Nat) "JoinedLeaves$Hanging" "turns" "[I" "JoinedLeaves") ∈ jNest := List.mem_of_getElem? (i := 22) rfl
theorem jn_23 : (Jvm.Cond.fieldLinkNest "JoinedLeaves$Join" (62 : Nat) "JoinedLeaves$Hanging" "order" "[I" "JoinedLeaves") ∈ jNest := List.mem_of_getElem? (i := 23) rfl
theorem jn_24 : (Jvm.Cond.fieldLinkNest "JoinedLeaves$Join" (58 : Nat) "JoinedLeaves$Hanging" "hungCount" "I" "JoinedLeaves") ∈ jNest := List.mem_of_getElem? (i := 24) rfl
theorem jn_25 : (Jvm.Cond.methodLinkNest "JoinedLeaves" (36 : Nat) ({ cls := "JoinedLeaves$Join", name := "<init>", desc := "(LJoinedLeaves$Question;LJoinedLeaves$Hanging;)V" } : Jvm.MethodName) "JoinedLeaves") ∈ jNest := List.mem_of_getElem? (i := 25) rfl
theorem jn_26 : (Jvm.Cond.fieldLinkNest "JoinedLeaves" (116 : Nat) "JoinedLeaves$Join" "found" "I" "JoinedLeaves") ∈ jNest := List.mem_of_getElem? (i := 26) rfl
theorem jn_27 : (Jvm.Cond.methodLinkNest "JoinedLeaves" (54 : Nat) ({ cls := "JoinedLeaves$Relation", name := "put", desc := "(III)Z" } : Jvm.MethodName) "JoinedLeaves") ∈ jNest := List.mem_of_getElem? (i := 27) rfl
theorem jn_28 : (Jvm.Cond.methodLinkNest "JoinedLeaves$Relation" (30 : Nat) ({ cls := "JoinedLeaves", name := "isBelow", desc := "(II)Z" } : Jvm.MethodName) "JoinedLeaves") ∈ jNest := List.mem_of_getElem? (i := 28) rfl
theorem jn_29 : (Jvm.Cond.methodLinkNest "JoinedLeaves" (58 : Nat) ({ cls := "JoinedLeaves$Relation", name := "take", desc := "(III)Z" } : Jvm.MethodName) "JoinedLeaves") ∈ jNest := List.mem_of_getElem? (i := 29) rfl
theorem jn_30 : (Jvm.Cond.methodLinkNest "JoinedLeaves" (64 : Nat) ({ cls := "JoinedLeaves$Question", name := "putAtom", desc := "(LJoinedLeaves$Relation;III)Z" } : Jvm.MethodName) "JoinedLeaves") ∈ jNest := List.mem_of_getElem? (i := 30) rfl
theorem jn_31 : (Jvm.Cond.methodLinkNest "JoinedLeaves$Question" (28 : Nat) ({ cls := "JoinedLeaves$Atom", name := "bind", desc := "(LJoinedLeaves$Relation;III)Z" } : Jvm.MethodName) "JoinedLeaves") ∈ jNest := List.mem_of_getElem? (i := 31) rfl
theorem jn_32 : (Jvm.Cond.methodLinkNest "JoinedLeaves$Atom" (25 : Nat) ({ cls := "JoinedLeaves", name := "isBelow", desc := "(II)Z" } : Jvm.MethodName) "JoinedLeaves") ∈ jNest := List.mem_of_getElem? (i := 32) rfl
theorem jn_33 : (Jvm.Cond.methodLinkNest "JoinedLeaves" (68 : Nat) ({ cls := "JoinedLeaves$Hanging", name := "hangAtoms", desc := "()V" } : Jvm.MethodName) "JoinedLeaves") ∈ jNest := List.mem_of_getElem? (i := 33) rfl
theorem jn_34 : (Jvm.Cond.methodLinkNest "JoinedLeaves$Hanging" (37 : Nat) ({ cls := "JoinedLeaves", name := "isIn", desc := "(II)Z" } : Jvm.MethodName) "JoinedLeaves") ∈ jNest := List.mem_of_getElem? (i := 34) rfl
theorem jn_35 : (Jvm.Cond.methodLinkNest "JoinedLeaves" (74 : Nat) ({ cls := "JoinedLeaves$Question", name := "putInHead", desc := "(I)Z" } : Jvm.MethodName) "JoinedLeaves") ∈ jNest := List.mem_of_getElem? (i := 35) rfl
theorem jn_36 : (Jvm.Cond.methodLinkNest "JoinedLeaves$Question" (32 : Nat) ({ cls := "JoinedLeaves", name := "isBelow", desc := "(II)Z" } : Jvm.MethodName) "JoinedLeaves") ∈ jNest := List.mem_of_getElem? (i := 36) rfl
theorem jn_37 : (Jvm.Cond.methodLinkNest "JoinedLeaves$Question" (39 : Nat) ({ cls := "JoinedLeaves", name := "isIn", desc := "(II)Z" } : Jvm.MethodName) "JoinedLeaves") ∈ jNest := List.mem_of_getElem? (i := 37) rfl
theorem jn_38 : (Jvm.Cond.methodLinkNest "JoinedLeaves" (81 : Nat) ({ cls := "JoinedLeaves$Question", name := "empty", desc := "()V" } : Jvm.MethodName) "JoinedLeaves") ∈ jNest := List.mem_of_getElem? (i := 38) rfl
theorem jn_39 : (Jvm.Cond.methodLinkNest "JoinedLeaves" (84 : Nat) ({ cls := "JoinedLeaves$Hanging", name := "isTree", desc := "()Z" } : Jvm.MethodName) "JoinedLeaves") ∈ jNest := List.mem_of_getElem? (i := 39) rfl
theorem jn_40 : (Jvm.Cond.methodLinkNest "JoinedLeaves" (98 : Nat) ({ cls := "JoinedLeaves$Join", name := "countWays", desc := "()J" } : Jvm.MethodName) "JoinedLeaves") ∈ jNest := List.mem_of_getElem? (i := 40) rfl
theorem jn_41 : (Jvm.Cond.methodLinkNest "JoinedLeaves$Join" (49 : Nat) ({ cls := "JoinedLeaves$Hanging", name := "root", desc := "()I" } : Jvm.MethodName) "JoinedLeaves") ∈ jNest := List.mem_of_getElem? (i := 41) rfl
theorem jn_42 : (Jvm.Cond.methodLinkNest "JoinedLeaves$Join" (96 : Nat) ({ cls := "JoinedLeaves$Atom", name := "rowsAgreeingWithThemselves", desc := "()I" } : Jvm.MethodName) "JoinedLeaves") ∈ jNest := List.mem_of_getElem? (i := 42) rfl
theorem jn_43 : (Jvm.Cond.methodLinkNest "JoinedLeaves$Atom" (39 : Nat) ({ cls := "JoinedLeaves$Relation", name := "valueAt", desc := "(II)I" } : Jvm.MethodName) "JoinedLeaves") ∈ jNest := List.mem_of_getElem? (i := 43) rfl
theorem jn_44 : (Jvm.Cond.methodLinkNest "JoinedLeaves$Join" (113 : Nat) ({ cls := "JoinedLeaves$Atom", name := "rowsAgreeingWith", desc := "(LJoinedLeaves$Atom;I)I" } : Jvm.MethodName) "JoinedLeaves") ∈ jNest := List.mem_of_getElem? (i := 44) rfl
theorem jn_45 : (Jvm.Cond.methodLinkNest "JoinedLeaves$Join" (124 : Nat) ({ cls := "JoinedLeaves", name := "isIn", desc := "(II)Z" } : Jvm.MethodName) "JoinedLeaves") ∈ jNest := List.mem_of_getElem? (i := 45) rfl
theorem jn_46 : (Jvm.Cond.methodLinkNest "JoinedLeaves" (109 : Nat) ({ cls := "JoinedLeaves$Join", name := "countLiveRows", desc := "(I)I" } : Jvm.MethodName) "JoinedLeaves") ∈ jNest := List.mem_of_getElem? (i := 46) rfl
theorem jn_47 : (Jvm.Cond.methodLinkNest "JoinedLeaves" (125 : Nat) ({ cls := "JoinedLeaves$Question", name := "bindsHead", desc := "()Z" } : Jvm.MethodName) "JoinedLeaves") ∈ jNest := List.mem_of_getElem? (i := 47) rfl
theorem jn_48 : (Jvm.Cond.methodLinkNest "JoinedLeaves" (133 : Nat) ({ cls := "JoinedLeaves$Join", name := "search", desc := "()V" } : Jvm.MethodName) "JoinedLeaves") ∈ jNest := List.mem_of_getElem? (i := 48) rfl
theorem jn_49 : (Jvm.Cond.methodLinkNest "JoinedLeaves$Join" (142 : Nat) ({ cls := "JoinedLeaves$Question", name := "atomWith", desc := "(I)I" } : Jvm.MethodName) "JoinedLeaves") ∈ jNest := List.mem_of_getElem? (i := 49) rfl
theorem jn_50 : (Jvm.Cond.methodLinkNest "JoinedLeaves$Join" (145 : Nat) ({ cls := "JoinedLeaves$Atom", name := "valuesOf", desc := "(II)I" } : Jvm.MethodName) "JoinedLeaves") ∈ jNest := List.mem_of_getElem? (i := 50) rfl
theorem jn_51 : (Jvm.Cond.methodLinkNest "JoinedLeaves$Atom" (46 : Nat) ({ cls := "JoinedLeaves", name := "isIn", desc := "(II)Z" } : Jvm.MethodName) "JoinedLeaves") ∈ jNest := List.mem_of_getElem? (i := 51) rfl
theorem jn_52 : (Jvm.Cond.methodLinkNest "JoinedLeaves$Join" (149 : Nat) ({ cls := "JoinedLeaves$Atom", name := "rowsAllowing", desc := "(II)I" } : Jvm.MethodName) "JoinedLeaves") ∈ jNest := List.mem_of_getElem? (i := 52) rfl
theorem jn_53 : (Jvm.Cond.methodLinkNest "JoinedLeaves" (121 : Nat) ({ cls := "JoinedLeaves$Join", name := "valueInAnswer", desc := "(II)I" } : Jvm.MethodName) "JoinedLeaves") ∈ jNest := List.mem_of_getElem? (i := 53) rfl
end
section
/-! The world of this claim: all cells that the law makes, numbered 1 .. N in the order of their making; cell k lies at the address b + k. A memory holds, for each cell, its kind and length, and its ints, longs and references (a reference is a cell's number, 0 is null). -/
abbrev Mem : Type := Nat × (Nat → Nat × Nat) × (Nat → Nat → Int32) × (Nat → Nat → Int64) × (Nat → Nat → Nat)
def mN (μ : Mem) : Nat := μ.1
def mK (μ : Mem) (k : Nat) : Nat := (μ.2.1 k).1
def mZ (μ : Mem) (k : Nat) : Nat := (μ.2.1 k).2
def mI (μ : Mem) : Nat → Nat → Int32 := μ.2.2.1
def mL (μ : Mem) : Nat → Nat → Int64 := μ.2.2.2.1
def mR (μ : Mem) : Nat → Nat → Nat := μ.2.2.2.2
def sI (μ : Mem) (k j : Nat) (v : Int32) : Mem := (μ.1, μ.2.1, va_up μ.2.2.1 k (upd (μ.2.2.1 k) j v), μ.2.2.2.1, μ.2.2.2.2)
def sL (μ : Mem) (k j : Nat) (v : Int64) : Mem := (μ.1, μ.2.1, μ.2.2.1, va_up μ.2.2.2.1 k (vp_updL (μ.2.2.2.1 k) j v), μ.2.2.2.2)
def sR (μ : Mem) (k j : Nat) (v : Nat) : Mem := (μ.1, μ.2.1, μ.2.2.1, μ.2.2.2.1, va_up μ.2.2.2.2 k (va_up (μ.2.2.2.2 k) j v))
/-- a new cell of kind c and length z: its number is N + 1 -/
def al (μ : Mem) (c z : Nat) : Mem := (μ.1 + 1, va_up μ.2.1 (μ.1 + 1) (c, z), va_up μ.2.2.1 (μ.1 + 1) (fun _ => 0), va_up μ.2.2.2.1 (μ.1 + 1) (fun _ => 0), va_up μ.2.2.2.2 (μ.1 + 1) (fun _ => 0))
/-- cell k is there, and of kind c -/
def ok (μ : Mem) (k c : Nat) : Bool := decide (0 < k) && (decide (k ≤ mN μ) && decide (mK μ k = c))
/-- an index in range -/
def ib (i : Int32) (n : Nat) : Bool := !(decide (i < 0)) && decide (i.toNatClampNeg < n)
theorem ok_e {μ : Mem} {k c : Nat} (h : ok μ k c = true) : 0 < k ∧ k ≤ mN μ ∧ mK μ k = c := by
  simpa [ok] using h
theorem ib_in {i : Int32} {n : Nat} (h : ib i n = true) : vp_in i n := by
  simp only [ib, Bool.and_eq_true, Bool.not_eq_true', decide_eq_false_iff_not, decide_eq_true_eq] at h
  intro q
  rcases q with q | q
  · exact h.1 q
  · omega
/-- fields of the classes by their places -/
def jN (ci : Nat) : Nat := match vwCl[ci]? with
  | some r => r.2.2
  | none => 0
def rv (b r : Nat) : Value := if r = 0 then .null else .ref (b + r)
def ro (b r : Nat) : Option Nat := if r = 0 then none else some (b + r)
def fv (b : Nat) (μ : Mem) (k j : Nat) (ty : FieldType) : Value := match ty with
  | .int => .int (mI μ k j)
  | .boolean => .int (mI μ k j)
  | .long => .long (mL μ k j)
  | _ => rv b (mR μ k j)
def fl (b : Nat) (μ : Mem) (k ci : Nat) : List Value := (List.range (jN ci)).map (fun j => fv b μ k j (jT ci j))
def ce (b : Nat) (cs : Nat → ClassId) (μ : Mem) (k : Nat) : va_E :=
  if mK μ k < 100 then .inr (mK μ k, fl b μ k (mK μ k))
  else if mK μ k = 100 then .inl (cs 0, mZ μ k, .inl (mI μ k))
  else if mK μ k = 101 then .inl (cs 1, mZ μ k, .inr (.inl (mL μ k)))
  else .inl (cs (mK μ k - 100), mZ μ k, .inr (.inr (.inr (.inr (fun j => ro b (mR μ k j))))))
def en (b : Nat) (cs : Nat → ClassId) (μ : Mem) : va_W := (List.range (mN μ)).map (fun i => (b + (i + 1), ce b cs μ (i + 1)))
theorem en_at {b : Nat} {cs : Nat → ClassId} {μ : Mem} {i : Nat} {q : Nat × va_E} (h : (en b cs μ)[i]? = some q) : i < mN μ ∧ q = (b + (i + 1), ce b cs μ (i + 1)) := by
  unfold en at h
  rw [List.getElem?_map] at h
  by_cases hi : i < mN μ
  · rw [List.getElem?_range hi] at h
    exact ⟨hi, (Option.some.inj h).symm⟩
  · rw [List.getElem?_eq_none (by simpa using hi)] at h
    cases h
theorem en_get {b : Nat} {cs : Nat → ClassId} {μ : Mem} {k : Nat} (h0 : 0 < k) (h1 : k ≤ mN μ) : (en b cs μ)[k - 1]? = some (b + k, ce b cs μ k) := by
  obtain ⟨i, rfl⟩ : ∃ i, k = i + 1 := ⟨k - 1, by omega⟩
  unfold en
  rw [List.getElem?_map, show i + 1 - 1 = i by omega, List.getElem?_range (by omega)]
  rfl
theorem en_D {b : Nat} {cs : Nat → ClassId} {μ : Mem} : va_D (fun q => b < q) (en b cs μ) := by
  refine ⟨fun i j p q hi hj hpq => ?_, fun k q hk => ?_⟩
  · obtain ⟨-, rfl⟩ := en_at hi
    obtain ⟨-, rfl⟩ := en_at hj
    have : b + (i + 1) = b + (j + 1) := hpq
    omega
  · obtain ⟨-, rfl⟩ := en_at hk
    show b < b + (k + 1)
    omega
theorem en_len {b : Nat} {cs : Nat → ClassId} {μ : Mem} : (en b cs μ).length = mN μ := by simp [en]
theorem en_set {b : Nat} {cs : Nat → ClassId} {μ μ' : Mem} {k : Nat} {x : va_E} (hN : mN μ' = mN μ) (h0 : 0 < k) (hd : ∀ q, q ≠ k → ce b cs μ' q = ce b cs μ q) (hx : ce b cs μ' k = x) : (en b cs μ).set (k - 1) (b + k, x) = en b cs μ' := by
  subst hx
  apply List.ext_getElem?
  intro i
  rw [List.getElem?_set, en_len]
  by_cases hk : k - 1 = i
  · subst hk
    rw [if_pos rfl]
    by_cases hl : k - 1 < mN μ
    · rw [if_pos hl, en_get h0 (by omega)]
    · rw [if_neg hl, List.getElem?_eq_none (by rw [en_len]; omega)]
  · rw [if_neg hk]
    unfold en
    rw [List.getElem?_map, List.getElem?_map, hN]
    by_cases hl : i < mN μ
    · rw [List.getElem?_range hl]
      show some (b + (i + 1), ce b cs μ (i + 1)) = some (b + (i + 1), ce b cs μ' (i + 1))
      rw [hd (i + 1) (by omega)]
    · rw [List.getElem?_eq_none (by simpa using hl)]
      rfl
theorem ce_congr {b : Nat} {cs : Nat → ClassId} {μ μ' : Mem} {q : Nat} (h1 : μ'.2.1 q = μ.2.1 q) (h2 : mI μ' q = mI μ q) (h3 : mL μ' q = mL μ q) (h4 : mR μ' q = mR μ q) : ce b cs μ' q = ce b cs μ q := by
  have hK : mK μ' q = mK μ q := by unfold mK; rw [h1]
  have hZ : mZ μ' q = mZ μ q := by unfold mZ; rw [h1]
  have hf : ∀ ci, fl b μ' q ci = fl b μ q ci := by
    intro ci
    unfold fl
    apply List.map_congr_left
    intro j _
    unfold fv
    rw [h2, h3, h4]
  unfold ce
  rw [hK, hZ, h2, h3, h4, hf]
theorem ce_obj {b : Nat} {cs : Nat → ClassId} {μ : Mem} {k ci : Nat} (h : mK μ k = ci) (hc : ci < 100) : ce b cs μ k = .inr (ci, fl b μ k ci) := by
  unfold ce
  rw [h, if_pos hc]
theorem ce_int {b : Nat} {cs : Nat → ClassId} {μ : Mem} {k : Nat} (h : mK μ k = 100) : ce b cs μ k = .inl (cs 0, mZ μ k, .inl (mI μ k)) := by
  unfold ce
  rw [h]
  rfl
theorem ce_long {b : Nat} {cs : Nat → ClassId} {μ : Mem} {k : Nat} (h : mK μ k = 101) : ce b cs μ k = .inl (cs 1, mZ μ k, .inr (.inl (mL μ k))) := by
  unfold ce
  rw [h]
  rfl
theorem ce_refs {b : Nat} {cs : Nat → ClassId} {μ : Mem} {k t : Nat} (h : mK μ k = 102 + t) : ce b cs μ k = .inl (cs (2 + t), mZ μ k, .inr (.inr (.inr (.inr (fun j => ro b (mR μ k j)))))) := by
  unfold ce
  rw [h, if_neg (by omega), if_neg (by omega), if_neg (by omega), show 102 + t - 100 = 2 + t by omega]
/-- the object k of class ci, as the rows of the kit want it -/
theorem en_obj {b : Nat} {cs : Nat → ClassId} {μ : Mem} {k ci : Nat} (h : ok μ k ci = true) (hc : ci < 100) : (en b cs μ)[k - 1]? = some (b + k, .inr (ci, fl b μ k ci)) := by
  obtain ⟨h0, h1, h2⟩ := ok_e h
  rw [en_get h0 h1, ce_obj h2 hc]
theorem en_int {b : Nat} {cs : Nat → ClassId} {μ : Mem} {k : Nat} (h : ok μ k 100 = true) : (en b cs μ)[k - 1]? = some (b + k, .inl (cs 0, mZ μ k, .inl (mI μ k))) := by
  obtain ⟨h0, h1, h2⟩ := ok_e h
  rw [en_get h0 h1, ce_int h2]
theorem en_long {b : Nat} {cs : Nat → ClassId} {μ : Mem} {k : Nat} (h : ok μ k 101 = true) : (en b cs μ)[k - 1]? = some (b + k, .inl (cs 1, mZ μ k, .inr (.inl (mL μ k)))) := by
  obtain ⟨h0, h1, h2⟩ := ok_e h
  rw [en_get h0 h1, ce_long h2]
theorem en_refs {b : Nat} {cs : Nat → ClassId} {μ : Mem} {k : Nat} (t : Nat) (h : ok μ k (102 + t) = true) : (en b cs μ)[k - 1]? = some (b + k, .inl (cs (2 + t), mZ μ k, .inr (.inr (.inr (.inr (fun j => ro b (mR μ k j))))))) := by
  obtain ⟨h0, h1, h2⟩ := ok_e h
  rw [en_get h0 h1, ce_refs h2]
theorem fl_get {b : Nat} {μ : Mem} {k ci j : Nat} {v : Value} (hj : j < jN ci) (hv : fv b μ k j (jT ci j) = v) : (fl b μ k ci)[j]? = some v := by
  unfold fl
  rw [List.getElem?_map, List.getElem?_range hj]
  exact congrArg some hv
theorem fl_len {b : Nat} {μ : Mem} {k ci : Nat} : (fl b μ k ci).length = jN ci := by simp [fl]
theorem fl_set {b : Nat} {μ μ' : Mem} {k ci j : Nat} {v : Value} (ho : ∀ i, i ≠ j → fv b μ' k i (jT ci i) = fv b μ k i (jT ci i)) (hv : fv b μ' k j (jT ci j) = v) : (fl b μ k ci).set j v = fl b μ' k ci := by
  subst hv
  apply List.ext_getElem?
  intro i
  rw [List.getElem?_set, fl_len]
  by_cases hk : j = i
  · subst hk
    rw [if_pos rfl]
    by_cases hl : j < jN ci
    · rw [if_pos hl, fl_get hl rfl]
    · rw [if_neg hl, List.getElem?_eq_none (by rw [fl_len]; omega)]
  · rw [if_neg hk]
    by_cases hl : i < jN ci
    · rw [fl_get hl rfl, fl_get hl rfl, ho i (Ne.symm hk)]
    · rw [List.getElem?_eq_none (by rw [fl_len]; omega), List.getElem?_eq_none (by rw [fl_len]; omega)]
/-- the array classes, by their places: kind 100 + place -/
abbrev tl (cs : Nat → ClassId) : List (ClassId × FieldType) := jA cs
/-- the world: the heap H holds the memory μ, and since H0 nothing at or below b has changed -/
def Wd (b : Nat) (cs : Nat → ClassId) (D : va_G) (H0 : Heap) (μ : Mem) (H : Heap) (locs : List Loc) : Prop := b + mN μ < H.size ∧ va_P D vwCl (en b cs μ) H ∧ va_S (fun q => b < q) H0 H locs
/-- what a state knows of the classes: the tables' classes and array classes, and the links between nest mates -/
def Kw (cs : Nat → ClassId) (D : va_G) (U : State) : Prop := va_K D vwCl (tl cs) U ∧ ∀ w ∈ jNest, va_Nw w U
/-- a contract's world behind it, and its start -/
def Bw (b : Nat) (cs : Nat → ClassId) (D : va_G) (μ : Mem) (t : State) : Prop := b + mN μ < t.heap.size ∧ va_P D vwCl (en b cs μ) t.heap
abbrev Pw (b : Nat) (cs : Nat → ClassId) (D : va_G) (μ : Mem) (av : List Value) : Array Value → State → Prop := va_Pc av (fun U => Bw b cs D μ U ∧ Kw cs D U)
def isNest : Cond → Bool
  | .fieldLinkNest _ _ _ _ _ _ => true
  | .methodLinkNest _ _ _ _ => true
  | _ => false
theorem isNest_warm {w : Cond} (h : isNest w = true) {u U : State} (hW : u.WarmedH U.vm) (hZ : va_Nw w u) : va_Nw w U := by
  cases w <;> first | (cases h; done) | exact va_Nw.warmF hW hZ | exact va_Nw.warmM hW hZ
theorem isNest_same {w : Cond} (h : isNest w = true) {u U : State} (hW : u.vm = U.vm) (hZ : va_Nw w u) : va_Nw w U := by
  cases w <;> first | (cases h; done) | exact va_Nw.same rfl hW hZ
theorem jNest_ok : ∀ w ∈ jNest, isNest w = true := by decide +kernel
theorem Kw.warm {cs : Nat → ClassId} {D : va_G} {u U : State} (hW : u.WarmedH U.vm) (h : Kw cs D u) : Kw cs D U := ⟨va_K.moved hW.alike h.1, fun w hw => isNest_warm (jNest_ok w hw) hW (h.2 w hw)⟩
theorem Kw.same {cs : Nat → ClassId} {D : va_G} {u U : State} (hW : u.vm = U.vm) (h : Kw cs D u) : Kw cs D U := ⟨va_K.moved (by rw [hW]; exact Vm.Alike.refl _) h.1, fun w hw => isNest_same (jNest_ok w hw) hW (h.2 w hw)⟩
theorem Kw.nest {cs : Nat → ClassId} {D : va_G} {u : State} {a : Array Value} (h : Kw cs D u) (w : Cond) (hw : w ∈ jNest) (ho : w.onTables = true) : w.before a u = true := va_Nw.use ho (h.2 w hw)
abbrev Aw (b : Nat) : Nat → Prop := fun q => b < q
/-- contracts: int, long, void; res: the answer and the memory behind it -/
abbrev MetI (l : Launch) (y : MethodName) (ws : List Cond) (fr lo b : Nat) (cs : Nat → ClassId) (D : va_G) (μ : Mem) (av : List Value) (res : Int32 × Mem) : Prop := Met l y ws { frames := fr, cells := 0, slots := 0, locals := lo } (Pw b cs D μ av) (va_Qi (fun r μ' => (r, μ') = res) (Bw b cs D) (Aw b)) 0 0 (Aw b)
abbrev MetL (l : Launch) (y : MethodName) (ws : List Cond) (fr lo b : Nat) (cs : Nat → ClassId) (D : va_G) (μ : Mem) (av : List Value) (res : Int64 × Mem) : Prop := Met l y ws { frames := fr, cells := 0, slots := 0, locals := lo } (Pw b cs D μ av) (va_Ql (fun r μ' => (r, μ') = res) (Bw b cs D) (Aw b)) 0 0 (Aw b)
abbrev MetV (l : Launch) (y : MethodName) (ws : List Cond) (fr lo b : Nat) (cs : Nat → ClassId) (D : va_G) (μ : Mem) (av : List Value) (res : Mem) : Prop := Met l y ws { frames := fr, cells := 0, slots := 0, locals := lo } (Pw b cs D μ av) (va_Qv (fun μ' => μ' = res) (Bw b cs D) (Aw b)) 0 0 (Aw b)
theorem of_g {α : Type} {c : Prop} [Decidable c] {E : Option α} {r : α} (h : (if c then E else none) = some r) : c ∧ E = some r := by
  by_cases hc : c
  · rw [if_pos hc] at h
    exact ⟨hc, h⟩
  · rw [if_neg hc] at h
    cases h
theorem of_b {α β : Type} {x : Option α} {f : α → Option β} {r : β} (h : Option.bind x f = some r) : ∃ q, x = some q ∧ f q = some r := by
  cases x with
  | none => cases h
  | some q => exact ⟨q, rfl, h⟩
theorem Pw_blind {b : Nat} {cs : Nat → ClassId} {D : va_G} {μ : Mem} {av : List Value} : FrameBlind (Pw b cs D μ av) := fun a U g mk q => by
  obtain ⟨q0, q1, qK⟩ := q
  exact ⟨q0, q1, Kw.same (u := U) (U := U.calling g mk a) rfl qK⟩
section JW
variable {p : Program} {l : Launch} {e : Env} {R : Room} {s : State} {m : MethodId} {args : Array Value} {below : List Frame} {meth : Method} {c : Code} {H H0 : Heap} {locs : List Loc} {cells slots : Nat} {Q : State → Prop} {cc : ByteArray} {pc : Nat} {ls : Array Slot} {rest : List Value} {b : Nat} {cs : Nat → ClassId} {D : va_G} {μ : Mem}
theorem Wd.start {av : List Value} (h : Pw b cs D μ av args s) : args = av.toArray ∧ Kw cs D s ∧ Wd b cs D s.heap μ s.heap [] := ⟨h.1, h.2.2, h.2.1.1, h.2.1.2, va_S.rf⟩
theorem Wd.preS {As : List Value} (hK : Kw cs D s) (hM : Wd b cs D H0 μ H locs) : PreS s H (Pw b cs D μ As) As := ⟨Pw_blind, fun U hU hW => ⟨rfl, ⟨by rw [hU]; exact hM.1, by rw [hU]; exact hM.2.1⟩, Kw.warm hW hK⟩⟩
theorem Wd.preV {As : List Value} {k ci : Nat} {q : vw_C} (hK : Kw cs D s) (hM : Wd b cs D H0 μ H locs) (ho : ok μ k ci = true) (hc : vwCl[ci]? = some q) (h1 : ci < 100) : PreV s H q.1 (b + k) (Pw b cs D μ (.ref (b + k) :: As)) As := ⟨Pw_blind, va_recv hK.1 hM.2.1 hc (en_obj ho h1), fun U hU hW => ⟨rfl, ⟨by rw [hU]; exact hM.1, by rw [hU]; exact hM.2.1⟩, Kw.warm hW hK⟩⟩
/-- behind a call: the world is the callee's -/
theorem Wd.back {t : State} {H1 : Heap} {locs1 : List Loc} {μ' : Mem} (hB : Bw b cs D μ' t) (ht : t.heap = H1) (hS : va_S (fun q => b < q) H0 H1 locs1) : Wd b cs D H0 μ' H1 locs1 := by
  subst ht
  exact ⟨hB.1, hB.2, hS⟩
theorem g_calli {a : Array Value} {st0 : List Value} {q : Int32 × Mem} (hr : va_Run p l e R s m args below meth c H locs cells slots 0 0 (F0 m pc ls st0) rest (va_Qi (fun r0 μ0 => (r0, μ0) = q) (Bw b cs D) (Aw b) a) (Aw b)) (hM : Wd b cs D H0 μ H locs)
    (kk : ∀ (H1 : Heap) (locs1 : List Loc), Wd b cs D H0 q.2 H1 locs1 → W p l e R s m args below meth c H1 locs1 cells slots Q (F0 m (pc + 3) ls (.int q.1 :: rest))) : W p l e R s m args below meth c H locs cells slots Q (F0 m pc ls st0) := by
  refine va_calli hr hM.2.2 (fun _ _ h => h) (fun _ h => h) (fun r0 u t H1 locs1 ht hvm hp hB hz hk hS => ?_)
  cases hp
  exact kk H1 locs1 (Wd.back hB ht hS)
theorem g_calll {a : Array Value} {st0 : List Value} {q : Int64 × Mem} (hr : va_Run p l e R s m args below meth c H locs cells slots 0 0 (F0 m pc ls st0) rest (va_Ql (fun r0 μ0 => (r0, μ0) = q) (Bw b cs D) (Aw b) a) (Aw b)) (hM : Wd b cs D H0 μ H locs)
    (kk : ∀ (H1 : Heap) (locs1 : List Loc), Wd b cs D H0 q.2 H1 locs1 → W p l e R s m args below meth c H1 locs1 cells slots Q (F0 m (pc + 3) ls (.long q.1 :: rest))) : W p l e R s m args below meth c H locs cells slots Q (F0 m pc ls st0) := by
  refine va_calll hr hM.2.2 (fun _ _ h => h) (fun _ h => h) (fun r0 u t H1 locs1 ht hvm hp hB hz hk hS => ?_)
  cases hp
  exact kk H1 locs1 (Wd.back hB ht hS)
theorem g_callv {a : Array Value} {st0 : List Value} {μ' : Mem} (hr : va_Run p l e R s m args below meth c H locs cells slots 0 0 (F0 m pc ls st0) rest (va_Qv (fun μ0 => μ0 = μ') (Bw b cs D) (Aw b) a) (Aw b)) (hM : Wd b cs D H0 μ H locs)
    (kk : ∀ (H1 : Heap) (locs1 : List Loc), Wd b cs D H0 μ' H1 locs1 → W p l e R s m args below meth c H1 locs1 cells slots Q (F0 m (pc + 3) ls rest)) : W p l e R s m args below meth c H locs cells slots Q (F0 m pc ls st0) := by
  refine va_callv hr hM.2.2 (fun q _ h => h) (fun q h => h) (fun u t H1 locs1 ht hvm hp hB hz hk hS => ?_)
  cases hp
  exact kk H1 locs1 (Wd.back hB ht hS)
end JW
theorem mI_s {μ : Mem} {k j : Nat} {v : Int32} : mI (sI μ k j v) k = upd (mI μ k) j v := va_up_self _ _ _
theorem mI_n {μ : Mem} {k j q : Nat} {v : Int32} (h : q ≠ k) : mI (sI μ k j v) q = mI μ q := va_up_ne _ _ h
theorem mI_ss {μ : Mem} {k j : Nat} {v : Int32} : mI (sI μ k j v) k j = v := by rw [mI_s]; exact pk_us
theorem mI_sn {μ : Mem} {k j i : Nat} {v : Int32} (h : i ≠ j) : mI (sI μ k j v) k i = mI μ k i := by rw [mI_s]; exact pk_un h
theorem mL_s {μ : Mem} {k j : Nat} {v : Int64} : mL (sL μ k j v) k = vp_updL (mL μ k) j v := va_up_self _ _ _
theorem mL_n {μ : Mem} {k j q : Nat} {v : Int64} (h : q ≠ k) : mL (sL μ k j v) q = mL μ q := va_up_ne _ _ h
theorem mL_ss {μ : Mem} {k j : Nat} {v : Int64} : mL (sL μ k j v) k j = v := by rw [mL_s]; exact pk_uLs
theorem mL_sn {μ : Mem} {k j i : Nat} {v : Int64} (h : i ≠ j) : mL (sL μ k j v) k i = mL μ k i := by rw [mL_s]; exact pk_uLn h
theorem mR_s {μ : Mem} {k j v : Nat} : mR (sR μ k j v) k = va_up (mR μ k) j v := va_up_self _ _ _
theorem mR_n {μ : Mem} {k j q v : Nat} (h : q ≠ k) : mR (sR μ k j v) q = mR μ q := va_up_ne _ _ h
theorem mR_ss {μ : Mem} {k j v : Nat} : mR (sR μ k j v) k j = v := by rw [mR_s]; exact va_up_self _ _ _
theorem mR_sn {μ : Mem} {k j i v : Nat} (h : i ≠ j) : mR (sR μ k j v) k i = mR μ k i := by rw [mR_s]; exact va_up_ne _ _ h
theorem en_lt {b : Nat} {cs : Nat → ClassId} {D : va_G} {μ : Mem} {H : Heap} (hP : va_P D vwCl (en b cs μ) H) (h : 0 < mN μ) : b + mN μ < H.size := (hP _ _ (en_get h (Nat.le_refl _))).lt
theorem Wd.to {b : Nat} {cs : Nat → ClassId} {D : va_G} {H0 H1 : Heap} {μ μ' : Mem} {locs1 : List Loc} {k : Nat} {x : va_E} (h0 : 0 < k) (h1 : k ≤ mN μ) (hN : mN μ' = mN μ) (hd : ∀ q, q ≠ k → ce b cs μ' q = ce b cs μ q) (hx : ce b cs μ' k = x) (hP : va_P D vwCl ((en b cs μ).set (k - 1) (b + k, x)) H1) (hS : va_S (fun q => b < q) H0 H1 locs1) : Wd b cs D H0 μ' H1 locs1 := by
  rw [en_set hN h0 hd hx] at hP
  exact ⟨en_lt hP (by omega), hP, hS⟩
theorem Wd.puti {b : Nat} {cs : Nat → ClassId} {D : va_G} {H0 H1 : Heap} {μ : Mem} {locs1 : List Loc} {k ci j : Nat} {v : Int32} (ho : ok μ k ci = true) (hc : ci < 100) (hty : jT ci j = .int ∨ jT ci j = .boolean) (hP : va_P D vwCl ((en b cs μ).set (k - 1) (b + k, .inr (ci, (fl b μ k ci).set j (.int v)))) H1) (hS : va_S (fun q => b < q) H0 H1 locs1) : Wd b cs D H0 (sI μ k j v) H1 locs1 := by
  obtain ⟨h0, h1, h2⟩ := ok_e ho
  refine Wd.to h0 h1 rfl (fun q hq => ce_congr rfl (mI_n hq) rfl rfl) ?_ hP hS
  rw [ce_obj (μ := sI μ k j v) h2 hc]
  refine congrArg (fun z => Sum.inr (ci, z)) (fl_set (fun i hi => ?_) ?_).symm
  · unfold fv
    rw [mI_sn hi]
    rfl
  · rcases hty with h | h
    · rw [h]
      exact congrArg Value.int mI_ss
    · rw [h]
      exact congrArg Value.int mI_ss
theorem Wd.putl {b : Nat} {cs : Nat → ClassId} {D : va_G} {H0 H1 : Heap} {μ : Mem} {locs1 : List Loc} {k ci j : Nat} {v : Int64} (ho : ok μ k ci = true) (hc : ci < 100) (hty : jT ci j = .long) (hP : va_P D vwCl ((en b cs μ).set (k - 1) (b + k, .inr (ci, (fl b μ k ci).set j (.long v)))) H1) (hS : va_S (fun q => b < q) H0 H1 locs1) : Wd b cs D H0 (sL μ k j v) H1 locs1 := by
  obtain ⟨h0, h1, h2⟩ := ok_e ho
  refine Wd.to h0 h1 rfl (fun q hq => ce_congr rfl rfl (mL_n hq) rfl) ?_ hP hS
  rw [ce_obj (μ := sL μ k j v) h2 hc]
  refine congrArg (fun z => Sum.inr (ci, z)) (fl_set (fun i hi => ?_) ?_).symm
  · unfold fv
    rw [mL_sn hi]
    rfl
  · rw [hty]
    exact congrArg Value.long mL_ss
theorem Wd.putr {b : Nat} {cs : Nat → ClassId} {D : va_G} {H0 H1 : Heap} {μ : Mem} {locs1 : List Loc} {k ci j v : Nat} (ho : ok μ k ci = true) (hc : ci < 100) (hty : ∀ x, fv b x k j (jT ci j) = rv b (mR x k j)) (hv : 0 < v) (hP : va_P D vwCl ((en b cs μ).set (k - 1) (b + k, .inr (ci, (fl b μ k ci).set j (.ref (b + v))))) H1) (hS : va_S (fun q => b < q) H0 H1 locs1) : Wd b cs D H0 (sR μ k j v) H1 locs1 := by
  obtain ⟨h0, h1, h2⟩ := ok_e ho
  refine Wd.to h0 h1 rfl (fun q hq => ce_congr rfl rfl rfl (mR_n hq)) ?_ hP hS
  rw [ce_obj (μ := sR μ k j v) h2 hc]
  refine congrArg (fun z => Sum.inr (ci, z)) (fl_set (fun i hi => ?_) ?_).symm
  · unfold fv
    rw [mR_sn hi]
    rfl
  · rw [hty, mR_ss]
    unfold rv
    rw [if_neg (by omega)]
theorem Wd.asti {b : Nat} {cs : Nat → ClassId} {D : va_G} {H0 H1 : Heap} {μ : Mem} {locs1 : List Loc} {k j : Nat} {v : Int32} (ho : ok μ k 100 = true) (hP : va_P D vwCl ((en b cs μ).set (k - 1) (b + k, .inl (cs 0, mZ μ k, .inl (upd (mI μ k) j v)))) H1) (hS : va_S (fun q => b < q) H0 H1 locs1) : Wd b cs D H0 (sI μ k j v) H1 locs1 := by
  obtain ⟨h0, h1, h2⟩ := ok_e ho
  refine Wd.to h0 h1 rfl (fun q hq => ce_congr rfl (mI_n hq) rfl rfl) ?_ hP hS
  rw [ce_int (μ := sI μ k j v) h2, mI_s]
  rfl
theorem Wd.astl {b : Nat} {cs : Nat → ClassId} {D : va_G} {H0 H1 : Heap} {μ : Mem} {locs1 : List Loc} {k j : Nat} {v : Int64} (ho : ok μ k 101 = true) (hP : va_P D vwCl ((en b cs μ).set (k - 1) (b + k, .inl (cs 1, mZ μ k, .inr (.inl (vp_updL (mL μ k) j v))))) H1) (hS : va_S (fun q => b < q) H0 H1 locs1) : Wd b cs D H0 (sL μ k j v) H1 locs1 := by
  obtain ⟨h0, h1, h2⟩ := ok_e ho
  refine Wd.to h0 h1 rfl (fun q hq => ce_congr rfl rfl (mL_n hq) rfl) ?_ hP hS
  rw [ce_long (μ := sL μ k j v) h2, mL_s]
  rfl
theorem Wd.astr {b : Nat} {cs : Nat → ClassId} {D : va_G} {H0 H1 : Heap} {μ : Mem} {locs1 : List Loc} {k j v : Nat} (t : Nat) (ho : ok μ k (102 + t) = true) (hv : 0 < v) (hP : va_P D vwCl ((en b cs μ).set (k - 1) (b + k, .inl (cs (2 + t), mZ μ k, .inr (.inr (.inr (.inr (va_up (fun j => ro b (mR μ k j)) j (some (b + v))))))))) H1) (hS : va_S (fun q => b < q) H0 H1 locs1) : Wd b cs D H0 (sR μ k j v) H1 locs1 := by
  obtain ⟨h0, h1, h2⟩ := ok_e ho
  refine Wd.to h0 h1 rfl (fun q hq => ce_congr rfl rfl rfl (mR_n hq)) ?_ hP hS
  rw [ce_refs (μ := sR μ k j v) h2, mR_s]
  refine congrArg (fun z => (Sum.inl (cs (2 + t), mZ μ k, .inr (.inr (.inr (.inr z)))) : va_E)) (funext fun i => ?_)
  by_cases hi : i = j
  · subst hi
    rw [va_up_self, va_up_self]
    unfold ro
    rw [if_neg (by omega)]
  · rw [va_up_ne _ _ hi, va_up_ne _ _ hi]
end
section
theorem rv_of {b r : Nat} (h : 0 < r) : rv b r = .ref (b + r) := by
  unfold rv
  rw [if_neg (by omega)]
theorem ro_of {b r : Nat} (h : 0 < r) : va_rf (ro b r) = .ref (b + r) := by
  unfold ro
  rw [if_neg (by omega)]
  rfl
theorem of_t {α : Type} {c : Prop} [Decidable c] {A B : Option α} {r : α} (hc : c) (h : (if c then A else B) = some r) : A = some r := by
  rw [if_pos hc] at h
  exact h
theorem of_f {α : Type} {c : Prop} [Decidable c] {A B : Option α} {r : α} (hc : ¬ c) (h : (if c then A else B) = some r) : B = some r := by
  rw [if_neg hc] at h
  exact h
theorem nb_01 {v : Int32} (h : v = 0 ∨ v = 1) : narrow .boolean (.int v) = .int v := by
  rcases h with rfl | rfl
  · exact narrow_b0
  · exact narrow_b1
theorem ok_0 {μ : Mem} {k c : Nat} (h : ok μ k c = true) : 0 < k := (ok_e h).1
section JR
variable {p : Program} {l : Launch} {e : Env} {R : Room} {s : State} {m : MethodId} {args : Array Value} {below : List Frame} {meth : Method} {c : Code} {H H0 : Heap} {locs : List Loc} {cells slots : Nat} {Q : State → Prop} {cc : ByteArray} {pc : Nat} {ls : Array Slot} {rest : List Value} {b : Nat} {cs : Nat → ClassId} {D : va_G} {μ : Mem}
theorem g_get (hx : p.tables.exec = Jvm.exec) (hb : c.code = cc) {own ref C : String} {T : u_T} {N ci index : Nat} {Ts : List Cond} (hts : ∀ w ∈ Ts, w.before args s = true) (hin : ∀ w ∈ u_ws C T N, w ∈ Ts) (hown : s.vm.findClass own = some m.cls) (hK : Kw cs D s) (hM : Wd b cs D H0 μ H locs) {k : Nat} (ho : ok μ k ci = true) (hci : ci < 100) (hc : vwCl[ci]? = some (C, T, N)) (j : Nat) (hj : j < N) (hlink : (Cond.fieldLink own index ref (T j).2.1 (T j).2.2.1).before args s = true) (hsame : ∀ x, s.fieldFound? (T j).1 (T j).2.1 (T j).2.2.1 = some x → s.fieldFound? ref (T j).2.1 (T j).2.2.1 = some x) {v : Value} (hjn : j < jN ci) (hv : fv b μ k j (jT ci j) = v) (hdg : decode cc pc = .ok (.getfield index, 3))
    (kk : W p l e R s m args below meth c H locs cells slots Q (F0 m (pc + 3) ls (v :: rest))) : W p l e R s m args below meth c H locs cells slots Q (F0 m pc ls (.ref (b + k) :: rest)) :=
  va_get hx hb hts hin hown hK.1 hM.2.1 (k - 1) (en_obj ho hci) hc j hj hlink hsame (fl_get hjn hv) hdg kk
theorem g_getN (hx : p.tables.exec = Jvm.exec) (hb : c.code = cc) {own ref C host : String} {T : u_T} {N ci index : Nat} {Ts : List Cond} (hts : ∀ w ∈ Ts, w.before args s = true) (hin : ∀ w ∈ u_ws C T N, w ∈ Ts) (hown : s.vm.findClass own = some m.cls) (hK : Kw cs D s) (hM : Wd b cs D H0 μ H locs) {k : Nat} (ho : ok μ k ci = true) (hci : ci < 100) (hc : vwCl[ci]? = some (C, T, N)) (j : Nat) (hj : j < N) (hlink : (Cond.fieldLinkNest own index ref (T j).2.1 (T j).2.2.1 host).before args s = true) (hsame : ∀ x, s.fieldFound? (T j).1 (T j).2.1 (T j).2.2.1 = some x → s.fieldFound? ref (T j).2.1 (T j).2.2.1 = some x) {v : Value} (hjn : j < jN ci) (hv : fv b μ k j (jT ci j) = v) (hdg : decode cc pc = .ok (.getfield index, 3))
    (kk : W p l e R s m args below meth c H locs cells slots Q (F0 m (pc + 3) ls (v :: rest))) : W p l e R s m args below meth c H locs cells slots Q (F0 m pc ls (.ref (b + k) :: rest)) :=
  va_getN hx hb hts hin hown hK.1 hM.2.1 (k - 1) (en_obj ho hci) hc j hj hlink hsame (fl_get hjn hv) hdg kk
theorem g_iald (hx : p.tables.exec = Jvm.exec) (hb : c.code = cc) (hK : Kw cs D s) (hM : Wd b cs D H0 μ H locs) {k : Nat} (ho : ok μ k 100 = true) {i : Int32} (hi : ib i (mZ μ k) = true) (hdg : decode cc pc = .ok (.iaload, 1))
    (kk : W p l e R s m args below meth c H locs cells slots Q (F0 m (pc + 1) ls (.int (mI μ k i.toNatClampNeg) :: rest))) : W p l e R s m args below meth c H locs cells slots Q (F0 m pc ls (.int i :: .ref (b + k) :: rest)) :=
  va_iald hx hb hK.1 hM.2.1 (k - 1) 0 (en_int ho) rfl (ib_in hi) hdg kk
theorem g_lald (hx : p.tables.exec = Jvm.exec) (hb : c.code = cc) (hK : Kw cs D s) (hM : Wd b cs D H0 μ H locs) {k : Nat} (ho : ok μ k 101 = true) {i : Int32} (hi : ib i (mZ μ k) = true) (hdg : decode cc pc = .ok (.laload, 1))
    (kk : W p l e R s m args below meth c H locs cells slots Q (F0 m (pc + 1) ls (.long (mL μ k i.toNatClampNeg) :: rest))) : W p l e R s m args below meth c H locs cells slots Q (F0 m pc ls (.int i :: .ref (b + k) :: rest)) :=
  va_lald hx hb hK.1 hM.2.1 (k - 1) 1 (en_long ho) rfl (ib_in hi) hdg kk
theorem g_aald (hx : p.tables.exec = Jvm.exec) (hb : c.code = cc) (hK : Kw cs D s) (hM : Wd b cs D H0 μ H locs) {k : Nat} (t : Nat) {ty : FieldType} (ht : (tl cs)[2 + t]? = some (cs (2 + t), ty)) (hty : ty.isReference = true) (ho : ok μ k (102 + t) = true) {i : Int32} (hi : ib i (mZ μ k) = true) (hr : 0 < mR μ k i.toNatClampNeg) (hdg : decode cc pc = .ok (.aaload, 1))
    (kk : W p l e R s m args below meth c H locs cells slots Q (F0 m (pc + 1) ls (.ref (b + mR μ k i.toNatClampNeg) :: rest))) : W p l e R s m args below meth c H locs cells slots Q (F0 m pc ls (.int i :: .ref (b + k) :: rest)) := by
  have hin := ib_in hi
  have hlt : i.toNatClampNeg < mZ μ k := Nat.not_le.mp fun q => hin (Or.inr q)
  refine W.aald (v := .ref (b + mR μ k i.toNatClampNeg)) (ty := ty) hx hb (hM.2.1 (k - 1) _ (en_refs t ho)) ((hK.1.2 (2 + t) _ ht).1 (mZ μ k) (fun j => va_rf (ro b (mR μ k j)))) hty (fun q => by cases q) (by show ¬ (i < 0 ∨ (arrV _ _ _).slots.size ≤ _); rw [arrV_size]; exact hin) ?_ rfl rfl hdg kk
  show (arrV _ _ _).slots[_]? = _
  rw [arrV_read _ _ hlt, ro_of hr]
theorem g_iast (hx : p.tables.exec = Jvm.exec) (hb : c.code = cc) (hK : Kw cs D s) (hM : Wd b cs D H0 μ H locs) {k : Nat} (ho : ok μ k 100 = true) {i v : Int32} (hi : ib i (mZ μ k) = true) (hdg : decode cc pc = .ok (.iastore, 1))
    (kk : ∀ (H : Heap) (locs : List Loc), Wd b cs D H0 (sI μ k i.toNatClampNeg v) H locs → W p l e R s m args below meth c H locs cells slots Q (F0 m (pc + 1) ls rest)) : W p l e R s m args below meth c H locs cells slots Q (F0 m pc ls (.int v :: .int i :: .ref (b + k) :: rest)) :=
  va_iast hx hb hK.1 hM.2.1 en_D hM.2.2 (k - 1) 0 (en_int ho) rfl (ib_in hi) hdg (fun H1 locs1 hP _ hS => kk H1 locs1 (Wd.asti ho hP hS))
theorem g_last (hx : p.tables.exec = Jvm.exec) (hb : c.code = cc) (hK : Kw cs D s) (hM : Wd b cs D H0 μ H locs) {k : Nat} (ho : ok μ k 101 = true) {i : Int32} {v : Int64} (hi : ib i (mZ μ k) = true) (hdg : decode cc pc = .ok (.lastore, 1))
    (kk : ∀ (H : Heap) (locs : List Loc), Wd b cs D H0 (sL μ k i.toNatClampNeg v) H locs → W p l e R s m args below meth c H locs cells slots Q (F0 m (pc + 1) ls rest)) : W p l e R s m args below meth c H locs cells slots Q (F0 m pc ls (.long v :: .int i :: .ref (b + k) :: rest)) :=
  va_last hx hb hK.1 hM.2.1 en_D hM.2.2 (k - 1) 1 (en_long ho) rfl (ib_in hi) hdg (fun H1 locs1 hP _ hS => kk H1 locs1 (Wd.astl ho hP hS))
theorem g_puti (hx : p.tables.exec = Jvm.exec) (hb : c.code = cc) {own ref C : String} {T : u_T} {N ci index : Nat} {Ts : List Cond} (hts : ∀ w ∈ Ts, w.before args s = true) (hin : ∀ w ∈ u_ws C T N, w ∈ Ts) (ty0 : Nat → FieldType) (hty : ∀ k, k < N → parseFieldDescriptor (T k).2.2.1 = some (ty0 k)) (hnm : ∀ a, a < N → ∀ b, b < N → a ≠ b → (T a).2.1 ≠ (T b).2.1) (hown : s.vm.findClass own = some m.cls) (hK : Kw cs D s) (hM : Wd b cs D H0 μ H locs) {k : Nat} (ho : ok μ k ci = true) (hci : ci < 100) (hc : vwCl[ci]? = some (C, T, N)) (j : Nat) (hj : j < N) (hlink : (Cond.fieldLink own index ref (T j).2.1 (T j).2.2.1).before args s = true) (hsame : ∀ x, s.fieldFound? (T j).1 (T j).2.1 (T j).2.2.1 = some x → s.fieldFound? ref (T j).2.1 (T j).2.2.1 = some x) (hfin : (T j).2.2.2 = false) {ty : FieldType} {v : Int32} (hd : parseFieldDescriptor (T j).2.2.1 = some ty) (hn : narrow ty (.int v) = .int v) (hfit : fits ty (.int v) = true) (hjn : j < jN ci) (hjt : jT ci j = .int ∨ jT ci j = .boolean) (hdg : decode cc pc = .ok (.putfield index, 3))
    (kk : ∀ (H : Heap) (locs : List Loc), Wd b cs D H0 (sI μ k j v) H locs → W p l e R s m args below meth c H locs cells slots Q (F0 m (pc + 3) ls rest)) : W p l e R s m args below meth c H locs cells slots Q (F0 m pc ls (.int v :: .ref (b + k) :: rest)) :=
  va_put hx hb hts hin ty0 hty hnm hown hK.1 hM.2.1 en_D hM.2.2 (k - 1) (en_obj ho hci) hc j hj hlink hsame hfin hd hn hfit (by rw [fl_len]; exact hjn) hdg (fun H1 locs1 hP _ hS => kk H1 locs1 (Wd.puti ho hci hjt hP hS))
theorem g_putiN (hx : p.tables.exec = Jvm.exec) (hb : c.code = cc) {own ref C host : String} {T : u_T} {N ci index : Nat} {Ts : List Cond} (hts : ∀ w ∈ Ts, w.before args s = true) (hin : ∀ w ∈ u_ws C T N, w ∈ Ts) (ty0 : Nat → FieldType) (hty : ∀ k, k < N → parseFieldDescriptor (T k).2.2.1 = some (ty0 k)) (hnm : ∀ a, a < N → ∀ b, b < N → a ≠ b → (T a).2.1 ≠ (T b).2.1) (hown : s.vm.findClass own = some m.cls) (hK : Kw cs D s) (hM : Wd b cs D H0 μ H locs) {k : Nat} (ho : ok μ k ci = true) (hci : ci < 100) (hc : vwCl[ci]? = some (C, T, N)) (j : Nat) (hj : j < N) (hlink : (Cond.fieldLinkNest own index ref (T j).2.1 (T j).2.2.1 host).before args s = true) (hsame : ∀ x, s.fieldFound? (T j).1 (T j).2.1 (T j).2.2.1 = some x → s.fieldFound? ref (T j).2.1 (T j).2.2.1 = some x) (hfin : (T j).2.2.2 = false) {ty : FieldType} {v : Int32} (hd : parseFieldDescriptor (T j).2.2.1 = some ty) (hn : narrow ty (.int v) = .int v) (hfit : fits ty (.int v) = true) (hjn : j < jN ci) (hjt : jT ci j = .int ∨ jT ci j = .boolean) (hdg : decode cc pc = .ok (.putfield index, 3))
    (kk : ∀ (H : Heap) (locs : List Loc), Wd b cs D H0 (sI μ k j v) H locs → W p l e R s m args below meth c H locs cells slots Q (F0 m (pc + 3) ls rest)) : W p l e R s m args below meth c H locs cells slots Q (F0 m pc ls (.int v :: .ref (b + k) :: rest)) :=
  va_putN hx hb hts hin ty0 hty hnm hown hK.1 hM.2.1 en_D hM.2.2 (k - 1) (en_obj ho hci) hc j hj hlink hsame hfin hd hn hfit (by rw [fl_len]; exact hjn) hdg (fun H1 locs1 hP _ hS => kk H1 locs1 (Wd.puti ho hci hjt hP hS))
theorem g_putl (hx : p.tables.exec = Jvm.exec) (hb : c.code = cc) {own ref C : String} {T : u_T} {N ci index : Nat} {Ts : List Cond} (hts : ∀ w ∈ Ts, w.before args s = true) (hin : ∀ w ∈ u_ws C T N, w ∈ Ts) (ty0 : Nat → FieldType) (hty : ∀ k, k < N → parseFieldDescriptor (T k).2.2.1 = some (ty0 k)) (hnm : ∀ a, a < N → ∀ b, b < N → a ≠ b → (T a).2.1 ≠ (T b).2.1) (hown : s.vm.findClass own = some m.cls) (hK : Kw cs D s) (hM : Wd b cs D H0 μ H locs) {k : Nat} (ho : ok μ k ci = true) (hci : ci < 100) (hc : vwCl[ci]? = some (C, T, N)) (j : Nat) (hj : j < N) (hlink : (Cond.fieldLink own index ref (T j).2.1 (T j).2.2.1).before args s = true) (hsame : ∀ x, s.fieldFound? (T j).1 (T j).2.1 (T j).2.2.1 = some x → s.fieldFound? ref (T j).2.1 (T j).2.2.1 = some x) (hfin : (T j).2.2.2 = false) {ty : FieldType} {v : Int64} (hd : parseFieldDescriptor (T j).2.2.1 = some ty) (hn : narrow ty (.long v) = .long v) (hfit : fits ty (.long v) = true) (hjn : j < jN ci) (hjt : jT ci j = .long) (hdg : decode cc pc = .ok (.putfield index, 3))
    (kk : ∀ (H : Heap) (locs : List Loc), Wd b cs D H0 (sL μ k j v) H locs → W p l e R s m args below meth c H locs cells slots Q (F0 m (pc + 3) ls rest)) : W p l e R s m args below meth c H locs cells slots Q (F0 m pc ls (.long v :: .ref (b + k) :: rest)) :=
  va_put hx hb hts hin ty0 hty hnm hown hK.1 hM.2.1 en_D hM.2.2 (k - 1) (en_obj ho hci) hc j hj hlink hsame hfin hd hn hfit (by rw [fl_len]; exact hjn) hdg (fun H1 locs1 hP _ hS => kk H1 locs1 (Wd.putl ho hci hjt hP hS))
theorem g_putr (hx : p.tables.exec = Jvm.exec) (hb : c.code = cc) {own ref C : String} {T : u_T} {N ci index : Nat} {Ts : List Cond} (hts : ∀ w ∈ Ts, w.before args s = true) (hin : ∀ w ∈ u_ws C T N, w ∈ Ts) (ty0 : Nat → FieldType) (hty : ∀ k, k < N → parseFieldDescriptor (T k).2.2.1 = some (ty0 k)) (hnm : ∀ a, a < N → ∀ b, b < N → a ≠ b → (T a).2.1 ≠ (T b).2.1) (hown : s.vm.findClass own = some m.cls) (hK : Kw cs D s) (hM : Wd b cs D H0 μ H locs) {k : Nat} (ho : ok μ k ci = true) (hci : ci < 100) (hc : vwCl[ci]? = some (C, T, N)) (j : Nat) (hj : j < N) (hlink : (Cond.fieldLink own index ref (T j).2.1 (T j).2.2.1).before args s = true) (hsame : ∀ x, s.fieldFound? (T j).1 (T j).2.1 (T j).2.2.1 = some x → s.fieldFound? ref (T j).2.1 (T j).2.2.1 = some x) (hfin : (T j).2.2.2 = false) {ty : FieldType} {v : Nat} (hd : parseFieldDescriptor (T j).2.2.1 = some ty) (hn : narrow ty (.ref (b + v)) = .ref (b + v)) (hfit : fits ty (.ref (b + v)) = true) (hjn : j < jN ci) (hjt : ∀ x, fv b x k j (jT ci j) = rv b (mR x k j)) (hv : 0 < v) (hdg : decode cc pc = .ok (.putfield index, 3))
    (kk : ∀ (H : Heap) (locs : List Loc), Wd b cs D H0 (sR μ k j v) H locs → W p l e R s m args below meth c H locs cells slots Q (F0 m (pc + 3) ls rest)) : W p l e R s m args below meth c H locs cells slots Q (F0 m pc ls (.ref (b + v) :: .ref (b + k) :: rest)) :=
  va_put hx hb hts hin ty0 hty hnm hown hK.1 hM.2.1 en_D hM.2.2 (k - 1) (en_obj ho hci) hc j hj hlink hsame hfin hd hn hfit (by rw [fl_len]; exact hjn) hdg (fun H1 locs1 hP _ hS => kk H1 locs1 (Wd.putr ho hci hjt hv hP hS))
theorem top_i {x y : Int32} (h : x = y) (k : W p l e R s m args below meth c H locs cells slots Q (F0 m pc ls (.int y :: rest))) : W p l e R s m args below meth c H locs cells slots Q (F0 m pc ls (.int x :: rest)) := by
  rw [h]
  exact k
theorem top_l {x y : Int64} (h : x = y) (k : W p l e R s m args below meth c H locs cells slots Q (F0 m pc ls (.long y :: rest))) : W p l e R s m args below meth c H locs cells slots Q (F0 m pc ls (.long x :: rest)) := by
  rw [h]
  exact k
theorem Wd.fin {t : State} (hM : Wd b cs D H0 μ H locs) (ht : t.heap = H) : Bw b cs D μ t := ⟨by rw [ht]; exact hM.1, by rw [ht]; exact hM.2.1⟩
theorem g_zret (hx : p.tables.exec = Jvm.exec) (hb : c.code = cc) {ty : FieldType} (hr : meth.sig.returnType = some ty) {v : Int32} (hn : narrow ty (.int v) = .int v) (hlocks : meth.locks = false) (hM : Wd b cs D s.heap μ H locs) {res : Int32 × Mem} (h : (v, μ) = res) (hdg : decode cc pc = .ok (.ireturn, 1)) : W p l e R s m args below meth c H locs cells slots (MQ below (va_Qi (fun r μ' => (r, μ') = res) (Bw b cs D) (Aw b)) args s cells slots (Aw b)) (F0 m pc ls [.int v]) :=
  W.zret hx hb hr hn (fun _ ht _ => ⟨⟨v, μ, rfl, h, hM.fin ht⟩, hM.2.2.F ht⟩) hM.2.2.2.2 hdg hlocks
theorem g_iret (hx : p.tables.exec = Jvm.exec) (hb : c.code = cc) (hr : meth.sig.returnType = some .int) {v : Int32} (hlocks : meth.locks = false) (hM : Wd b cs D s.heap μ H locs) {res : Int32 × Mem} (h : (v, μ) = res) (hdg : decode cc pc = .ok (.ireturn, 1)) : W p l e R s m args below meth c H locs cells slots (MQ below (va_Qi (fun r μ' => (r, μ') = res) (Bw b cs D) (Aw b)) args s cells slots (Aw b)) (F0 m pc ls [.int v]) :=
  g_zret hx hb hr rfl hlocks hM h hdg
theorem g_lret (hx : p.tables.exec = Jvm.exec) (hb : c.code = cc) (hr : meth.sig.returnType = some .long) {v : Int64} (hlocks : meth.locks = false) (hM : Wd b cs D s.heap μ H locs) {res : Int64 × Mem} (h : (v, μ) = res) (hdg : decode cc pc = .ok (.lreturn, 1)) : W p l e R s m args below meth c H locs cells slots (MQ below (va_Ql (fun r μ' => (r, μ') = res) (Bw b cs D) (Aw b)) args s cells slots (Aw b)) (F0 m pc ls [.long v]) :=
  W.lret hx hb hr (fun _ ht _ => ⟨⟨v, μ, rfl, h, hM.fin ht⟩, hM.2.2.F ht⟩) hM.2.2.2.2 hdg hlocks
theorem g_vret (hx : p.tables.exec = Jvm.exec) (hb : c.code = cc) (hr : meth.sig.returnType = none) (hlocks : meth.locks = false) (hM : Wd b cs D s.heap μ H locs) {res : Mem} (h : μ = res) (hdg : decode cc pc = .ok (.return_, 1)) : W p l e R s m args below meth c H locs cells slots (MQ below (va_Qv (fun μ' => μ' = res) (Bw b cs D) (Aw b)) args s cells slots (Aw b)) (F0 m pc ls []) :=
  W.vret hx hb hr (fun _ ht _ => ⟨⟨μ, rfl, h, hM.fin ht⟩, hM.2.2.F ht⟩) hM.2.2.2.2 hdg hlocks
end JR
end
section
/-! New cells: in constructors alone. The heap's size is known there: the cells counted so far are all that is new. -/
abbrev MetC (l : Launch) (y : MethodName) (ws : List Cond) (fr mc ms lo b : Nat) (cs : Nat → ClassId) (D : va_G) (μ : Mem) (av : List Value) (res : Mem) : Prop := Met l y ws { frames := fr, cells := mc, slots := ms, locals := lo } (va_Pc av (fun U => U.heap.size = b + mN μ + 1 ∧ Bw b cs D μ U ∧ Kw cs D U)) (va_Qv (fun μ' => μ' = res) (Bw b cs D) (Aw b)) mc ms (Aw b)
theorem en_al {b : Nat} {cs : Nat → ClassId} {μ : Mem} {c z : Nat} : en b cs (al μ c z) = en b cs μ ++ [(b + (mN μ + 1), ce b cs (al μ c z) (mN μ + 1))] := by
  have hN : mN (al μ c z) = mN μ + 1 := rfl
  unfold en
  rw [hN, List.range_succ, List.map_append]
  congr 1
  apply List.map_congr_left
  intro i hi
  have hi : i < mN μ := List.mem_range.mp hi
  have hne : i + 1 ≠ mN μ + 1 := by omega
  exact congrArg (fun x => (b + (i + 1), x)) (ce_congr (va_up_ne _ _ hne) (va_up_ne _ _ hne) (va_up_ne _ _ hne) (va_up_ne _ _ hne))
theorem Wd_al {b : Nat} {cs : Nat → ClassId} {D : va_G} {H0 H H1 : Heap} {μ : Mem} {locs : List Loc} {c z : Nat} (hM : Wd b cs D H0 μ H locs) (hz : H.size = b + (mN μ + 1)) (z1 : H1.size = b + (mN μ + 1) + 1) (o1 : ∀ q, q < b + (mN μ + 1) → H1[q]? = H[q]?) (hat : va_at D vwCl (b + (mN μ + 1), ce b cs (al μ c z) (mN μ + 1)) H1) : Wd b cs D H0 (al μ c z) H1 locs := by
  refine ⟨by rw [z1]; exact Nat.lt_succ_self _, ?_, ?_⟩
  · rw [en_al]
    refine (hM.2.1.kept (fun k x hx => o1 x.1 (by rw [← hz]; exact (hM.2.1 k x hx).lt))).app (fun k x hx => ?_)
    have hk : k < 1 := (List.getElem?_eq_some_iff.mp hx).1
    rw [show k = 0 by omega] at hx
    cases hx
    exact hat
  · have hS := hM.2.2
    exact ⟨Nat.le_trans hS.1 (by omega), fun x h1 h2 => (o1 x (by have := hS.1; omega)).trans (hS.2.1 x h1 h2), hS.2.2⟩
def okT : FieldType → Bool
  | .int => true
  | .boolean => true
  | .long => true
  | .object _ => true
  | .array _ => true
  | _ => false
theorem fv_new {b : Nat} {μ : Mem} {c z j : Nat} {ty : FieldType} (h : okT ty = true) : fv b (al μ c z) (mN μ + 1) j ty = defaultValue ty := by
  have h1 : mI (al μ c z) (mN μ + 1) = fun _ => 0 := va_up_self _ _ _
  have h2 : mL (al μ c z) (mN μ + 1) = fun _ => 0 := va_up_self _ _ _
  have h3 : mR (al μ c z) (mN μ + 1) = fun _ => 0 := va_up_self _ _ _
  cases ty <;> first | (cases h; done) | (unfold fv; rw [h1]; rfl) | (unfold fv; rw [h2]; rfl) | (unfold fv; rw [h3]; rfl)
theorem mK_al {μ : Mem} {c z : Nat} : mK (al μ c z) (mN μ + 1) = c := by
  show (va_up μ.2.1 (μ.1 + 1) (c, z) (μ.1 + 1)).1 = c
  rw [va_up_self]
theorem mZ_al {μ : Mem} {c z : Nat} : mZ (al μ c z) (mN μ + 1) = z := by
  show (va_up μ.2.1 (μ.1 + 1) (c, z) (μ.1 + 1)).2 = z
  rw [va_up_self]
section JA
variable {p : Program} {l : Launch} {e : Env} {R : Room} {s : State} {m : MethodId} {args : Array Value} {below : List Frame} {meth : Method} {c : Code} {H H0 : Heap} {locs : List Loc} {cells slots : Nat} {Q : State → Prop} {cc : ByteArray} {pc : Nat} {ls : Array Slot} {rest : List Value} {b : Nat} {cs : Nat → ClassId} {D : va_G} {μ : Mem}
theorem W.sized {g : JFrame} (k : H.size ≤ s.heap.size + cells → W p l e R s m args below meth c H locs cells slots Q g) : W p l e R s m args below meth c H locs cells slots Q g := fun T hT X => k (by rw [← hT]; exact X.heapSize) T hT X
theorem g_new (hx : p.tables.exec = Jvm.exec) (hb : c.code = cc) {own C : String} {T : u_T} {N ci index : Nat} {Ts : List Cond} (hts : ∀ w ∈ Ts, w.before args s = true) (hin : ∀ w ∈ u_ws C T N, w ∈ Ts) (ty : Nat → FieldType) (hty : ∀ k, k < N → parseFieldDescriptor (T k).2.2.1 = some (ty k)) (hown : s.vm.findClass own = some m.cls) (hcl : (Cond.classLink own index C).before args s = true) (hinst : (Cond.instantiable C N).before args s = true) (hini : (Cond.initialized C).before args s = true) (hK : Kw cs D s) (hM : Wd b cs D H0 μ H locs) (hcs : s.heap.size + cells = b + mN μ + 1) (hci : ci < 100) (hc : vwCl[ci]? = some (C, T, N)) (hjt : ∀ j, j < N → j < jN ci ∧ jT ci j = ty j ∧ okT (ty j) = true) (hcells : cells + 1 ≤ R.cells) (hslots : slots + N ≤ R.slots) (hdg : decode cc pc = .ok (.new index, 3))
    (kk : ∀ H : Heap, Wd b cs D H0 (al μ ci 0) H locs → W p l e R s m args below meth c H locs (cells + 1) (slots + N) Q (F0 m (pc + 3) ls (.ref (b + (mN μ + 1)) :: rest))) : W p l e R s m args below meth c H locs cells slots Q (F0 m pc ls rest) := by
  refine W.sized fun hle => ?_
  have hz : H.size = b + (mN μ + 1) := by have := hM.1; omega
  have hKn := hK.1.1 ci _ hc
  refine W.newcK hx hb hown hcl hinst hini rfl hdg hcells hslots hKn.2.1 hz fun H1 kC hkC e1 z1 o1 => ?_
  refine kk H1 (Wd_al hM hz z1 o1 ?_)
  rw [ce_obj mK_al hci]
  refine ⟨_, hc, (u_born ty hts hin hKn hkC e1 hty).to (fun j hj => ?_)⟩
  obtain ⟨h1, h2, h3⟩ := hjt j hj
  have h4 : (fl b (al μ ci 0) (mN μ + 1) ci)[j]? = some (defaultValue (ty j)) := fl_get h1 (by rw [h2]; exact fv_new h3)
  unfold vp_V
  rw [List.getD_eq_getElem?_getD, h4]
  rfl
theorem g_newi (hx : p.tables.exec = Jvm.exec) (hb : c.code = cc) {atype : ArrayType} (hat : newarray.typeOf atype = .int) (harr : (Cond.arrayClass (newarray.typeOf atype)).before args s = true) (hK : Kw cs D s) (hM : Wd b cs D H0 μ H locs) (hcs : s.heap.size + cells = b + mN μ + 1) (ht : (tl cs)[0]? = some (cs 0, .int)) {n : Int32} {N : Nat} (hn : ¬ n < 0) (hN : n.toNatClampNeg = N) (hbytes : N * 4 ≤ 536870912) (hcells : cells + 1 ≤ R.cells) (hslots : slots + N ≤ R.slots) (hdg : decode cc pc = .ok (.newarray atype, 2))
    (kk : ∀ H : Heap, Wd b cs D H0 (al μ 100 N) H locs → W p l e R s m args below meth c H locs (cells + 1) (slots + N) Q (F0 m (pc + 2) ls (.ref (b + (mN μ + 1)) :: rest))) : W p l e R s m args below meth c H locs cells slots Q (F0 m pc ls (.int n :: rest)) := by
  refine W.sized fun hle => ?_
  have hz : H.size = b + (mN μ + 1) := by have := hM.1; omega
  refine va_newaK hx hb harr rfl hdg rfl hn hN (by rw [hat]; exact hbytes) hcells hslots hz fun H1 cA e1 z1 o1 hAr hNm => ?_
  rw [hat] at e1 hNm
  have hcA : cA = cs 0 := Option.some.inj (hNm.symm.trans (hK.1.2 0 _ ht).2)
  subst hcA
  refine kk H1 (Wd_al hM hz z1 o1 ?_)
  rw [ce_int mK_al, mZ_al, show mI (al μ 100 N) (mN μ + 1) = fun _ => 0 from va_up_self _ _ _]
  show H1[b + (mN μ + 1)]? = some (vp_cell _ _)
  rw [vp_cell_i]
  exact e1
theorem g_newl (hx : p.tables.exec = Jvm.exec) (hb : c.code = cc) {atype : ArrayType} (hat : newarray.typeOf atype = .long) (harr : (Cond.arrayClass (newarray.typeOf atype)).before args s = true) (hK : Kw cs D s) (hM : Wd b cs D H0 μ H locs) (hcs : s.heap.size + cells = b + mN μ + 1) (ht : (tl cs)[1]? = some (cs 1, .long)) {n : Int32} {N : Nat} (hn : ¬ n < 0) (hN : n.toNatClampNeg = N) (hbytes : N * 8 ≤ 536870912) (hcells : cells + 1 ≤ R.cells) (hslots : slots + N ≤ R.slots) (hdg : decode cc pc = .ok (.newarray atype, 2))
    (kk : ∀ H : Heap, Wd b cs D H0 (al μ 101 N) H locs → W p l e R s m args below meth c H locs (cells + 1) (slots + N) Q (F0 m (pc + 2) ls (.ref (b + (mN μ + 1)) :: rest))) : W p l e R s m args below meth c H locs cells slots Q (F0 m pc ls (.int n :: rest)) := by
  refine W.sized fun hle => ?_
  have hz : H.size = b + (mN μ + 1) := by have := hM.1; omega
  refine va_newaK hx hb harr rfl hdg rfl hn hN (by rw [hat]; exact hbytes) hcells hslots hz fun H1 cA e1 z1 o1 hAr hNm => ?_
  rw [hat] at e1 hNm
  have hcA : cA = cs 1 := Option.some.inj (hNm.symm.trans (hK.1.2 1 _ ht).2)
  subst hcA
  refine kk H1 (Wd_al hM hz z1 o1 ?_)
  rw [ce_long mK_al, mZ_al, show mL (al μ 101 N) (mN μ + 1) = fun _ => 0 from va_up_self _ _ _]
  show H1[b + (mN μ + 1)]? = some (vp_cell _ _)
  rw [vp_cell_l]
  exact e1
theorem g_newr (hx : p.tables.exec = Jvm.exec) (hb : c.code = cc) {own C : String} {index : Nat} (hown : s.vm.findClass own = some m.cls) (hclink : (Cond.classLink own index C).before args s = true) (hover : (Cond.arrayOver (.object C)).before args s = true) (hK : Kw cs D s) (hM : Wd b cs D H0 μ H locs) (hcs : s.heap.size + cells = b + mN μ + 1) (t : Nat) (ht : (tl cs)[2 + t]? = some (cs (2 + t), .object C)) {n : Int32} {N : Nat} (hn : ¬ n < 0) (hN : n.toNatClampNeg = N) (hbytes : N * 4 ≤ 536870912) (hcells : cells + 1 ≤ R.cells) (hslots : slots + N ≤ R.slots) (hdg : decode cc pc = .ok (.anewarray index, 3))
    (kk : ∀ H : Heap, Wd b cs D H0 (al μ (102 + t) N) H locs → W p l e R s m args below meth c H locs (cells + 1) (slots + N) Q (F0 m (pc + 3) ls (.ref (b + (mN μ + 1)) :: rest))) : W p l e R s m args below meth c H locs cells slots Q (F0 m pc ls (.int n :: rest)) := by
  refine W.sized fun hle => ?_
  have hz : H.size = b + (mN μ + 1) := by have := hM.1; omega
  subst hN
  refine W.anew hx hb hown hclink hover rfl hdg rfl hn hbytes hcells hslots fun cA kA comp f1 f2 f3 f4 => ?_
  obtain ⟨kA', comp', k1, k2, k3, k4⟩ := (hK.1.2 (2 + t) _ ht).2
  have hcA : cA = cs (2 + t) := Option.some.inj (f1.symm.trans k4)
  subst hcA
  generalize hH1 : H.push ({ cls := cs (2 + t), slots := Array.replicate n.toNatClampNeg .null, vm := .none } : Cell) = H1
  have z1 : H1.size = b + (mN μ + 1) + 1 := by rw [← hH1, Array.size_push, hz]
  have e1 : H1[b + (mN μ + 1)]? = some (arrV (cs (2 + t)) n.toNatClampNeg (fun _ => .null)) := by rw [← hH1, ← hz, Array.getElem?_push_size, ← arrV_new]
  have o1 : ∀ q : Nat, q < b + (mN μ + 1) → H1[q]? = H[q]? := fun q hq => by rw [← hH1, Array.getElem?_push, if_neg (Nat.ne_of_lt (by rw [hz]; exact hq))]
  show W p l e R s m args below meth c H1 locs (cells + 1) (slots + n.toNatClampNeg) Q (F0 m (pc + 3) ls (.ref H.size :: rest))
  rw [hz]
  refine kk H1 (Wd_al hM hz z1 o1 ?_)
  rw [ce_refs mK_al, mZ_al, show mR (al μ (102 + t) n.toNatClampNeg) (mN μ + 1) = fun _ => 0 from va_up_self _ _ _]
  show H1[b + (mN μ + 1)]? = some (vp_cell _ _)
  rw [vp_cell_q]
  exact e1
theorem g_putrF (hx : p.tables.exec = Jvm.exec) (hb : c.code = cc) {own ref C : String} {T : u_T} {N ci index : Nat} {Ts : List Cond} (hts : ∀ w ∈ Ts, w.before args s = true) (hin : ∀ w ∈ u_ws C T N, w ∈ Ts) (ty0 : Nat → FieldType) (hty : ∀ k, k < N → parseFieldDescriptor (T k).2.2.1 = some (ty0 k)) (hnm : ∀ a, a < N → ∀ b, b < N → a ≠ b → (T a).2.1 ≠ (T b).2.1) (hown : s.vm.findClass own = some m.cls) (hK : Kw cs D s) (hM : Wd b cs D H0 μ H locs) {k : Nat} (ho : ok μ k ci = true) (hci : ci < 100) (hc : vwCl[ci]? = some (C, T, N)) (j : Nat) (hj : j < N) (hlink : (Cond.fieldLink own index ref (T j).2.1 (T j).2.2.1).before args s = true) (hsame : ∀ x, s.fieldFound? (T j).1 (T j).2.1 (T j).2.2.1 = some x → s.fieldFound? ref (T j).2.1 (T j).2.2.1 = some x) (hfin : (T j).2.2.2 = true) (hin2 : meth.name = "<init>") (hdecl : (T j).1 = own) {ty : FieldType} {v : Nat} (hd : parseFieldDescriptor (T j).2.2.1 = some ty) (hn : narrow ty (.ref (b + v)) = .ref (b + v)) (hfit : fits ty (.ref (b + v)) = true) (hjn : j < jN ci) (hjt : ∀ x, fv b x k j (jT ci j) = rv b (mR x k j)) (hv : 0 < v) (hdg : decode cc pc = .ok (.putfield index, 3))
    (kk : ∀ (H : Heap) (locs : List Loc), Wd b cs D H0 (sR μ k j v) H locs → W p l e R s m args below meth c H locs cells slots Q (F0 m (pc + 3) ls rest)) : W p l e R s m args below meth c H locs cells slots Q (F0 m pc ls (.ref (b + v) :: .ref (b + k) :: rest)) :=
  va_putF hx hb hts hin ty0 hty hnm hown hK.1 hM.2.1 en_D hM.2.2 (k - 1) (en_obj ho hci) hc j hj hlink hsame hfin hin2 hdecl hd hn hfit (by rw [fl_len]; exact hjn) hdg (fun H1 locs1 hP _ hS => kk H1 locs1 (Wd.putr ho hci hjt hv hP hS))
theorem g_aast (hx : p.tables.exec = Jvm.exec) (hb : c.code = cc) (hK : Kw cs D s) (hM : Wd b cs D H0 μ H locs) {k v : Nat} (t ci : Nat) {r : vw_C} (ht : (tl cs)[2 + t]? = some (cs (2 + t), .object r.1)) (hc : vwCl[ci]? = some r) (hci : ci < 100) (ho : ok μ k (102 + t) = true) (hv : ok μ v ci = true) {i : Int32} (hi : ib i (mZ μ k) = true) (hdg : decode cc pc = .ok (.aastore, 1))
    (kk : ∀ (H : Heap) (locs : List Loc), Wd b cs D H0 (sR μ k i.toNatClampNeg v) H locs → W p l e R s m args below meth c H locs cells slots Q (F0 m (pc + 1) ls rest)) : W p l e R s m args below meth c H locs cells slots Q (F0 m pc ls (.ref (b + v) :: .int i :: .ref (b + k) :: rest)) :=
  va_astq hx hb hK.1 hM.2.1 en_D hM.2.2 (k - 1) (2 + t) (v - 1) ci (en_refs t ho) ht (en_obj hv hci) hc (ib_in hi) hdg (fun H1 locs1 hP _ hS => kk H1 locs1 (Wd.astr t ho (ok_0 hv) hP hS))
theorem Wd.startC {av : List Value} (h : va_Pc av (fun U => U.heap.size = b + mN μ + 1 ∧ Bw b cs D μ U ∧ Kw cs D U) args s) : args = av.toArray ∧ s.heap.size = b + mN μ + 1 ∧ Kw cs D s ∧ Wd b cs D s.heap μ s.heap [] := ⟨h.1, h.2.1, h.2.2.2, h.2.2.1.1, h.2.2.1.2, va_S.rf⟩
theorem Wd.preC {As : List Value} (hK : Kw cs D s) (hM : Wd b cs D H0 μ H locs) (hz : H.size = b + mN μ + 1) : PreS s H (va_Pc As (fun U => U.heap.size = b + mN μ + 1 ∧ Bw b cs D μ U ∧ Kw cs D U)) As := ⟨fun a U g mk q => by
  obtain ⟨q0, q1, q2, qK⟩ := q
  exact ⟨q0, q1, q2, Kw.same (u := U) (U := U.calling g mk a) rfl qK⟩, fun U hU hW => ⟨rfl, by rw [hU]; exact hz, ⟨by rw [hU]; exact hM.1, by rw [hU]; exact hM.2.1⟩, Kw.warm hW hK⟩⟩
theorem hz_of {S0 n0 : Nat} (hM : Wd b cs D H0 μ H locs) (hle : H.size ≤ S0 + n0) (hcs : S0 + n0 = b + mN μ + 1) : H.size = b + mN μ + 1 := by have := hM.1; omega
theorem g_callc {a : Array Value} {st0 : List Value} {μ' : Mem} {mc ms : Nat} (hr : va_Run p l e R s m args below meth c H locs cells slots mc ms (F0 m pc ls st0) rest (va_Qv (fun μ0 => μ0 = μ') (Bw b cs D) (Aw b) a) (Aw b)) (hM : Wd b cs D H0 μ H locs)
    (kk : ∀ (H1 : Heap) (locs1 : List Loc), Wd b cs D H0 μ' H1 locs1 → W p l e R s m args below meth c H1 locs1 (cells + mc) (slots + ms) Q (F0 m (pc + 3) ls rest)) : W p l e R s m args below meth c H locs cells slots Q (F0 m pc ls st0) := by
  refine va_callv hr hM.2.2 (fun _ _ h => h) (fun _ h => h) (fun u t H1 locs1 ht hvm hp hB hz hk hS => ?_)
  cases hp
  exact kk H1 locs1 (Wd.back hB ht hS)
end JA
end
section
/-! Pure: atoms with three columns each (X: the variable, V: the value of a row), hung by ears. No machine here. -/
/-- rows k of e and k' of e' give no shared variable two values -/
def Ag (V : Nat → Nat → Nat → Nat) (X : Nat → Nat → Nat) (e k e' k' : Nat) : Prop := ∀ c, c < 3 → ∀ c', c' < 3 → X e c = X e' c' → V e k c = V e' k' c'
def Con (V : Nat → Nat → Nat → Nat) (X : Nat → Nat → Nat) (P : Nat → Prop) (w : Nat → Nat) : Prop := ∀ e e', P e → P e' → Ag V X e (w e) e' (w e')
/-- e is an ear on p among P -/
def Ear (X : Nat → Nat → Nat) (P : Nat → Prop) (e p : Nat) : Prop := P e ∧ P p ∧ p ≠ e ∧ ∀ c, c < 3 → ∀ e', P e' → e' ≠ e → ∀ c', c' < 3 → X e c = X e' c' → ∃ d, d < 3 ∧ X p d = X e c
def Off (P : Nat → Prop) (e : Nat) : Nat → Prop := fun q => P q ∧ q ≠ e
theorem Ag.sym {V : Nat → Nat → Nat → Nat} {X : Nat → Nat → Nat} {e k e' k' : Nat} (h : Ag V X e k e' k') : Ag V X e' k' e k := fun c hc c' hc' hx => (h c' hc' c hc hx.symm).symm
theorem con_ear {V : Nat → Nat → Nat → Nat} {X : Nat → Nat → Nat} {P : Nat → Prop} {e p : Nat} (h : Ear X P e p) (w : Nat → Nat) : Con V X P w ↔ Con V X (Off P e) w ∧ Ag V X e (w e) p (w p) ∧ Ag V X e (w e) e (w e) := by
  obtain ⟨he, hp, hne, hear⟩ := h
  constructor
  · intro hc
    exact ⟨fun a b ha hb => hc a b ha.1 hb.1, hc e p he hp, hc e e he he⟩
  · intro hc
    obtain ⟨h1, h2, h3⟩ := hc
    have key : ∀ a, P a → a ≠ e → Ag V X e (w e) a (w a) := by
      intro a ha hae c hc c' hc' hx
      obtain ⟨d, hd, hdx⟩ := hear c hc a ha hae c' hc' hx
      rw [h2 c hc d hd hdx.symm]
      exact h1 p a ⟨hp, hne⟩ ⟨ha, hae⟩ d hd c' hc' (hdx.trans hx)
    intro a b ha hb
    by_cases hae : a = e
    · subst hae
      by_cases hbe : b = a
      · subst hbe
        exact h3
      · exact key b hb hbe
    · by_cases hbe : b = e
      · subst hbe
        exact (key a ha hae).sym
      · exact h1 a b ⟨ha, hae⟩ ⟨hb, hbe⟩
/-- a way among P with rows in S -/
def Way (V : Nat → Nat → Nat → Nat) (X : Nat → Nat → Nat) (P : Nat → Prop) (S : Nat → Nat → Prop) (w : Nat → Nat) : Prop := (∀ q, P q → S q (w q)) ∧ Con V X P w
/-- rows of p that have a row of e to agree with -/
def Up (V : Nat → Nat → Nat → Nat) (X : Nat → Nat → Nat) (S : Nat → Nat → Prop) (e p : Nat) : Nat → Nat → Prop := fun q k => S q k ∧ (q = p → ∃ k', S e k' ∧ Ag V X p k e k')
theorem Con.congr {V : Nat → Nat → Nat → Nat} {X : Nat → Nat → Nat} {P : Nat → Prop} {w w' : Nat → Nat} (h : ∀ q, P q → w' q = w q) : Con V X P w' ↔ Con V X P w :=
  ⟨fun hc a b ha hb => by rw [← h a ha, ← h b hb]; exact hc a b ha hb, fun hc a b ha hb => by rw [h a ha, h b hb]; exact hc a b ha hb⟩
theorem way_split {V : Nat → Nat → Nat → Nat} {X : Nat → Nat → Nat} {P : Nat → Prop} {S : Nat → Nat → Prop} {e p : Nat} (h : Ear X P e p) (hS : ∀ k, S e k → Ag V X e k e k) (w : Nat → Nat) : Way V X P S w ↔ Way V X (Off P e) S w ∧ S e (w e) ∧ Ag V X p (w p) e (w e) := by
  constructor
  · intro hw
    obtain ⟨h1, h2⟩ := hw
    obtain ⟨g1, g2, g3⟩ := (con_ear h w).mp h2
    exact ⟨⟨fun q hq => h1 q hq.1, g1⟩, h1 e h.1, g2.sym⟩
  · intro hw
    obtain ⟨⟨h1, h2⟩, h3, h4⟩ := hw
    refine ⟨fun q hq => ?_, (con_ear h w).mpr ⟨h2, h4.sym, hS _ h3⟩⟩
    by_cases hqe : q = e
    · subst hqe
      exact h3
    · exact h1 q ⟨hq, hqe⟩
theorem way_up {V : Nat → Nat → Nat → Nat} {X : Nat → Nat → Nat} {P : Nat → Prop} {S : Nat → Nat → Prop} {e p : Nat} (h : Ear X P e p) (hS : ∀ k, S e k → Ag V X e k e k) (w : Nat → Nat) : Way V X (Off P e) (Up V X S e p) w ↔ ∃ k, Way V X P S (va_up w e k) := by
  have hpe : p ≠ e := h.2.2.1
  have hq : ∀ k q, Off P e q → va_up w e k q = w q := fun k q hq => va_up_ne _ _ hq.2
  constructor
  · intro hw
    obtain ⟨h1, h2⟩ := hw
    obtain ⟨h3, h4⟩ := h1 p ⟨h.2.1, hpe⟩
    obtain ⟨k, h5, h6⟩ := h4 rfl
    refine ⟨k, (way_split h hS _).mpr ⟨⟨fun q hP => ?_, (Con.congr (hq k)).mpr h2⟩, ?_, ?_⟩⟩
    · rw [hq k q hP]
      exact (h1 q hP).1
    · rw [va_up_self]
      exact h5
    · rw [va_up_self, va_up_ne _ _ hpe]
      exact h6
  · intro hw
    obtain ⟨k, hw⟩ := hw
    obtain ⟨⟨h1, h2⟩, h3, h4⟩ := (way_split h hS _).mp hw
    rw [va_up_self] at h3 h4
    rw [va_up_ne _ _ hpe] at h4
    refine ⟨fun q hP => ⟨?_, fun hqp => ?_⟩, (Con.congr (hq k)).mp h2⟩
    · have := h1 q hP
      rw [hq k q hP] at this
      exact this
    · subst hqp
      exact ⟨k, h3, h4⟩
/-- an order of hanging: ears with their parents; what is left; the rows left by the pass up, and by the pass down -/
def Hung (X : Nat → Nat → Nat) : List (Nat × Nat) → (Nat → Prop) → Prop
  | [], P => ∀ a b, P a → P b → a = b
  | x :: xs, P => Ear X P x.1 x.2 ∧ Hung X xs (Off P x.1)
def upAll (V : Nat → Nat → Nat → Nat) (X : Nat → Nat → Nat) : List (Nat × Nat) → (Nat → Nat → Prop) → Nat → Nat → Prop
  | [], S => S
  | x :: xs, S => upAll V X xs (Up V X S x.1 x.2)
def Dn (V : Nat → Nat → Nat → Nat) (X : Nat → Nat → Nat) (S : Nat → Nat → Prop) (e p : Nat) : Nat → Nat → Prop := fun q k => S q k ∧ (q = e → ∃ k', S p k' ∧ Ag V X p k' e k)
def dnAll (V : Nat → Nat → Nat → Nat) (X : Nat → Nat → Nat) : List (Nat × Nat) → (Nat → Nat → Prop) → Nat → Nat → Prop
  | [], S => S
  | x :: xs, S => Dn V X (dnAll V X xs S) x.1 x.2
theorem hung_off {X : Nat → Nat → Nat} : ∀ (xs : List (Nat × Nat)) (P : Nat → Prop), Hung X xs P → ∀ x ∈ xs, P x.1 ∧ P x.2
  | [], _, _, _, hx => absurd hx List.not_mem_nil
  | y :: ys, P, h, x, hx => by
    rcases List.mem_cons.mp hx with rfl | hx
    · exact ⟨h.1.1, h.1.2.1⟩
    · have := hung_off ys _ h.2 x hx
      exact ⟨this.1.1, this.2.1⟩
theorem upAll_out {V : Nat → Nat → Nat → Nat} {X : Nat → Nat → Nat} : ∀ (xs : List (Nat × Nat)) (P : Nat → Prop) (S : Nat → Nat → Prop) (q : Nat), Hung X xs P → ¬ P q → ∀ k, upAll V X xs S q k ↔ S q k
  | [], _, _, _, _, _, _ => Iff.rfl
  | y :: ys, P, S, q, h, hq, k => by
    have h1 := upAll_out (V := V) ys (Off P y.1) (Up V X S y.1 y.2) q h.2 (fun z => hq z.1) k
    have h2 : q ≠ y.2 := fun z => hq (by rw [z]; exact h.1.2.1)
    exact h1.trans ⟨fun z => z.1, fun z => ⟨z, fun z2 => absurd z2 h2⟩⟩
theorem dnAll_out {V : Nat → Nat → Nat → Nat} {X : Nat → Nat → Nat} : ∀ (xs : List (Nat × Nat)) (P : Nat → Prop) (S : Nat → Nat → Prop) (q : Nat), Hung X xs P → ¬ P q → ∀ k, dnAll V X xs S q k ↔ S q k
  | [], _, _, _, _, _, _ => Iff.rfl
  | y :: ys, P, S, q, h, hq, k => by
    have h1 := dnAll_out (V := V) ys (Off P y.1) S q h.2 (fun z => hq z.1) k
    have h2 : q ≠ y.1 := fun z => hq (by rw [z]; exact h.1.1)
    exact Iff.trans ⟨fun z => z.1, fun z => ⟨z, fun z2 => absurd z2 h2⟩⟩ h1
/-- the rows that are left are those that some way uses -/
theorem live_rows {V : Nat → Nat → Nat → Nat} {X : Nat → Nat → Nat} : ∀ (xs : List (Nat × Nat)) (P : Nat → Prop) (S : Nat → Nat → Prop), Hung X xs P → (∀ q k, S q k → Ag V X q k q k) → ∀ q, P q → ∀ k, dnAll V X xs (upAll V X xs S) q k ↔ ∃ w, Way V X P S w ∧ w q = k
  | [], P, S, h, hS, q, hq, k => by
    constructor
    · intro hk
      refine ⟨fun _ => k, ⟨fun a ha => ?_, fun a b ha hb => ?_⟩, rfl⟩
      · rw [h a q ha hq]
        exact hk
      · rw [h a q ha hq, h b q hb hq]
        exact hS q k hk
    · intro hw
      obtain ⟨w, hw, rfl⟩ := hw
      exact hw.1 q hq
  | x :: xs, P, S, h, hS, q, hq, k => by
    have hE := h.1
    have hpe : x.2 ≠ x.1 := hE.2.2.1
    have hS1 : ∀ q k, Up V X S x.1 x.2 q k → Ag V X q k q k := fun q k z => hS q k z.1
    have ih := live_rows xs (Off P x.1) (Up V X S x.1 x.2) h.2 hS1
    have hup := way_up (V := V) (S := S) hE (fun k z => hS _ k z)
    by_cases hqe : q = x.1
    · subst hqe
      have hU : ∀ k, upAll V X xs (Up V X S x.1 x.2) x.1 k ↔ S x.1 k := fun k => (upAll_out (V := V) xs _ _ _ h.2 (fun z => z.2 rfl) k).trans ⟨fun z => z.1, fun z => ⟨z, fun z2 => absurd z2.symm hpe⟩⟩
      have hD := fun k => (dnAll_out (V := V) xs _ (upAll V X xs (Up V X S x.1 x.2)) x.1 h.2 (fun z => z.2 rfl) k).trans (hU k)
      constructor
      · intro hk
        obtain ⟨h1, h2⟩ := hk
        obtain ⟨k', h3, h4⟩ := h2 rfl
        obtain ⟨w, hw, hwp⟩ := (ih x.2 ⟨hE.2.1, hpe⟩ k').mp h3
        refine ⟨va_up w x.1 k, (way_split hE (fun k z => hS _ k z) _).mpr ⟨⟨fun a ha => ?_, (Con.congr (fun a ha => va_up_ne _ _ ha.2)).mpr hw.2⟩, ?_, ?_⟩, va_up_self _ _ _⟩
        · rw [va_up_ne _ _ ha.2]
          exact (hw.1 a ha).1
        · rw [va_up_self]
          exact (hD k).mp h1
        · rw [va_up_self, va_up_ne _ _ hpe, hwp]
          exact h4
      · intro hw
        obtain ⟨w, hw, rfl⟩ := hw
        obtain ⟨g1, g2, g3⟩ := (way_split hE (fun k z => hS _ k z) _).mp hw
        refine ⟨(hD _).mpr g2, fun _ => ⟨w x.2, (ih x.2 ⟨hE.2.1, hpe⟩ _).mpr ⟨w, ⟨fun a ha => ⟨g1.1 a ha, fun hap => ?_⟩, g1.2⟩, rfl⟩, g3⟩⟩
        subst hap
        exact ⟨w x.1, g2, g3⟩
    · have h1 : dnAll V X (x :: xs) (upAll V X (x :: xs) S) q k ↔ dnAll V X xs (upAll V X xs (Up V X S x.1 x.2)) q k := ⟨fun z => z.1, fun z => ⟨z, fun z2 => absurd z2 hqe⟩⟩
      rw [h1, ih q ⟨hq, hqe⟩ k]
      constructor
      · intro hw
        obtain ⟨w, hw, hwq⟩ := hw
        obtain ⟨k', hk'⟩ := (hup w).mp hw
        exact ⟨_, hk', by rw [va_up_ne _ _ hqe]; exact hwq⟩
      · intro hw
        obtain ⟨w, hw, hwq⟩ := hw
        refine ⟨w, (hup w).mpr ⟨w x.1, ?_⟩, hwq⟩
        rw [show va_up w x.1 (w x.1) = w from funext fun j => by
          by_cases hj : j = x.1
          · subst hj; exact va_up_self _ _ _
          · exact va_up_ne _ _ hj]
        exact hw
end
section
/-! Pure: sums over rows, and how many ways there are, ear by ear. -/
def sm : Nat → (Nat → Nat) → Nat
  | 0, _ => 0
  | n + 1, f => sm n f + f n
theorem sm_congr {f g : Nat → Nat} : ∀ {n : Nat}, (∀ k, k < n → f k = g k) → sm n f = sm n g
  | 0, _ => rfl
  | n + 1, h => by
    show sm n f + f n = sm n g + g n
    rw [sm_congr (fun k hk => h k (by omega)), h n (by omega)]
theorem sm_zero : ∀ (n : Nat), sm n (fun _ => 0) = 0
  | 0 => rfl
  | n + 1 => by
    show sm n (fun _ => 0) + 0 = 0
    rw [sm_zero n]
theorem sm_add {f g : Nat → Nat} : ∀ (n : Nat), sm n (fun k => f k + g k) = sm n f + sm n g
  | 0 => rfl
  | n + 1 => by
    show sm n (fun k => f k + g k) + (f n + g n) = (sm n f + f n) + (sm n g + g n)
    rw [sm_add n]
    omega
theorem sm_mul {f : Nat → Nat} {c : Nat} : ∀ (n : Nat), sm n (fun k => c * f k) = c * sm n f
  | 0 => rfl
  | n + 1 => by
    show sm n (fun k => c * f k) + c * f n = c * (sm n f + f n)
    rw [sm_mul n, Nat.mul_add]
theorem sm_swap {f : Nat → Nat → Nat} (m : Nat) : ∀ (n : Nat), sm n (fun i => sm m (fun j => f i j)) = sm m (fun j => sm n (fun i => f i j))
  | 0 => (sm_zero m).symm
  | n + 1 => by
    show sm n (fun i => sm m (fun j => f i j)) + sm m (fun j => f n j) = sm m (fun j => sm n (fun i => f i j) + f n j)
    rw [sm_swap m n, sm_add]
/-- a sum over all rows of some atoms -/
def ns (B : Nat) : List Nat → ((Nat → Nat) → Nat) → (Nat → Nat) → Nat
  | [], f, w => f w
  | e :: es, f, w => sm B (fun k => ns B es f (va_up w e k))
theorem up_comm {w : Nat → Nat} {a b x y : Nat} (h : a ≠ b) : va_up (va_up w a x) b y = va_up (va_up w b y) a x := by
  funext j
  by_cases ha : j = a
  · subst ha
    rw [va_up_ne _ _ h, va_up_self, va_up_self]
  · by_cases hb : j = b
    · subst hb
      rw [va_up_self, va_up_ne _ _ ha, va_up_self]
    · rw [va_up_ne _ _ hb, va_up_ne _ _ ha, va_up_ne _ _ ha, va_up_ne _ _ hb]
theorem ns_congr {B : Nat} : ∀ {es : List Nat} {f g : (Nat → Nat) → Nat} {w : Nat → Nat}, (∀ w, f w = g w) → ns B es f w = ns B es g w
  | [], f, g, w, h => h w
  | e :: es, f, g, w, h => sm_congr (fun k _ => ns_congr h)
theorem ns_shift {B e k : Nat} : ∀ {es : List Nat} {f : (Nat → Nat) → Nat} {w : Nat → Nat}, e ∉ es → ns B es f (va_up w e k) = ns B es (fun w' => f (va_up w' e k)) w
  | [], _, _, _ => rfl
  | a :: es, f, w, h => by
    have hae : e ≠ a := fun z => h (by rw [z]; exact List.mem_cons_self)
    refine sm_congr (fun x _ => ?_)
    rw [up_comm hae]
    exact ns_shift (fun z => h (List.mem_cons_of_mem _ z))
theorem ns_sm {B m : Nat} : ∀ {es : List Nat} {g : Nat → (Nat → Nat) → Nat} {w : Nat → Nat}, sm m (fun k => ns B es (g k) w) = ns B es (fun w' => sm m (fun k => g k w')) w
  | [], _, _ => rfl
  | a :: es, g, w => by
    show sm m (fun k => sm B (fun x => ns B es (g k) (va_up w a x))) = sm B (fun x => ns B es (fun w' => sm m (fun k => g k w')) (va_up w a x))
    rw [sm_swap]
    exact sm_congr (fun x _ => ns_sm)
theorem ns_pull {B e : Nat} : ∀ {es : List Nat} {f : (Nat → Nat) → Nat} {w : Nat → Nat}, e ∈ es → ns B es f w = sm B (fun k => ns B (es.erase e) f (va_up w e k))
  | [], _, _, h => absurd h List.not_mem_nil
  | a :: es, f, w, h => by
    by_cases hae : a = e
    · subst hae
      rw [List.erase_cons_head]
      rfl
    · have hm : e ∈ es := by
        rcases List.mem_cons.mp h with z | z
        · exact absurd z.symm hae
        · exact z
      rw [List.erase_cons_tail (by simpa using hae)]
      show sm B (fun x => ns B es f (va_up w a x)) = sm B (fun k => sm B (fun x => ns B (es.erase e) f (va_up (va_up w e k) a x)))
      rw [sm_swap]
      refine sm_congr (fun x _ => ?_)
      rw [ns_pull hm]
      refine sm_congr (fun k _ => ?_)
      rw [up_comm hae]
noncomputable def ind (c : Prop) : Nat := @ite Nat c (Classical.propDecidable c) 1 0
theorem ind_t {c : Prop} (h : c) : ind c = 1 := by
  unfold ind
  rw [if_pos h]
theorem ind_f {c : Prop} (h : ¬ c) : ind c = 0 := by
  unfold ind
  rw [if_neg h]
theorem ind_iff {c d : Prop} (h : c ↔ d) : ind c = ind d := by rw [propext h]
theorem ind_and {c d : Prop} : ind (c ∧ d) = ind c * ind d := by
  by_cases hc : c
  · by_cases hd : d
    · rw [ind_t ⟨hc, hd⟩, ind_t hc, ind_t hd]
    · rw [ind_f (fun z => hd z.2), ind_f hd, Nat.mul_zero]
  · rw [ind_f (fun z => hc z.1), ind_f hc, Nat.zero_mul]
def pr : List Nat → (Nat → Nat) → Nat
  | [], _ => 1
  | e :: es, f => f e * pr es f
theorem pr_congr : ∀ {es : List Nat} {f g : Nat → Nat}, (∀ q, q ∈ es → f q = g q) → pr es f = pr es g
  | [], _, _, _ => rfl
  | e :: es, f, g, h => by
    show f e * pr es f = g e * pr es g
    rw [h e List.mem_cons_self, pr_congr (fun q hq => h q (List.mem_cons_of_mem _ hq))]
theorem pr_pull {e : Nat} : ∀ {es : List Nat} {f : Nat → Nat}, e ∈ es → pr es f = f e * pr (es.erase e) f
  | [], _, h => absurd h List.not_mem_nil
  | a :: es, f, h => by
    by_cases hae : a = e
    · subst hae
      rw [List.erase_cons_head]
      rfl
    · have hm : e ∈ es := by
        rcases List.mem_cons.mp h with z | z
        · exact absurd z.symm hae
        · exact z
      rw [List.erase_cons_tail (by simpa using hae)]
      show f a * pr es f = f e * (f a * pr (es.erase e) f)
      rw [pr_pull hm, Nat.mul_left_comm]
/-- the weights when e has been hung on p -/
noncomputable def wtUp (B : Nat) (V : Nat → Nat → Nat → Nat) (X : Nat → Nat → Nat) (wt : Nat → Nat → Nat) (e p : Nat) : Nat → Nat → Nat := fun q k => if q = p then wt p k * sm B (fun k' => ind (Ag V X p k e k') * wt e k') else wt q k
noncomputable def Zs (B : Nat) (V : Nat → Nat → Nat → Nat) (X : Nat → Nat → Nat) (Ls : List Nat) (wt : Nat → Nat → Nat) (w : Nat → Nat) : Nat := ns B Ls (fun w => ind (Con V X (fun q => q ∈ Ls) w) * pr Ls (fun q => wt q (w q))) w
theorem Con.iff {V : Nat → Nat → Nat → Nat} {X : Nat → Nat → Nat} {P P' : Nat → Prop} (h : ∀ q, P' q ↔ P q) (w : Nat → Nat) : Con V X P' w ↔ Con V X P w :=
  ⟨fun hc a b ha hb => hc a b ((h a).mpr ha) ((h b).mpr hb), fun hc a b ha hb => hc a b ((h a).mp ha) ((h b).mp hb)⟩
theorem Zs_step {B : Nat} {V : Nat → Nat → Nat → Nat} {X : Nat → Nat → Nat} {Ls : List Nat} {wt : Nat → Nat → Nat} {e p : Nat} (hn : Ls.Nodup) (h : Ear X (fun q => q ∈ Ls) e p) (hS : ∀ k, wt e k ≠ 0 → Ag V X e k e k) (w : Nat → Nat) : Zs B V X Ls wt w = Zs B V X (Ls.erase e) (wtUp B V X wt e p) w := by
  have he : e ∈ Ls := h.1
  have hpe : p ≠ e := h.2.2.1
  have hp : p ∈ Ls.erase e := (List.Nodup.mem_erase_iff hn).mpr ⟨hpe, h.2.1⟩
  have hne : e ∉ Ls.erase e := fun z => ((List.Nodup.mem_erase_iff hn).mp z).1 rfl
  have hoff : ∀ q, q ∈ Ls.erase e ↔ Off (fun q => q ∈ Ls) e q := fun q => (List.Nodup.mem_erase_iff hn).trans And.comm
  unfold Zs
  rw [ns_pull he]
  have h1 : ∀ k, ns B (Ls.erase e) (fun w => ind (Con V X (fun q => q ∈ Ls) w) * pr Ls (fun q => wt q (w q))) (va_up w e k) = ns B (Ls.erase e) (fun w => ind (Con V X (fun q => q ∈ Ls) (va_up w e k)) * pr Ls (fun q => wt q (va_up w e k q))) w := fun k => ns_shift hne
  rw [sm_congr (fun k _ => h1 k), ns_sm]
  refine ns_congr (fun w => ?_)
  have hq : ∀ k q, q ∈ Ls.erase e → va_up w e k q = w q := fun k q hq => va_up_ne _ _ (fun z => hne (by have h9 := hq; rw [z] at h9; exact h9))
  have h2 : ∀ k, ind (Con V X (fun q => q ∈ Ls) (va_up w e k)) * pr Ls (fun q => wt q (va_up w e k q)) = (ind (Con V X (fun q => q ∈ Ls.erase e) w) * pr (Ls.erase e) (fun q => wt q (w q))) * (ind (Ag V X p (w p) e k) * wt e k) := by
    intro k
    rw [pr_pull he, va_up_self, pr_congr (fun q hq' => by rw [hq k q hq'] : ∀ q, q ∈ Ls.erase e → wt q (va_up w e k q) = wt q (w q))]
    by_cases h0 : wt e k = 0
    · rw [h0, Nat.zero_mul, Nat.mul_zero, Nat.mul_zero, Nat.mul_zero]
    · have h3 : Con V X (fun q => q ∈ Ls) (va_up w e k) ↔ Con V X (fun q => q ∈ Ls.erase e) w ∧ Ag V X p (w p) e k := by
        rw [con_ear h, va_up_self, va_up_ne _ _ hpe]
        have h4 : Con V X (Off (fun q => q ∈ Ls) e) (va_up w e k) ↔ Con V X (fun q => q ∈ Ls.erase e) w :=
          (Con.congr (fun q hq' => va_up_ne _ _ hq'.2)).trans (Con.iff (fun q => (hoff q).symm) w)
        exact ⟨fun z => ⟨h4.mp z.1, z.2.1.sym⟩, fun z => ⟨h4.mpr z.1, z.2.sym, hS k h0⟩⟩
      rw [ind_iff h3, ind_and]
      rw [Nat.mul_comm (wt e k), ← Nat.mul_assoc, Nat.mul_assoc (ind _) (ind _), Nat.mul_comm (ind (Ag V X p (w p) e k)), ← Nat.mul_assoc, Nat.mul_assoc]
  rw [sm_congr (fun k _ => h2 k), sm_mul]
  rw [Nat.mul_assoc]
  congr 1
  rw [pr_pull hp, pr_pull (f := fun q => wtUp B V X wt e p q (w q)) hp]
  have h5 : pr ((Ls.erase e).erase p) (fun q => wtUp B V X wt e p q (w q)) = pr ((Ls.erase e).erase p) (fun q => wt q (w q)) := by
    refine pr_congr (fun q hq' => ?_)
    have hqp : q ≠ p := ((List.Nodup.mem_erase_iff (hn.erase e)).mp hq').1
    unfold wtUp
    rw [if_neg hqp]
  rw [h5]
  have h6 : wtUp B V X wt e p p (w p) = wt p (w p) * sm B (fun k' => ind (Ag V X p (w p) e k') * wt e k') := by
    unfold wtUp
    rw [if_pos rfl]
  show wt p (w p) * _ * _ = wtUp B V X wt e p p (w p) * _
  rw [h6, Nat.mul_assoc, Nat.mul_comm (pr _ _), ← Nat.mul_assoc]
end
