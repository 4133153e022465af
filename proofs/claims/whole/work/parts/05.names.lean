/-! Names: classes, fields in their order, types, methods, codes. Printed by wip/whole/emit.py. -/
def R_O : String := "PanelOffice"
def R_P : String := "PanelOffice$Pool"
def R_Q : String := "PanelOffice$Quotas"
def R_T : String := "PanelOffice$Tally"
def R_R : String := "PanelOffice$Ranking"
def R_C : String := "PanelOffice$Clash"
def R_D : String := "PanelOffice$Dice"
def R_S : String := "PanelOffice$Seats"
def R_M : String := "PanelOfficeModel"
def R_A : String := "java/util/Arrays"
def R_L : String := "PanelOfficeLaw"
def F_O : u_T := fun k => match k with
  | 0 => ("PanelOffice", "pool", "LPanelOffice$Pool;", true)
  | 1 => ("PanelOffice", "quotas", "LPanelOffice$Quotas;", true)
  | 2 => ("PanelOffice", "tally", "LPanelOffice$Tally;", true)
  | 3 => ("PanelOffice", "ranking", "LPanelOffice$Ranking;", true)
  | 4 => ("PanelOffice", "clash", "LPanelOffice$Clash;", true)
  | 5 => ("PanelOffice", "dice", "LPanelOffice$Dice;", true)
  | 6 => ("PanelOffice", "seats", "LPanelOffice$Seats;", true)
  | 7 => ("PanelOffice", "told", "[I", true)
  | 8 => ("PanelOffice", "size", "I", false)
  | 9 => ("PanelOffice", "marks", "J", false)
  | 10 => ("PanelOffice", "tallyIsFresh", "Z", false)
  | _ => ("PanelOffice", "clashIsFresh", "Z", false)
def ft_O : Nat → FieldType := fun k => match k with
  | 0 => .object "PanelOffice$Pool"
  | 1 => .object "PanelOffice$Quotas"
  | 2 => .object "PanelOffice$Tally"
  | 3 => .object "PanelOffice$Ranking"
  | 4 => .object "PanelOffice$Clash"
  | 5 => .object "PanelOffice$Dice"
  | 6 => .object "PanelOffice$Seats"
  | 7 => .array .int
  | 8 => .int
  | 9 => .long
  | 10 => .boolean
  | _ => .boolean
theorem n_O : ∀ a, a < 12 → ∀ b, b < 12 → a ≠ b → (F_O a).2.1 ≠ (F_O b).2.1 := by decide +kernel
theorem ft_O_ok : ∀ k, k < 12 → parseFieldDescriptor (F_O k).2.2.1 = some (ft_O k) := by decide +kernel
theorem in_O : ∀ w ∈ u_ws R_O F_O 12, w ∈ lw_tbl := by decide +kernel
def F_P : u_T := fun k => match k with
  | 0 => ("PanelOffice$Pool", "values", "[I", true)
  | 1 => ("PanelOffice$Pool", "codes", "[I", true)
  | 2 => ("PanelOffice$Pool", "kindCodes", "[I", true)
  | 3 => ("PanelOffice$Pool", "kindSizes", "[I", true)
  | 4 => ("PanelOffice$Pool", "persons", "I", false)
  | _ => ("PanelOffice$Pool", "kinds", "I", false)
def ft_P : Nat → FieldType := fun k => match k with
  | 0 => .array .int
  | 1 => .array .int
  | 2 => .array .int
  | 3 => .array .int
  | 4 => .int
  | _ => .int
theorem n_P : ∀ a, a < 6 → ∀ b, b < 6 → a ≠ b → (F_P a).2.1 ≠ (F_P b).2.1 := by decide +kernel
theorem ft_P_ok : ∀ k, k < 6 → parseFieldDescriptor (F_P k).2.2.1 = some (ft_P k) := by decide +kernel
theorem in_P : ∀ w ∈ u_ws R_P F_P 6, w ∈ lw_tbl := by decide +kernel
def F_Q : u_T := fun k => match k with
  | 0 => ("PanelOffice$Quotas", "least", "[I", true)
  | _ => ("PanelOffice$Quotas", "most", "[I", true)
def ft_Q : Nat → FieldType := fun k => match k with
  | 0 => .array .int
  | _ => .array .int
theorem n_Q : ∀ a, a < 2 → ∀ b, b < 2 → a ≠ b → (F_Q a).2.1 ≠ (F_Q b).2.1 := by decide +kernel
theorem ft_Q_ok : ∀ k, k < 2 → parseFieldDescriptor (F_Q k).2.2.1 = some (ft_Q k) := by decide +kernel
theorem in_Q : ∀ w ∈ u_ws R_Q F_Q 2, w ∈ lw_tbl := by decide +kernel
def F_T : u_T := fun k => match k with
  | 0 => ("PanelOffice$Tally", "pool", "LPanelOffice$Pool;", true)
  | 1 => ("PanelOffice$Tally", "rows", "[J", true)
  | 2 => ("PanelOffice$Tally", "takes", "[I", true)
  | 3 => ("PanelOffice$Tally", "stay", "[I", true)
  | 4 => ("PanelOffice$Tally", "more", "[I", true)
  | 5 => ("PanelOffice$Tally", "ahead", "[J", true)
  | 6 => ("PanelOffice$Tally", "behind", "[J", true)
  | 7 => ("PanelOffice$Tally", "slots", "[I", true)
  | 8 => ("PanelOffice$Tally", "layers", "[I", true)
  | 9 => ("PanelOffice$Tally", "chooses", "[I", true)
  | 10 => ("PanelOffice$Tally", "found", "I", false)
  | 11 => ("PanelOffice$Tally", "refused", "Z", false)
  | _ => ("PanelOffice$Tally", "behindIsFresh", "Z", false)
def ft_T : Nat → FieldType := fun k => match k with
  | 0 => .object "PanelOffice$Pool"
  | 1 => .array .long
  | 2 => .array .int
  | 3 => .array .int
  | 4 => .array .int
  | 5 => .array .long
  | 6 => .array .long
  | 7 => .array .int
  | 8 => .array .int
  | 9 => .array .int
  | 10 => .int
  | 11 => .boolean
  | _ => .boolean
theorem n_T : ∀ a, a < 13 → ∀ b, b < 13 → a ≠ b → (F_T a).2.1 ≠ (F_T b).2.1 := by decide +kernel
theorem ft_T_ok : ∀ k, k < 13 → parseFieldDescriptor (F_T k).2.2.1 = some (ft_T k) := by decide +kernel
theorem in_T : ∀ w ∈ u_ws R_T F_T 13, w ∈ lw_tbl := by decide +kernel
def F_R : u_T := fun k => match k with
  | 0 => ("PanelOffice$Ranking", "pool", "LPanelOffice$Pool;", true)
  | _ => ("PanelOffice$Ranking", "tally", "LPanelOffice$Tally;", true)
def ft_R : Nat → FieldType := fun k => match k with
  | 0 => .object "PanelOffice$Pool"
  | _ => .object "PanelOffice$Tally"
theorem n_R : ∀ a, a < 2 → ∀ b, b < 2 → a ≠ b → (F_R a).2.1 ≠ (F_R b).2.1 := by decide +kernel
theorem ft_R_ok : ∀ k, k < 2 → parseFieldDescriptor (F_R k).2.2.1 = some (ft_R k) := by decide +kernel
theorem in_R : ∀ w ∈ u_ws R_R F_R 2, w ∈ lw_tbl := by decide +kernel
def F_C : u_T := fun k => match k with
  | 0 => ("PanelOffice$Clash", "pool", "LPanelOffice$Pool;", true)
  | 1 => ("PanelOffice$Clash", "tally", "LPanelOffice$Tally;", true)
  | 2 => ("PanelOffice$Clash", "trial", "LPanelOffice$Quotas;", true)
  | 3 => ("PanelOffice$Clash", "names", "[I", true)
  | 4 => ("PanelOffice$Clash", "found", "I", false)
  | _ => ("PanelOffice$Clash", "refused", "Z", false)
def ft_C : Nat → FieldType := fun k => match k with
  | 0 => .object "PanelOffice$Pool"
  | 1 => .object "PanelOffice$Tally"
  | 2 => .object "PanelOffice$Quotas"
  | 3 => .array .int
  | 4 => .int
  | _ => .boolean
theorem n_C : ∀ a, a < 6 → ∀ b, b < 6 → a ≠ b → (F_C a).2.1 ≠ (F_C b).2.1 := by decide +kernel
theorem ft_C_ok : ∀ k, k < 6 → parseFieldDescriptor (F_C k).2.2.1 = some (ft_C k) := by decide +kernel
theorem in_C : ∀ w ∈ u_ws R_C F_C 6, w ∈ lw_tbl := by decide +kernel
def F_D : u_T := fun k => match k with
  | 0 => ("PanelOffice$Dice", "begun", "Z", false)
  | 1 => ("PanelOffice$Dice", "done", "Z", false)
  | 2 => ("PanelOffice$Dice", "sides", "I", false)
  | 3 => ("PanelOffice$Dice", "goal", "J", false)
  | 4 => ("PanelOffice$Dice", "outcomes", "J", false)
  | 5 => ("PanelOffice$Dice", "needed", "I", false)
  | 6 => ("PanelOffice$Dice", "thrown", "I", false)
  | _ => ("PanelOffice$Dice", "value", "J", false)
def ft_D : Nat → FieldType := fun k => match k with
  | 0 => .boolean
  | 1 => .boolean
  | 2 => .int
  | 3 => .long
  | 4 => .long
  | 5 => .int
  | 6 => .int
  | _ => .long
theorem n_D : ∀ a, a < 8 → ∀ b, b < 8 → a ≠ b → (F_D a).2.1 ≠ (F_D b).2.1 := by decide +kernel
theorem ft_D_ok : ∀ k, k < 8 → parseFieldDescriptor (F_D k).2.2.1 = some (ft_D k) := by decide +kernel
theorem in_D : ∀ w ∈ u_ws R_D F_D 8, w ∈ lw_tbl := by decide +kernel
def F_S : u_T := fun k => match k with
  | 0 => ("PanelOffice$Seats", "pool", "LPanelOffice$Pool;", true)
  | 1 => ("PanelOffice$Seats", "quotas", "LPanelOffice$Quotas;", true)
  | 2 => ("PanelOffice$Seats", "members", "[I", true)
  | 3 => ("PanelOffice$Seats", "numbers", "[I", true)
  | 4 => ("PanelOffice$Seats", "candidates", "[I", true)
  | 5 => ("PanelOffice$Seats", "places", "I", false)
  | 6 => ("PanelOffice$Seats", "seated", "J", false)
  | 7 => ("PanelOffice$Seats", "gone", "J", false)
  | _ => ("PanelOffice$Seats", "emptyPlace", "I", false)
def ft_S : Nat → FieldType := fun k => match k with
  | 0 => .object "PanelOffice$Pool"
  | 1 => .object "PanelOffice$Quotas"
  | 2 => .array .int
  | 3 => .array .int
  | 4 => .array .int
  | 5 => .int
  | 6 => .long
  | 7 => .long
  | _ => .int
theorem n_S : ∀ a, a < 9 → ∀ b, b < 9 → a ≠ b → (F_S a).2.1 ≠ (F_S b).2.1 := by decide +kernel
theorem ft_S_ok : ∀ k, k < 9 → parseFieldDescriptor (F_S k).2.2.1 = some (ft_S k) := by decide +kernel
theorem in_S : ∀ w ∈ u_ws R_S F_S 9, w ∈ lw_tbl := by decide +kernel
def F_M : u_T := fun k => match k with
  | 0 => ("PanelOfficeModel", "code", "I", false)
  | 1 => ("PanelOfficeModel", "persons", "I", false)
  | 2 => ("PanelOfficeModel", "value", "[I", true)
  | 3 => ("PanelOfficeModel", "marked", "[Z", true)
  | 4 => ("PanelOfficeModel", "values", "[I", true)
  | 5 => ("PanelOfficeModel", "least", "[I", true)
  | 6 => ("PanelOfficeModel", "most", "[I", true)
  | 7 => ("PanelOfficeModel", "size", "I", false)
  | 8 => ("PanelOfficeModel", "kinds", "I", false)
  | 9 => ("PanelOfficeModel", "kindIs", "[I", true)
  | 10 => ("PanelOfficeModel", "kindHas", "[I", true)
  | 11 => ("PanelOfficeModel", "known", "Z", false)
  | 12 => ("PanelOfficeModel", "tooMany", "Z", false)
  | 13 => ("PanelOfficeModel", "states", "I", false)
  | 14 => ("PanelOfficeModel", "begins", "[I", true)
  | 15 => ("PanelOfficeModel", "counts", "[J", true)
  | 16 => ("PanelOfficeModel", "ways", "[J", true)
  | 17 => ("PanelOfficeModel", "chain", "[I", true)
  | 18 => ("PanelOfficeModel", "heads", "[I", true)
  | 19 => ("PanelOfficeModel", "drawn", "Z", false)
  | 20 => ("PanelOfficeModel", "member", "[I", true)
  | 21 => ("PanelOfficeModel", "emptyPlace", "I", false)
  | 22 => ("PanelOfficeModel", "dropped", "[Z", true)
  | 23 => ("PanelOfficeModel", "sides", "I", false)
  | 24 => ("PanelOfficeModel", "thrownSoFar", "I", false)
  | 25 => ("PanelOfficeModel", "needed", "I", false)
  | 26 => ("PanelOfficeModel", "goal", "J", false)
  | 27 => ("PanelOfficeModel", "digits", "J", false)
  | 28 => ("PanelOfficeModel", "outcomes", "J", false)
  | 29 => ("PanelOfficeModel", "there", "Z", false)
  | 30 => ("PanelOfficeModel", "number", "J", false)
  | 31 => ("PanelOfficeModel", "lowWas", "[I", true)
  | 32 => ("PanelOfficeModel", "highWas", "[I", true)
  | 33 => ("PanelOfficeModel", "taken", "[I", true)
  | _ => ("PanelOfficeModel", "takenCount", "I", false)
def ft_M : Nat → FieldType := fun k => match k with
  | 0 => .int
  | 1 => .int
  | 2 => .array .int
  | 3 => .array .boolean
  | 4 => .array .int
  | 5 => .array .int
  | 6 => .array .int
  | 7 => .int
  | 8 => .int
  | 9 => .array .int
  | 10 => .array .int
  | 11 => .boolean
  | 12 => .boolean
  | 13 => .int
  | 14 => .array .int
  | 15 => .array .long
  | 16 => .array .long
  | 17 => .array .int
  | 18 => .array .int
  | 19 => .boolean
  | 20 => .array .int
  | 21 => .int
  | 22 => .array .boolean
  | 23 => .int
  | 24 => .int
  | 25 => .int
  | 26 => .long
  | 27 => .long
  | 28 => .long
  | 29 => .boolean
  | 30 => .long
  | 31 => .array .int
  | 32 => .array .int
  | 33 => .array .int
  | _ => .int
theorem n_M : ∀ a, a < 35 → ∀ b, b < 35 → a ≠ b → (F_M a).2.1 ≠ (F_M b).2.1 := by decide +kernel
theorem ft_M_ok : ∀ k, k < 35 → parseFieldDescriptor (F_M k).2.2.1 = some (ft_M k) := by decide +kernel
theorem in_M : ∀ w ∈ u_ws R_M F_M 35, w ∈ lw_tbl := by decide +kernel
abbrev cc_P_valueIn : ByteArray := prog_4_method_3_code
def y_P_valueIn : MethodName := ⟨"PanelOffice$Pool", "valueIn", "(II)I"⟩
abbrev cc_P_highestValue : ByteArray := prog_4_method_6_code
def y_P_highestValue : MethodName := ⟨"PanelOffice$Pool", "highestValue", "(I)I"⟩
abbrev cc_S_areDrawn : ByteArray := prog_7_method_4_code
def y_S_areDrawn : MethodName := ⟨"PanelOffice$Seats", "areDrawn", "()Z"⟩
abbrev cc_O_requireOpen : ByteArray := prog_1_method_27_code
def y_O_requireOpen : MethodName := ⟨"PanelOffice", "requireOpen", "()V"⟩
abbrev cc_D_end : ByteArray := prog_3_method_3_code
def y_D_end : MethodName := ⟨"PanelOffice$Dice", "end", "()V"⟩
abbrev cc_O_changed : ByteArray := prog_1_method_24_code
def y_O_changed : MethodName := ⟨"PanelOffice", "changed", "()V"⟩
abbrev cc_O_trait : ByteArray := prog_1_method_2_code
def y_O_trait : MethodName := ⟨"PanelOffice", "trait", "(II)V"⟩
abbrev cc_P_hasValue : ByteArray := prog_4_method_5_code
def y_P_hasValue : MethodName := ⟨"PanelOffice$Pool", "hasValue", "(II)Z"⟩
abbrev cc_P_codeOf : ByteArray := prog_4_method_2_code
def y_P_codeOf : MethodName := ⟨"PanelOffice$Pool", "codeOf", "(III)I"⟩
abbrev cc_P_kindsBelow : ByteArray := prog_4_method_10_code
def y_P_kindsBelow : MethodName := ⟨"PanelOffice$Pool", "kindsBelow", "(I)I"⟩
abbrev cc_P_isKind : ByteArray := prog_4_method_11_code
def y_P_isKind : MethodName := ⟨"PanelOffice$Pool", "isKind", "(I)Z"⟩
abbrev cc_P_hasRoomFor : ByteArray := prog_4_method_8_code
def y_P_hasRoomFor : MethodName := ⟨"PanelOffice$Pool", "hasRoomFor", "(I)Z"⟩
abbrev cc_P_insertKind : ByteArray := prog_4_method_12_code
def y_P_insertKind : MethodName := ⟨"PanelOffice$Pool", "insertKind", "(II)V"⟩
abbrev cc_P_add : ByteArray := prog_4_method_9_code
def y_P_add : MethodName := ⟨"PanelOffice$Pool", "add", "(I)I"⟩
abbrev cc_O_person : ByteArray := prog_1_method_3_code
def y_O_person : MethodName := ⟨"PanelOffice", "person", "(III)I"⟩
abbrev cc_O_quotaOf : ByteArray := prog_1_method_34_code
def y_O_quotaOf : MethodName := ⟨"PanelOffice", "quotaOf", "(II)I"⟩
abbrev cc_Q_set : ByteArray := prog_5_method_3_code
def y_Q_set : MethodName := ⟨"PanelOffice$Quotas", "set", "(III)V"⟩
abbrev cc_O_quota : ByteArray := prog_1_method_4_code
def y_O_quota : MethodName := ⟨"PanelOffice", "quota", "(IIII)V"⟩
abbrev cc_O_size : ByteArray := prog_1_method_5_code
def y_O_size : MethodName := ⟨"PanelOffice", "size", "(I)V"⟩
abbrev cc_A_fill2 : ByteArray := prog_19_method_103_code
def y_A_fill2 : MethodName := ⟨"java/util/Arrays", "fill", "([II)V"⟩
abbrev cc_T_enter : ByteArray := prog_8_method_13_code
def y_T_enter : MethodName := ⟨"PanelOffice$Tally", "enter", "(JI)I"⟩
abbrev cc_T_stateOf : ByteArray := prog_8_method_12_code
def y_T_stateOf : MethodName := ⟨"PanelOffice$Tally", "stateOf", "(J)I"⟩
abbrev cc_T_oneMoreOf : ByteArray := prog_8_method_10_code
def y_T_oneMoreOf : MethodName := ⟨"PanelOffice$Tally", "oneMoreOf", "(I)J"⟩
abbrev cc_T_field : ByteArray := prog_8_method_11_code
def y_T_field : MethodName := ⟨"PanelOffice$Tally", "field", "(JI)I"⟩
abbrev cc_T_takesFrom : ByteArray := prog_8_method_9_code
def y_T_takesFrom : MethodName := ⟨"PanelOffice$Tally", "takesFrom", "(JILPanelOffice$Quotas;I)I"⟩
abbrev cc_T_addLayer : ByteArray := prog_8_method_8_code
def y_T_addLayer : MethodName := ⟨"PanelOffice$Tally", "addLayer", "(ILPanelOffice$Quotas;I)V"⟩
abbrev cc_T_isPanel : ByteArray := prog_8_method_15_code
def y_T_isPanel : MethodName := ⟨"PanelOffice$Tally", "isPanel", "(JLPanelOffice$Quotas;I)Z"⟩
abbrev cc_T_choose : ByteArray := prog_8_method_5_code
def y_T_choose : MethodName := ⟨"PanelOffice$Tally", "choose", "(II)J"⟩
abbrev cc_T_aheadWithAny : ByteArray := prog_8_method_16_code
def y_T_aheadWithAny : MethodName := ⟨"PanelOffice$Tally", "aheadWithAny", "(II)J"⟩
abbrev cc_T_countAhead : ByteArray := prog_8_method_14_code
def y_T_countAhead : MethodName := ⟨"PanelOffice$Tally", "countAhead", "(LPanelOffice$Quotas;I)V"⟩
abbrev cc_T_build : ByteArray := prog_8_method_6_code
def y_T_build : MethodName := ⟨"PanelOffice$Tally", "build", "(LPanelOffice$Quotas;I)V"⟩
abbrev cc_O_refreshTally : ByteArray := prog_1_method_25_code
def y_O_refreshTally : MethodName := ⟨"PanelOffice", "refreshTally", "()V"⟩
abbrev cc_T_isRefused : ByteArray := prog_8_method_2_code
def y_T_isRefused : MethodName := ⟨"PanelOffice$Tally", "isRefused", "()Z"⟩
abbrev cc_O_requireCountable : ByteArray := prog_1_method_30_code
def y_O_requireCountable : MethodName := ⟨"PanelOffice", "requireCountable", "()V"⟩
abbrev cc_T_panels : ByteArray := prog_8_method_4_code
def y_T_panels : MethodName := ⟨"PanelOffice$Tally", "panels", "()J"⟩
abbrev cc_O_count : ByteArray := prog_1_method_6_code
def y_O_count : MethodName := ⟨"PanelOffice", "count", "()J"⟩
abbrev cc_T_statesFound : ByteArray := prog_8_method_3_code
def y_T_statesFound : MethodName := ⟨"PanelOffice$Tally", "statesFound", "()I"⟩
abbrev cc_O_states : ByteArray := prog_1_method_7_code
def y_O_states : MethodName := ⟨"PanelOffice", "states", "()I"⟩
abbrev cc_O_requirePerson : ByteArray := prog_1_method_31_code
def y_O_requirePerson : MethodName := ⟨"PanelOffice", "requirePerson", "(I)V"⟩
abbrev cc_P_kindOf : ByteArray := prog_4_method_7_code
def y_P_kindOf : MethodName := ⟨"PanelOffice$Pool", "kindOf", "(I)I"⟩
abbrev cc_T_aheadWithOneOf : ByteArray := prog_8_method_17_code
def y_T_aheadWithOneOf : MethodName := ⟨"PanelOffice$Tally", "aheadWithOneOf", "(II)J"⟩
abbrev cc_A_fill0 : ByteArray := prog_19_method_101_code
def y_A_fill0 : MethodName := ⟨"java/util/Arrays", "fill", "([JJ)V"⟩
abbrev cc_T_passOn : ByteArray := prog_8_method_19_code
def y_T_passOn : MethodName := ⟨"PanelOffice$Tally", "passOn", "(II)V"⟩
abbrev cc_T_countBehind : ByteArray := prog_8_method_18_code
def y_T_countBehind : MethodName := ⟨"PanelOffice$Tally", "countBehind", "()V"⟩
abbrev cc_T_panelsWithOneOf : ByteArray := prog_8_method_7_code
def y_T_panelsWithOneOf : MethodName := ⟨"PanelOffice$Tally", "panelsWithOneOf", "(I)J"⟩
abbrev cc_O_chance : ByteArray := prog_1_method_8_code
def y_O_chance : MethodName := ⟨"PanelOffice", "chance", "(I)J"⟩
abbrev cc_O_kind : ByteArray := prog_1_method_9_code
def y_O_kind : MethodName := ⟨"PanelOffice", "kind", "(I)I"⟩
abbrev cc_O_requireIndex : ByteArray := prog_1_method_33_code
def y_O_requireIndex : MethodName := ⟨"PanelOffice", "requireIndex", "(I)V"⟩
abbrev cc_C_isRefused : ByteArray := prog_2_method_2_code
def y_C_isRefused : MethodName := ⟨"PanelOffice$Clash", "isRefused", "()Z"⟩
abbrev cc_C_nameOf : ByteArray := prog_2_method_3_code
def y_C_nameOf : MethodName := ⟨"PanelOffice$Clash", "nameOf", "(I)I"⟩
abbrev cc_Q_copyOneFrom : ByteArray := prog_5_method_6_code
def y_Q_copyOneFrom : MethodName := ⟨"PanelOffice$Quotas", "copyOneFrom", "(LPanelOffice$Quotas;I)V"⟩
abbrev cc_Q_isLeftOut : ByteArray := prog_5_method_5_code
def y_Q_isLeftOut : MethodName := ⟨"PanelOffice$Quotas", "isLeftOut", "(I)Z"⟩
abbrev cc_Q_leaveOut : ByteArray := prog_5_method_4_code
def y_Q_leaveOut : MethodName := ⟨"PanelOffice$Quotas", "leaveOut", "(I)V"⟩
abbrev cc_C_tryWithout : ByteArray := prog_2_method_5_code
def y_C_tryWithout : MethodName := ⟨"PanelOffice$Clash", "tryWithout", "(IILPanelOffice$Quotas;I)V"⟩
abbrev cc_C_find : ByteArray := prog_2_method_4_code
def y_C_find : MethodName := ⟨"PanelOffice$Clash", "find", "(LPanelOffice$Quotas;I)V"⟩
abbrev cc_O_blocked : ByteArray := prog_1_method_10_code
def y_O_blocked : MethodName := ⟨"PanelOffice", "blocked", "(I)I"⟩
abbrev cc_O_requirePlace : ByteArray := prog_1_method_32_code
def y_O_requirePlace : MethodName := ⟨"PanelOffice", "requirePlace", "(I)V"⟩
abbrev cc_R_tellKind : ByteArray := prog_6_method_3_code
def y_R_tellKind : MethodName := ⟨"PanelOffice$Ranking", "tellKind", "(IIJ[II)V"⟩
abbrev cc_R_tell : ByteArray := prog_6_method_2_code
def y_R_tell : MethodName := ⟨"PanelOffice$Ranking", "tell", "(J[I)V"⟩
abbrev cc_O_panel : ByteArray := prog_1_method_11_code
def y_O_panel : MethodName := ⟨"PanelOffice", "panel", "(JI)I"⟩
abbrev cc_O_isIn : ByteArray := prog_1_method_35_code
def y_O_isIn : MethodName := ⟨"PanelOffice", "isIn", "(JI)Z"⟩
abbrev cc_O_mark : ByteArray := prog_1_method_12_code
def y_O_mark : MethodName := ⟨"PanelOffice", "mark", "(I)Z"⟩
abbrev cc_R_membersOf : ByteArray := prog_6_method_5_code
def y_R_membersOf : MethodName := ⟨"PanelOffice$Ranking", "membersOf", "(IJ)I"⟩
abbrev cc_R_indexIn : ByteArray := prog_6_method_6_code
def y_R_indexIn : MethodName := ⟨"PanelOffice$Ranking", "indexIn", "(IIJ)J"⟩
abbrev cc_R_rankOf : ByteArray := prog_6_method_4_code
def y_R_rankOf : MethodName := ⟨"PanelOffice$Ranking", "rankOf", "(J)J"⟩
abbrev cc_O_rank : ByteArray := prog_1_method_13_code
def y_O_rank : MethodName := ⟨"PanelOffice", "rank", "()J"⟩
abbrev cc_S_hasEmptyPlace : ByteArray := prog_7_method_5_code
def y_S_hasEmptyPlace : MethodName := ⟨"PanelOffice$Seats", "hasEmptyPlace", "()Z"⟩
abbrev cc_S_addValuesOf : ByteArray := prog_7_method_13_code
def y_S_addValuesOf : MethodName := ⟨"PanelOffice$Seats", "addValuesOf", "(I)V"⟩
abbrev cc_Q_breachBy : ByteArray := prog_5_method_7_code
def y_Q_breachBy : MethodName := ⟨"PanelOffice$Quotas", "breachBy", "(II)I"⟩
abbrev cc_S_breachWith : ByteArray := prog_7_method_12_code
def y_S_breachWith : MethodName := ⟨"PanelOffice$Seats", "breachWith", "(I)I"⟩
abbrev cc_S_listCandidates : ByteArray := prog_7_method_11_code
def y_S_listCandidates : MethodName := ⟨"PanelOffice$Seats", "listCandidates", "()I"⟩
abbrev cc_O_goalNow : ByteArray := prog_1_method_26_code
def y_O_goalNow : MethodName := ⟨"PanelOffice", "goalNow", "()J"⟩
abbrev cc_D_begin : ByteArray := prog_3_method_2_code
def y_D_begin : MethodName := ⟨"PanelOffice$Dice", "begin", "(IJ)I"⟩
abbrev cc_O_dice : ByteArray := prog_1_method_14_code
def y_O_dice : MethodName := ⟨"PanelOffice", "dice", "(I)I"⟩
abbrev cc_D_awaitThrow : ByteArray := prog_3_method_4_code
def y_D_awaitThrow : MethodName := ⟨"PanelOffice$Dice", "awaitThrow", "()Z"⟩
abbrev cc_D_haveSide : ByteArray := prog_3_method_5_code
def y_D_haveSide : MethodName := ⟨"PanelOffice$Dice", "haveSide", "(I)Z"⟩
abbrev cc_D_take : ByteArray := prog_3_method_8_code
def y_D_take : MethodName := ⟨"PanelOffice$Dice", "take", "(I)I"⟩
abbrev cc_O_roll : ByteArray := prog_1_method_15_code
def y_O_roll : MethodName := ⟨"PanelOffice", "roll", "(I)I"⟩
abbrev cc_D_haveNumber : ByteArray := prog_3_method_6_code
def y_D_haveNumber : MethodName := ⟨"PanelOffice$Dice", "haveNumber", "()Z"⟩
abbrev cc_D_made : ByteArray := prog_3_method_7_code
def y_D_made : MethodName := ⟨"PanelOffice$Dice", "made", "()J"⟩
abbrev cc_O_number : ByteArray := prog_1_method_16_code
def y_O_number : MethodName := ⟨"PanelOffice", "number", "()J"⟩
abbrev cc_O_requireNumber : ByteArray := prog_1_method_29_code
def y_O_requireNumber : MethodName := ⟨"PanelOffice", "requireNumber", "()V"⟩
abbrev cc_S_fill : ByteArray := prog_7_method_3_code
def y_S_fill : MethodName := ⟨"PanelOffice$Seats", "fill", "([II)V"⟩
abbrev cc_O_draw : ByteArray := prog_1_method_17_code
def y_O_draw : MethodName := ⟨"PanelOffice", "draw", "()V"⟩
abbrev cc_O_requireDrawn : ByteArray := prog_1_method_28_code
def y_O_requireDrawn : MethodName := ⟨"PanelOffice", "requireDrawn", "()V"⟩
abbrev cc_S_at : ByteArray := prog_7_method_6_code
def y_S_at : MethodName := ⟨"PanelOffice$Seats", "at", "(I)I"⟩
abbrev cc_O_member : ByteArray := prog_1_method_18_code
def y_O_member : MethodName := ⟨"PanelOffice", "member", "(I)I"⟩
abbrev cc_S_isMember : ByteArray := prog_7_method_7_code
def y_S_isMember : MethodName := ⟨"PanelOffice$Seats", "isMember", "(I)Z"⟩
abbrev cc_S_vacate : ByteArray := prog_7_method_8_code
def y_S_vacate : MethodName := ⟨"PanelOffice$Seats", "vacate", "(I)V"⟩
abbrev cc_O_dropOut : ByteArray := prog_1_method_19_code
def y_O_dropOut : MethodName := ⟨"PanelOffice", "dropOut", "(I)V"⟩
abbrev cc_S_candidateAt : ByteArray := prog_7_method_10_code
def y_S_candidateAt : MethodName := ⟨"PanelOffice$Seats", "candidateAt", "(I)I"⟩
abbrev cc_O_candidate : ByteArray := prog_1_method_20_code
def y_O_candidate : MethodName := ⟨"PanelOffice", "candidate", "(I)I"⟩
abbrev cc_S_admitCandidate : ByteArray := prog_7_method_9_code
def y_S_admitCandidate : MethodName := ⟨"PanelOffice$Seats", "admitCandidate", "(J)I"⟩
abbrev cc_O_replace : ByteArray := prog_1_method_21_code
def y_O_replace : MethodName := ⟨"PanelOffice", "replace", "()I"⟩
abbrev cc_O_breach : ByteArray := prog_1_method_22_code
def y_O_breach : MethodName := ⟨"PanelOffice", "breach", "()I"⟩
abbrev cc_P_clear : ByteArray := prog_4_method_4_code
def y_P_clear : MethodName := ⟨"PanelOffice$Pool", "clear", "()V"⟩
abbrev cc_Q_clear : ByteArray := prog_5_method_2_code
def y_Q_clear : MethodName := ⟨"PanelOffice$Quotas", "clear", "()V"⟩
abbrev cc_S_clear : ByteArray := prog_7_method_2_code
def y_S_clear : MethodName := ⟨"PanelOffice$Seats", "clear", "()V"⟩
abbrev cc_O_reset : ByteArray := prog_1_method_23_code
def y_O_reset : MethodName := ⟨"PanelOffice", "reset", "()V"⟩
abbrev cc_M_thrown : ByteArray := prog_10_method_2_code
def y_M_thrown : MethodName := ⟨"PanelOfficeModel", "thrown", "()I"⟩
abbrev cc_M_isTrait : ByteArray := prog_10_method_6_code
def y_M_isTrait : MethodName := ⟨"PanelOfficeModel", "isTrait", "(I)Z"⟩
abbrev cc_M_is : ByteArray := prog_10_method_3_code
def y_M_is : MethodName := ⟨"PanelOfficeModel", "is", "(I)I"⟩
abbrev cc_M_gather : ByteArray := prog_10_method_4_code
def y_M_gather : MethodName := ⟨"PanelOfficeModel", "gather", "()V"⟩
abbrev cc_M_changed : ByteArray := prog_10_method_5_code
def y_M_changed : MethodName := ⟨"PanelOfficeModel", "changed", "()V"⟩
abbrev cc_M_trait : ByteArray := prog_10_method_7_code
def y_M_trait : MethodName := ⟨"PanelOfficeModel", "trait", "(II)V"⟩
abbrev cc_M_person : ByteArray := prog_10_method_8_code
def y_M_person : MethodName := ⟨"PanelOfficeModel", "person", "(III)I"⟩
abbrev cc_M_quota : ByteArray := prog_10_method_9_code
def y_M_quota : MethodName := ⟨"PanelOfficeModel", "quota", "(IIII)V"⟩
abbrev cc_M_size : ByteArray := prog_10_method_10_code
def y_M_size : MethodName := ⟨"PanelOfficeModel", "size", "(I)V"⟩
abbrev cc_M_adds : ByteArray := prog_10_method_14_code
def y_M_adds : MethodName := ⟨"PanelOfficeModel", "adds", "(I)J"⟩
abbrev cc_M_had : ByteArray := prog_10_method_13_code
def y_M_had : MethodName := ⟨"PanelOfficeModel", "had", "(JII)I"⟩
abbrev cc_M_all : ByteArray := prog_10_method_15_code
def y_M_all : MethodName := ⟨"PanelOfficeModel", "all", "(J)I"⟩
abbrev cc_M_isAllowed : ByteArray := prog_10_method_16_code
def y_M_isAllowed : MethodName := ⟨"PanelOfficeModel", "isAllowed", "(J)Z"⟩
abbrev cc_M_place : ByteArray := prog_10_method_11_code
def y_M_place : MethodName := ⟨"PanelOfficeModel", "place", "(J)I"⟩
abbrev cc_M_find : ByteArray := prog_10_method_12_code
def y_M_find : MethodName := ⟨"PanelOfficeModel", "find", "(IJ)I"⟩
abbrev cc_M_spread : ByteArray := prog_10_method_19_code
def y_M_spread : MethodName := ⟨"PanelOfficeModel", "spread", "(II)V"⟩
abbrev cc_M_list : ByteArray := prog_10_method_18_code
def y_M_list : MethodName := ⟨"PanelOfficeModel", "list", "()V"⟩
abbrev cc_M_choose : ByteArray := prog_10_method_20_code
def y_M_choose : MethodName := ⟨"PanelOfficeModel", "choose", "(II)J"⟩
abbrev cc_M_isPanel : ByteArray := prog_10_method_17_code
def y_M_isPanel : MethodName := ⟨"PanelOfficeModel", "isPanel", "(J)Z"⟩
abbrev cc_M_work : ByteArray := prog_10_method_21_code
def y_M_work : MethodName := ⟨"PanelOfficeModel", "work", "(I)V"⟩
abbrev cc_M_counts : ByteArray := prog_10_method_22_code
def y_M_counts : MethodName := ⟨"PanelOfficeModel", "counts", "()Z"⟩
abbrev cc_M_count : ByteArray := prog_10_method_23_code
def y_M_count : MethodName := ⟨"PanelOfficeModel", "count", "()J"⟩
abbrev cc_M_states : ByteArray := prog_10_method_24_code
def y_M_states : MethodName := ⟨"PanelOfficeModel", "states", "()I"⟩
abbrev cc_M_isPerson : ByteArray := prog_10_method_26_code
def y_M_isPerson : MethodName := ⟨"PanelOfficeModel", "isPerson", "(I)Z"⟩
abbrev cc_M_kindOf : ByteArray := prog_10_method_25_code
def y_M_kindOf : MethodName := ⟨"PanelOfficeModel", "kindOf", "(I)I"⟩
abbrev cc_M_chance : ByteArray := prog_10_method_27_code
def y_M_chance : MethodName := ⟨"PanelOfficeModel", "chance", "(I)J"⟩
abbrev cc_M_kind : ByteArray := prog_10_method_28_code
def y_M_kind : MethodName := ⟨"PanelOfficeModel", "kind", "(I)I"⟩
abbrev cc_M_left : ByteArray := prog_10_method_29_code
def y_M_left : MethodName := ⟨"PanelOfficeModel", "left", "(I)I"⟩
abbrev cc_M_blocked : ByteArray := prog_10_method_30_code
def y_M_blocked : MethodName := ⟨"PanelOfficeModel", "blocked", "(I)I"⟩
abbrev cc_M_personOf : ByteArray := prog_10_method_31_code
def y_M_personOf : MethodName := ⟨"PanelOfficeModel", "personOf", "(II)I"⟩
abbrev cc_M_rows : ByteArray := prog_10_method_33_code
def y_M_rows : MethodName := ⟨"PanelOfficeModel", "rows", "(IIJ)V"⟩
abbrev cc_M_take : ByteArray := prog_10_method_32_code
def y_M_take : MethodName := ⟨"PanelOfficeModel", "take", "(J)V"⟩
abbrev cc_M_panel : ByteArray := prog_10_method_34_code
def y_M_panel : MethodName := ⟨"PanelOfficeModel", "panel", "(JI)I"⟩
abbrev cc_M_mark : ByteArray := prog_10_method_35_code
def y_M_mark : MethodName := ⟨"PanelOfficeModel", "mark", "(I)Z"⟩
abbrev cc_M_index : ByteArray := prog_10_method_37_code
def y_M_index : MethodName := ⟨"PanelOfficeModel", "index", "(II)J"⟩
abbrev cc_M_rank : ByteArray := prog_10_method_36_code
def y_M_rank : MethodName := ⟨"PanelOfficeModel", "rank", "()J"⟩
abbrev cc_M_placeOf : ByteArray := prog_10_method_45_code
def y_M_placeOf : MethodName := ⟨"PanelOfficeModel", "placeOf", "(I)I"⟩
abbrev cc_M_breachWith : ByteArray := prog_10_method_47_code
def y_M_breachWith : MethodName := ⟨"PanelOfficeModel", "breachWith", "(I)I"⟩
abbrev cc_M_leastBreach : ByteArray := prog_10_method_48_code
def y_M_leastBreach : MethodName := ⟨"PanelOfficeModel", "leastBreach", "()I"⟩
abbrev cc_M_isCandidate : ByteArray := prog_10_method_49_code
def y_M_isCandidate : MethodName := ⟨"PanelOfficeModel", "isCandidate", "(II)Z"⟩
abbrev cc_M_candidates : ByteArray := prog_10_method_50_code
def y_M_candidates : MethodName := ⟨"PanelOfficeModel", "candidates", "()I"⟩
abbrev cc_M_goalNow : ByteArray := prog_10_method_38_code
def y_M_goalNow : MethodName := ⟨"PanelOfficeModel", "goalNow", "()J"⟩
abbrev cc_M_dice : ByteArray := prog_10_method_39_code
def y_M_dice : MethodName := ⟨"PanelOfficeModel", "dice", "(I)I"⟩
abbrev cc_M_roll : ByteArray := prog_10_method_40_code
def y_M_roll : MethodName := ⟨"PanelOfficeModel", "roll", "(I)I"⟩
abbrev cc_M_number : ByteArray := prog_10_method_41_code
def y_M_number : MethodName := ⟨"PanelOfficeModel", "number", "()J"⟩
abbrev cc_M_used : ByteArray := prog_10_method_42_code
def y_M_used : MethodName := ⟨"PanelOfficeModel", "used", "()V"⟩
abbrev cc_M_draw : ByteArray := prog_10_method_43_code
def y_M_draw : MethodName := ⟨"PanelOfficeModel", "draw", "()V"⟩
abbrev cc_M_member : ByteArray := prog_10_method_44_code
def y_M_member : MethodName := ⟨"PanelOfficeModel", "member", "(I)I"⟩
abbrev cc_M_dropOut : ByteArray := prog_10_method_46_code
def y_M_dropOut : MethodName := ⟨"PanelOfficeModel", "dropOut", "(I)V"⟩
abbrev cc_M_candidateAt : ByteArray := prog_10_method_51_code
def y_M_candidateAt : MethodName := ⟨"PanelOfficeModel", "candidateAt", "(J)I"⟩
abbrev cc_M_candidate : ByteArray := prog_10_method_52_code
def y_M_candidate : MethodName := ⟨"PanelOfficeModel", "candidate", "(I)I"⟩
abbrev cc_M_replace : ByteArray := prog_10_method_53_code
def y_M_replace : MethodName := ⟨"PanelOfficeModel", "replace", "()I"⟩
abbrev cc_M_breach : ByteArray := prog_10_method_54_code
def y_M_breach : MethodName := ⟨"PanelOfficeModel", "breach", "()I"⟩
abbrev cc_M_reset : ByteArray := prog_10_method_55_code
def y_M_reset : MethodName := ⟨"PanelOfficeModel", "reset", "()V"⟩
abbrev cc_L_trait : ByteArray := method_3_code
def y_L_trait : MethodName := ⟨"PanelOfficeLaw", "trait", "(LPanelOffice;II)I"⟩
abbrev cc_L_person : ByteArray := method_4_code
def y_L_person : MethodName := ⟨"PanelOfficeLaw", "person", "(LPanelOffice;III[J)I"⟩
abbrev cc_L_quota : ByteArray := method_5_code
def y_L_quota : MethodName := ⟨"PanelOfficeLaw", "quota", "(LPanelOffice;IIII)I"⟩
abbrev cc_L_size : ByteArray := method_6_code
def y_L_size : MethodName := ⟨"PanelOfficeLaw", "size", "(LPanelOffice;I)I"⟩
abbrev cc_L_count : ByteArray := method_7_code
def y_L_count : MethodName := ⟨"PanelOfficeLaw", "count", "(LPanelOffice;[J)I"⟩
abbrev cc_L_chance : ByteArray := method_8_code
def y_L_chance : MethodName := ⟨"PanelOfficeLaw", "chance", "(LPanelOffice;I[J)I"⟩
abbrev cc_L_kind : ByteArray := method_9_code
def y_L_kind : MethodName := ⟨"PanelOfficeLaw", "kind", "(LPanelOffice;I[J)I"⟩
abbrev cc_L_blocked : ByteArray := method_10_code
def y_L_blocked : MethodName := ⟨"PanelOfficeLaw", "blocked", "(LPanelOffice;I[J)I"⟩
abbrev cc_L_panel : ByteArray := method_11_code
def y_L_panel : MethodName := ⟨"PanelOfficeLaw", "panel", "(LPanelOffice;JI[J)I"⟩
abbrev cc_L_mark : ByteArray := method_12_code
def y_L_mark : MethodName := ⟨"PanelOfficeLaw", "mark", "(LPanelOffice;I[J)I"⟩
abbrev cc_L_rank : ByteArray := method_13_code
def y_L_rank : MethodName := ⟨"PanelOfficeLaw", "rank", "(LPanelOffice;[J)I"⟩
abbrev cc_L_dice : ByteArray := method_14_code
def y_L_dice : MethodName := ⟨"PanelOfficeLaw", "dice", "(LPanelOffice;I[J)I"⟩
abbrev cc_L_roll : ByteArray := method_15_code
def y_L_roll : MethodName := ⟨"PanelOfficeLaw", "roll", "(LPanelOffice;I[J)I"⟩
abbrev cc_L_number : ByteArray := method_16_code
def y_L_number : MethodName := ⟨"PanelOfficeLaw", "number", "(LPanelOffice;[J)I"⟩
abbrev cc_L_draw : ByteArray := method_17_code
def y_L_draw : MethodName := ⟨"PanelOfficeLaw", "draw", "(LPanelOffice;)I"⟩
abbrev cc_L_member : ByteArray := method_18_code
def y_L_member : MethodName := ⟨"PanelOfficeLaw", "member", "(LPanelOffice;I[J)I"⟩
abbrev cc_L_dropOut : ByteArray := method_19_code
def y_L_dropOut : MethodName := ⟨"PanelOfficeLaw", "dropOut", "(LPanelOffice;I)I"⟩
abbrev cc_L_candidate : ByteArray := method_20_code
def y_L_candidate : MethodName := ⟨"PanelOfficeLaw", "candidate", "(LPanelOffice;I[J)I"⟩
abbrev cc_L_replace : ByteArray := method_21_code
def y_L_replace : MethodName := ⟨"PanelOfficeLaw", "replace", "(LPanelOffice;[J)I"⟩
abbrev cc_L_breach : ByteArray := method_22_code
def y_L_breach : MethodName := ⟨"PanelOfficeLaw", "breach", "(LPanelOffice;[J)I"⟩
abbrev vcl : List vw_C := [(R_O, F_O, 12), (R_P, F_P, 6), (R_Q, F_Q, 2), (R_T, F_T, 13), (R_R, F_R, 2), (R_C, F_C, 6), (R_D, F_D, 8), (R_S, F_S, 9), (R_M, F_M, 35)]
abbrev rm_P_valueIn : Room := { frames := 0, cells := 0, slots := 0, locals := 0 }
abbrev rm_P_highestValue : Room := { frames := 1, cells := 0, slots := 0, locals := 23 }
abbrev rm_S_areDrawn : Room := { frames := 0, cells := 0, slots := 0, locals := 0 }
abbrev rm_O_requireOpen : Room := { frames := 6, cells := 1, slots := 6, locals := 82 }
abbrev rm_D_end : Room := { frames := 0, cells := 0, slots := 0, locals := 0 }
abbrev rm_O_changed : Room := { frames := 1, cells := 0, slots := 0, locals := 20 }
abbrev rm_O_trait : Room := { frames := 7, cells := 1, slots := 6, locals := 102 }
abbrev rm_P_hasValue : Room := { frames := 0, cells := 0, slots := 0, locals := 0 }
abbrev rm_P_codeOf : Room := { frames := 0, cells := 0, slots := 0, locals := 0 }
abbrev rm_P_kindsBelow : Room := { frames := 0, cells := 0, slots := 0, locals := 0 }
abbrev rm_P_isKind : Room := { frames := 1, cells := 0, slots := 0, locals := 22 }
abbrev rm_P_hasRoomFor : Room := { frames := 2, cells := 0, slots := 0, locals := 44 }
abbrev rm_P_insertKind : Room := { frames := 0, cells := 0, slots := 0, locals := 0 }
abbrev rm_P_add : Room := { frames := 2, cells := 0, slots := 0, locals := 44 }
abbrev rm_O_person : Room := { frames := 7, cells := 1, slots := 6, locals := 102 }
abbrev rm_O_quotaOf : Room := { frames := 0, cells := 0, slots := 0, locals := 0 }
abbrev rm_Q_set : Room := { frames := 0, cells := 0, slots := 0, locals := 0 }
abbrev rm_O_quota : Room := { frames := 7, cells := 1, slots := 6, locals := 102 }
abbrev rm_O_size : Room := { frames := 7, cells := 1, slots := 6, locals := 102 }
abbrev rm_A_fill : Room := { frames := 0, cells := 0, slots := 0, locals := 0 }
abbrev rm_T_enter : Room := { frames := 0, cells := 0, slots := 0, locals := 0 }
abbrev rm_T_stateOf : Room := { frames := 1, cells := 0, slots := 0, locals := 23 }
abbrev rm_T_oneMoreOf : Room := { frames := 1, cells := 0, slots := 0, locals := 21 }
abbrev rm_T_field : Room := { frames := 0, cells := 0, slots := 0, locals := 0 }
abbrev rm_T_takesFrom : Room := { frames := 1, cells := 0, slots := 0, locals := 23 }
abbrev rm_T_addLayer : Room := { frames := 2, cells := 0, slots := 0, locals := 51 }
abbrev rm_T_isPanel : Room := { frames := 1, cells := 0, slots := 0, locals := 22 }
abbrev rm_T_choose : Room := { frames := 0, cells := 0, slots := 0, locals := 0 }
abbrev rm_T_aheadWithAny : Room := { frames := 1, cells := 0, slots := 0, locals := 22 }
abbrev rm_T_countAhead : Room := { frames := 2, cells := 0, slots := 0, locals := 50 }
abbrev rm_T_build : Room := { frames := 3, cells := 0, slots := 0, locals := 80 }
abbrev rm_O_refreshTally : Room := { frames := 4, cells := 0, slots := 0, locals := 103 }
abbrev rm_T_isRefused : Room := { frames := 0, cells := 0, slots := 0, locals := 0 }
abbrev rm_O_requireCountable : Room := { frames := 6, cells := 1, slots := 6, locals := 123 }
abbrev rm_T_panels : Room := { frames := 0, cells := 0, slots := 0, locals := 0 }
abbrev rm_O_count : Room := { frames := 7, cells := 1, slots := 6, locals := 143 }
abbrev rm_T_statesFound : Room := { frames := 0, cells := 0, slots := 0, locals := 0 }
abbrev rm_O_states : Room := { frames := 5, cells := 0, slots := 0, locals := 123 }
abbrev rm_O_requirePerson : Room := { frames := 6, cells := 1, slots := 6, locals := 82 }
abbrev rm_P_kindOf : Room := { frames := 1, cells := 0, slots := 0, locals := 22 }
abbrev rm_T_aheadWithOneOf : Room := { frames := 1, cells := 0, slots := 0, locals := 22 }
abbrev rm_A_fill2 : Room := { frames := 0, cells := 0, slots := 0, locals := 0 }
abbrev rm_T_passOn : Room := { frames := 1, cells := 0, slots := 0, locals := 22 }
abbrev rm_T_countBehind : Room := { frames := 2, cells := 0, slots := 0, locals := 46 }
abbrev rm_T_panelsWithOneOf : Room := { frames := 3, cells := 0, slots := 0, locals := 68 }
abbrev rm_O_chance : Room := { frames := 7, cells := 1, slots := 6, locals := 143 }
abbrev rm_O_kind : Room := { frames := 7, cells := 1, slots := 6, locals := 103 }
abbrev rm_O_requireIndex : Room := { frames := 6, cells := 1, slots := 6, locals := 82 }
abbrev rm_C_isRefused : Room := { frames := 0, cells := 0, slots := 0, locals := 0 }
abbrev rm_C_nameOf : Room := { frames := 0, cells := 0, slots := 0, locals := 0 }
abbrev rm_Q_set2 : Room := { frames := 0, cells := 0, slots := 0, locals := 0 }
abbrev rm_Q_copyOneFrom : Room := { frames := 1, cells := 0, slots := 0, locals := 23 }
abbrev rm_Q_isLeftOut : Room := { frames := 0, cells := 0, slots := 0, locals := 0 }
abbrev rm_Q_leaveOut : Room := { frames := 1, cells := 0, slots := 0, locals := 23 }
abbrev rm_T_takesFrom2 : Room := { frames := 1, cells := 0, slots := 0, locals := 23 }
abbrev rm_T_addLayer2 : Room := { frames := 2, cells := 0, slots := 0, locals := 51 }
abbrev rm_T_isPanel2 : Room := { frames := 1, cells := 0, slots := 0, locals := 22 }
abbrev rm_T_countAhead2 : Room := { frames := 2, cells := 0, slots := 0, locals := 50 }
abbrev rm_T_build2 : Room := { frames := 3, cells := 0, slots := 0, locals := 80 }
abbrev rm_C_tryWithout : Room := { frames := 4, cells := 0, slots := 0, locals := 103 }
abbrev rm_C_find : Room := { frames := 5, cells := 0, slots := 0, locals := 128 }
abbrev rm_O_blocked : Room := { frames := 7, cells := 1, slots := 6, locals := 152 }
abbrev rm_O_requirePlace : Room := { frames := 6, cells := 1, slots := 6, locals := 82 }
abbrev rm_R_tellKind : Room := { frames := 1, cells := 0, slots := 0, locals := 22 }
abbrev rm_R_tell : Room := { frames := 2, cells := 0, slots := 0, locals := 55 }
abbrev rm_O_panel : Room := { frames := 7, cells := 1, slots := 6, locals := 143 }
abbrev rm_O_isIn : Room := { frames := 0, cells := 0, slots := 0, locals := 0 }
abbrev rm_O_mark : Room := { frames := 7, cells := 1, slots := 6, locals := 103 }
abbrev rm_R_membersOf : Room := { frames := 1, cells := 0, slots := 0, locals := 22 }
abbrev rm_R_indexIn : Room := { frames := 1, cells := 0, slots := 0, locals := 22 }
abbrev rm_R_rankOf : Room := { frames := 2, cells := 0, slots := 0, locals := 51 }
abbrev rm_O_rank : Room := { frames := 7, cells := 1, slots := 6, locals := 143 }
abbrev rm_S_hasEmptyPlace : Room := { frames := 0, cells := 0, slots := 0, locals := 0 }
abbrev rm_A_fill3 : Room := { frames := 0, cells := 0, slots := 0, locals := 0 }
abbrev rm_S_addValuesOf : Room := { frames := 1, cells := 0, slots := 0, locals := 21 }
abbrev rm_Q_breachBy : Room := { frames := 1, cells := 0, slots := 0, locals := 23 }
abbrev rm_S_breachWith : Room := { frames := 2, cells := 0, slots := 0, locals := 45 }
abbrev rm_S_listCandidates : Room := { frames := 3, cells := 0, slots := 0, locals := 70 }
abbrev rm_O_goalNow : Room := { frames := 4, cells := 0, slots := 0, locals := 94 }
abbrev rm_D_begin : Room := { frames := 1, cells := 0, slots := 0, locals := 23 }
abbrev rm_O_dice : Room := { frames := 7, cells := 1, slots := 6, locals := 143 }
abbrev rm_D_awaitThrow : Room := { frames := 0, cells := 0, slots := 0, locals := 0 }
abbrev rm_D_haveSide : Room := { frames := 0, cells := 0, slots := 0, locals := 0 }
abbrev rm_D_take : Room := { frames := 0, cells := 0, slots := 0, locals := 0 }
abbrev rm_O_roll : Room := { frames := 6, cells := 1, slots := 6, locals := 82 }
abbrev rm_D_haveNumber : Room := { frames := 0, cells := 0, slots := 0, locals := 0 }
abbrev rm_D_made : Room := { frames := 0, cells := 0, slots := 0, locals := 0 }
abbrev rm_O_number : Room := { frames := 6, cells := 1, slots := 6, locals := 82 }
abbrev rm_O_requireNumber : Room := { frames := 6, cells := 1, slots := 6, locals := 82 }
abbrev rm_S_fill : Room := { frames := 1, cells := 0, slots := 0, locals := 23 }
abbrev rm_O_draw : Room := { frames := 7, cells := 1, slots := 6, locals := 102 }
abbrev rm_O_requireDrawn : Room := { frames := 6, cells := 1, slots := 6, locals := 82 }
abbrev rm_S_at : Room := { frames := 0, cells := 0, slots := 0, locals := 0 }
abbrev rm_O_member : Room := { frames := 7, cells := 1, slots := 6, locals := 103 }
abbrev rm_S_isMember : Room := { frames := 1, cells := 0, slots := 0, locals := 22 }
abbrev rm_S_vacate : Room := { frames := 0, cells := 0, slots := 0, locals := 0 }
abbrev rm_O_dropOut : Room := { frames := 7, cells := 1, slots := 6, locals := 102 }
abbrev rm_S_candidateAt : Room := { frames := 0, cells := 0, slots := 0, locals := 0 }
abbrev rm_O_candidate : Room := { frames := 7, cells := 1, slots := 6, locals := 102 }
abbrev rm_S_admitCandidate : Room := { frames := 4, cells := 0, slots := 0, locals := 94 }
abbrev rm_O_replace : Room := { frames := 7, cells := 1, slots := 6, locals := 119 }
abbrev rm_O_breach : Room := { frames := 7, cells := 1, slots := 6, locals := 102 }
abbrev rm_A_fill4 : Room := { frames := 0, cells := 0, slots := 0, locals := 0 }
abbrev rm_P_clear : Room := { frames := 1, cells := 0, slots := 0, locals := 23 }
abbrev rm_A_fill5 : Room := { frames := 0, cells := 0, slots := 0, locals := 0 }
abbrev rm_A_fill6 : Room := { frames := 0, cells := 0, slots := 0, locals := 0 }
abbrev rm_Q_clear : Room := { frames := 1, cells := 0, slots := 0, locals := 23 }
abbrev rm_S_clear : Room := { frames := 0, cells := 0, slots := 0, locals := 0 }
abbrev rm_O_reset : Room := { frames := 2, cells := 0, slots := 0, locals := 43 }
abbrev rm_M_thrown : Room := { frames := 0, cells := 0, slots := 0, locals := 0 }
abbrev rm_M_isTrait : Room := { frames := 0, cells := 0, slots := 0, locals := 0 }
abbrev rm_M_is : Room := { frames := 0, cells := 0, slots := 0, locals := 0 }
abbrev rm_M_gather : Room := { frames := 1, cells := 0, slots := 0, locals := 21 }
abbrev rm_M_changed : Room := { frames := 2, cells := 0, slots := 0, locals := 44 }
abbrev rm_M_trait : Room := { frames := 3, cells := 0, slots := 0, locals := 64 }
abbrev rm_M_person : Room := { frames := 3, cells := 0, slots := 0, locals := 64 }
abbrev rm_M_quota : Room := { frames := 3, cells := 0, slots := 0, locals := 64 }
abbrev rm_M_size : Room := { frames := 3, cells := 0, slots := 0, locals := 64 }
abbrev rm_M_adds : Room := { frames := 0, cells := 0, slots := 0, locals := 0 }
abbrev rm_M_had : Room := { frames := 0, cells := 0, slots := 0, locals := 0 }
abbrev rm_M_all : Room := { frames := 1, cells := 0, slots := 0, locals := 23 }
abbrev rm_M_isAllowed : Room := { frames := 2, cells := 0, slots := 0, locals := 44 }
abbrev rm_M_place : Room := { frames := 0, cells := 0, slots := 0, locals := 0 }
abbrev rm_M_find : Room := { frames := 1, cells := 0, slots := 0, locals := 21 }
abbrev rm_M_spread : Room := { frames := 3, cells := 0, slots := 0, locals := 69 }
abbrev rm_M_list : Room := { frames := 4, cells := 0, slots := 0, locals := 97 }
abbrev rm_M_choose : Room := { frames := 0, cells := 0, slots := 0, locals := 0 }
abbrev rm_M_isPanel : Room := { frames := 3, cells := 0, slots := 0, locals := 69 }
abbrev rm_M_work : Room := { frames := 5, cells := 0, slots := 0, locals := 119 }
abbrev rm_M_counts : Room := { frames := 6, cells := 0, slots := 0, locals := 146 }
abbrev rm_M_count : Room := { frames := 7, cells := 0, slots := 0, locals := 166 }
abbrev rm_M_states : Room := { frames := 7, cells := 0, slots := 0, locals := 166 }
abbrev rm_M_isPerson : Room := { frames := 0, cells := 0, slots := 0, locals := 0 }
abbrev rm_M_kindOf : Room := { frames := 1, cells := 0, slots := 0, locals := 21 }
abbrev rm_M_chance : Room := { frames := 7, cells := 0, slots := 0, locals := 166 }
abbrev rm_M_kind : Room := { frames := 2, cells := 0, slots := 0, locals := 43 }
abbrev rm_M_left : Room := { frames := 6, cells := 0, slots := 0, locals := 146 }
abbrev rm_M_blocked : Room := { frames := 7, cells := 0, slots := 0, locals := 172 }
abbrev rm_M_personOf : Room := { frames := 1, cells := 0, slots := 0, locals := 21 }
abbrev rm_M_rows : Room := { frames := 2, cells := 0, slots := 0, locals := 45 }
abbrev rm_M_take : Room := { frames := 3, cells := 0, slots := 0, locals := 73 }
abbrev rm_M_panel : Room := { frames := 7, cells := 0, slots := 0, locals := 166 }
abbrev rm_M_mark : Room := { frames := 1, cells := 0, slots := 0, locals := 21 }
abbrev rm_M_index : Room := { frames := 1, cells := 0, slots := 0, locals := 24 }
abbrev rm_M_rank : Room := { frames := 7, cells := 0, slots := 0, locals := 166 }
abbrev rm_M_placeOf : Room := { frames := 0, cells := 0, slots := 0, locals := 0 }
abbrev rm_M_breachWith : Room := { frames := 0, cells := 0, slots := 0, locals := 0 }
abbrev rm_M_leastBreach : Room := { frames := 1, cells := 0, slots := 0, locals := 26 }
abbrev rm_M_isCandidate : Room := { frames := 1, cells := 0, slots := 0, locals := 26 }
abbrev rm_M_candidates : Room := { frames := 2, cells := 0, slots := 0, locals := 49 }
abbrev rm_M_goalNow : Room := { frames := 3, cells := 0, slots := 0, locals := 72 }
abbrev rm_M_dice : Room := { frames := 7, cells := 0, slots := 0, locals := 166 }
abbrev rm_M_roll : Room := { frames := 0, cells := 0, slots := 0, locals := 0 }
abbrev rm_M_number : Room := { frames := 0, cells := 0, slots := 0, locals := 0 }
abbrev rm_M_used : Room := { frames := 0, cells := 0, slots := 0, locals := 0 }
abbrev rm_M_draw : Room := { frames := 7, cells := 0, slots := 0, locals := 166 }
abbrev rm_M_member : Room := { frames := 0, cells := 0, slots := 0, locals := 0 }
abbrev rm_M_dropOut : Room := { frames := 1, cells := 0, slots := 0, locals := 23 }
abbrev rm_M_candidateAt : Room := { frames := 2, cells := 0, slots := 0, locals := 49 }
abbrev rm_M_candidate : Room := { frames := 3, cells := 0, slots := 0, locals := 75 }
abbrev rm_M_replace : Room := { frames := 3, cells := 0, slots := 0, locals := 75 }
abbrev rm_M_breach : Room := { frames := 1, cells := 0, slots := 0, locals := 26 }
abbrev rm_M_reset : Room := { frames := 3, cells := 0, slots := 0, locals := 64 }
abbrev rm_L_trait : Room := { frames := 8, cells := 1, slots := 6, locals := 124 }
abbrev rm_L_person : Room := { frames := 8, cells := 1, slots := 6, locals := 126 }
abbrev rm_L_quota : Room := { frames := 8, cells := 1, slots := 6, locals := 126 }
abbrev rm_L_size : Room := { frames := 8, cells := 1, slots := 6, locals := 123 }
abbrev rm_L_count : Room := { frames := 8, cells := 1, slots := 6, locals := 163 }
abbrev rm_L_chance : Room := { frames := 8, cells := 1, slots := 6, locals := 164 }
abbrev rm_L_kind : Room := { frames := 8, cells := 1, slots := 6, locals := 124 }
abbrev rm_L_blocked : Room := { frames := 8, cells := 1, slots := 6, locals := 173 }
abbrev rm_L_panel : Room := { frames := 8, cells := 1, slots := 6, locals := 166 }
abbrev rm_L_mark : Room := { frames := 8, cells := 1, slots := 6, locals := 124 }
abbrev rm_L_rank : Room := { frames := 8, cells := 1, slots := 6, locals := 165 }
abbrev rm_L_dice : Room := { frames := 8, cells := 1, slots := 6, locals := 166 }
abbrev rm_L_roll : Room := { frames := 7, cells := 1, slots := 6, locals := 103 }
abbrev rm_L_number : Room := { frames := 7, cells := 1, slots := 6, locals := 102 }
abbrev rm_L_draw : Room := { frames := 8, cells := 1, slots := 6, locals := 122 }
abbrev rm_L_member : Room := { frames := 8, cells := 1, slots := 6, locals := 124 }
abbrev rm_L_dropOut : Room := { frames := 8, cells := 1, slots := 6, locals := 123 }
abbrev rm_L_candidate : Room := { frames := 8, cells := 1, slots := 6, locals := 123 }
abbrev rm_L_replace : Room := { frames := 8, cells := 1, slots := 6, locals := 140 }
abbrev rm_L_breach : Room := { frames := 8, cells := 1, slots := 6, locals := 122 }
