def F_BR : u_T := fun k => match k with
  | 0 => ("SuffixIndex$ByteRow", "bytes", "[I", true)
  | _ => ("SuffixIndex$ByteRow", "length", "I", false)
def t_BR : Nat → FieldType := fun k => match k with
  | 0 => .array .int
  | _ => .int
theorem n_BR : ∀ a, a < 2 → ∀ b, b < 2 → a ≠ b → (F_BR a).2.1 ≠ (F_BR b).2.1 := by decide +kernel
theorem t_BR_ok : ∀ k, k < 2 → parseFieldDescriptor (F_BR k).2.2.1 = some (t_BR k) := by decide +kernel
def F_LB : u_T := fun k => match k with
  | 0 => ("SuffixIndex$Library", "text", "[I", true)
  | 1 => ("SuffixIndex$Library", "owners", "[I", true)
  | 2 => ("SuffixIndex$Library", "starts", "[I", true)
  | 3 => ("SuffixIndex$Library", "documents", "I", false)
  | _ => ("SuffixIndex$Library", "indexed", "I", false)
def t_LB : Nat → FieldType := fun k => match k with
  | 0 => .array .int
  | 1 => .array .int
  | 2 => .array .int
  | 3 => .int
  | _ => .int
theorem n_LB : ∀ a, a < 5 → ∀ b, b < 5 → a ≠ b → (F_LB a).2.1 ≠ (F_LB b).2.1 := by decide +kernel
theorem t_LB_ok : ∀ k, k < 5 → parseFieldDescriptor (F_LB k).2.2.1 = some (t_LB k) := by decide +kernel
def F_SO : u_T := fun k => match k with
  | 0 => ("SuffixIndex$Sorter", "byTail", "[I", true)
  | 1 => ("SuffixIndex$Sorter", "newRanks", "[I", true)
  | 2 => ("SuffixIndex$Sorter", "tally", "[I", true)
  | _ => ("SuffixIndex$Sorter", "size", "I", false)
def t_SO : Nat → FieldType := fun k => match k with
  | 0 => .array .int
  | 1 => .array .int
  | 2 => .array .int
  | _ => .int
theorem n_SO : ∀ a, a < 4 → ∀ b, b < 4 → a ≠ b → (F_SO a).2.1 ≠ (F_SO b).2.1 := by decide +kernel
theorem t_SO_ok : ∀ k, k < 4 → parseFieldDescriptor (F_SO k).2.2.1 = some (t_SO k) := by decide +kernel
def F_OR : u_T := fun k => match k with
  | 0 => ("SuffixIndex$SuffixOrder", "sorted", "[I", true)
  | 1 => ("SuffixIndex$SuffixOrder", "ranks", "[I", true)
  | 2 => ("SuffixIndex$SuffixOrder", "alikeBefore", "[I", true)
  | 3 => ("SuffixIndex$SuffixOrder", "piecesUpTo", "[J", true)
  | 4 => ("SuffixIndex$SuffixOrder", "sorter", "LSuffixIndex$Sorter;", true)
  | 5 => ("SuffixIndex$SuffixOrder", "library", "LSuffixIndex$Library;", true)
  | 6 => ("SuffixIndex$SuffixOrder", "first", "I", false)
  | 7 => ("SuffixIndex$SuffixOrder", "size", "I", false)
  | 8 => ("SuffixIndex$SuffixOrder", "locatedRank", "I", false)
  | _ => ("SuffixIndex$SuffixOrder", "locatedLength", "I", false)
def t_OR : Nat → FieldType := fun k => match k with
  | 0 => .array .int
  | 1 => .array .int
  | 2 => .array .int
  | 3 => .array .long
  | 4 => .object "SuffixIndex$Sorter"
  | 5 => .object "SuffixIndex$Library"
  | 6 => .int
  | 7 => .int
  | 8 => .int
  | _ => .int
theorem n_OR : ∀ a, a < 10 → ∀ b, b < 10 → a ≠ b → (F_OR a).2.1 ≠ (F_OR b).2.1 := by decide +kernel
theorem t_OR_ok : ∀ k, k < 10 → parseFieldDescriptor (F_OR k).2.2.1 = some (t_OR k) := by decide +kernel
def F_SE : u_T := fun k => match k with
  | 0 => ("SuffixIndex$Search", "sought", "LSuffixIndex$ByteRow;", true)
  | 1 => ("SuffixIndex$Search", "wheres", "[I", true)
  | 2 => ("SuffixIndex$Search", "hits", "I", false)
  | 3 => ("SuffixIndex$Search", "documentsHit", "I", false)
  | 4 => ("SuffixIndex$Search", "nearHits", "[I", true)
  | 5 => ("SuffixIndex$Search", "nearLast", "[I", true)
  | 6 => ("SuffixIndex$Search", "documentKeys", "[I", true)
  | 7 => ("SuffixIndex$Search", "library", "LSuffixIndex$Library;", true)
  | 8 => ("SuffixIndex$Search", "order", "LSuffixIndex$SuffixOrder;", true)
  | 9 => ("SuffixIndex$Search", "nearKnown", "Z", false)
  | _ => ("SuffixIndex$Search", "matchedSum", "I", false)
def t_SE : Nat → FieldType := fun k => match k with
  | 0 => .object "SuffixIndex$ByteRow"
  | 1 => .array .int
  | 2 => .int
  | 3 => .int
  | 4 => .array .int
  | 5 => .array .int
  | 6 => .array .int
  | 7 => .object "SuffixIndex$Library"
  | 8 => .object "SuffixIndex$SuffixOrder"
  | 9 => .boolean
  | _ => .int
theorem n_SE : ∀ a, a < 11 → ∀ b, b < 11 → a ≠ b → (F_SE a).2.1 ≠ (F_SE b).2.1 := by decide +kernel
theorem t_SE_ok : ∀ k, k < 11 → parseFieldDescriptor (F_SE k).2.2.1 = some (t_SE k) := by decide +kernel
def F_WI : u_T := fun k => match k with
  | 0 => ("SuffixIndex$Window", "bestPosition", "I", false)
  | 1 => ("SuffixIndex$Window", "bestLength", "I", false)
  | 2 => ("SuffixIndex$Window", "library", "LSuffixIndex$Library;", true)
  | 3 => ("SuffixIndex$Window", "order", "LSuffixIndex$SuffixOrder;", true)
  | 4 => ("SuffixIndex$Window", "inside", "[I", true)
  | 5 => ("SuffixIndex$Window", "least", "[I", true)
  | 6 => ("SuffixIndex$Window", "leastFrom", "I", false)
  | _ => ("SuffixIndex$Window", "leastTo", "I", false)
def t_WI : Nat → FieldType := fun k => match k with
  | 0 => .int
  | 1 => .int
  | 2 => .object "SuffixIndex$Library"
  | 3 => .object "SuffixIndex$SuffixOrder"
  | 4 => .array .int
  | 5 => .array .int
  | 6 => .int
  | _ => .int
theorem n_WI : ∀ a, a < 8 → ∀ b, b < 8 → a ≠ b → (F_WI a).2.1 ≠ (F_WI b).2.1 := by decide +kernel
theorem t_WI_ok : ∀ k, k < 8 → parseFieldDescriptor (F_WI k).2.2.1 = some (t_WI k) := by decide +kernel
def F_PB : u_T := fun k => match k with
  | 0 => ("SuffixIndex$PhraseBook", "answers", "[J", true)
  | 1 => ("SuffixIndex$PhraseBook", "amounts", "[I", true)
  | 2 => ("SuffixIndex$PhraseBook", "library", "LSuffixIndex$Library;", true)
  | 3 => ("SuffixIndex$PhraseBook", "order", "LSuffixIndex$SuffixOrder;", true)
  | 4 => ("SuffixIndex$PhraseBook", "earlierLength", "I", false)
  | _ => ("SuffixIndex$PhraseBook", "earlierPosition", "I", false)
def t_PB : Nat → FieldType := fun k => match k with
  | 0 => .array .long
  | 1 => .array .int
  | 2 => .object "SuffixIndex$Library"
  | 3 => .object "SuffixIndex$SuffixOrder"
  | 4 => .int
  | _ => .int
theorem n_PB : ∀ a, a < 6 → ∀ b, b < 6 → a ≠ b → (F_PB a).2.1 ≠ (F_PB b).2.1 := by decide +kernel
theorem t_PB_ok : ∀ k, k < 6 → parseFieldDescriptor (F_PB k).2.2.1 = some (t_PB k) := by decide +kernel
def F_SI : u_T := fun k => match k with
  | 0 => ("SuffixIndex", "tape", "LSuffixIndex$ByteRow;", true)
  | 1 => ("SuffixIndex", "told", "LSuffixIndex$ByteRow;", true)
  | 2 => ("SuffixIndex", "library", "LSuffixIndex$Library;", true)
  | 3 => ("SuffixIndex", "order", "LSuffixIndex$SuffixOrder;", true)
  | 4 => ("SuffixIndex", "search", "LSuffixIndex$Search;", true)
  | 5 => ("SuffixIndex", "window", "LSuffixIndex$Window;", true)
  | _ => ("SuffixIndex", "phraseBook", "LSuffixIndex$PhraseBook;", true)
def t_SI : Nat → FieldType := fun k => match k with
  | 0 => .object "SuffixIndex$ByteRow"
  | 1 => .object "SuffixIndex$ByteRow"
  | 2 => .object "SuffixIndex$Library"
  | 3 => .object "SuffixIndex$SuffixOrder"
  | 4 => .object "SuffixIndex$Search"
  | 5 => .object "SuffixIndex$Window"
  | _ => .object "SuffixIndex$PhraseBook"
theorem n_SI : ∀ a, a < 7 → ∀ b, b < 7 → a ≠ b → (F_SI a).2.1 ≠ (F_SI b).2.1 := by decide +kernel
theorem t_SI_ok : ∀ k, k < 7 → parseFieldDescriptor (F_SI k).2.2.1 = some (t_SI k) := by decide +kernel
def F_MD : u_T := fun k => match k with
  | 0 => ("SuffixIndexModel", "thrown", "I", false)
  | 1 => ("SuffixIndexModel", "tape", "[B", true)
  | 2 => ("SuffixIndexModel", "row", "[B", true)
  | 3 => ("SuffixIndexModel", "out", "[B", true)
  | 4 => ("SuffixIndexModel", "sought", "[B", true)
  | 5 => ("SuffixIndexModel", "size", "I", false)
  | 6 => ("SuffixIndexModel", "outSize", "I", false)
  | 7 => ("SuffixIndexModel", "soughtSize", "I", false)
  | 8 => ("SuffixIndexModel", "documents", "I", false)
  | 9 => ("SuffixIndexModel", "indexed", "I", false)
  | 10 => ("SuffixIndexModel", "suffixes", "I", false)
  | 11 => ("SuffixIndexModel", "rows", "I", false)
  | 12 => ("SuffixIndexModel", "start", "[I", true)
  | 13 => ("SuffixIndexModel", "documentOf", "[I", true)
  | 14 => ("SuffixIndexModel", "order", "[I", true)
  | 15 => ("SuffixIndexModel", "rankOf", "[I", true)
  | 16 => ("SuffixIndexModel", "same", "[I", true)
  | 17 => ("SuffixIndexModel", "work", "[I", true)
  | 18 => ("SuffixIndexModel", "next", "[I", true)
  | 19 => ("SuffixIndexModel", "often", "[I", true)
  | 20 => ("SuffixIndexModel", "has", "[Z", true)
  | _ => ("SuffixIndexModel", "lesser", "I", false)
def t_MD : Nat → FieldType := fun k => match k with
  | 0 => .int
  | 1 => .array .byte
  | 2 => .array .byte
  | 3 => .array .byte
  | 4 => .array .byte
  | 5 => .int
  | 6 => .int
  | 7 => .int
  | 8 => .int
  | 9 => .int
  | 10 => .int
  | 11 => .int
  | 12 => .array .int
  | 13 => .array .int
  | 14 => .array .int
  | 15 => .array .int
  | 16 => .array .int
  | 17 => .array .int
  | 18 => .array .int
  | 19 => .array .int
  | 20 => .array .boolean
  | _ => .int
theorem n_MD : ∀ a, a < 22 → ∀ b, b < 22 → a ≠ b → (F_MD a).2.1 ≠ (F_MD b).2.1 := by decide +kernel
theorem t_MD_ok : ∀ k, k < 22 → parseFieldDescriptor (F_MD k).2.2.1 = some (t_MD k) := by decide +kernel
abbrev classes : List vw_C := [("SuffixIndex$ByteRow", F_BR, 2), ("SuffixIndex$Library", F_LB, 5), ("SuffixIndex$Sorter", F_SO, 4), ("SuffixIndex$SuffixOrder", F_OR, 10), ("SuffixIndex$Search", F_SE, 11), ("SuffixIndex$Window", F_WI, 8), ("SuffixIndex$PhraseBook", F_PB, 6), ("SuffixIndex", F_SI, 7), ("SuffixIndexModel", F_MD, 22)]
set_option maxRecDepth 100000 in
theorem m_1001 : Cond.methodLink "SuffixIndex$SuffixOrder" 73 ⟨"SuffixIndex$SuffixOrder", "rankOfPiece", "(J)I"⟩ ∈ WT := wt_t5 41 rfl rfl
set_option maxRecDepth 100000 in
theorem m_1030 : Cond.methodLink "SuffixIndex$PhraseBook" 33 ⟨"SuffixIndex$PhraseBook", "cutDocument", "(I)V"⟩ ∈ WT := wt_t5 70 rfl rfl
set_option maxRecDepth 100000 in
theorem m_1032 : Cond.instanceMethod ⟨"SuffixIndex$PhraseBook", "cutDocument", "(I)V"⟩ ∈ WT := wt_t5 72 rfl rfl
set_option maxRecDepth 100000 in
theorem m_1033 : Cond.code ⟨"SuffixIndex$PhraseBook", "cutDocument", "(I)V"⟩ prog_4_method_4_code 6 none ∈ WT := wt_t5 73 rfl rfl
set_option maxRecDepth 100000 in
theorem m_1034 : Cond.methodLink "SuffixIndex$PhraseBook" 42 ⟨"SuffixIndex$Library", "endOf", "(I)I"⟩ ∈ WT := wt_t5 74 rfl rfl
set_option maxRecDepth 100000 in
theorem m_1035 : Cond.methodLink "SuffixIndex$PhraseBook" 46 ⟨"SuffixIndex$PhraseBook", "findEarlier", "(II)V"⟩ ∈ WT := wt_t5 75 rfl rfl
set_option maxRecDepth 100000 in
theorem m_1037 : Cond.instanceMethod ⟨"SuffixIndex$PhraseBook", "findEarlier", "(II)V"⟩ ∈ WT := wt_t5 77 rfl rfl
set_option maxRecDepth 100000 in
theorem m_1038 : Cond.code ⟨"SuffixIndex$PhraseBook", "findEarlier", "(II)V"⟩ prog_4_method_6_code 3 none ∈ WT := wt_t5 78 rfl rfl
set_option maxRecDepth 100000 in
theorem m_1039 : Cond.methodLink "SuffixIndex$PhraseBook" 71 ⟨"SuffixIndex$PhraseBook", "walkFrom", "(III)V"⟩ ∈ WT := wt_t5 79 rfl rfl
set_option maxRecDepth 100000 in
theorem m_104 : Cond.fieldLink "SuffixIndex$Sorter" 9 "SuffixIndex$Sorter" "byTail" "[I" ∈ WT := wt_t1 104 rfl rfl
set_option maxRecDepth 100000 in
theorem m_1041 : Cond.instanceMethod ⟨"SuffixIndex$PhraseBook", "walkFrom", "(III)V"⟩ ∈ WT := wt_t5 81 rfl rfl
set_option maxRecDepth 100000 in
theorem m_1042 : Cond.code ⟨"SuffixIndex$PhraseBook", "walkFrom", "(III)V"⟩ prog_4_method_7_code 7 none ∈ WT := wt_t5 82 rfl rfl
set_option maxRecDepth 100000 in
theorem m_1043 : Cond.methodLink "SuffixIndex$PhraseBook" 58 ⟨"java/lang/Math", "max", "(II)I"⟩ ∈ WT := wt_t5 83 rfl rfl
set_option maxRecDepth 100000 in
theorem m_1044 : Cond.methodLink "SuffixIndex$PhraseBook" 89 ⟨"java/lang/Math", "min", "(II)I"⟩ ∈ WT := wt_t5 84 rfl rfl
set_option maxRecDepth 100000 in
theorem m_1045 : Cond.methodLink "SuffixIndex$PhraseBook" 92 ⟨"SuffixIndex$PhraseBook", "isTooShort", "(I)Z"⟩ ∈ WT := wt_t5 85 rfl rfl
set_option maxRecDepth 100000 in
theorem m_1047 : Cond.instanceMethod ⟨"SuffixIndex$PhraseBook", "isTooShort", "(I)Z"⟩ ∈ WT := wt_t5 87 rfl rfl
set_option maxRecDepth 100000 in
theorem m_1048 : Cond.code ⟨"SuffixIndex$PhraseBook", "isTooShort", "(I)Z"⟩ prog_4_method_8_code 2 (some .boolean) ∈ WT := wt_t5 88 rfl rfl
set_option maxRecDepth 100000 in
theorem m_1049 : Cond.methodLink "SuffixIndex$PhraseBook" 99 ⟨"SuffixIndex$PhraseBook", "keepEarlier", "(IIII)V"⟩ ∈ WT := wt_t5 89 rfl rfl
set_option maxRecDepth 100000 in
theorem m_105 : Cond.fieldLink "SuffixIndex$Sorter" 15 "SuffixIndex$Sorter" "newRanks" "[I" ∈ WT := wt_t1 105 rfl rfl
set_option maxRecDepth 100000 in
theorem m_1051 : Cond.instanceMethod ⟨"SuffixIndex$PhraseBook", "keepEarlier", "(IIII)V"⟩ ∈ WT := wt_t5 91 rfl rfl
set_option maxRecDepth 100000 in
theorem m_1052 : Cond.code ⟨"SuffixIndex$PhraseBook", "keepEarlier", "(IIII)V"⟩ prog_4_method_9_code 5 none ∈ WT := wt_t5 92 rfl rfl
set_option maxRecDepth 100000 in
theorem m_1053 : Cond.methodLink "SuffixIndex$PhraseBook" 50 ⟨"SuffixIndex$PhraseBook", "answerFor", "(I)J"⟩ ∈ WT := wt_t5 93 rfl rfl
set_option maxRecDepth 100000 in
theorem m_1055 : Cond.instanceMethod ⟨"SuffixIndex$PhraseBook", "answerFor", "(I)J"⟩ ∈ WT := wt_t5 95 rfl rfl
set_option maxRecDepth 100000 in
theorem m_1056 : Cond.code ⟨"SuffixIndex$PhraseBook", "answerFor", "(I)J"⟩ prog_4_method_5_code 2 (some .long) ∈ WT := wt_t5 96 rfl rfl
set_option maxRecDepth 100000 in
theorem m_1057 : Cond.constantLong "SuffixIndex$PhraseBook" 64 131071 ∈ WT := wt_t5 97 rfl rfl
set_option maxRecDepth 100000 in
theorem m_1058 : Cond.constantLong "SuffixIndex$PhraseBook" 66 65536 ∈ WT := wt_t5 98 rfl rfl
set_option maxRecDepth 100000 in
theorem m_106 : Cond.fieldLink "SuffixIndex$Sorter" 18 "SuffixIndex$Sorter" "tally" "[I" ∈ WT := wt_t1 106 rfl rfl
set_option maxRecDepth 100000 in
theorem m_107 : Cond.fieldLink "SuffixIndex$Sorter" 21 "SuffixIndex$Sorter" "size" "I" ∈ WT := wt_t1 107 rfl rfl
set_option maxRecDepth 100000 in
theorem m_108 : Cond.laysFinal "SuffixIndex$Sorter" "SuffixIndex$Sorter" "byTail" "[I" ∈ WT := wt_t1 108 rfl rfl
set_option maxRecDepth 100000 in
theorem m_110 : Cond.laysFinal "SuffixIndex$Sorter" "SuffixIndex$Sorter" "newRanks" "[I" ∈ WT := wt_t1 110 rfl rfl
set_option maxRecDepth 100000 in
theorem m_1101 : Cond.fieldLink "SuffixIndexModel" 7 "SuffixIndexModel" "thrown" "I" ∈ WT := wt_t5 141 rfl rfl
set_option maxRecDepth 100000 in
theorem m_1102 : Cond.fieldLink "SuffixIndexModel" 13 "SuffixIndexModel" "tape" "[B" ∈ WT := wt_t5 142 rfl rfl
set_option maxRecDepth 100000 in
theorem m_1103 : Cond.fieldLink "SuffixIndexModel" 17 "SuffixIndexModel" "row" "[B" ∈ WT := wt_t5 143 rfl rfl
set_option maxRecDepth 100000 in
theorem m_1104 : Cond.fieldLink "SuffixIndexModel" 20 "SuffixIndexModel" "out" "[B" ∈ WT := wt_t5 144 rfl rfl
set_option maxRecDepth 100000 in
theorem m_1105 : Cond.fieldLink "SuffixIndexModel" 23 "SuffixIndexModel" "sought" "[B" ∈ WT := wt_t5 145 rfl rfl
set_option maxRecDepth 100000 in
theorem m_1106 : Cond.fieldLink "SuffixIndexModel" 26 "SuffixIndexModel" "size" "I" ∈ WT := wt_t5 146 rfl rfl
set_option maxRecDepth 100000 in
theorem m_1107 : Cond.fieldLink "SuffixIndexModel" 29 "SuffixIndexModel" "outSize" "I" ∈ WT := wt_t5 147 rfl rfl
set_option maxRecDepth 100000 in
theorem m_1108 : Cond.fieldLink "SuffixIndexModel" 32 "SuffixIndexModel" "soughtSize" "I" ∈ WT := wt_t5 148 rfl rfl
set_option maxRecDepth 100000 in
theorem m_1109 : Cond.fieldLink "SuffixIndexModel" 35 "SuffixIndexModel" "documents" "I" ∈ WT := wt_t5 149 rfl rfl
set_option maxRecDepth 100000 in
theorem m_1110 : Cond.fieldLink "SuffixIndexModel" 38 "SuffixIndexModel" "indexed" "I" ∈ WT := wt_t5 150 rfl rfl
set_option maxRecDepth 100000 in
theorem m_1111 : Cond.fieldLink "SuffixIndexModel" 41 "SuffixIndexModel" "suffixes" "I" ∈ WT := wt_t5 151 rfl rfl
set_option maxRecDepth 100000 in
theorem m_1112 : Cond.fieldLink "SuffixIndexModel" 44 "SuffixIndexModel" "rows" "I" ∈ WT := wt_t5 152 rfl rfl
set_option maxRecDepth 100000 in
theorem m_1113 : Cond.fieldLink "SuffixIndexModel" 47 "SuffixIndexModel" "start" "[I" ∈ WT := wt_t5 153 rfl rfl
set_option maxRecDepth 100000 in
theorem m_1114 : Cond.fieldLink "SuffixIndexModel" 51 "SuffixIndexModel" "documentOf" "[I" ∈ WT := wt_t5 154 rfl rfl
set_option maxRecDepth 100000 in
theorem m_1115 : Cond.fieldLink "SuffixIndexModel" 54 "SuffixIndexModel" "order" "[I" ∈ WT := wt_t5 155 rfl rfl
set_option maxRecDepth 100000 in
theorem m_1116 : Cond.fieldLink "SuffixIndexModel" 57 "SuffixIndexModel" "rankOf" "[I" ∈ WT := wt_t5 156 rfl rfl
set_option maxRecDepth 100000 in
theorem m_1117 : Cond.fieldLink "SuffixIndexModel" 60 "SuffixIndexModel" "same" "[I" ∈ WT := wt_t5 157 rfl rfl
set_option maxRecDepth 100000 in
theorem m_1118 : Cond.fieldLink "SuffixIndexModel" 63 "SuffixIndexModel" "work" "[I" ∈ WT := wt_t5 158 rfl rfl
set_option maxRecDepth 100000 in
theorem m_1119 : Cond.fieldLink "SuffixIndexModel" 66 "SuffixIndexModel" "next" "[I" ∈ WT := wt_t5 159 rfl rfl
set_option maxRecDepth 100000 in
theorem m_112 : Cond.laysFinal "SuffixIndex$Sorter" "SuffixIndex$Sorter" "tally" "[I" ∈ WT := wt_t1 112 rfl rfl
set_option maxRecDepth 100000 in
theorem m_1120 : Cond.fieldLink "SuffixIndexModel" 69 "SuffixIndexModel" "often" "[I" ∈ WT := wt_t5 160 rfl rfl
set_option maxRecDepth 100000 in
theorem m_1121 : Cond.fieldLink "SuffixIndexModel" 72 "SuffixIndexModel" "has" "[Z" ∈ WT := wt_t5 161 rfl rfl
set_option maxRecDepth 100000 in
theorem m_1122 : Cond.fieldLink "SuffixIndexModel" 76 "SuffixIndexModel" "lesser" "I" ∈ WT := wt_t5 162 rfl rfl
set_option maxRecDepth 100000 in
theorem m_1123 : Cond.lays "SuffixIndexModel" "SuffixIndexModel" "thrown" "I" ∈ WT := wt_t5 163 rfl rfl
set_option maxRecDepth 100000 in
theorem m_1125 : Cond.laysFinal "SuffixIndexModel" "SuffixIndexModel" "tape" "[B" ∈ WT := wt_t5 165 rfl rfl
set_option maxRecDepth 100000 in
theorem m_1127 : Cond.laysFinal "SuffixIndexModel" "SuffixIndexModel" "row" "[B" ∈ WT := wt_t5 167 rfl rfl
set_option maxRecDepth 100000 in
theorem m_1129 : Cond.laysFinal "SuffixIndexModel" "SuffixIndexModel" "out" "[B" ∈ WT := wt_t5 169 rfl rfl
set_option maxRecDepth 100000 in
theorem m_1131 : Cond.laysFinal "SuffixIndexModel" "SuffixIndexModel" "sought" "[B" ∈ WT := wt_t5 171 rfl rfl
set_option maxRecDepth 100000 in
theorem m_1133 : Cond.lays "SuffixIndexModel" "SuffixIndexModel" "size" "I" ∈ WT := wt_t5 173 rfl rfl
set_option maxRecDepth 100000 in
theorem m_1135 : Cond.lays "SuffixIndexModel" "SuffixIndexModel" "outSize" "I" ∈ WT := wt_t5 175 rfl rfl
set_option maxRecDepth 100000 in
theorem m_1137 : Cond.lays "SuffixIndexModel" "SuffixIndexModel" "soughtSize" "I" ∈ WT := wt_t5 177 rfl rfl
set_option maxRecDepth 100000 in
theorem m_1139 : Cond.lays "SuffixIndexModel" "SuffixIndexModel" "documents" "I" ∈ WT := wt_t5 179 rfl rfl
set_option maxRecDepth 100000 in
theorem m_114 : Cond.lays "SuffixIndex$Sorter" "SuffixIndex$Sorter" "size" "I" ∈ WT := wt_t1 114 rfl rfl
set_option maxRecDepth 100000 in
theorem m_1141 : Cond.lays "SuffixIndexModel" "SuffixIndexModel" "indexed" "I" ∈ WT := wt_t5 181 rfl rfl
set_option maxRecDepth 100000 in
theorem m_1143 : Cond.lays "SuffixIndexModel" "SuffixIndexModel" "suffixes" "I" ∈ WT := wt_t5 183 rfl rfl
set_option maxRecDepth 100000 in
theorem m_1145 : Cond.lays "SuffixIndexModel" "SuffixIndexModel" "rows" "I" ∈ WT := wt_t5 185 rfl rfl
set_option maxRecDepth 100000 in
theorem m_1147 : Cond.laysFinal "SuffixIndexModel" "SuffixIndexModel" "start" "[I" ∈ WT := wt_t5 187 rfl rfl
set_option maxRecDepth 100000 in
theorem m_1149 : Cond.laysFinal "SuffixIndexModel" "SuffixIndexModel" "documentOf" "[I" ∈ WT := wt_t5 189 rfl rfl
set_option maxRecDepth 100000 in
theorem m_1151 : Cond.laysFinal "SuffixIndexModel" "SuffixIndexModel" "order" "[I" ∈ WT := wt_t5 191 rfl rfl
set_option maxRecDepth 100000 in
theorem m_1153 : Cond.laysFinal "SuffixIndexModel" "SuffixIndexModel" "rankOf" "[I" ∈ WT := wt_t5 193 rfl rfl
set_option maxRecDepth 100000 in
theorem m_1155 : Cond.laysFinal "SuffixIndexModel" "SuffixIndexModel" "same" "[I" ∈ WT := wt_t5 195 rfl rfl
set_option maxRecDepth 100000 in
theorem m_1157 : Cond.laysFinal "SuffixIndexModel" "SuffixIndexModel" "work" "[I" ∈ WT := wt_t5 197 rfl rfl
set_option maxRecDepth 100000 in
theorem m_1159 : Cond.laysFinal "SuffixIndexModel" "SuffixIndexModel" "next" "[I" ∈ WT := wt_t5 199 rfl rfl
set_option maxRecDepth 100000 in
theorem m_1161 : Cond.laysFinal "SuffixIndexModel" "SuffixIndexModel" "often" "[I" ∈ WT := wt_t5 201 rfl rfl
set_option maxRecDepth 100000 in
theorem m_1163 : Cond.laysFinal "SuffixIndexModel" "SuffixIndexModel" "has" "[Z" ∈ WT := wt_t5 203 rfl rfl
set_option maxRecDepth 100000 in
theorem m_1165 : Cond.lays "SuffixIndexModel" "SuffixIndexModel" "lesser" "I" ∈ WT := wt_t5 205 rfl rfl
set_option maxRecDepth 100000 in
theorem m_1177 : Cond.methodLink "SuffixIndexModel" 79 ⟨"SuffixIndexModel", "refuse", "(IZ)Z"⟩ ∈ WT := wt_t5 217 rfl rfl
set_option maxRecDepth 100000 in
theorem m_1179 : Cond.instanceMethod ⟨"SuffixIndexModel", "refuse", "(IZ)Z"⟩ ∈ WT := wt_t5 219 rfl rfl
set_option maxRecDepth 100000 in
theorem m_118 : Cond.fieldLink "SuffixIndex$SuffixOrder" 9 "SuffixIndex$SuffixOrder" "sorted" "[I" ∈ WT := wt_t1 118 rfl rfl
set_option maxRecDepth 100000 in
theorem m_1180 : Cond.code ⟨"SuffixIndexModel", "refuse", "(IZ)Z"⟩ prog_10_method_3_code 3 (some .boolean) ∈ WT := wt_t5 220 rfl rfl
set_option maxRecDepth 100000 in
theorem m_119 : Cond.fieldLink "SuffixIndex$Window" 72 "SuffixIndex$SuffixOrder" "sorted" "[I" ∈ WT := wt_t1 119 rfl rfl
set_option maxRecDepth 100000 in
theorem m_1197 : Cond.methodLink "SuffixIndexModel" 91 ⟨"SuffixIndexModel", "sort", "(III)V"⟩ ∈ WT := wt_t5 237 rfl rfl
set_option maxRecDepth 100000 in
theorem m_1199 : Cond.instanceMethod ⟨"SuffixIndexModel", "sort", "(III)V"⟩ ∈ WT := wt_t5 239 rfl rfl
set_option maxRecDepth 100000 in
theorem m_120 : Cond.fieldLink "SuffixIndex$PhraseBook" 96 "SuffixIndex$SuffixOrder" "sorted" "[I" ∈ WT := wt_t1 120 rfl rfl
set_option maxRecDepth 100000 in
theorem m_1200 : Cond.code ⟨"SuffixIndexModel", "sort", "(III)V"⟩ prog_10_method_11_code 9 none ∈ WT := wt_t6 0 rfl rfl
set_option maxRecDepth 100000 in
theorem m_1201 : Cond.methodLink "SuffixIndexModel" 95 ⟨"SuffixIndexModel", "compare", "(III)I"⟩ ∈ WT := wt_t6 1 rfl rfl
set_option maxRecDepth 100000 in
theorem m_1203 : Cond.instanceMethod ⟨"SuffixIndexModel", "compare", "(III)I"⟩ ∈ WT := wt_t6 3 rfl rfl
set_option maxRecDepth 100000 in
theorem m_1204 : Cond.code ⟨"SuffixIndexModel", "compare", "(III)I"⟩ prog_10_method_10_code 4 (some .int) ∈ WT := wt_t6 4 rfl rfl
set_option maxRecDepth 100000 in
theorem m_1205 : Cond.methodLink "SuffixIndexModel" 87 ⟨"SuffixIndexModel", "rankAt", "(II)I"⟩ ∈ WT := wt_t6 5 rfl rfl
set_option maxRecDepth 100000 in
theorem m_1207 : Cond.instanceMethod ⟨"SuffixIndexModel", "rankAt", "(II)I"⟩ ∈ WT := wt_t6 7 rfl rfl
set_option maxRecDepth 100000 in
theorem m_1208 : Cond.code ⟨"SuffixIndexModel", "rankAt", "(II)I"⟩ prog_10_method_9_code 3 (some .int) ∈ WT := wt_t6 8 rfl rfl
set_option maxRecDepth 100000 in
theorem m_1209 : Cond.methodLink "SuffixIndexModel" 83 ⟨"SuffixIndexModel", "endOf", "(I)I"⟩ ∈ WT := wt_t6 9 rfl rfl
set_option maxRecDepth 100000 in
theorem m_1211 : Cond.instanceMethod ⟨"SuffixIndexModel", "endOf", "(I)I"⟩ ∈ WT := wt_t6 11 rfl rfl
set_option maxRecDepth 100000 in
theorem m_1212 : Cond.code ⟨"SuffixIndexModel", "endOf", "(I)I"⟩ prog_10_method_8_code 2 (some .int) ∈ WT := wt_t6 12 rfl rfl
set_option maxRecDepth 100000 in
theorem m_1213 : Cond.methodLink "SuffixIndexModel" 99 ⟨"SuffixIndexModel", "alike", "(II)I"⟩ ∈ WT := wt_t6 13 rfl rfl
set_option maxRecDepth 100000 in
theorem m_1215 : Cond.instanceMethod ⟨"SuffixIndexModel", "alike", "(II)I"⟩ ∈ WT := wt_t6 15 rfl rfl
set_option maxRecDepth 100000 in
theorem m_1216 : Cond.code ⟨"SuffixIndexModel", "alike", "(II)I"⟩ prog_10_method_13_code 4 (some .int) ∈ WT := wt_t6 16 rfl rfl
set_option maxRecDepth 100000 in
theorem m_122 : Cond.fieldLink "SuffixIndex$SuffixOrder" 15 "SuffixIndex$SuffixOrder" "ranks" "[I" ∈ WT := wt_t1 122 rfl rfl
set_option maxRecDepth 100000 in
theorem m_1221 : Cond.methodLink "SuffixIndexModel" 104 ⟨"SuffixIndexModel", "stands", "(I)Z"⟩ ∈ WT := wt_t6 21 rfl rfl
set_option maxRecDepth 100000 in
theorem m_1223 : Cond.instanceMethod ⟨"SuffixIndexModel", "stands", "(I)Z"⟩ ∈ WT := wt_t6 23 rfl rfl
set_option maxRecDepth 100000 in
theorem m_1224 : Cond.code ⟨"SuffixIndexModel", "stands", "(I)Z"⟩ prog_10_method_16_code 3 (some .boolean) ∈ WT := wt_t6 24 rfl rfl
set_option maxRecDepth 100000 in
theorem m_1229 : Cond.methodLink "SuffixIndexModel" 108 ⟨"SuffixIndexModel", "where", "(I)I"⟩ ∈ WT := wt_t6 29 rfl rfl
set_option maxRecDepth 100000 in
theorem m_123 : Cond.fieldLink "SuffixIndex$Search" 105 "SuffixIndex$SuffixOrder" "ranks" "[I" ∈ WT := wt_t1 123 rfl rfl
set_option maxRecDepth 100000 in
theorem m_1231 : Cond.instanceMethod ⟨"SuffixIndexModel", "where", "(I)I"⟩ ∈ WT := wt_t6 31 rfl rfl
set_option maxRecDepth 100000 in
theorem m_1232 : Cond.code ⟨"SuffixIndexModel", "where", "(I)I"⟩ prog_10_method_14_code 2 (some .int) ∈ WT := wt_t6 32 rfl rfl
set_option maxRecDepth 100000 in
theorem m_1233 : Cond.constant "SuffixIndexModel" 102 65536 ∈ WT := wt_t6 33 rfl rfl
set_option maxRecDepth 100000 in
theorem m_124 : Cond.fieldLink "SuffixIndex$PhraseBook" 75 "SuffixIndex$SuffixOrder" "ranks" "[I" ∈ WT := wt_t1 124 rfl rfl
set_option maxRecDepth 100000 in
theorem m_1242 : Cond.methodLink "SuffixIndexModel" 111 ⟨"SuffixIndexModel", "tell", "(II)V"⟩ ∈ WT := wt_t6 42 rfl rfl
set_option maxRecDepth 100000 in
theorem m_1244 : Cond.instanceMethod ⟨"SuffixIndexModel", "tell", "(II)V"⟩ ∈ WT := wt_t6 44 rfl rfl
set_option maxRecDepth 100000 in
theorem m_1245 : Cond.code ⟨"SuffixIndexModel", "tell", "(II)V"⟩ prog_10_method_20_code 4 none ∈ WT := wt_t6 45 rfl rfl
set_option maxRecDepth 100000 in
theorem m_1250 : Cond.methodLink "SuffixIndexModel" 115 ⟨"java/lang/Math", "max", "(II)I"⟩ ∈ WT := wt_t6 50 rfl rfl
set_option maxRecDepth 100000 in
theorem m_1259 : Cond.methodLink "SuffixIndexModel" 120 ⟨"SuffixIndexModel", "placeOf", "(I)I"⟩ ∈ WT := wt_t6 59 rfl rfl
set_option maxRecDepth 100000 in
theorem m_126 : Cond.fieldLink "SuffixIndex$SuffixOrder" 18 "SuffixIndex$SuffixOrder" "alikeBefore" "[I" ∈ WT := wt_t1 126 rfl rfl
set_option maxRecDepth 100000 in
theorem m_1261 : Cond.instanceMethod ⟨"SuffixIndexModel", "placeOf", "(I)I"⟩ ∈ WT := wt_t6 61 rfl rfl
set_option maxRecDepth 100000 in
theorem m_1262 : Cond.code ⟨"SuffixIndexModel", "placeOf", "(I)I"⟩ prog_10_method_15_code 4 (some .int) ∈ WT := wt_t6 62 rfl rfl
set_option maxRecDepth 100000 in
theorem m_1263 : Cond.constant "SuffixIndexModel" 103 65535 ∈ WT := wt_t6 63 rfl rfl
set_option maxRecDepth 100000 in
theorem m_127 : Cond.fieldLink "SuffixIndex$Search" 91 "SuffixIndex$SuffixOrder" "alikeBefore" "[I" ∈ WT := wt_t1 127 rfl rfl
set_option maxRecDepth 100000 in
theorem m_1272 : Cond.methodLink "SuffixIndexModel" 123 ⟨"java/lang/Math", "min", "(II)I"⟩ ∈ WT := wt_t6 72 rfl rfl
set_option maxRecDepth 100000 in
theorem m_128 : Cond.fieldLink "SuffixIndex$Window" 75 "SuffixIndex$SuffixOrder" "alikeBefore" "[I" ∈ WT := wt_t1 128 rfl rfl
set_option maxRecDepth 100000 in
theorem m_1289 : Cond.methodLink "SuffixIndexModel" 126 ⟨"SuffixIndexModel", "noDocument", "(I)Z"⟩ ∈ WT := wt_t6 89 rfl rfl
set_option maxRecDepth 100000 in
theorem m_129 : Cond.fieldLink "SuffixIndex$PhraseBook" 86 "SuffixIndex$SuffixOrder" "alikeBefore" "[I" ∈ WT := wt_t1 129 rfl rfl
set_option maxRecDepth 100000 in
theorem m_1291 : Cond.instanceMethod ⟨"SuffixIndexModel", "noDocument", "(I)Z"⟩ ∈ WT := wt_t6 91 rfl rfl
set_option maxRecDepth 100000 in
theorem m_1292 : Cond.code ⟨"SuffixIndexModel", "noDocument", "(I)Z"⟩ prog_10_method_30_code 2 (some .boolean) ∈ WT := wt_t6 92 rfl rfl
set_option maxRecDepth 100000 in
theorem m_1297 : Cond.methodLink "SuffixIndexModel" 129 ⟨"SuffixIndexModel", "phraseAt", "(II)I"⟩ ∈ WT := wt_t6 97 rfl rfl
set_option maxRecDepth 100000 in
theorem m_1299 : Cond.instanceMethod ⟨"SuffixIndexModel", "phraseAt", "(II)I"⟩ ∈ WT := wt_t6 99 rfl rfl
set_option maxRecDepth 100000 in
theorem m_130 : Cond.fieldLink "SuffixIndex$SuffixOrder" 21 "SuffixIndex$SuffixOrder" "piecesUpTo" "[J" ∈ WT := wt_t1 130 rfl rfl
set_option maxRecDepth 100000 in
theorem m_1300 : Cond.code ⟨"SuffixIndexModel", "phraseAt", "(II)I"⟩ prog_10_method_32_code 6 (some .int) ∈ WT := wt_t6 100 rfl rfl
set_option maxRecDepth 100000 in
theorem m_1305 : Cond.constantLong "SuffixIndexModel" 132 65536 ∈ WT := wt_t6 105 rfl rfl
set_option maxRecDepth 100000 in
theorem m_131 : Cond.fieldLink "SuffixIndex$SuffixOrder" 28 "SuffixIndex$SuffixOrder" "sorter" "LSuffixIndex$Sorter;" ∈ WT := wt_t1 131 rfl rfl
set_option maxRecDepth 100000 in
theorem m_132 : Cond.fieldLink "SuffixIndex$SuffixOrder" 32 "SuffixIndex$SuffixOrder" "library" "LSuffixIndex$Library;" ∈ WT := wt_t1 132 rfl rfl
set_option maxRecDepth 100000 in
theorem m_133 : Cond.fieldLink "SuffixIndex$SuffixOrder" 42 "SuffixIndex$SuffixOrder" "first" "I" ∈ WT := wt_t1 133 rfl rfl
set_option maxRecDepth 100000 in
theorem m_134 : Cond.fieldLink "SuffixIndex$Window" 45 "SuffixIndex$SuffixOrder" "first" "I" ∈ WT := wt_t1 134 rfl rfl
set_option maxRecDepth 100000 in
theorem m_135 : Cond.fieldLink "SuffixIndex$PhraseBook" 80 "SuffixIndex$SuffixOrder" "first" "I" ∈ WT := wt_t1 135 rfl rfl
set_option maxRecDepth 100000 in
theorem m_137 : Cond.fieldLink "SuffixIndex$SuffixOrder" 49 "SuffixIndex$SuffixOrder" "size" "I" ∈ WT := wt_t1 137 rfl rfl
set_option maxRecDepth 100000 in
theorem m_138 : Cond.fieldLink "SuffixIndex$Window" 50 "SuffixIndex$SuffixOrder" "size" "I" ∈ WT := wt_t1 138 rfl rfl
set_option maxRecDepth 100000 in
theorem m_139 : Cond.fieldLink "SuffixIndex$Search" 88 "SuffixIndex$SuffixOrder" "size" "I" ∈ WT := wt_t1 139 rfl rfl
set_option maxRecDepth 100000 in
theorem m_140 : Cond.fieldLink "SuffixIndex$PhraseBook" 83 "SuffixIndex$SuffixOrder" "size" "I" ∈ WT := wt_t1 140 rfl rfl
set_option maxRecDepth 100000 in
theorem m_141 : Cond.fieldLink "SuffixIndex$Search" 77 "SuffixIndex$SuffixOrder" "locatedRank" "I" ∈ WT := wt_t1 141 rfl rfl
set_option maxRecDepth 100000 in
theorem m_142 : Cond.fieldLink "SuffixIndex$SuffixOrder" 94 "SuffixIndex$SuffixOrder" "locatedRank" "I" ∈ WT := wt_t1 142 rfl rfl
set_option maxRecDepth 100000 in
theorem m_143 : Cond.fieldLink "SuffixIndex$Search" 74 "SuffixIndex$SuffixOrder" "locatedLength" "I" ∈ WT := wt_t1 143 rfl rfl
set_option maxRecDepth 100000 in
theorem m_144 : Cond.fieldLink "SuffixIndex$SuffixOrder" 97 "SuffixIndex$SuffixOrder" "locatedLength" "I" ∈ WT := wt_t1 144 rfl rfl
set_option maxRecDepth 100000 in
theorem m_145 : Cond.laysFinal "SuffixIndex$SuffixOrder" "SuffixIndex$SuffixOrder" "sorted" "[I" ∈ WT := wt_t1 145 rfl rfl
set_option maxRecDepth 100000 in
theorem m_147 : Cond.laysFinal "SuffixIndex$SuffixOrder" "SuffixIndex$SuffixOrder" "ranks" "[I" ∈ WT := wt_t1 147 rfl rfl
set_option maxRecDepth 100000 in
theorem m_149 : Cond.laysFinal "SuffixIndex$SuffixOrder" "SuffixIndex$SuffixOrder" "alikeBefore" "[I" ∈ WT := wt_t1 149 rfl rfl
set_option maxRecDepth 100000 in
theorem m_15 : Cond.initialized "java/lang/System" ∈ WT := wt_t1 15 rfl rfl
set_option maxRecDepth 100000 in
theorem m_151 : Cond.laysFinal "SuffixIndex$SuffixOrder" "SuffixIndex$SuffixOrder" "piecesUpTo" "[J" ∈ WT := wt_t1 151 rfl rfl
set_option maxRecDepth 100000 in
theorem m_153 : Cond.laysFinal "SuffixIndex$SuffixOrder" "SuffixIndex$SuffixOrder" "sorter" "LSuffixIndex$Sorter;" ∈ WT := wt_t1 153 rfl rfl
set_option maxRecDepth 100000 in
theorem m_155 : Cond.laysFinal "SuffixIndex$SuffixOrder" "SuffixIndex$SuffixOrder" "library" "LSuffixIndex$Library;" ∈ WT := wt_t1 155 rfl rfl
set_option maxRecDepth 100000 in
theorem m_157 : Cond.lays "SuffixIndex$SuffixOrder" "SuffixIndex$SuffixOrder" "first" "I" ∈ WT := wt_t1 157 rfl rfl
set_option maxRecDepth 100000 in
theorem m_159 : Cond.lays "SuffixIndex$SuffixOrder" "SuffixIndex$SuffixOrder" "size" "I" ∈ WT := wt_t1 159 rfl rfl
set_option maxRecDepth 100000 in
theorem m_16 : Cond.initialized "java/util/Arrays" ∈ WT := wt_t1 16 rfl rfl
set_option maxRecDepth 100000 in
theorem m_161 : Cond.lays "SuffixIndex$SuffixOrder" "SuffixIndex$SuffixOrder" "locatedRank" "I" ∈ WT := wt_t1 161 rfl rfl
set_option maxRecDepth 100000 in
theorem m_163 : Cond.lays "SuffixIndex$SuffixOrder" "SuffixIndex$SuffixOrder" "locatedLength" "I" ∈ WT := wt_t1 163 rfl rfl
set_option maxRecDepth 100000 in
theorem m_174 : Cond.fieldLink "SuffixIndex$Search" 14 "SuffixIndex$Search" "sought" "LSuffixIndex$ByteRow;" ∈ WT := wt_t1 174 rfl rfl
set_option maxRecDepth 100000 in
theorem m_176 : Cond.fieldLink "SuffixIndex$Search" 20 "SuffixIndex$Search" "wheres" "[I" ∈ WT := wt_t1 176 rfl rfl
set_option maxRecDepth 100000 in
theorem m_178 : Cond.fieldLink "SuffixIndex$Search" 45 "SuffixIndex$Search" "hits" "I" ∈ WT := wt_t1 178 rfl rfl
set_option maxRecDepth 100000 in
theorem m_180 : Cond.fieldLink "SuffixIndex$Search" 48 "SuffixIndex$Search" "documentsHit" "I" ∈ WT := wt_t1 180 rfl rfl
set_option maxRecDepth 100000 in
theorem m_182 : Cond.fieldLink "SuffixIndex$Search" 24 "SuffixIndex$Search" "nearHits" "[I" ∈ WT := wt_t1 182 rfl rfl
set_option maxRecDepth 100000 in
theorem m_184 : Cond.fieldLink "SuffixIndex$Search" 27 "SuffixIndex$Search" "nearLast" "[I" ∈ WT := wt_t1 184 rfl rfl
set_option maxRecDepth 100000 in
theorem m_186 : Cond.fieldLink "SuffixIndex$Search" 30 "SuffixIndex$Search" "documentKeys" "[I" ∈ WT := wt_t1 186 rfl rfl
set_option maxRecDepth 100000 in
theorem m_187 : Cond.fieldLink "SuffixIndex$Search" 33 "SuffixIndex$Search" "library" "LSuffixIndex$Library;" ∈ WT := wt_t1 187 rfl rfl
set_option maxRecDepth 100000 in
theorem m_188 : Cond.fieldLink "SuffixIndex$Search" 37 "SuffixIndex$Search" "order" "LSuffixIndex$SuffixOrder;" ∈ WT := wt_t1 188 rfl rfl
set_option maxRecDepth 100000 in
theorem m_189 : Cond.fieldLink "SuffixIndex$Search" 51 "SuffixIndex$Search" "nearKnown" "Z" ∈ WT := wt_t1 189 rfl rfl
set_option maxRecDepth 100000 in
theorem m_190 : Cond.fieldLink "SuffixIndex$Search" 55 "SuffixIndex$Search" "matchedSum" "I" ∈ WT := wt_t1 190 rfl rfl
set_option maxRecDepth 100000 in
theorem m_191 : Cond.laysFinal "SuffixIndex$Search" "SuffixIndex$Search" "sought" "LSuffixIndex$ByteRow;" ∈ WT := wt_t1 191 rfl rfl
set_option maxRecDepth 100000 in
theorem m_193 : Cond.laysFinal "SuffixIndex$Search" "SuffixIndex$Search" "wheres" "[I" ∈ WT := wt_t1 193 rfl rfl
set_option maxRecDepth 100000 in
theorem m_195 : Cond.lays "SuffixIndex$Search" "SuffixIndex$Search" "hits" "I" ∈ WT := wt_t1 195 rfl rfl
set_option maxRecDepth 100000 in
theorem m_197 : Cond.lays "SuffixIndex$Search" "SuffixIndex$Search" "documentsHit" "I" ∈ WT := wt_t1 197 rfl rfl
set_option maxRecDepth 100000 in
theorem m_199 : Cond.laysFinal "SuffixIndex$Search" "SuffixIndex$Search" "nearHits" "[I" ∈ WT := wt_t1 199 rfl rfl
set_option maxRecDepth 100000 in
theorem m_2 : Cond.initialized "SuffixIndex$ByteRow" ∈ WT := wt_t1 2 rfl rfl
set_option maxRecDepth 100000 in
theorem m_201 : Cond.laysFinal "SuffixIndex$Search" "SuffixIndex$Search" "nearLast" "[I" ∈ WT := wt_t1 201 rfl rfl
set_option maxRecDepth 100000 in
theorem m_203 : Cond.laysFinal "SuffixIndex$Search" "SuffixIndex$Search" "documentKeys" "[I" ∈ WT := wt_t1 203 rfl rfl
set_option maxRecDepth 100000 in
theorem m_205 : Cond.laysFinal "SuffixIndex$Search" "SuffixIndex$Search" "library" "LSuffixIndex$Library;" ∈ WT := wt_t1 205 rfl rfl
set_option maxRecDepth 100000 in
theorem m_207 : Cond.laysFinal "SuffixIndex$Search" "SuffixIndex$Search" "order" "LSuffixIndex$SuffixOrder;" ∈ WT := wt_t1 207 rfl rfl
set_option maxRecDepth 100000 in
theorem m_209 : Cond.lays "SuffixIndex$Search" "SuffixIndex$Search" "nearKnown" "Z" ∈ WT := wt_t1 209 rfl rfl
set_option maxRecDepth 100000 in
theorem m_211 : Cond.lays "SuffixIndex$Search" "SuffixIndex$Search" "matchedSum" "I" ∈ WT := wt_t1 211 rfl rfl
set_option maxRecDepth 100000 in
theorem m_22 : Cond.initialized "java/lang/Math" ∈ WT := wt_t1 22 rfl rfl
set_option maxRecDepth 100000 in
theorem m_220 : Cond.fieldLink "SuffixIndex$Window" 26 "SuffixIndex$Window" "bestPosition" "I" ∈ WT := wt_t1 220 rfl rfl
set_option maxRecDepth 100000 in
theorem m_222 : Cond.fieldLink "SuffixIndex$Window" 30 "SuffixIndex$Window" "bestLength" "I" ∈ WT := wt_t1 222 rfl rfl
set_option maxRecDepth 100000 in
theorem m_224 : Cond.fieldLink "SuffixIndex$Window" 18 "SuffixIndex$Window" "library" "LSuffixIndex$Library;" ∈ WT := wt_t1 224 rfl rfl
set_option maxRecDepth 100000 in
theorem m_225 : Cond.fieldLink "SuffixIndex$Window" 22 "SuffixIndex$Window" "order" "LSuffixIndex$SuffixOrder;" ∈ WT := wt_t1 225 rfl rfl
set_option maxRecDepth 100000 in
theorem m_226 : Cond.fieldLink "SuffixIndex$Window" 9 "SuffixIndex$Window" "inside" "[I" ∈ WT := wt_t1 226 rfl rfl
set_option maxRecDepth 100000 in
theorem m_227 : Cond.fieldLink "SuffixIndex$Window" 15 "SuffixIndex$Window" "least" "[I" ∈ WT := wt_t1 227 rfl rfl
set_option maxRecDepth 100000 in
theorem m_228 : Cond.fieldLink "SuffixIndex$Window" 33 "SuffixIndex$Window" "leastFrom" "I" ∈ WT := wt_t1 228 rfl rfl
set_option maxRecDepth 100000 in
theorem m_229 : Cond.fieldLink "SuffixIndex$Window" 36 "SuffixIndex$Window" "leastTo" "I" ∈ WT := wt_t1 229 rfl rfl
set_option maxRecDepth 100000 in
theorem m_230 : Cond.lays "SuffixIndex$Window" "SuffixIndex$Window" "bestPosition" "I" ∈ WT := wt_t1 230 rfl rfl
set_option maxRecDepth 100000 in
theorem m_232 : Cond.lays "SuffixIndex$Window" "SuffixIndex$Window" "bestLength" "I" ∈ WT := wt_t1 232 rfl rfl
set_option maxRecDepth 100000 in
theorem m_234 : Cond.laysFinal "SuffixIndex$Window" "SuffixIndex$Window" "library" "LSuffixIndex$Library;" ∈ WT := wt_t1 234 rfl rfl
set_option maxRecDepth 100000 in
theorem m_236 : Cond.laysFinal "SuffixIndex$Window" "SuffixIndex$Window" "order" "LSuffixIndex$SuffixOrder;" ∈ WT := wt_t1 236 rfl rfl
set_option maxRecDepth 100000 in
theorem m_238 : Cond.laysFinal "SuffixIndex$Window" "SuffixIndex$Window" "inside" "[I" ∈ WT := wt_t1 238 rfl rfl
set_option maxRecDepth 100000 in
theorem m_240 : Cond.laysFinal "SuffixIndex$Window" "SuffixIndex$Window" "least" "[I" ∈ WT := wt_t2 0 rfl rfl
set_option maxRecDepth 100000 in
theorem m_242 : Cond.lays "SuffixIndex$Window" "SuffixIndex$Window" "leastFrom" "I" ∈ WT := wt_t2 2 rfl rfl
set_option maxRecDepth 100000 in
theorem m_244 : Cond.lays "SuffixIndex$Window" "SuffixIndex$Window" "leastTo" "I" ∈ WT := wt_t2 4 rfl rfl
set_option maxRecDepth 100000 in
theorem m_253 : Cond.fieldLink "SuffixIndex$PhraseBook" 9 "SuffixIndex$PhraseBook" "answers" "[J" ∈ WT := wt_t2 13 rfl rfl
set_option maxRecDepth 100000 in
theorem m_255 : Cond.fieldLink "SuffixIndex$PhraseBook" 15 "SuffixIndex$PhraseBook" "amounts" "[I" ∈ WT := wt_t2 15 rfl rfl
set_option maxRecDepth 100000 in
theorem m_256 : Cond.fieldLink "SuffixIndex$PhraseBook" 19 "SuffixIndex$PhraseBook" "library" "LSuffixIndex$Library;" ∈ WT := wt_t2 16 rfl rfl
set_option maxRecDepth 100000 in
theorem m_257 : Cond.fieldLink "SuffixIndex$PhraseBook" 23 "SuffixIndex$PhraseBook" "order" "LSuffixIndex$SuffixOrder;" ∈ WT := wt_t2 17 rfl rfl
set_option maxRecDepth 100000 in
theorem m_258 : Cond.fieldLink "SuffixIndex$PhraseBook" 54 "SuffixIndex$PhraseBook" "earlierLength" "I" ∈ WT := wt_t2 18 rfl rfl
set_option maxRecDepth 100000 in
theorem m_259 : Cond.fieldLink "SuffixIndex$PhraseBook" 68 "SuffixIndex$PhraseBook" "earlierPosition" "I" ∈ WT := wt_t2 19 rfl rfl
set_option maxRecDepth 100000 in
theorem m_260 : Cond.laysFinal "SuffixIndex$PhraseBook" "SuffixIndex$PhraseBook" "answers" "[J" ∈ WT := wt_t2 20 rfl rfl
set_option maxRecDepth 100000 in
theorem m_262 : Cond.laysFinal "SuffixIndex$PhraseBook" "SuffixIndex$PhraseBook" "amounts" "[I" ∈ WT := wt_t2 22 rfl rfl
set_option maxRecDepth 100000 in
theorem m_264 : Cond.laysFinal "SuffixIndex$PhraseBook" "SuffixIndex$PhraseBook" "library" "LSuffixIndex$Library;" ∈ WT := wt_t2 24 rfl rfl
set_option maxRecDepth 100000 in
theorem m_266 : Cond.laysFinal "SuffixIndex$PhraseBook" "SuffixIndex$PhraseBook" "order" "LSuffixIndex$SuffixOrder;" ∈ WT := wt_t2 26 rfl rfl
set_option maxRecDepth 100000 in
theorem m_268 : Cond.lays "SuffixIndex$PhraseBook" "SuffixIndex$PhraseBook" "earlierLength" "I" ∈ WT := wt_t2 28 rfl rfl
set_option maxRecDepth 100000 in
theorem m_270 : Cond.lays "SuffixIndex$PhraseBook" "SuffixIndex$PhraseBook" "earlierPosition" "I" ∈ WT := wt_t2 30 rfl rfl
set_option maxRecDepth 100000 in
theorem m_280 : Cond.laysFinal "SuffixIndex" "SuffixIndex" "tape" "LSuffixIndex$ByteRow;" ∈ WT := wt_t2 40 rfl rfl
set_option maxRecDepth 100000 in
theorem m_282 : Cond.laysFinal "SuffixIndex" "SuffixIndex" "told" "LSuffixIndex$ByteRow;" ∈ WT := wt_t2 42 rfl rfl
set_option maxRecDepth 100000 in
theorem m_284 : Cond.laysFinal "SuffixIndex" "SuffixIndex" "library" "LSuffixIndex$Library;" ∈ WT := wt_t2 44 rfl rfl
set_option maxRecDepth 100000 in
theorem m_286 : Cond.laysFinal "SuffixIndex" "SuffixIndex" "order" "LSuffixIndex$SuffixOrder;" ∈ WT := wt_t2 46 rfl rfl
set_option maxRecDepth 100000 in
theorem m_288 : Cond.laysFinal "SuffixIndex" "SuffixIndex" "search" "LSuffixIndex$Search;" ∈ WT := wt_t2 48 rfl rfl
set_option maxRecDepth 100000 in
theorem m_290 : Cond.laysFinal "SuffixIndex" "SuffixIndex" "window" "LSuffixIndex$Window;" ∈ WT := wt_t2 50 rfl rfl
set_option maxRecDepth 100000 in
theorem m_292 : Cond.laysFinal "SuffixIndex" "SuffixIndex" "phraseBook" "LSuffixIndex$PhraseBook;" ∈ WT := wt_t2 52 rfl rfl
set_option maxRecDepth 100000 in
theorem m_3 : Cond.initialized "SuffixIndex$Library" ∈ WT := wt_t1 3 rfl rfl
set_option maxRecDepth 100000 in
theorem m_307 : Cond.methodLink "SuffixIndex$SuffixOrder" 45 ⟨"SuffixIndex$Library", "indexedText", "()I"⟩ ∈ WT := wt_t2 67 rfl rfl
set_option maxRecDepth 100000 in
theorem m_308 : Cond.instanceMethod ⟨"SuffixIndex$Library", "indexedText", "()I"⟩ ∈ WT := wt_t2 68 rfl rfl
set_option maxRecDepth 100000 in
theorem m_309 : Cond.selects "SuffixIndex$Library" ⟨"SuffixIndex$Library", "indexedText", "()I"⟩ ⟨"SuffixIndex$Library", "indexedText", "()I"⟩ ∈ WT := wt_t2 69 rfl rfl
set_option maxRecDepth 100000 in
theorem m_310 : Cond.code ⟨"SuffixIndex$Library", "indexedText", "()I"⟩ prog_3_method_4_code 1 (some .int) ∈ WT := wt_t2 70 rfl rfl
set_option maxRecDepth 100000 in
theorem m_311 : Cond.methodLink "SuffixIndex$SuffixOrder" 55 ⟨"SuffixIndex$Sorter", "sort", "([II[I[I)V"⟩ ∈ WT := wt_t2 71 rfl rfl
set_option maxRecDepth 100000 in
theorem m_312 : Cond.instanceMethod ⟨"SuffixIndex$Sorter", "sort", "([II[I[I)V"⟩ ∈ WT := wt_t2 72 rfl rfl
set_option maxRecDepth 100000 in
theorem m_313 : Cond.selects "SuffixIndex$Sorter" ⟨"SuffixIndex$Sorter", "sort", "([II[I[I)V"⟩ ⟨"SuffixIndex$Sorter", "sort", "([II[I[I)V"⟩ ∈ WT := wt_t2 73 rfl rfl
set_option maxRecDepth 100000 in
theorem m_314 : Cond.code ⟨"SuffixIndex$Sorter", "sort", "([II[I[I)V"⟩ prog_6_method_2_code 7 none ∈ WT := wt_t2 74 rfl rfl
set_option maxRecDepth 100000 in
theorem m_315 : Cond.methodLink "SuffixIndex$Sorter" 25 ⟨"SuffixIndex$Sorter", "sortByRanks", "(I[I[I)V"⟩ ∈ WT := wt_t2 75 rfl rfl
set_option maxRecDepth 100000 in
theorem m_317 : Cond.instanceMethod ⟨"SuffixIndex$Sorter", "sortByRanks", "(I[I[I)V"⟩ ∈ WT := wt_t2 77 rfl rfl
set_option maxRecDepth 100000 in
theorem m_318 : Cond.code ⟨"SuffixIndex$Sorter", "sortByRanks", "(I[I[I)V"⟩ prog_6_method_4_code 7 none ∈ WT := wt_t2 78 rfl rfl
set_option maxRecDepth 100000 in
theorem m_319 : Cond.methodLink "SuffixIndex$Sorter" 37 ⟨"java/util/Arrays", "fill", "([IIII)V"⟩ ∈ WT := wt_t2 79 rfl rfl
set_option maxRecDepth 100000 in
theorem m_320 : Cond.static ⟨"java/util/Arrays", "fill", "([IIII)V"⟩ ∈ WT := wt_t2 80 rfl rfl
set_option maxRecDepth 100000 in
theorem m_321 : Cond.code ⟨"java/util/Arrays", "fill", "([IIII)V"⟩ prog_27_method_104_code 5 none ∈ WT := wt_t2 81 rfl rfl
set_option maxRecDepth 100000 in
theorem m_322 : Cond.methodLink "java/util/Arrays" 13 ⟨"java/util/Arrays", "rangeCheck", "(III)V"⟩ ∈ WT := wt_t2 82 rfl rfl
set_option maxRecDepth 100000 in
theorem m_323 : Cond.static ⟨"java/util/Arrays", "rangeCheck", "(III)V"⟩ ∈ WT := wt_t2 83 rfl rfl
set_option maxRecDepth 100000 in
theorem m_324 : Cond.code ⟨"java/util/Arrays", "rangeCheck", "(III)V"⟩ prog_27_method_30_code 3 none ∈ WT := wt_t2 84 rfl rfl
set_option maxRecDepth 100000 in
theorem m_4 : Cond.initialized "SuffixIndex$SuffixOrder" ∈ WT := wt_t1 4 rfl rfl
set_option maxRecDepth 100000 in
theorem m_424 : Cond.static ⟨"java/lang/Math", "max", "(II)I"⟩ ∈ WT := wt_t2 184 rfl rfl
set_option maxRecDepth 100000 in
theorem m_425 : Cond.code ⟨"java/lang/Math", "max", "(II)I"⟩ prog_19_method_65_code 2 (some .int) ∈ WT := wt_t2 185 rfl rfl
set_option maxRecDepth 100000 in
theorem m_43 : Cond.fieldLink "SuffixIndex$ByteRow" 7 "SuffixIndex$ByteRow" "bytes" "[I" ∈ WT := wt_t1 43 rfl rfl
set_option maxRecDepth 100000 in
theorem m_44 : Cond.fieldLink "SuffixIndex$Search" 61 "SuffixIndex$ByteRow" "bytes" "[I" ∈ WT := wt_t1 44 rfl rfl
set_option maxRecDepth 100000 in
theorem m_442 : Cond.static ⟨"java/lang/Math", "min", "(II)I"⟩ ∈ WT := wt_t2 202 rfl rfl
set_option maxRecDepth 100000 in
theorem m_443 : Cond.code ⟨"java/lang/Math", "min", "(II)I"⟩ prog_19_method_69_code 2 (some .int) ∈ WT := wt_t2 203 rfl rfl
set_option maxRecDepth 100000 in
theorem m_445 : Cond.static ⟨"java/lang/System", "arraycopy", "(Ljava/lang/Object;ILjava/lang/Object;II)V"⟩ ∈ WT := wt_t2 205 rfl rfl
set_option maxRecDepth 100000 in
theorem m_446 : Cond.native ⟨"java/lang/System", "arraycopy", "(Ljava/lang/Object;ILjava/lang/Object;II)V"⟩ ∈ WT := wt_t2 206 rfl rfl
set_option maxRecDepth 100000 in
theorem m_45 : Cond.fieldLink "SuffixIndex$Library" 30 "SuffixIndex$ByteRow" "bytes" "[I" ∈ WT := wt_t1 45 rfl rfl
set_option maxRecDepth 100000 in
theorem m_46 : Cond.fieldLink "SuffixIndex$SuffixOrder" 105 "SuffixIndex$ByteRow" "bytes" "[I" ∈ WT := wt_t1 46 rfl rfl
set_option maxRecDepth 100000 in
theorem m_48 : Cond.fieldLink "SuffixIndex$Search" 41 "SuffixIndex$ByteRow" "length" "I" ∈ WT := wt_t1 48 rfl rfl
set_option maxRecDepth 100000 in
theorem m_49 : Cond.fieldLink "SuffixIndex$ByteRow" 13 "SuffixIndex$ByteRow" "length" "I" ∈ WT := wt_t1 49 rfl rfl
set_option maxRecDepth 100000 in
theorem m_5 : Cond.initialized "SuffixIndex$Sorter" ∈ WT := wt_t1 5 rfl rfl
set_option maxRecDepth 100000 in
theorem m_51 : Cond.fieldLink "SuffixIndex$Library" 25 "SuffixIndex$ByteRow" "length" "I" ∈ WT := wt_t1 51 rfl rfl
set_option maxRecDepth 100000 in
theorem m_52 : Cond.fieldLink "SuffixIndex$SuffixOrder" 100 "SuffixIndex$ByteRow" "length" "I" ∈ WT := wt_t1 52 rfl rfl
set_option maxRecDepth 100000 in
theorem m_53 : Cond.laysFinal "SuffixIndex$ByteRow" "SuffixIndex$ByteRow" "bytes" "[I" ∈ WT := wt_t1 53 rfl rfl
set_option maxRecDepth 100000 in
theorem m_55 : Cond.lays "SuffixIndex$ByteRow" "SuffixIndex$ByteRow" "length" "I" ∈ WT := wt_t1 55 rfl rfl
set_option maxRecDepth 100000 in
theorem m_6 : Cond.initialized "SuffixIndex$Search" ∈ WT := wt_t1 6 rfl rfl
set_option maxRecDepth 100000 in
theorem m_65 : Cond.fieldLink "SuffixIndex$Library" 9 "SuffixIndex$Library" "text" "[I" ∈ WT := wt_t1 65 rfl rfl
set_option maxRecDepth 100000 in
theorem m_656 : Cond.methodLink "SuffixIndex$Sorter" 29 ⟨"SuffixIndex$Sorter", "rankAnew", "(I[I[I)I"⟩ ∈ WT := wt_t3 176 rfl rfl
set_option maxRecDepth 100000 in
theorem m_658 : Cond.instanceMethod ⟨"SuffixIndex$Sorter", "rankAnew", "(I[I[I)I"⟩ ∈ WT := wt_t3 178 rfl rfl
set_option maxRecDepth 100000 in
theorem m_659 : Cond.code ⟨"SuffixIndex$Sorter", "rankAnew", "(I[I[I)I"⟩ prog_6_method_5_code 6 (some .int) ∈ WT := wt_t3 179 rfl rfl
set_option maxRecDepth 100000 in
theorem m_66 : Cond.fieldLink "SuffixIndex$SuffixOrder" 52 "SuffixIndex$Library" "text" "[I" ∈ WT := wt_t1 66 rfl rfl
set_option maxRecDepth 100000 in
theorem m_660 : Cond.methodLink "SuffixIndex$Sorter" 43 ⟨"SuffixIndex$Sorter", "sameRanks", "(III[I)Z"⟩ ∈ WT := wt_t3 180 rfl rfl
set_option maxRecDepth 100000 in
theorem m_662 : Cond.instanceMethod ⟨"SuffixIndex$Sorter", "sameRanks", "(III[I)Z"⟩ ∈ WT := wt_t3 182 rfl rfl
set_option maxRecDepth 100000 in
theorem m_663 : Cond.code ⟨"SuffixIndex$Sorter", "sameRanks", "(III[I)Z"⟩ prog_6_method_6_code 7 (some .boolean) ∈ WT := wt_t3 183 rfl rfl
set_option maxRecDepth 100000 in
theorem m_664 : Cond.methodLink "SuffixIndex$Sorter" 47 ⟨"java/lang/System", "arraycopy", "(Ljava/lang/Object;ILjava/lang/Object;II)V"⟩ ∈ WT := wt_t3 184 rfl rfl
set_option maxRecDepth 100000 in
theorem m_665 : Cond.methodLink "SuffixIndex$Sorter" 33 ⟨"SuffixIndex$Sorter", "sortByTails", "(I[I)V"⟩ ∈ WT := wt_t3 185 rfl rfl
set_option maxRecDepth 100000 in
theorem m_667 : Cond.instanceMethod ⟨"SuffixIndex$Sorter", "sortByTails", "(I[I)V"⟩ ∈ WT := wt_t3 187 rfl rfl
set_option maxRecDepth 100000 in
theorem m_668 : Cond.code ⟨"SuffixIndex$Sorter", "sortByTails", "(I[I)V"⟩ prog_6_method_3_code 5 none ∈ WT := wt_t3 188 rfl rfl
set_option maxRecDepth 100000 in
theorem m_669 : Cond.methodLink "SuffixIndex$SuffixOrder" 59 ⟨"SuffixIndex$SuffixOrder", "measureAlike", "()V"⟩ ∈ WT := wt_t3 189 rfl rfl
set_option maxRecDepth 100000 in
theorem m_67 : Cond.fieldLink "SuffixIndex$Search" 130 "SuffixIndex$Library" "text" "[I" ∈ WT := wt_t1 67 rfl rfl
set_option maxRecDepth 100000 in
theorem m_671 : Cond.instanceMethod ⟨"SuffixIndex$SuffixOrder", "measureAlike", "()V"⟩ ∈ WT := wt_t3 191 rfl rfl
set_option maxRecDepth 100000 in
theorem m_672 : Cond.code ⟨"SuffixIndex$SuffixOrder", "measureAlike", "()V"⟩ prog_7_method_3_code 4 none ∈ WT := wt_t3 192 rfl rfl
set_option maxRecDepth 100000 in
theorem m_673 : Cond.methodLink "SuffixIndex$SuffixOrder" 65 ⟨"SuffixIndex$Library", "alike", "(III)I"⟩ ∈ WT := wt_t3 193 rfl rfl
set_option maxRecDepth 100000 in
theorem m_674 : Cond.instanceMethod ⟨"SuffixIndex$Library", "alike", "(III)I"⟩ ∈ WT := wt_t3 194 rfl rfl
set_option maxRecDepth 100000 in
theorem m_675 : Cond.selects "SuffixIndex$Library" ⟨"SuffixIndex$Library", "alike", "(III)I"⟩ ⟨"SuffixIndex$Library", "alike", "(III)I"⟩ ∈ WT := wt_t3 195 rfl rfl
set_option maxRecDepth 100000 in
theorem m_676 : Cond.code ⟨"SuffixIndex$Library", "alike", "(III)I"⟩ prog_3_method_10_code 6 (some .int) ∈ WT := wt_t3 196 rfl rfl
set_option maxRecDepth 100000 in
theorem m_677 : Cond.methodLink "SuffixIndex$Library" 53 ⟨"SuffixIndex$Library", "indexedText", "()I"⟩ ∈ WT := wt_t3 197 rfl rfl
set_option maxRecDepth 100000 in
theorem m_678 : Cond.methodLink "SuffixIndex$Library" 57 ⟨"java/lang/Math", "max", "(II)I"⟩ ∈ WT := wt_t3 198 rfl rfl
set_option maxRecDepth 100000 in
theorem m_679 : Cond.methodLink "SuffixIndex$SuffixOrder" 62 ⟨"SuffixIndex$SuffixOrder", "sumPieces", "()V"⟩ ∈ WT := wt_t3 199 rfl rfl
set_option maxRecDepth 100000 in
theorem m_681 : Cond.instanceMethod ⟨"SuffixIndex$SuffixOrder", "sumPieces", "()V"⟩ ∈ WT := wt_t3 201 rfl rfl
set_option maxRecDepth 100000 in
theorem m_682 : Cond.code ⟨"SuffixIndex$SuffixOrder", "sumPieces", "()V"⟩ prog_7_method_4_code 4 none ∈ WT := wt_t3 202 rfl rfl
set_option maxRecDepth 100000 in
theorem m_683 : Cond.methodLink "SuffixIndex$SuffixOrder" 69 ⟨"SuffixIndex$Library", "lengthFrom", "(I)I"⟩ ∈ WT := wt_t3 203 rfl rfl
set_option maxRecDepth 100000 in
theorem m_684 : Cond.instanceMethod ⟨"SuffixIndex$Library", "lengthFrom", "(I)I"⟩ ∈ WT := wt_t3 204 rfl rfl
set_option maxRecDepth 100000 in
theorem m_685 : Cond.selects "SuffixIndex$Library" ⟨"SuffixIndex$Library", "lengthFrom", "(I)I"⟩ ⟨"SuffixIndex$Library", "lengthFrom", "(I)I"⟩ ∈ WT := wt_t3 205 rfl rfl
set_option maxRecDepth 100000 in
theorem m_686 : Cond.code ⟨"SuffixIndex$Library", "lengthFrom", "(I)I"⟩ prog_3_method_7_code 2 (some .int) ∈ WT := wt_t3 206 rfl rfl
set_option maxRecDepth 100000 in
theorem m_687 : Cond.methodLink "SuffixIndex$Library" 48 ⟨"SuffixIndex$Library", "endOf", "(I)I"⟩ ∈ WT := wt_t3 207 rfl rfl
set_option maxRecDepth 100000 in
theorem m_688 : Cond.instanceMethod ⟨"SuffixIndex$Library", "endOf", "(I)I"⟩ ∈ WT := wt_t3 208 rfl rfl
set_option maxRecDepth 100000 in
theorem m_689 : Cond.selects "SuffixIndex$Library" ⟨"SuffixIndex$Library", "endOf", "(I)I"⟩ ⟨"SuffixIndex$Library", "endOf", "(I)I"⟩ ∈ WT := wt_t3 209 rfl rfl
set_option maxRecDepth 100000 in
theorem m_69 : Cond.fieldLink "SuffixIndex$Library" 15 "SuffixIndex$Library" "owners" "[I" ∈ WT := wt_t1 69 rfl rfl
set_option maxRecDepth 100000 in
theorem m_690 : Cond.code ⟨"SuffixIndex$Library", "endOf", "(I)I"⟩ prog_3_method_6_code 2 (some .int) ∈ WT := wt_t3 210 rfl rfl
set_option maxRecDepth 100000 in
theorem m_695 : Cond.methodLink "SuffixIndex$PhraseBook" 27 ⟨"java/util/Arrays", "fill", "([II)V"⟩ ∈ WT := wt_t3 215 rfl rfl
set_option maxRecDepth 100000 in
theorem m_696 : Cond.static ⟨"java/util/Arrays", "fill", "([II)V"⟩ ∈ WT := wt_t3 216 rfl rfl
set_option maxRecDepth 100000 in
theorem m_697 : Cond.code ⟨"java/util/Arrays", "fill", "([II)V"⟩ prog_27_method_103_code 4 none ∈ WT := wt_t3 217 rfl rfl
set_option maxRecDepth 100000 in
theorem m_699 : Cond.instanceMethod ⟨"SuffixIndex$Search", "forget", "()V"⟩ ∈ WT := wt_t3 219 rfl rfl
set_option maxRecDepth 100000 in
theorem m_7 : Cond.initialized "SuffixIndex$Window" ∈ WT := wt_t1 7 rfl rfl
set_option maxRecDepth 100000 in
theorem m_70 : Cond.fieldLink "SuffixIndex$Window" 67 "SuffixIndex$Library" "owners" "[I" ∈ WT := wt_t1 70 rfl rfl
set_option maxRecDepth 100000 in
theorem m_700 : Cond.selects "SuffixIndex$Search" ⟨"SuffixIndex$Search", "forget", "()V"⟩ ⟨"SuffixIndex$Search", "forget", "()V"⟩ ∈ WT := wt_t3 220 rfl rfl
set_option maxRecDepth 100000 in
theorem m_701 : Cond.code ⟨"SuffixIndex$Search", "forget", "()V"⟩ prog_5_method_2_code 1 none ∈ WT := wt_t3 221 rfl rfl
set_option maxRecDepth 100000 in
theorem m_71 : Cond.fieldLink "SuffixIndex$Library" 18 "SuffixIndex$Library" "starts" "[I" ∈ WT := wt_t1 71 rfl rfl
set_option maxRecDepth 100000 in
theorem m_72 : Cond.fieldLink "SuffixIndex$PhraseBook" 37 "SuffixIndex$Library" "starts" "[I" ∈ WT := wt_t1 72 rfl rfl
set_option maxRecDepth 100000 in
theorem m_73 : Cond.fieldLink "SuffixIndex$Search" 99 "SuffixIndex$Library" "starts" "[I" ∈ WT := wt_t1 73 rfl rfl
set_option maxRecDepth 100000 in
theorem m_731 : Cond.instanceMethod ⟨"SuffixIndex$ByteRow", "hasRoom", "(I)Z"⟩ ∈ WT := wt_t4 11 rfl rfl
set_option maxRecDepth 100000 in
theorem m_732 : Cond.selects "SuffixIndex$ByteRow" ⟨"SuffixIndex$ByteRow", "hasRoom", "(I)Z"⟩ ⟨"SuffixIndex$ByteRow", "hasRoom", "(I)Z"⟩ ∈ WT := wt_t4 12 rfl rfl
set_option maxRecDepth 100000 in
theorem m_733 : Cond.code ⟨"SuffixIndex$ByteRow", "hasRoom", "(I)Z"⟩ prog_2_method_2_code 2 (some .boolean) ∈ WT := wt_t4 13 rfl rfl
set_option maxRecDepth 100000 in
theorem m_75 : Cond.fieldLink "SuffixIndex$Library" 21 "SuffixIndex$Library" "documents" "I" ∈ WT := wt_t1 75 rfl rfl
set_option maxRecDepth 100000 in
theorem m_754 : Cond.methodLink "SuffixIndex$ByteRow" 17 ⟨"SuffixIndex$ByteRow", "hasRoom", "(I)Z"⟩ ∈ WT := wt_t4 34 rfl rfl
set_option maxRecDepth 100000 in
theorem m_77 : Cond.fieldLink "SuffixIndex$SuffixOrder" 36 "SuffixIndex$Library" "indexed" "I" ∈ WT := wt_t1 77 rfl rfl
set_option maxRecDepth 100000 in
theorem m_78 : Cond.fieldLink "SuffixIndex$Library" 45 "SuffixIndex$Library" "indexed" "I" ∈ WT := wt_t1 78 rfl rfl
set_option maxRecDepth 100000 in
theorem m_783 : Cond.methodLink "SuffixIndex$Library" 33 ⟨"java/lang/System", "arraycopy", "(Ljava/lang/Object;ILjava/lang/Object;II)V"⟩ ∈ WT := wt_t4 63 rfl rfl
set_option maxRecDepth 100000 in
theorem m_784 : Cond.methodLink "SuffixIndex$Library" 39 ⟨"java/util/Arrays", "fill", "([IIII)V"⟩ ∈ WT := wt_t4 64 rfl rfl
set_option maxRecDepth 100000 in
theorem m_797 : Cond.methodLink "SuffixIndex$Search" 58 ⟨"SuffixIndex$Search", "forget", "()V"⟩ ∈ WT := wt_t4 77 rfl rfl
set_option maxRecDepth 100000 in
theorem m_798 : Cond.methodLink "SuffixIndex$Search" 64 ⟨"SuffixIndex$ByteRow", "copy", "([III)V"⟩ ∈ WT := wt_t4 78 rfl rfl
set_option maxRecDepth 100000 in
theorem m_799 : Cond.instanceMethod ⟨"SuffixIndex$ByteRow", "copy", "([III)V"⟩ ∈ WT := wt_t4 79 rfl rfl
set_option maxRecDepth 100000 in
theorem m_8 : Cond.initialized "SuffixIndex$PhraseBook" ∈ WT := wt_t1 8 rfl rfl
set_option maxRecDepth 100000 in
theorem m_80 : Cond.fieldLink "SuffixIndex$Search" 94 "SuffixIndex$Library" "indexed" "I" ∈ WT := wt_t1 80 rfl rfl
set_option maxRecDepth 100000 in
theorem m_800 : Cond.selects "SuffixIndex$ByteRow" ⟨"SuffixIndex$ByteRow", "copy", "([III)V"⟩ ⟨"SuffixIndex$ByteRow", "copy", "([III)V"⟩ ∈ WT := wt_t4 80 rfl rfl
set_option maxRecDepth 100000 in
theorem m_801 : Cond.code ⟨"SuffixIndex$ByteRow", "copy", "([III)V"⟩ prog_2_method_4_code 4 none ∈ WT := wt_t4 81 rfl rfl
set_option maxRecDepth 100000 in
theorem m_802 : Cond.methodLink "SuffixIndex$ByteRow" 21 ⟨"java/lang/System", "arraycopy", "(Ljava/lang/Object;ILjava/lang/Object;II)V"⟩ ∈ WT := wt_t4 82 rfl rfl
set_option maxRecDepth 100000 in
theorem m_803 : Cond.methodLink "SuffixIndex$Search" 68 ⟨"SuffixIndex$SuffixOrder", "locate", "(LSuffixIndex$ByteRow;I)V"⟩ ∈ WT := wt_t4 83 rfl rfl
set_option maxRecDepth 100000 in
theorem m_804 : Cond.instanceMethod ⟨"SuffixIndex$SuffixOrder", "locate", "(LSuffixIndex$ByteRow;I)V"⟩ ∈ WT := wt_t4 84 rfl rfl
set_option maxRecDepth 100000 in
theorem m_805 : Cond.selects "SuffixIndex$SuffixOrder" ⟨"SuffixIndex$SuffixOrder", "locate", "(LSuffixIndex$ByteRow;I)V"⟩ ⟨"SuffixIndex$SuffixOrder", "locate", "(LSuffixIndex$ByteRow;I)V"⟩ ∈ WT := wt_t4 85 rfl rfl
set_option maxRecDepth 100000 in
theorem m_806 : Cond.code ⟨"SuffixIndex$SuffixOrder", "locate", "(LSuffixIndex$ByteRow;I)V"⟩ prog_7_method_9_code 10 none ∈ WT := wt_t4 86 rfl rfl
set_option maxRecDepth 100000 in
theorem m_807 : Cond.methodLink "SuffixIndex$SuffixOrder" 83 ⟨"java/lang/Math", "min", "(II)I"⟩ ∈ WT := wt_t4 87 rfl rfl
set_option maxRecDepth 100000 in
theorem m_808 : Cond.methodLink "SuffixIndex$SuffixOrder" 86 ⟨"SuffixIndex$SuffixOrder", "alikeWith", "(LSuffixIndex$ByteRow;III)I"⟩ ∈ WT := wt_t4 88 rfl rfl
set_option maxRecDepth 100000 in
theorem m_81 : Cond.laysFinal "SuffixIndex$Library" "SuffixIndex$Library" "text" "[I" ∈ WT := wt_t1 81 rfl rfl
set_option maxRecDepth 100000 in
theorem m_810 : Cond.instanceMethod ⟨"SuffixIndex$SuffixOrder", "alikeWith", "(LSuffixIndex$ByteRow;III)I"⟩ ∈ WT := wt_t4 90 rfl rfl
set_option maxRecDepth 100000 in
theorem m_811 : Cond.code ⟨"SuffixIndex$SuffixOrder", "alikeWith", "(LSuffixIndex$ByteRow;III)I"⟩ prog_7_method_10_code 7 (some .int) ∈ WT := wt_t4 91 rfl rfl
set_option maxRecDepth 100000 in
theorem m_812 : Cond.methodLink "SuffixIndex$SuffixOrder" 90 ⟨"SuffixIndex$SuffixOrder", "isBefore", "(LSuffixIndex$ByteRow;II)Z"⟩ ∈ WT := wt_t4 92 rfl rfl
set_option maxRecDepth 100000 in
theorem m_814 : Cond.instanceMethod ⟨"SuffixIndex$SuffixOrder", "isBefore", "(LSuffixIndex$ByteRow;II)Z"⟩ ∈ WT := wt_t4 94 rfl rfl
set_option maxRecDepth 100000 in
theorem m_815 : Cond.code ⟨"SuffixIndex$SuffixOrder", "isBefore", "(LSuffixIndex$ByteRow;II)Z"⟩ prog_7_method_11_code 4 (some .boolean) ∈ WT := wt_t4 95 rfl rfl
set_option maxRecDepth 100000 in
theorem m_816 : Cond.methodLink "SuffixIndex$SuffixOrder" 77 ⟨"java/lang/Math", "max", "(II)I"⟩ ∈ WT := wt_t4 96 rfl rfl
set_option maxRecDepth 100000 in
theorem m_817 : Cond.methodLink "SuffixIndex$Search" 80 ⟨"SuffixIndex$Search", "lastRankFrom", "(I)I"⟩ ∈ WT := wt_t4 97 rfl rfl
set_option maxRecDepth 100000 in
theorem m_819 : Cond.instanceMethod ⟨"SuffixIndex$Search", "lastRankFrom", "(I)I"⟩ ∈ WT := wt_t4 99 rfl rfl
set_option maxRecDepth 100000 in
theorem m_820 : Cond.code ⟨"SuffixIndex$Search", "lastRankFrom", "(I)I"⟩ prog_5_method_4_code 3 (some .int) ∈ WT := wt_t4 100 rfl rfl
set_option maxRecDepth 100000 in
theorem m_821 : Cond.methodLink "SuffixIndex$Search" 84 ⟨"SuffixIndex$Search", "gather", "(II)V"⟩ ∈ WT := wt_t4 101 rfl rfl
set_option maxRecDepth 100000 in
theorem m_823 : Cond.instanceMethod ⟨"SuffixIndex$Search", "gather", "(II)V"⟩ ∈ WT := wt_t4 103 rfl rfl
set_option maxRecDepth 100000 in
theorem m_824 : Cond.code ⟨"SuffixIndex$Search", "gather", "(II)V"⟩ prog_5_method_5_code 9 none ∈ WT := wt_t4 104 rfl rfl
set_option maxRecDepth 100000 in
theorem m_825 : Cond.methodLink "SuffixIndex$Search" 102 ⟨"SuffixIndex$Library", "endOf", "(I)I"⟩ ∈ WT := wt_t4 105 rfl rfl
set_option maxRecDepth 100000 in
theorem m_826 : Cond.constant "SuffixIndex$Search" 108 65536 ∈ WT := wt_t4 106 rfl rfl
set_option maxRecDepth 100000 in
theorem m_827 : Cond.methodLink "SuffixIndex$Search" 109 ⟨"SuffixIndex$Search", "insertDocument", "(II)V"⟩ ∈ WT := wt_t4 107 rfl rfl
set_option maxRecDepth 100000 in
theorem m_829 : Cond.instanceMethod ⟨"SuffixIndex$Search", "insertDocument", "(II)V"⟩ ∈ WT := wt_t4 109 rfl rfl
set_option maxRecDepth 100000 in
theorem m_83 : Cond.laysFinal "SuffixIndex$Library" "SuffixIndex$Library" "owners" "[I" ∈ WT := wt_t1 83 rfl rfl
set_option maxRecDepth 100000 in
theorem m_830 : Cond.code ⟨"SuffixIndex$Search", "insertDocument", "(II)V"⟩ prog_5_method_6_code 5 none ∈ WT := wt_t4 110 rfl rfl
set_option maxRecDepth 100000 in
theorem m_85 : Cond.laysFinal "SuffixIndex$Library" "SuffixIndex$Library" "starts" "[I" ∈ WT := wt_t1 85 rfl rfl
set_option maxRecDepth 100000 in
theorem m_87 : Cond.lays "SuffixIndex$Library" "SuffixIndex$Library" "documents" "I" ∈ WT := wt_t1 87 rfl rfl
set_option maxRecDepth 100000 in
theorem m_884 : Cond.methodLink "SuffixIndex$Search" 112 ⟨"java/util/Arrays", "fill", "([II)V"⟩ ∈ WT := wt_t4 164 rfl rfl
set_option maxRecDepth 100000 in
theorem m_885 : Cond.methodLink "SuffixIndex$Search" 118 ⟨"SuffixIndex$Search", "changedAt", "(I)I"⟩ ∈ WT := wt_t4 165 rfl rfl
set_option maxRecDepth 100000 in
theorem m_887 : Cond.instanceMethod ⟨"SuffixIndex$Search", "changedAt", "(I)I"⟩ ∈ WT := wt_t4 167 rfl rfl
set_option maxRecDepth 100000 in
theorem m_888 : Cond.code ⟨"SuffixIndex$Search", "changedAt", "(I)I"⟩ prog_5_method_10_code 4 (some .int) ∈ WT := wt_t4 168 rfl rfl
set_option maxRecDepth 100000 in
theorem m_889 : Cond.methodLink "SuffixIndex$Search" 121 ⟨"SuffixIndex$Search", "noteNear", "(II)V"⟩ ∈ WT := wt_t4 169 rfl rfl
set_option maxRecDepth 100000 in
theorem m_89 : Cond.lays "SuffixIndex$Library" "SuffixIndex$Library" "indexed" "I" ∈ WT := wt_t1 89 rfl rfl
set_option maxRecDepth 100000 in
theorem m_891 : Cond.instanceMethod ⟨"SuffixIndex$Search", "noteNear", "(II)V"⟩ ∈ WT := wt_t4 171 rfl rfl
set_option maxRecDepth 100000 in
theorem m_892 : Cond.code ⟨"SuffixIndex$Search", "noteNear", "(II)V"⟩ prog_5_method_9_code 3 none ∈ WT := wt_t4 172 rfl rfl
set_option maxRecDepth 100000 in
theorem m_893 : Cond.methodLink "SuffixIndex$Search" 124 ⟨"java/lang/Math", "max", "(II)I"⟩ ∈ WT := wt_t4 173 rfl rfl
set_option maxRecDepth 100000 in
theorem m_9 : Cond.initialized "SuffixIndexModel" ∈ WT := wt_t1 9 rfl rfl
set_option maxRecDepth 100000 in
theorem m_918 : Cond.constant "SuffixIndex$Library" 52 65536 ∈ WT := wt_t4 198 rfl rfl
set_option maxRecDepth 100000 in
theorem m_956 : Cond.methodLink "SuffixIndex$Window" 39 ⟨"java/util/Arrays", "fill", "([II)V"⟩ ∈ WT := wt_t4 236 rfl rfl
set_option maxRecDepth 100000 in
theorem m_957 : Cond.methodLink "SuffixIndex$Window" 53 ⟨"SuffixIndex$Window", "pushLeast", "(I)V"⟩ ∈ WT := wt_t4 237 rfl rfl
set_option maxRecDepth 100000 in
theorem m_959 : Cond.instanceMethod ⟨"SuffixIndex$Window", "pushLeast", "(I)V"⟩ ∈ WT := wt_t4 239 rfl rfl
set_option maxRecDepth 100000 in
theorem m_960 : Cond.code ⟨"SuffixIndex$Window", "pushLeast", "(I)V"⟩ prog_8_method_5_code 3 none ∈ WT := wt_t5 0 rfl rfl
set_option maxRecDepth 100000 in
theorem m_961 : Cond.methodLink "SuffixIndex$Window" 57 ⟨"SuffixIndex$Window", "enter", "(IZ)I"⟩ ∈ WT := wt_t5 1 rfl rfl
set_option maxRecDepth 100000 in
theorem m_963 : Cond.instanceMethod ⟨"SuffixIndex$Window", "enter", "(IZ)I"⟩ ∈ WT := wt_t5 3 rfl rfl
set_option maxRecDepth 100000 in
theorem m_964 : Cond.code ⟨"SuffixIndex$Window", "enter", "(IZ)I"⟩ prog_8_method_3_code 4 (some .int) ∈ WT := wt_t5 4 rfl rfl
set_option maxRecDepth 100000 in
theorem m_965 : Cond.methodLink "SuffixIndex$Window" 61 ⟨"SuffixIndex$Window", "keepBetter", "(I)V"⟩ ∈ WT := wt_t5 5 rfl rfl
set_option maxRecDepth 100000 in
theorem m_967 : Cond.instanceMethod ⟨"SuffixIndex$Window", "keepBetter", "(I)V"⟩ ∈ WT := wt_t5 7 rfl rfl
set_option maxRecDepth 100000 in
theorem m_968 : Cond.code ⟨"SuffixIndex$Window", "keepBetter", "(I)V"⟩ prog_8_method_6_code 3 none ∈ WT := wt_t5 8 rfl rfl
set_option maxRecDepth 100000 in
theorem m_969 : Cond.methodLink "SuffixIndex$Window" 64 ⟨"SuffixIndex$Window", "leave", "(IZ)I"⟩ ∈ WT := wt_t5 9 rfl rfl
set_option maxRecDepth 100000 in
theorem m_971 : Cond.instanceMethod ⟨"SuffixIndex$Window", "leave", "(IZ)I"⟩ ∈ WT := wt_t5 11 rfl rfl
set_option maxRecDepth 100000 in
theorem m_972 : Cond.code ⟨"SuffixIndex$Window", "leave", "(IZ)I"⟩ prog_8_method_4_code 4 (some .int) ∈ WT := wt_t5 12 rfl rfl
set_option maxRecDepth 100000 in
theorem m_994 : Cond.instanceMethod ⟨"SuffixIndex$SuffixOrder", "rankOfPiece", "(J)I"⟩ ∈ WT := wt_t5 34 rfl rfl
set_option maxRecDepth 100000 in
theorem m_995 : Cond.selects "SuffixIndex$SuffixOrder" ⟨"SuffixIndex$SuffixOrder", "rankOfPiece", "(J)I"⟩ ⟨"SuffixIndex$SuffixOrder", "rankOfPiece", "(J)I"⟩ ∈ WT := wt_t5 35 rfl rfl
set_option maxRecDepth 100000 in
theorem m_996 : Cond.code ⟨"SuffixIndex$SuffixOrder", "rankOfPiece", "(J)I"⟩ prog_7_method_6_code 6 (some .int) ∈ WT := wt_t5 36 rfl rfl
theorem ms_1 : Cond.selects "SuffixIndex$Sorter" ⟨"SuffixIndex$Sorter", "sortByRanks", "(I[I[I)V"⟩ ⟨"SuffixIndex$Sorter", "sortByRanks", "(I[I[I)V"⟩ ∈ WT := wt_s 1 rfl rfl
theorem ms_10 : Cond.selects "SuffixIndex$Search" ⟨"SuffixIndex$Search", "lastRankFrom", "(I)I"⟩ ⟨"SuffixIndex$Search", "lastRankFrom", "(I)I"⟩ ∈ WT := wt_s 10 rfl rfl
theorem ms_11 : Cond.selects "SuffixIndex$Search" ⟨"SuffixIndex$Search", "gather", "(II)V"⟩ ⟨"SuffixIndex$Search", "gather", "(II)V"⟩ ∈ WT := wt_s 11 rfl rfl
theorem ms_12 : Cond.selects "SuffixIndex$Search" ⟨"SuffixIndex$Search", "insertDocument", "(II)V"⟩ ⟨"SuffixIndex$Search", "insertDocument", "(II)V"⟩ ∈ WT := wt_s 12 rfl rfl
theorem ms_14 : Cond.selects "SuffixIndex$Search" ⟨"SuffixIndex$Search", "changedAt", "(I)I"⟩ ⟨"SuffixIndex$Search", "changedAt", "(I)I"⟩ ∈ WT := wt_s 14 rfl rfl
theorem ms_15 : Cond.selects "SuffixIndex$Search" ⟨"SuffixIndex$Search", "noteNear", "(II)V"⟩ ⟨"SuffixIndex$Search", "noteNear", "(II)V"⟩ ∈ WT := wt_s 15 rfl rfl
theorem ms_17 : Cond.selects "SuffixIndex$Window" ⟨"SuffixIndex$Window", "pushLeast", "(I)V"⟩ ⟨"SuffixIndex$Window", "pushLeast", "(I)V"⟩ ∈ WT := wt_s 17 rfl rfl
theorem ms_18 : Cond.selects "SuffixIndex$Window" ⟨"SuffixIndex$Window", "enter", "(IZ)I"⟩ ⟨"SuffixIndex$Window", "enter", "(IZ)I"⟩ ∈ WT := wt_s 18 rfl rfl
theorem ms_19 : Cond.selects "SuffixIndex$Window" ⟨"SuffixIndex$Window", "keepBetter", "(I)V"⟩ ⟨"SuffixIndex$Window", "keepBetter", "(I)V"⟩ ∈ WT := wt_s 19 rfl rfl
theorem ms_20 : Cond.selects "SuffixIndex$Window" ⟨"SuffixIndex$Window", "leave", "(IZ)I"⟩ ⟨"SuffixIndex$Window", "leave", "(IZ)I"⟩ ∈ WT := wt_s 20 rfl rfl
theorem ms_23 : Cond.selects "SuffixIndex$PhraseBook" ⟨"SuffixIndex$PhraseBook", "cutDocument", "(I)V"⟩ ⟨"SuffixIndex$PhraseBook", "cutDocument", "(I)V"⟩ ∈ WT := wt_s 23 rfl rfl
theorem ms_24 : Cond.selects "SuffixIndex$PhraseBook" ⟨"SuffixIndex$PhraseBook", "findEarlier", "(II)V"⟩ ⟨"SuffixIndex$PhraseBook", "findEarlier", "(II)V"⟩ ∈ WT := wt_s 24 rfl rfl
theorem ms_25 : Cond.selects "SuffixIndex$PhraseBook" ⟨"SuffixIndex$PhraseBook", "walkFrom", "(III)V"⟩ ⟨"SuffixIndex$PhraseBook", "walkFrom", "(III)V"⟩ ∈ WT := wt_s 25 rfl rfl
theorem ms_26 : Cond.selects "SuffixIndex$PhraseBook" ⟨"SuffixIndex$PhraseBook", "isTooShort", "(I)Z"⟩ ⟨"SuffixIndex$PhraseBook", "isTooShort", "(I)Z"⟩ ∈ WT := wt_s 26 rfl rfl
theorem ms_27 : Cond.selects "SuffixIndex$PhraseBook" ⟨"SuffixIndex$PhraseBook", "keepEarlier", "(IIII)V"⟩ ⟨"SuffixIndex$PhraseBook", "keepEarlier", "(IIII)V"⟩ ∈ WT := wt_s 27 rfl rfl
theorem ms_28 : Cond.selects "SuffixIndex$PhraseBook" ⟨"SuffixIndex$PhraseBook", "answerFor", "(I)J"⟩ ⟨"SuffixIndex$PhraseBook", "answerFor", "(I)J"⟩ ∈ WT := wt_s 28 rfl rfl
theorem ms_29 : Cond.selects "SuffixIndexModel" ⟨"SuffixIndexModel", "refuse", "(IZ)Z"⟩ ⟨"SuffixIndexModel", "refuse", "(IZ)Z"⟩ ∈ WT := wt_s 29 rfl rfl
theorem ms_3 : Cond.selects "SuffixIndex$Sorter" ⟨"SuffixIndex$Sorter", "rankAnew", "(I[I[I)I"⟩ ⟨"SuffixIndex$Sorter", "rankAnew", "(I[I[I)I"⟩ ∈ WT := wt_s 3 rfl rfl
theorem ms_30 : Cond.selects "SuffixIndexModel" ⟨"SuffixIndexModel", "sort", "(III)V"⟩ ⟨"SuffixIndexModel", "sort", "(III)V"⟩ ∈ WT := wt_s 30 rfl rfl
theorem ms_31 : Cond.selects "SuffixIndexModel" ⟨"SuffixIndexModel", "compare", "(III)I"⟩ ⟨"SuffixIndexModel", "compare", "(III)I"⟩ ∈ WT := wt_s 31 rfl rfl
theorem ms_32 : Cond.selects "SuffixIndexModel" ⟨"SuffixIndexModel", "rankAt", "(II)I"⟩ ⟨"SuffixIndexModel", "rankAt", "(II)I"⟩ ∈ WT := wt_s 32 rfl rfl
theorem ms_33 : Cond.selects "SuffixIndexModel" ⟨"SuffixIndexModel", "endOf", "(I)I"⟩ ⟨"SuffixIndexModel", "endOf", "(I)I"⟩ ∈ WT := wt_s 33 rfl rfl
theorem ms_34 : Cond.selects "SuffixIndexModel" ⟨"SuffixIndexModel", "alike", "(II)I"⟩ ⟨"SuffixIndexModel", "alike", "(II)I"⟩ ∈ WT := wt_s 34 rfl rfl
theorem ms_35 : Cond.selects "SuffixIndexModel" ⟨"SuffixIndexModel", "stands", "(I)Z"⟩ ⟨"SuffixIndexModel", "stands", "(I)Z"⟩ ∈ WT := wt_s 35 rfl rfl
theorem ms_36 : Cond.selects "SuffixIndexModel" ⟨"SuffixIndexModel", "where", "(I)I"⟩ ⟨"SuffixIndexModel", "where", "(I)I"⟩ ∈ WT := wt_s 36 rfl rfl
theorem ms_37 : Cond.selects "SuffixIndexModel" ⟨"SuffixIndexModel", "tell", "(II)V"⟩ ⟨"SuffixIndexModel", "tell", "(II)V"⟩ ∈ WT := wt_s 37 rfl rfl
theorem ms_38 : Cond.selects "SuffixIndexModel" ⟨"SuffixIndexModel", "placeOf", "(I)I"⟩ ⟨"SuffixIndexModel", "placeOf", "(I)I"⟩ ∈ WT := wt_s 38 rfl rfl
theorem ms_39 : Cond.selects "SuffixIndexModel" ⟨"SuffixIndexModel", "noDocument", "(I)Z"⟩ ⟨"SuffixIndexModel", "noDocument", "(I)Z"⟩ ∈ WT := wt_s 39 rfl rfl
theorem ms_4 : Cond.selects "SuffixIndex$Sorter" ⟨"SuffixIndex$Sorter", "sameRanks", "(III[I)Z"⟩ ⟨"SuffixIndex$Sorter", "sameRanks", "(III[I)Z"⟩ ∈ WT := wt_s 4 rfl rfl
theorem ms_40 : Cond.selects "SuffixIndexModel" ⟨"SuffixIndexModel", "phraseAt", "(II)I"⟩ ⟨"SuffixIndexModel", "phraseAt", "(II)I"⟩ ∈ WT := wt_s 40 rfl rfl
theorem ms_5 : Cond.selects "SuffixIndex$Sorter" ⟨"SuffixIndex$Sorter", "sortByTails", "(I[I)V"⟩ ⟨"SuffixIndex$Sorter", "sortByTails", "(I[I)V"⟩ ∈ WT := wt_s 5 rfl rfl
theorem ms_6 : Cond.selects "SuffixIndex$SuffixOrder" ⟨"SuffixIndex$SuffixOrder", "measureAlike", "()V"⟩ ⟨"SuffixIndex$SuffixOrder", "measureAlike", "()V"⟩ ∈ WT := wt_s 6 rfl rfl
theorem ms_7 : Cond.selects "SuffixIndex$SuffixOrder" ⟨"SuffixIndex$SuffixOrder", "sumPieces", "()V"⟩ ⟨"SuffixIndex$SuffixOrder", "sumPieces", "()V"⟩ ∈ WT := wt_s 7 rfl rfl
theorem ms_8 : Cond.selects "SuffixIndex$SuffixOrder" ⟨"SuffixIndex$SuffixOrder", "alikeWith", "(LSuffixIndex$ByteRow;III)I"⟩ ⟨"SuffixIndex$SuffixOrder", "alikeWith", "(LSuffixIndex$ByteRow;III)I"⟩ ∈ WT := wt_s 8 rfl rfl
theorem ms_9 : Cond.selects "SuffixIndex$SuffixOrder" ⟨"SuffixIndex$SuffixOrder", "isBefore", "(LSuffixIndex$ByteRow;II)Z"⟩ ⟨"SuffixIndex$SuffixOrder", "isBefore", "(LSuffixIndex$ByteRow;II)Z"⟩ ∈ WT := wt_s 9 rfl rfl
theorem i_BR : ∀ w ∈ u_ws "SuffixIndex$ByteRow" F_BR 2, w ∈ WT := by
  show ∀ w ∈ [Cond.laysFinal "SuffixIndex$ByteRow" "SuffixIndex$ByteRow" "bytes" "[I", Cond.lays "SuffixIndex$ByteRow" "SuffixIndex$ByteRow" "length" "I"], w ∈ WT
  exact List.forall_mem_cons.mpr ⟨m_53, List.forall_mem_cons.mpr ⟨m_55, fun _ h => absurd h List.not_mem_nil⟩⟩
theorem i_LB : ∀ w ∈ u_ws "SuffixIndex$Library" F_LB 5, w ∈ WT := by
  show ∀ w ∈ [Cond.laysFinal "SuffixIndex$Library" "SuffixIndex$Library" "text" "[I", Cond.laysFinal "SuffixIndex$Library" "SuffixIndex$Library" "owners" "[I", Cond.laysFinal "SuffixIndex$Library" "SuffixIndex$Library" "starts" "[I", Cond.lays "SuffixIndex$Library" "SuffixIndex$Library" "documents" "I", Cond.lays "SuffixIndex$Library" "SuffixIndex$Library" "indexed" "I"], w ∈ WT
  exact List.forall_mem_cons.mpr ⟨m_81, List.forall_mem_cons.mpr ⟨m_83, List.forall_mem_cons.mpr ⟨m_85, List.forall_mem_cons.mpr ⟨m_87, List.forall_mem_cons.mpr ⟨m_89, fun _ h => absurd h List.not_mem_nil⟩⟩⟩⟩⟩
theorem i_SO : ∀ w ∈ u_ws "SuffixIndex$Sorter" F_SO 4, w ∈ WT := by
  show ∀ w ∈ [Cond.laysFinal "SuffixIndex$Sorter" "SuffixIndex$Sorter" "byTail" "[I", Cond.laysFinal "SuffixIndex$Sorter" "SuffixIndex$Sorter" "newRanks" "[I", Cond.laysFinal "SuffixIndex$Sorter" "SuffixIndex$Sorter" "tally" "[I", Cond.lays "SuffixIndex$Sorter" "SuffixIndex$Sorter" "size" "I"], w ∈ WT
  exact List.forall_mem_cons.mpr ⟨m_108, List.forall_mem_cons.mpr ⟨m_110, List.forall_mem_cons.mpr ⟨m_112, List.forall_mem_cons.mpr ⟨m_114, fun _ h => absurd h List.not_mem_nil⟩⟩⟩⟩
theorem i_OR : ∀ w ∈ u_ws "SuffixIndex$SuffixOrder" F_OR 10, w ∈ WT := by
  show ∀ w ∈ [Cond.laysFinal "SuffixIndex$SuffixOrder" "SuffixIndex$SuffixOrder" "sorted" "[I", Cond.laysFinal "SuffixIndex$SuffixOrder" "SuffixIndex$SuffixOrder" "ranks" "[I", Cond.laysFinal "SuffixIndex$SuffixOrder" "SuffixIndex$SuffixOrder" "alikeBefore" "[I", Cond.laysFinal "SuffixIndex$SuffixOrder" "SuffixIndex$SuffixOrder" "piecesUpTo" "[J", Cond.laysFinal "SuffixIndex$SuffixOrder" "SuffixIndex$SuffixOrder" "sorter" "LSuffixIndex$Sorter;", Cond.laysFinal "SuffixIndex$SuffixOrder" "SuffixIndex$SuffixOrder" "library" "LSuffixIndex$Library;", Cond.lays "SuffixIndex$SuffixOrder" "SuffixIndex$SuffixOrder" "first" "I", Cond.lays "SuffixIndex$SuffixOrder" "SuffixIndex$SuffixOrder" "size" "I", Cond.lays "SuffixIndex$SuffixOrder" "SuffixIndex$SuffixOrder" "locatedRank" "I", Cond.lays "SuffixIndex$SuffixOrder" "SuffixIndex$SuffixOrder" "locatedLength" "I"], w ∈ WT
  exact List.forall_mem_cons.mpr ⟨m_145, List.forall_mem_cons.mpr ⟨m_147, List.forall_mem_cons.mpr ⟨m_149, List.forall_mem_cons.mpr ⟨m_151, List.forall_mem_cons.mpr ⟨m_153, List.forall_mem_cons.mpr ⟨m_155, List.forall_mem_cons.mpr ⟨m_157, List.forall_mem_cons.mpr ⟨m_159, List.forall_mem_cons.mpr ⟨m_161, List.forall_mem_cons.mpr ⟨m_163, fun _ h => absurd h List.not_mem_nil⟩⟩⟩⟩⟩⟩⟩⟩⟩⟩
theorem i_SE : ∀ w ∈ u_ws "SuffixIndex$Search" F_SE 11, w ∈ WT := by
  show ∀ w ∈ [Cond.laysFinal "SuffixIndex$Search" "SuffixIndex$Search" "sought" "LSuffixIndex$ByteRow;", Cond.laysFinal "SuffixIndex$Search" "SuffixIndex$Search" "wheres" "[I", Cond.lays "SuffixIndex$Search" "SuffixIndex$Search" "hits" "I", Cond.lays "SuffixIndex$Search" "SuffixIndex$Search" "documentsHit" "I", Cond.laysFinal "SuffixIndex$Search" "SuffixIndex$Search" "nearHits" "[I", Cond.laysFinal "SuffixIndex$Search" "SuffixIndex$Search" "nearLast" "[I", Cond.laysFinal "SuffixIndex$Search" "SuffixIndex$Search" "documentKeys" "[I", Cond.laysFinal "SuffixIndex$Search" "SuffixIndex$Search" "library" "LSuffixIndex$Library;", Cond.laysFinal "SuffixIndex$Search" "SuffixIndex$Search" "order" "LSuffixIndex$SuffixOrder;", Cond.lays "SuffixIndex$Search" "SuffixIndex$Search" "nearKnown" "Z", Cond.lays "SuffixIndex$Search" "SuffixIndex$Search" "matchedSum" "I"], w ∈ WT
  exact List.forall_mem_cons.mpr ⟨m_191, List.forall_mem_cons.mpr ⟨m_193, List.forall_mem_cons.mpr ⟨m_195, List.forall_mem_cons.mpr ⟨m_197, List.forall_mem_cons.mpr ⟨m_199, List.forall_mem_cons.mpr ⟨m_201, List.forall_mem_cons.mpr ⟨m_203, List.forall_mem_cons.mpr ⟨m_205, List.forall_mem_cons.mpr ⟨m_207, List.forall_mem_cons.mpr ⟨m_209, List.forall_mem_cons.mpr ⟨m_211, fun _ h => absurd h List.not_mem_nil⟩⟩⟩⟩⟩⟩⟩⟩⟩⟩⟩
theorem i_WI : ∀ w ∈ u_ws "SuffixIndex$Window" F_WI 8, w ∈ WT := by
  show ∀ w ∈ [Cond.lays "SuffixIndex$Window" "SuffixIndex$Window" "bestPosition" "I", Cond.lays "SuffixIndex$Window" "SuffixIndex$Window" "bestLength" "I", Cond.laysFinal "SuffixIndex$Window" "SuffixIndex$Window" "library" "LSuffixIndex$Library;", Cond.laysFinal "SuffixIndex$Window" "SuffixIndex$Window" "order" "LSuffixIndex$SuffixOrder;", Cond.laysFinal "SuffixIndex$Window" "SuffixIndex$Window" "inside" "[I", Cond.laysFinal "SuffixIndex$Window" "SuffixIndex$Window" "least" "[I", Cond.lays "SuffixIndex$Window" "SuffixIndex$Window" "leastFrom" "I", Cond.lays "SuffixIndex$Window" "SuffixIndex$Window" "leastTo" "I"], w ∈ WT
  exact List.forall_mem_cons.mpr ⟨m_230, List.forall_mem_cons.mpr ⟨m_232, List.forall_mem_cons.mpr ⟨m_234, List.forall_mem_cons.mpr ⟨m_236, List.forall_mem_cons.mpr ⟨m_238, List.forall_mem_cons.mpr ⟨m_240, List.forall_mem_cons.mpr ⟨m_242, List.forall_mem_cons.mpr ⟨m_244, fun _ h => absurd h List.not_mem_nil⟩⟩⟩⟩⟩⟩⟩⟩
theorem i_PB : ∀ w ∈ u_ws "SuffixIndex$PhraseBook" F_PB 6, w ∈ WT := by
  show ∀ w ∈ [Cond.laysFinal "SuffixIndex$PhraseBook" "SuffixIndex$PhraseBook" "answers" "[J", Cond.laysFinal "SuffixIndex$PhraseBook" "SuffixIndex$PhraseBook" "amounts" "[I", Cond.laysFinal "SuffixIndex$PhraseBook" "SuffixIndex$PhraseBook" "library" "LSuffixIndex$Library;", Cond.laysFinal "SuffixIndex$PhraseBook" "SuffixIndex$PhraseBook" "order" "LSuffixIndex$SuffixOrder;", Cond.lays "SuffixIndex$PhraseBook" "SuffixIndex$PhraseBook" "earlierLength" "I", Cond.lays "SuffixIndex$PhraseBook" "SuffixIndex$PhraseBook" "earlierPosition" "I"], w ∈ WT
  exact List.forall_mem_cons.mpr ⟨m_260, List.forall_mem_cons.mpr ⟨m_262, List.forall_mem_cons.mpr ⟨m_264, List.forall_mem_cons.mpr ⟨m_266, List.forall_mem_cons.mpr ⟨m_268, List.forall_mem_cons.mpr ⟨m_270, fun _ h => absurd h List.not_mem_nil⟩⟩⟩⟩⟩⟩
theorem i_SI : ∀ w ∈ u_ws "SuffixIndex" F_SI 7, w ∈ WT := by
  show ∀ w ∈ [Cond.laysFinal "SuffixIndex" "SuffixIndex" "tape" "LSuffixIndex$ByteRow;", Cond.laysFinal "SuffixIndex" "SuffixIndex" "told" "LSuffixIndex$ByteRow;", Cond.laysFinal "SuffixIndex" "SuffixIndex" "library" "LSuffixIndex$Library;", Cond.laysFinal "SuffixIndex" "SuffixIndex" "order" "LSuffixIndex$SuffixOrder;", Cond.laysFinal "SuffixIndex" "SuffixIndex" "search" "LSuffixIndex$Search;", Cond.laysFinal "SuffixIndex" "SuffixIndex" "window" "LSuffixIndex$Window;", Cond.laysFinal "SuffixIndex" "SuffixIndex" "phraseBook" "LSuffixIndex$PhraseBook;"], w ∈ WT
  exact List.forall_mem_cons.mpr ⟨m_280, List.forall_mem_cons.mpr ⟨m_282, List.forall_mem_cons.mpr ⟨m_284, List.forall_mem_cons.mpr ⟨m_286, List.forall_mem_cons.mpr ⟨m_288, List.forall_mem_cons.mpr ⟨m_290, List.forall_mem_cons.mpr ⟨m_292, fun _ h => absurd h List.not_mem_nil⟩⟩⟩⟩⟩⟩⟩
theorem i_MD : ∀ w ∈ u_ws "SuffixIndexModel" F_MD 22, w ∈ WT := by
  show ∀ w ∈ [Cond.lays "SuffixIndexModel" "SuffixIndexModel" "thrown" "I", Cond.laysFinal "SuffixIndexModel" "SuffixIndexModel" "tape" "[B", Cond.laysFinal "SuffixIndexModel" "SuffixIndexModel" "row" "[B", Cond.laysFinal "SuffixIndexModel" "SuffixIndexModel" "out" "[B", Cond.laysFinal "SuffixIndexModel" "SuffixIndexModel" "sought" "[B", Cond.lays "SuffixIndexModel" "SuffixIndexModel" "size" "I", Cond.lays "SuffixIndexModel" "SuffixIndexModel" "outSize" "I", Cond.lays "SuffixIndexModel" "SuffixIndexModel" "soughtSize" "I", Cond.lays "SuffixIndexModel" "SuffixIndexModel" "documents" "I", Cond.lays "SuffixIndexModel" "SuffixIndexModel" "indexed" "I", Cond.lays "SuffixIndexModel" "SuffixIndexModel" "suffixes" "I", Cond.lays "SuffixIndexModel" "SuffixIndexModel" "rows" "I", Cond.laysFinal "SuffixIndexModel" "SuffixIndexModel" "start" "[I", Cond.laysFinal "SuffixIndexModel" "SuffixIndexModel" "documentOf" "[I", Cond.laysFinal "SuffixIndexModel" "SuffixIndexModel" "order" "[I", Cond.laysFinal "SuffixIndexModel" "SuffixIndexModel" "rankOf" "[I", Cond.laysFinal "SuffixIndexModel" "SuffixIndexModel" "same" "[I", Cond.laysFinal "SuffixIndexModel" "SuffixIndexModel" "work" "[I", Cond.laysFinal "SuffixIndexModel" "SuffixIndexModel" "next" "[I", Cond.laysFinal "SuffixIndexModel" "SuffixIndexModel" "often" "[I", Cond.laysFinal "SuffixIndexModel" "SuffixIndexModel" "has" "[Z", Cond.lays "SuffixIndexModel" "SuffixIndexModel" "lesser" "I"], w ∈ WT
  exact List.forall_mem_cons.mpr ⟨m_1123, List.forall_mem_cons.mpr ⟨m_1125, List.forall_mem_cons.mpr ⟨m_1127, List.forall_mem_cons.mpr ⟨m_1129, List.forall_mem_cons.mpr ⟨m_1131, List.forall_mem_cons.mpr ⟨m_1133, List.forall_mem_cons.mpr ⟨m_1135, List.forall_mem_cons.mpr ⟨m_1137, List.forall_mem_cons.mpr ⟨m_1139, List.forall_mem_cons.mpr ⟨m_1141, List.forall_mem_cons.mpr ⟨m_1143, List.forall_mem_cons.mpr ⟨m_1145, List.forall_mem_cons.mpr ⟨m_1147, List.forall_mem_cons.mpr ⟨m_1149, List.forall_mem_cons.mpr ⟨m_1151, List.forall_mem_cons.mpr ⟨m_1153, List.forall_mem_cons.mpr ⟨m_1155, List.forall_mem_cons.mpr ⟨m_1157, List.forall_mem_cons.mpr ⟨m_1159, List.forall_mem_cons.mpr ⟨m_1161, List.forall_mem_cons.mpr ⟨m_1163, List.forall_mem_cons.mpr ⟨m_1165, fun _ h => absurd h List.not_mem_nil⟩⟩⟩⟩⟩⟩⟩⟩⟩⟩⟩⟩⟩⟩⟩⟩⟩⟩⟩⟩⟩⟩
abbrev b_AR_rangeCheck : ByteArray := prog_27_method_30_code
abbrev y_AR_rangeCheck : MethodName := ⟨"java/util/Arrays", "rangeCheck", "(III)V"⟩
abbrev rm_AR_rangeCheck : Room := { frames := 0, cells := 0, slots := 0, locals := 0 }
abbrev b_AR_fill1 : ByteArray := prog_27_method_104_code
abbrev y_AR_fill1 : MethodName := ⟨"java/util/Arrays", "fill", "([IIII)V"⟩
abbrev rm_AR_fill1 : Room := { frames := 8, cells := 0, slots := 0, locals := 64 }
abbrev b_AR_fill0 : ByteArray := prog_27_method_103_code
abbrev y_AR_fill0 : MethodName := ⟨"java/util/Arrays", "fill", "([II)V"⟩
abbrev rm_AR_fill0 : Room := { frames := 0, cells := 0, slots := 0, locals := 0 }
abbrev b_BR_hasRoom : ByteArray := prog_2_method_2_code
abbrev y_BR_hasRoom : MethodName := ⟨"SuffixIndex$ByteRow", "hasRoom", "(I)Z"⟩
abbrev rm_BR_hasRoom : Room := { frames := 0, cells := 0, slots := 0, locals := 0 }
abbrev b_BR_putFour : ByteArray := prog_2_method_3_code
abbrev y_BR_putFour : MethodName := ⟨"SuffixIndex$ByteRow", "putFour", "(I)V"⟩
abbrev rm_BR_putFour : Room := { frames := 8, cells := 0, slots := 0, locals := 64 }
abbrev b_BR_copy : ByteArray := prog_2_method_4_code
abbrev y_BR_copy : MethodName := ⟨"SuffixIndex$ByteRow", "copy", "([III)V"⟩
abbrev rm_BR_copy : Room := { frames := 8, cells := 0, slots := 0, locals := 64 }
abbrev b_LB_hasRoom : ByteArray := prog_3_method_2_code
abbrev y_LB_hasRoom : MethodName := ⟨"SuffixIndex$Library", "hasRoom", "(I)Z"⟩
abbrev rm_LB_hasRoom : Room := { frames := 0, cells := 0, slots := 0, locals := 0 }
abbrev b_LB_append : ByteArray := prog_3_method_3_code
abbrev y_LB_append : MethodName := ⟨"SuffixIndex$Library", "append", "(LSuffixIndex$ByteRow;)I"⟩
abbrev rm_LB_append : Room := { frames := 16, cells := 0, slots := 0, locals := 128 }
abbrev b_LB_indexedText : ByteArray := prog_3_method_4_code
abbrev y_LB_indexedText : MethodName := ⟨"SuffixIndex$Library", "indexedText", "()I"⟩
abbrev rm_LB_indexedText : Room := { frames := 0, cells := 0, slots := 0, locals := 0 }
abbrev b_LB_suffixes : ByteArray := prog_3_method_5_code
abbrev y_LB_suffixes : MethodName := ⟨"SuffixIndex$Library", "suffixes", "()I"⟩
abbrev rm_LB_suffixes : Room := { frames := 0, cells := 0, slots := 0, locals := 0 }
abbrev b_LB_endOf : ByteArray := prog_3_method_6_code
abbrev y_LB_endOf : MethodName := ⟨"SuffixIndex$Library", "endOf", "(I)I"⟩
abbrev rm_LB_endOf : Room := { frames := 0, cells := 0, slots := 0, locals := 0 }
abbrev b_LB_lengthFrom : ByteArray := prog_3_method_7_code
abbrev y_LB_lengthFrom : MethodName := ⟨"SuffixIndex$Library", "lengthFrom", "(I)I"⟩
abbrev rm_LB_lengthFrom : Room := { frames := 8, cells := 0, slots := 0, locals := 64 }
abbrev b_LB_whereOf : ByteArray := prog_3_method_8_code
abbrev y_LB_whereOf : MethodName := ⟨"SuffixIndex$Library", "whereOf", "(I)I"⟩
abbrev rm_LB_whereOf : Room := { frames := 0, cells := 0, slots := 0, locals := 0 }
abbrev b_LB_positionOf : ByteArray := prog_3_method_9_code
abbrev y_LB_positionOf : MethodName := ⟨"SuffixIndex$Library", "positionOf", "(I)I"⟩
abbrev rm_LB_positionOf : Room := { frames := 8, cells := 0, slots := 0, locals := 64 }
abbrev b_LB_alike : ByteArray := prog_3_method_10_code
abbrev y_LB_alike : MethodName := ⟨"SuffixIndex$Library", "alike", "(III)I"⟩
abbrev rm_LB_alike : Room := { frames := 8, cells := 0, slots := 0, locals := 64 }
abbrev b_SO_sortByRanks : ByteArray := prog_6_method_4_code
abbrev y_SO_sortByRanks : MethodName := ⟨"SuffixIndex$Sorter", "sortByRanks", "(I[I[I)V"⟩
abbrev rm_SO_sortByRanks : Room := { frames := 16, cells := 0, slots := 0, locals := 128 }
abbrev b_SO_sameRanks : ByteArray := prog_6_method_6_code
abbrev y_SO_sameRanks : MethodName := ⟨"SuffixIndex$Sorter", "sameRanks", "(III[I)Z"⟩
abbrev rm_SO_sameRanks : Room := { frames := 0, cells := 0, slots := 0, locals := 0 }
abbrev b_SO_rankAnew : ByteArray := prog_6_method_5_code
abbrev y_SO_rankAnew : MethodName := ⟨"SuffixIndex$Sorter", "rankAnew", "(I[I[I)I"⟩
abbrev rm_SO_rankAnew : Room := { frames := 8, cells := 0, slots := 0, locals := 64 }
abbrev b_SO_sortByTails : ByteArray := prog_6_method_3_code
abbrev y_SO_sortByTails : MethodName := ⟨"SuffixIndex$Sorter", "sortByTails", "(I[I)V"⟩
abbrev rm_SO_sortByTails : Room := { frames := 0, cells := 0, slots := 0, locals := 0 }
abbrev b_SO_sort : ByteArray := prog_6_method_2_code
abbrev y_SO_sort : MethodName := ⟨"SuffixIndex$Sorter", "sort", "([II[I[I)V"⟩
abbrev rm_SO_sort : Room := { frames := 24, cells := 0, slots := 0, locals := 192 }
abbrev b_OR_measureAlike : ByteArray := prog_7_method_3_code
abbrev y_OR_measureAlike : MethodName := ⟨"SuffixIndex$SuffixOrder", "measureAlike", "()V"⟩
abbrev rm_OR_measureAlike : Room := { frames := 16, cells := 0, slots := 0, locals := 128 }
abbrev b_OR_sumPieces : ByteArray := prog_7_method_4_code
abbrev y_OR_sumPieces : MethodName := ⟨"SuffixIndex$SuffixOrder", "sumPieces", "()V"⟩
abbrev rm_OR_sumPieces : Room := { frames := 16, cells := 0, slots := 0, locals := 128 }
abbrev b_OR_renew : ByteArray := prog_7_method_2_code
abbrev y_OR_renew : MethodName := ⟨"SuffixIndex$SuffixOrder", "renew", "()V"⟩
abbrev rm_OR_renew : Room := { frames := 32, cells := 0, slots := 0, locals := 256 }
abbrev b_OR_differentPieces : ByteArray := prog_7_method_5_code
abbrev y_OR_differentPieces : MethodName := ⟨"SuffixIndex$SuffixOrder", "differentPieces", "()J"⟩
abbrev rm_OR_differentPieces : Room := { frames := 0, cells := 0, slots := 0, locals := 0 }
abbrev b_OR_rankOfPiece : ByteArray := prog_7_method_6_code
abbrev y_OR_rankOfPiece : MethodName := ⟨"SuffixIndex$SuffixOrder", "rankOfPiece", "(J)I"⟩
abbrev rm_OR_rankOfPiece : Room := { frames := 0, cells := 0, slots := 0, locals := 0 }
abbrev b_OR_lengthOfPiece : ByteArray := prog_7_method_7_code
abbrev y_OR_lengthOfPiece : MethodName := ⟨"SuffixIndex$SuffixOrder", "lengthOfPiece", "(J)I"⟩
abbrev rm_OR_lengthOfPiece : Room := { frames := 16, cells := 0, slots := 0, locals := 128 }
abbrev b_OR_singleLength : ByteArray := prog_7_method_8_code
abbrev y_OR_singleLength : MethodName := ⟨"SuffixIndex$SuffixOrder", "singleLength", "(I)I"⟩
abbrev rm_OR_singleLength : Room := { frames := 8, cells := 0, slots := 0, locals := 64 }
abbrev b_OR_alikeWith : ByteArray := prog_7_method_10_code
abbrev y_OR_alikeWith : MethodName := ⟨"SuffixIndex$SuffixOrder", "alikeWith", "(LSuffixIndex$ByteRow;III)I"⟩
abbrev rm_OR_alikeWith : Room := { frames := 8, cells := 0, slots := 0, locals := 64 }
abbrev b_OR_isBefore : ByteArray := prog_7_method_11_code
abbrev y_OR_isBefore : MethodName := ⟨"SuffixIndex$SuffixOrder", "isBefore", "(LSuffixIndex$ByteRow;II)Z"⟩
abbrev rm_OR_isBefore : Room := { frames := 0, cells := 0, slots := 0, locals := 0 }
abbrev b_OR_locate : ByteArray := prog_7_method_9_code
abbrev y_OR_locate : MethodName := ⟨"SuffixIndex$SuffixOrder", "locate", "(LSuffixIndex$ByteRow;I)V"⟩
abbrev rm_OR_locate : Room := { frames := 16, cells := 0, slots := 0, locals := 128 }
abbrev b_SE_forget : ByteArray := prog_5_method_2_code
abbrev y_SE_forget : MethodName := ⟨"SuffixIndex$Search", "forget", "()V"⟩
abbrev rm_SE_forget : Room := { frames := 0, cells := 0, slots := 0, locals := 0 }
abbrev b_SE_lastRankFrom : ByteArray := prog_5_method_4_code
abbrev y_SE_lastRankFrom : MethodName := ⟨"SuffixIndex$Search", "lastRankFrom", "(I)I"⟩
abbrev rm_SE_lastRankFrom : Room := { frames := 0, cells := 0, slots := 0, locals := 0 }
abbrev b_SE_insertDocument : ByteArray := prog_5_method_6_code
abbrev y_SE_insertDocument : MethodName := ⟨"SuffixIndex$Search", "insertDocument", "(II)V"⟩
abbrev rm_SE_insertDocument : Room := { frames := 0, cells := 0, slots := 0, locals := 0 }
abbrev b_SE_gather : ByteArray := prog_5_method_5_code
abbrev y_SE_gather : MethodName := ⟨"SuffixIndex$Search", "gather", "(II)V"⟩
abbrev rm_SE_gather : Room := { frames := 8, cells := 0, slots := 0, locals := 64 }
abbrev b_SE_begin : ByteArray := prog_5_method_3_code
abbrev y_SE_begin : MethodName := ⟨"SuffixIndex$Search", "begin", "(LSuffixIndex$ByteRow;)V"⟩
abbrev rm_SE_begin : Room := { frames := 24, cells := 0, slots := 0, locals := 192 }
abbrev b_SE_documentHit : ByteArray := prog_5_method_7_code
abbrev y_SE_documentHit : MethodName := ⟨"SuffixIndex$Search", "documentHit", "(I)I"⟩
abbrev rm_SE_documentHit : Room := { frames := 0, cells := 0, slots := 0, locals := 0 }
abbrev b_SE_changedAt : ByteArray := prog_5_method_10_code
abbrev y_SE_changedAt : MethodName := ⟨"SuffixIndex$Search", "changedAt", "(I)I"⟩
abbrev rm_SE_changedAt : Room := { frames := 0, cells := 0, slots := 0, locals := 0 }
abbrev b_SE_noteNear : ByteArray := prog_5_method_9_code
abbrev y_SE_noteNear : MethodName := ⟨"SuffixIndex$Search", "noteNear", "(II)V"⟩
abbrev rm_SE_noteNear : Room := { frames := 0, cells := 0, slots := 0, locals := 0 }
abbrev b_SE_learnNear : ByteArray := prog_5_method_8_code
abbrev y_SE_learnNear : MethodName := ⟨"SuffixIndex$Search", "learnNear", "()V"⟩
abbrev rm_SE_learnNear : Room := { frames := 8, cells := 0, slots := 0, locals := 64 }
abbrev b_SE_matchedBytes : ByteArray := prog_5_method_11_code
abbrev y_SE_matchedBytes : MethodName := ⟨"SuffixIndex$Search", "matchedBytes", "()I"⟩
abbrev rm_SE_matchedBytes : Room := { frames := 24, cells := 0, slots := 0, locals := 192 }
abbrev b_WI_pushLeast : ByteArray := prog_8_method_5_code
abbrev y_WI_pushLeast : MethodName := ⟨"SuffixIndex$Window", "pushLeast", "(I)V"⟩
abbrev rm_WI_pushLeast : Room := { frames := 0, cells := 0, slots := 0, locals := 0 }
abbrev b_WI_enter : ByteArray := prog_8_method_3_code
abbrev y_WI_enter : MethodName := ⟨"SuffixIndex$Window", "enter", "(IZ)I"⟩
abbrev rm_WI_enter : Room := { frames := 0, cells := 0, slots := 0, locals := 0 }
abbrev b_WI_keepBetter : ByteArray := prog_8_method_6_code
abbrev y_WI_keepBetter : MethodName := ⟨"SuffixIndex$Window", "keepBetter", "(I)V"⟩
abbrev rm_WI_keepBetter : Room := { frames := 0, cells := 0, slots := 0, locals := 0 }
abbrev b_WI_leave : ByteArray := prog_8_method_4_code
abbrev y_WI_leave : MethodName := ⟨"SuffixIndex$Window", "leave", "(IZ)I"⟩
abbrev rm_WI_leave : Room := { frames := 0, cells := 0, slots := 0, locals := 0 }
abbrev b_WI_slide : ByteArray := prog_8_method_2_code
abbrev y_WI_slide : MethodName := ⟨"SuffixIndex$Window", "slide", "(IZ)V"⟩
abbrev rm_WI_slide : Room := { frames := 8, cells := 0, slots := 0, locals := 64 }
abbrev b_PB_forget : ByteArray := prog_4_method_2_code
abbrev y_PB_forget : MethodName := ⟨"SuffixIndex$PhraseBook", "forget", "()V"⟩
abbrev rm_PB_forget : Room := { frames := 8, cells := 0, slots := 0, locals := 64 }
abbrev b_PB_isTooShort : ByteArray := prog_4_method_8_code
abbrev y_PB_isTooShort : MethodName := ⟨"SuffixIndex$PhraseBook", "isTooShort", "(I)Z"⟩
abbrev rm_PB_isTooShort : Room := { frames := 0, cells := 0, slots := 0, locals := 0 }
abbrev b_PB_keepEarlier : ByteArray := prog_4_method_9_code
abbrev y_PB_keepEarlier : MethodName := ⟨"SuffixIndex$PhraseBook", "keepEarlier", "(IIII)V"⟩
abbrev rm_PB_keepEarlier : Room := { frames := 0, cells := 0, slots := 0, locals := 0 }
abbrev b_PB_walkFrom : ByteArray := prog_4_method_7_code
abbrev y_PB_walkFrom : MethodName := ⟨"SuffixIndex$PhraseBook", "walkFrom", "(III)V"⟩
abbrev rm_PB_walkFrom : Room := { frames := 8, cells := 0, slots := 0, locals := 64 }
abbrev b_PB_findEarlier : ByteArray := prog_4_method_6_code
abbrev y_PB_findEarlier : MethodName := ⟨"SuffixIndex$PhraseBook", "findEarlier", "(II)V"⟩
abbrev rm_PB_findEarlier : Room := { frames := 16, cells := 0, slots := 0, locals := 128 }
abbrev b_PB_answerFor : ByteArray := prog_4_method_5_code
abbrev y_PB_answerFor : MethodName := ⟨"SuffixIndex$PhraseBook", "answerFor", "(I)J"⟩
abbrev rm_PB_answerFor : Room := { frames := 0, cells := 0, slots := 0, locals := 0 }
abbrev b_PB_cutDocument : ByteArray := prog_4_method_4_code
abbrev y_PB_cutDocument : MethodName := ⟨"SuffixIndex$PhraseBook", "cutDocument", "(I)V"⟩
abbrev rm_PB_cutDocument : Room := { frames := 24, cells := 0, slots := 0, locals := 192 }
abbrev b_PB_amountIn : ByteArray := prog_4_method_3_code
abbrev y_PB_amountIn : MethodName := ⟨"SuffixIndex$PhraseBook", "amountIn", "(I)I"⟩
abbrev rm_PB_amountIn : Room := { frames := 32, cells := 0, slots := 0, locals := 256 }
abbrev b_MD_thrown : ByteArray := prog_10_method_2_code
abbrev y_MD_thrown : MethodName := ⟨"SuffixIndexModel", "thrown", "()I"⟩
abbrev rm_MD_thrown : Room := { frames := 0, cells := 0, slots := 0, locals := 0 }
abbrev b_MD_refuse : ByteArray := prog_10_method_3_code
abbrev y_MD_refuse : MethodName := ⟨"SuffixIndexModel", "refuse", "(IZ)Z"⟩
abbrev rm_MD_refuse : Room := { frames := 0, cells := 0, slots := 0, locals := 0 }
abbrev b_MD_feed : ByteArray := prog_10_method_4_code
abbrev y_MD_feed : MethodName := ⟨"SuffixIndexModel", "feed", "(IIIII)I"⟩
abbrev rm_MD_feed : Room := { frames := 8, cells := 0, slots := 0, locals := 64 }
abbrev b_MD_end : ByteArray := prog_10_method_5_code
abbrev y_MD_end : MethodName := ⟨"SuffixIndexModel", "end", "(I)I"⟩
abbrev rm_MD_end : Room := { frames := 8, cells := 0, slots := 0, locals := 64 }
abbrev b_MD_add : ByteArray := prog_10_method_6_code
abbrev y_MD_add : MethodName := ⟨"SuffixIndexModel", "add", "()I"⟩
abbrev rm_MD_add : Room := { frames := 8, cells := 0, slots := 0, locals := 64 }
abbrev b_MD_clear : ByteArray := prog_10_method_7_code
abbrev y_MD_clear : MethodName := ⟨"SuffixIndexModel", "clear", "()I"⟩
abbrev rm_MD_clear : Room := { frames := 0, cells := 0, slots := 0, locals := 0 }
abbrev b_MD_endOf : ByteArray := prog_10_method_8_code
abbrev y_MD_endOf : MethodName := ⟨"SuffixIndexModel", "endOf", "(I)I"⟩
abbrev rm_MD_endOf : Room := { frames := 0, cells := 0, slots := 0, locals := 0 }
abbrev b_MD_rankAt : ByteArray := prog_10_method_9_code
abbrev y_MD_rankAt : MethodName := ⟨"SuffixIndexModel", "rankAt", "(II)I"⟩
abbrev rm_MD_rankAt : Room := { frames := 8, cells := 0, slots := 0, locals := 64 }
abbrev b_MD_compare : ByteArray := prog_10_method_10_code
abbrev y_MD_compare : MethodName := ⟨"SuffixIndexModel", "compare", "(III)I"⟩
abbrev rm_MD_compare : Room := { frames := 16, cells := 0, slots := 0, locals := 128 }
abbrev b_MD_sort : ByteArray := prog_10_method_11_code
abbrev y_MD_sort : MethodName := ⟨"SuffixIndexModel", "sort", "(III)V"⟩
abbrev rm_MD_sort (d : Nat) : Room := { frames := 8 * (3 + d), cells := 0, slots := 0, locals := 64 * (3 + d) }
abbrev b_MD_alike : ByteArray := prog_10_method_13_code
abbrev y_MD_alike : MethodName := ⟨"SuffixIndexModel", "alike", "(II)I"⟩
abbrev rm_MD_alike : Room := { frames := 8, cells := 0, slots := 0, locals := 64 }
abbrev b_MD_build : ByteArray := prog_10_method_12_code
abbrev y_MD_build : MethodName := ⟨"SuffixIndexModel", "build", "()I"⟩
abbrev rm_MD_build : Room := { frames := 192, cells := 0, slots := 0, locals := 1536 }
abbrev b_MD_where : ByteArray := prog_10_method_14_code
abbrev y_MD_where : MethodName := ⟨"SuffixIndexModel", "where", "(I)I"⟩
abbrev rm_MD_where : Room := { frames := 0, cells := 0, slots := 0, locals := 0 }
abbrev b_MD_placeOf : ByteArray := prog_10_method_15_code
abbrev y_MD_placeOf : MethodName := ⟨"SuffixIndexModel", "placeOf", "(I)I"⟩
abbrev rm_MD_placeOf : Room := { frames := 0, cells := 0, slots := 0, locals := 0 }
abbrev b_MD_stands : ByteArray := prog_10_method_16_code
abbrev y_MD_stands : MethodName := ⟨"SuffixIndexModel", "stands", "(I)Z"⟩
abbrev rm_MD_stands : Room := { frames := 8, cells := 0, slots := 0, locals := 64 }
abbrev b_MD_seek : ByteArray := prog_10_method_17_code
abbrev y_MD_seek : MethodName := ⟨"SuffixIndexModel", "seek", "()I"⟩
abbrev rm_MD_seek : Room := { frames := 16, cells := 0, slots := 0, locals := 128 }
abbrev b_MD_found : ByteArray := prog_10_method_18_code
abbrev y_MD_found : MethodName := ⟨"SuffixIndexModel", "found", "(I)I"⟩
abbrev rm_MD_found : Room := { frames := 16, cells := 0, slots := 0, locals := 128 }
abbrev b_MD_most : ByteArray := prog_10_method_19_code
abbrev y_MD_most : MethodName := ⟨"SuffixIndexModel", "most", "(I)I"⟩
abbrev rm_MD_most : Room := { frames := 16, cells := 0, slots := 0, locals := 128 }
abbrev b_MD_tell : ByteArray := prog_10_method_20_code
abbrev y_MD_tell : MethodName := ⟨"SuffixIndexModel", "tell", "(II)V"⟩
abbrev rm_MD_tell : Room := { frames := 0, cells := 0, slots := 0, locals := 0 }
abbrev b_MD_near : ByteArray := prog_10_method_21_code
abbrev y_MD_near : MethodName := ⟨"SuffixIndexModel", "near", "(I)I"⟩
abbrev rm_MD_near : Room := { frames := 8, cells := 0, slots := 0, locals := 64 }
abbrev b_MD_matched : ByteArray := prog_10_method_22_code
abbrev y_MD_matched : MethodName := ⟨"SuffixIndexModel", "matched", "()I"⟩
abbrev rm_MD_matched : Room := { frames := 8, cells := 0, slots := 0, locals := 64 }
abbrev b_MD_suffix : ByteArray := prog_10_method_23_code
abbrev y_MD_suffix : MethodName := ⟨"SuffixIndexModel", "suffix", "(I)I"⟩
abbrev rm_MD_suffix : Room := { frames := 8, cells := 0, slots := 0, locals := 64 }
abbrev b_MD_rank : ByteArray := prog_10_method_24_code
abbrev y_MD_rank : MethodName := ⟨"SuffixIndexModel", "rank", "(I)I"⟩
abbrev rm_MD_rank : Room := { frames := 8, cells := 0, slots := 0, locals := 64 }
abbrev b_MD_common : ByteArray := prog_10_method_25_code
abbrev y_MD_common : MethodName := ⟨"SuffixIndexModel", "common", "(II)I"⟩
abbrev rm_MD_common : Room := { frames := 16, cells := 0, slots := 0, locals := 128 }
abbrev b_MD_repeat : ByteArray := prog_10_method_26_code
abbrev y_MD_repeat : MethodName := ⟨"SuffixIndexModel", "repeat", "(I)I"⟩
abbrev rm_MD_repeat : Room := { frames := 8, cells := 0, slots := 0, locals := 64 }
abbrev b_MD_shared : ByteArray := prog_10_method_27_code
abbrev y_MD_shared : MethodName := ⟨"SuffixIndexModel", "shared", "(I)I"⟩
abbrev rm_MD_shared : Room := { frames := 8, cells := 0, slots := 0, locals := 64 }
abbrev b_MD_pieces : ByteArray := prog_10_method_28_code
abbrev y_MD_pieces : MethodName := ⟨"SuffixIndexModel", "pieces", "()J"⟩
abbrev rm_MD_pieces : Room := { frames := 8, cells := 0, slots := 0, locals := 64 }
abbrev b_MD_piece : ByteArray := prog_10_method_29_code
abbrev y_MD_piece : MethodName := ⟨"SuffixIndexModel", "piece", "(J)I"⟩
abbrev rm_MD_piece : Room := { frames := 8, cells := 0, slots := 0, locals := 64 }
abbrev b_MD_noDocument : ByteArray := prog_10_method_30_code
abbrev y_MD_noDocument : MethodName := ⟨"SuffixIndexModel", "noDocument", "(I)Z"⟩
abbrev rm_MD_noDocument : Room := { frames := 8, cells := 0, slots := 0, locals := 64 }
abbrev b_MD_single : ByteArray := prog_10_method_31_code
abbrev y_MD_single : MethodName := ⟨"SuffixIndexModel", "single", "(I)I"⟩
abbrev rm_MD_single : Room := { frames := 16, cells := 0, slots := 0, locals := 128 }
abbrev b_MD_phraseAt : ByteArray := prog_10_method_32_code
abbrev y_MD_phraseAt : MethodName := ⟨"SuffixIndexModel", "phraseAt", "(II)I"⟩
abbrev rm_MD_phraseAt : Room := { frames := 16, cells := 0, slots := 0, locals := 128 }
abbrev b_MD_phrases : ByteArray := prog_10_method_33_code
abbrev y_MD_phrases : MethodName := ⟨"SuffixIndexModel", "phrases", "(I)I"⟩
abbrev rm_MD_phrases : Room := { frames := 24, cells := 0, slots := 0, locals := 192 }
abbrev b_MD_phrase : ByteArray := prog_10_method_34_code
abbrev y_MD_phrase : MethodName := ⟨"SuffixIndexModel", "phrase", "(II)J"⟩
abbrev rm_MD_phrase : Room := { frames := 24, cells := 0, slots := 0, locals := 192 }
abbrev b_MD_out : ByteArray := prog_10_method_35_code
abbrev y_MD_out : MethodName := ⟨"SuffixIndexModel", "out", "(I)I"⟩
abbrev rm_MD_out : Room := { frames := 8, cells := 0, slots := 0, locals := 64 }
abbrev b_MD_at : ByteArray := prog_10_method_36_code
abbrev y_MD_at : MethodName := ⟨"SuffixIndexModel", "at", "(I)I"⟩
abbrev rm_MD_at : Room := { frames := 8, cells := 0, slots := 0, locals := 64 }
abbrev b_MD_count : ByteArray := prog_10_method_37_code
abbrev y_MD_count : MethodName := ⟨"SuffixIndexModel", "count", "(I)I"⟩
abbrev rm_MD_count : Room := { frames := 0, cells := 0, slots := 0, locals := 0 }
