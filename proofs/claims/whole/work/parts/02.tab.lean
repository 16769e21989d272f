/-! names and tables of the program, by wip/whole/gen_tab.py; the classes' field tables stand as the task prints them -/
def RX0 : String := "KeptSentences$Book"
def TX0 : u_T := fun k => match k with
  | 0 => ("KeptSentences$Book", "text", "LKeptSentences$Text;", true)
  | 1 => ("KeptSentences$Book", "segments", "[LKeptSentences$Row;", true)
  | 2 => ("KeptSentences$Book", "ends", "[I", true)
  | _ => ("KeptSentences$Book", "size", "I", false)
def tyX0 : Nat → FieldType := fun k => match k with
  | 0 => .object "KeptSentences$Text"
  | 1 => .array (.object "KeptSentences$Row")
  | 2 => .array .int
  | _ => .int
theorem nmX0 : ∀ a, a < 4 → ∀ b, b < 4 → a ≠ b → (TX0 a).2.1 ≠ (TX0 b).2.1 := by decide +kernel
theorem tyX0_ok : ∀ k, k < 4 → parseFieldDescriptor (TX0 k).2.2.1 = some (tyX0 k) := by decide +kernel
def RX1 : String := "KeptSentences$Ladder"
def TX1 : u_T := fun k => match k with
  | 0 => ("KeptSentences$Ladder", "sums", "[I", true)
  | 1 => ("KeptSentences$Ladder", "sorts", "[I", true)
  | 2 => ("KeptSentences$Ladder", "lefts", "[I", true)
  | 3 => ("KeptSentences$Ladder", "rights", "[I", true)
  | _ => ("KeptSentences$Ladder", "steps", "I", false)
def tyX1 : Nat → FieldType := fun k => match k with
  | 0 => .array .int
  | 1 => .array .int
  | 2 => .array .int
  | 3 => .array .int
  | _ => .int
theorem nmX1 : ∀ a, a < 5 → ∀ b, b < 5 → a ≠ b → (TX1 a).2.1 ≠ (TX1 b).2.1 := by decide +kernel
theorem tyX1_ok : ∀ k, k < 5 → parseFieldDescriptor (TX1 k).2.2.1 = some (tyX1 k) := by decide +kernel
def RX2 : String := "KeptSentences$Memory"
def TX2 : u_T := fun k => match k with
  | 0 => ("KeptSentences$Memory", "sources", "[LKeptSentences$Text;", true)
  | 1 => ("KeptSentences$Memory", "rows", "[LKeptSentences$Row;", true)
  | 2 => ("KeptSentences$Memory", "latest", "[I", true)
  | 3 => ("KeptSentences$Memory", "renderings", "[LKeptSentences$Text;", true)
  | 4 => ("KeptSentences$Memory", "pairOf", "[I", true)
  | 5 => ("KeptSentences$Memory", "by", "[I", true)
  | 6 => ("KeptSentences$Memory", "pairs", "I", false)
  | _ => ("KeptSentences$Memory", "time", "I", false)
def tyX2 : Nat → FieldType := fun k => match k with
  | 0 => .array (.object "KeptSentences$Text")
  | 1 => .array (.object "KeptSentences$Row")
  | 2 => .array .int
  | 3 => .array (.object "KeptSentences$Text")
  | 4 => .array .int
  | 5 => .array .int
  | 6 => .int
  | _ => .int
theorem nmX2 : ∀ a, a < 8 → ∀ b, b < 8 → a ≠ b → (TX2 a).2.1 ≠ (TX2 b).2.1 := by decide +kernel
theorem tyX2_ok : ∀ k, k < 8 → parseFieldDescriptor (TX2 k).2.2.1 = some (tyX2 k) := by decide +kernel
def RX3 : String := "KeptSentences$Nearness"
def TX3 : u_T := fun k => match k with
  | 0 => ("KeptSentences$Nearness", "known", "[I", true)
  | _ => ("KeptSentences$Nearness", "ladder", "LKeptSentences$Ladder;", true)
def tyX3 : Nat → FieldType := fun k => match k with
  | 0 => .array .int
  | _ => .object "KeptSentences$Ladder"
theorem nmX3 : ∀ a, a < 2 → ∀ b, b < 2 → a ≠ b → (TX3 a).2.1 ≠ (TX3 b).2.1 := by decide +kernel
theorem tyX3_ok : ∀ k, k < 2 → parseFieldDescriptor (TX3 k).2.2.1 = some (tyX3 k) := by decide +kernel
def RX4 : String := "KeptSentences$Nesting"
def TX4 : u_T := fun k => match k with
  | _ => ("KeptSentences$Nesting", "open", "[I", true)
def tyX4 : Nat → FieldType := fun k => match k with
  | _ => .array .int
theorem nmX4 : ∀ a, a < 1 → ∀ b, b < 1 → a ≠ b → (TX4 a).2.1 ≠ (TX4 b).2.1 := by decide +kernel
theorem tyX4_ok : ∀ k, k < 1 → parseFieldDescriptor (TX4 k).2.2.1 = some (tyX4 k) := by decide +kernel
def RX5 : String := "KeptSentences$Patcher"
def TX5 : u_T := fun k => match k with
  | 0 => ("KeptSentences$Patcher", "out", "LKeptSentences$Text;", true)
  | 1 => ("KeptSentences$Patcher", "digitTo", "[I", true)
  | _ => ("KeptSentences$Patcher", "served", "[Z", true)
def tyX5 : Nat → FieldType := fun k => match k with
  | 0 => .object "KeptSentences$Text"
  | 1 => .array .int
  | _ => .array .boolean
theorem nmX5 : ∀ a, a < 3 → ∀ b, b < 3 → a ≠ b → (TX5 a).2.1 ≠ (TX5 b).2.1 := by decide +kernel
theorem tyX5_ok : ∀ k, k < 3 → parseFieldDescriptor (TX5 k).2.2.1 = some (tyX5 k) := by decide +kernel
def RX6 : String := "KeptSentences$Row"
def TX6 : u_T := fun k => match k with
  | 0 => ("KeptSentences$Row", "kinds", "[I", true)
  | 1 => ("KeptSentences$Row", "begins", "[I", true)
  | 2 => ("KeptSentences$Row", "lengths", "[I", true)
  | 3 => ("KeptSentences$Row", "text", "LKeptSentences$Text;", false)
  | 4 => ("KeptSentences$Row", "from", "I", false)
  | 5 => ("KeptSentences$Row", "to", "I", false)
  | 6 => ("KeptSentences$Row", "all", "I", false)
  | 7 => ("KeptSentences$Row", "solid", "I", false)
  | _ => ("KeptSentences$Row", "words", "I", false)
def tyX6 : Nat → FieldType := fun k => match k with
  | 0 => .array .int
  | 1 => .array .int
  | 2 => .array .int
  | 3 => .object "KeptSentences$Text"
  | 4 => .int
  | 5 => .int
  | 6 => .int
  | 7 => .int
  | _ => .int
theorem nmX6 : ∀ a, a < 9 → ∀ b, b < 9 → a ≠ b → (TX6 a).2.1 ≠ (TX6 b).2.1 := by decide +kernel
theorem tyX6_ok : ∀ k, k < 9 → parseFieldDescriptor (TX6 k).2.2.1 = some (tyX6 k) := by decide +kernel
def RX8 : String := "KeptSentences$Text"
def TX8 : u_T := fun k => match k with
  | 0 => ("KeptSentences$Text", "bytes", "[B", false)
  | _ => ("KeptSentences$Text", "size", "I", false)
def tyX8 : Nat → FieldType := fun k => match k with
  | 0 => .array .byte
  | _ => .int
theorem nmX8 : ∀ a, a < 2 → ∀ b, b < 2 → a ≠ b → (TX8 a).2.1 ≠ (TX8 b).2.1 := by decide +kernel
theorem tyX8_ok : ∀ k, k < 2 → parseFieldDescriptor (TX8 k).2.2.1 = some (tyX8 k) := by decide +kernel
def RX9 : String := "KeptSentences$Words"
def TX9 : u_T := fun k => match k with
  | 0 => ("KeptSentences$Words", "list", "[J", true)
  | _ => ("KeptSentences$Words", "size", "I", false)
def tyX9 : Nat → FieldType := fun k => match k with
  | 0 => .array .long
  | _ => .int
theorem nmX9 : ∀ a, a < 2 → ∀ b, b < 2 → a ≠ b → (TX9 a).2.1 ≠ (TX9 b).2.1 := by decide +kernel
theorem tyX9_ok : ∀ k, k < 2 → parseFieldDescriptor (TX9 k).2.2.1 = some (tyX9 k) := by decide +kernel
def RX10 : String := "KeptSentences"
def TX10 : u_T := fun k => match k with
  | 0 => ("KeptSentences", "tapeText", "LKeptSentences$Text;", true)
  | 1 => ("KeptSentences", "book", "LKeptSentences$Book;", true)
  | 2 => ("KeptSentences", "memory", "LKeptSentences$Memory;", true)
  | 3 => ("KeptSentences", "nearness", "LKeptSentences$Nearness;", true)
  | 4 => ("KeptSentences", "told", "LKeptSentences$Ladder;", true)
  | 5 => ("KeptSentences", "patcher", "LKeptSentences$Patcher;", true)
  | 6 => ("KeptSentences", "nesting", "LKeptSentences$Nesting;", true)
  | 7 => ("KeptSentences", "reading", "LKeptSentences$Row;", true)
  | 8 => ("KeptSentences", "exceptions", "LKeptSentences$Words;", true)
  | 9 => ("KeptSentences", "termWords", "LKeptSentences$Words;", true)
  | 10 => ("KeptSentences", "termRenderings", "LKeptSentences$Words;", true)
  | _ => ("KeptSentences", "forbidden", "LKeptSentences$Words;", true)
def tyX10 : Nat → FieldType := fun k => match k with
  | 0 => .object "KeptSentences$Text"
  | 1 => .object "KeptSentences$Book"
  | 2 => .object "KeptSentences$Memory"
  | 3 => .object "KeptSentences$Nearness"
  | 4 => .object "KeptSentences$Ladder"
  | 5 => .object "KeptSentences$Patcher"
  | 6 => .object "KeptSentences$Nesting"
  | 7 => .object "KeptSentences$Row"
  | 8 => .object "KeptSentences$Words"
  | 9 => .object "KeptSentences$Words"
  | 10 => .object "KeptSentences$Words"
  | _ => .object "KeptSentences$Words"
theorem nmX10 : ∀ a, a < 12 → ∀ b, b < 12 → a ≠ b → (TX10 a).2.1 ≠ (TX10 b).2.1 := by decide +kernel
theorem tyX10_ok : ∀ k, k < 12 → parseFieldDescriptor (TX10 k).2.2.1 = some (tyX10 k) := by decide +kernel
def RX11 : String := "KeptSentencesModel"
def TX11 : u_T := fun k => match k with
  | 0 => ("KeptSentencesModel", "thrown", "I", false)
  | 1 => ("KeptSentencesModel", "bytes", "[I", true)
  | 2 => ("KeptSentencesModel", "size", "[I", true)
  | 3 => ("KeptSentencesModel", "kind", "[I", true)
  | 4 => ("KeptSentencesModel", "from", "[I", true)
  | 5 => ("KeptSentencesModel", "many", "[I", true)
  | 6 => ("KeptSentencesModel", "pieces", "[I", true)
  | 7 => ("KeptSentencesModel", "solid", "[I", true)
  | 8 => ("KeptSentencesModel", "end", "I", false)
  | 9 => ("KeptSentencesModel", "stack", "[I", true)
  | 10 => ("KeptSentencesModel", "words", "[I", true)
  | 11 => ("KeptSentencesModel", "letters", "[I", true)
  | 12 => ("KeptSentencesModel", "exceptions", "I", false)
  | 13 => ("KeptSentencesModel", "terms", "I", false)
  | 14 => ("KeptSentencesModel", "forbidden", "I", false)
  | 15 => ("KeptSentencesModel", "segments", "I", false)
  | 16 => ("KeptSentencesModel", "begins", "[I", true)
  | 17 => ("KeptSentencesModel", "sizes", "[I", true)
  | 18 => ("KeptSentencesModel", "cutAt", "[I", true)
  | 19 => ("KeptSentencesModel", "pairs", "I", false)
  | 20 => ("KeptSentencesModel", "renderings", "I", false)
  | 21 => ("KeptSentencesModel", "pairOf", "[I", true)
  | 22 => ("KeptSentencesModel", "who", "[I", true)
  | 23 => ("KeptSentencesModel", "sums", "[I", true)
  | 24 => ("KeptSentencesModel", "scores", "[I", true)
  | 25 => ("KeptSentencesModel", "stepKind", "[I", true)
  | 26 => ("KeptSentencesModel", "stepA", "[I", true)
  | 27 => ("KeptSentencesModel", "stepB", "[I", true)
  | 28 => ("KeptSentencesModel", "steps", "I", false)
  | 29 => ("KeptSentencesModel", "goesTo", "[I", true)
  | 30 => ("KeptSentencesModel", "served", "[Z", true)
  | 31 => ("KeptSentencesModel", "out", "[I", true)
  | _ => ("KeptSentencesModel", "outSize", "I", false)
def tyX11 : Nat → FieldType := fun k => match k with
  | 0 => .int
  | 1 => .array .int
  | 2 => .array .int
  | 3 => .array .int
  | 4 => .array .int
  | 5 => .array .int
  | 6 => .array .int
  | 7 => .array .int
  | 8 => .int
  | 9 => .array .int
  | 10 => .array .int
  | 11 => .array .int
  | 12 => .int
  | 13 => .int
  | 14 => .int
  | 15 => .int
  | 16 => .array .int
  | 17 => .array .int
  | 18 => .array .int
  | 19 => .int
  | 20 => .int
  | 21 => .array .int
  | 22 => .array .int
  | 23 => .array .int
  | 24 => .array .int
  | 25 => .array .int
  | 26 => .array .int
  | 27 => .array .int
  | 28 => .int
  | 29 => .array .int
  | 30 => .array .boolean
  | 31 => .array .int
  | _ => .int
theorem nmX11 : ∀ a, a < 33 → ∀ b, b < 33 → a ≠ b → (TX11 a).2.1 ≠ (TX11 b).2.1 := by decide +kernel
theorem tyX11_ok : ∀ k, k < 33 → parseFieldDescriptor (TX11 k).2.2.1 = some (tyX11 k) := by decide +kernel
abbrev classes : List vw_C := [(RX0, TX0, 4), (RX1, TX1, 5), (RX2, TX2, 8), (RX3, TX3, 2), (RX4, TX4, 1), (RX5, TX5, 3), (RX6, TX6, 9), (RX8, TX8, 2), (RX9, TX9, 2), (RX10, TX10, 12), (RX11, TX11, 33)]
def tyC : List (Nat → FieldType) := [tyX0, tyX1, tyX2, tyX3, tyX4, tyX5, tyX6, tyX8, tyX9, tyX10, tyX11]
def cNs : List String := ["KeptSentences$Book", "KeptSentences$Ladder", "KeptSentences$Memory", "KeptSentences$Nearness", "KeptSentences$Nesting", "KeptSentences$Patcher", "KeptSentences$Row", "KeptSentences$Text", "KeptSentences$Words", "KeptSentences", "KeptSentencesModel", "KeptSentences$Scan", "KeptSentencesLaw", "java/lang/Math", "java/util/Arrays"]
def cN (o : Nat) : String := cNs.getD o ""
/-- which fields hold references -/
def rfs : List (List Bool) := [[true, true, true, false], [true, true, true, true, false], [true, true, true, true, true, true, false, false], [true, true], [true], [true, true, true], [true, true, true, true, false, false, false, false, false], [true, false], [true, false], [true, true, true, true, true, true, true, true, true, true, true, true], [false, true, true, true, true, true, true, true, false, true, true, true, false, false, false, false, true, true, true, false, false, true, true, true, true, true, true, true, false, true, true, true, false]]
def isRf (ci k : Nat) : Bool := (rfs.getD ci []).getD k false
def nFs : List Nat := [4, 5, 8, 2, 1, 3, 9, 2, 2, 12, 33]
def nF (ci : Nat) : Nat := nFs.getD ci 0
abbrev k_Book_isStop : Nat := 0
abbrev k_Ladder_init : Nat := 1
abbrev k_Ladder_addStep : Nat := 2
abbrev k_Memory_renderingAt : Nat := 3
abbrev k_Memory_renderingsOf : Nat := 4
abbrev k_Near_forgetPair : Nat := 5
abbrev k_Nest_init : Nat := 6
abbrev k_Patch_forgetServed : Nat := 7
abbrev k_Patch_inRendering : Nat := 8
abbrev k_Patch_haveAllServed : Nat := 9
abbrev k_Row_init : Nat := 10
abbrev k_Row_addPiece : Nat := 11
abbrev k_Row_isMark : Nat := 12
abbrev k_Row_digitPlace : Nat := 13
abbrev k_Row_hasBytesOf : Nat := 14
abbrev k_Row_hasLettersOf : Nat := 15
abbrev k_Scan_isLetter : Nat := 16
abbrev k_Scan_isDigit : Nat := 17
abbrev k_Text_init : Nat := 18
abbrev k_Text_at : Nat := 19
abbrev k_Text_put : Nat := 20
abbrev k_Text_take : Nat := 21
abbrev k_Text_firstBlank : Nat := 22
abbrev k_Words_init : Nat := 23
abbrev k_Words_isFull : Nat := 24
abbrev k_Words_has : Nat := 25
abbrev k_K_cut : Nat := 26
abbrev k_K_step : Nat := 27
abbrev k_K_about : Nat := 28
abbrev k_K_isSegment : Nat := 29
abbrev k_K_isPair : Nat := 30
abbrev k_K_isSomebody : Nat := 31
abbrev k_M_init : Nat := 32
abbrev k_M_in : Nat := 33
abbrev k_M_copy : Nat := 34
abbrev k_M_at : Nat := 35
abbrev k_M_isDigit : Nat := 36
abbrev k_M_isLetter : Nat := 37
abbrev k_M_small : Nat := 38
abbrev k_M_pointOf : Nat := 39
abbrev k_M_digitAt : Nat := 40
abbrev k_M_same : Nat := 41
abbrev k_M_word : Nat := 42
abbrev k_M_wordsOf : Nat := 43
abbrev k_M_latest : Nat := 44
abbrev k_M_step : Nat := 45
abbrev k_M_lay : Nat := 46
abbrev k_M_reads : Nat := 47
abbrev k_M_about : Nat := 48
abbrev k_Arrays_fill : Nat := 49
abbrev k_Book_init : Nat := 50
abbrev k_Book_isBlankOrEnd : Nat := 51
abbrev k_Memory_init : Nat := 52
abbrev k_Memory_addRendering : Nat := 53
abbrev k_Memory_takeBack : Nat := 54
abbrev k_Near_forgetAll : Nat := 55
abbrev k_Patch_init : Nat := 56
abbrev k_Patch_copy : Nat := 57
abbrev k_Patch_readsSame : Nat := 58
abbrev k_Patch_copyNumber : Nat := 59
abbrev k_Row_digit : Nat := 60
abbrev k_Row_isPieceLike : Nat := 61
abbrev k_Row_changeCost : Nat := 62
abbrev k_Row_aloneCost : Nat := 63
abbrev k_Scan_byteAt : Nat := 64
abbrev k_Scan_lettersEnd : Nat := 65
abbrev k_Scan_blanksEnd : Nat := 66
abbrev k_Scan_digitsEnd : Nat := 67
abbrev k_Words_packed : Nat := 68
abbrev k_Words_add : Nat := 69
abbrev k_K_feed : Nat := 70
abbrev k_K_tape : Nat := 71
abbrev k_K_piece : Nat := 72
abbrev k_K_pair : Nat := 73
abbrev k_K_rendered : Nat := 74
abbrev k_M_feed : Nat := 75
abbrev k_M_cut : Nat := 76
abbrev k_M_tape : Nat := 77
abbrev k_M_digits : Nat := 78
abbrev k_M_mark : Nat := 79
abbrev k_M_isMark : Nat := 80
abbrev k_M_isTorn : Nat := 81
abbrev k_M_alike : Nat := 82
abbrev k_M_isWord : Nat := 83
abbrev k_M_isThat : Nat := 84
abbrev k_M_isSegment : Nat := 85
abbrev k_M_isPair : Nat := 86
abbrev k_M_comes : Nat := 87
abbrev k_M_undo : Nat := 88
abbrev k_M_step2 : Nat := 89
abbrev k_Ladder_leastSum : Nat := 90
abbrev k_Near_init : Nat := 91
abbrev k_Nest_isTorn : Nat := 92
abbrev k_Patch_matchDigits : Nat := 93
abbrev k_Patch_putMark : Nat := 94
abbrev k_Patch_putNumber : Nat := 95
abbrev k_Row_isLike : Nat := 96
abbrev k_Row_timesOf : Nat := 97
abbrev k_Scan_kindBehindBracket : Nat := 98
abbrev k_Scan_numberEnd : Nat := 99
abbrev k_K_undo : Nat := 100
abbrev k_K_term : Nat := 101
abbrev k_K_moveTapeTo : Nat := 102
abbrev k_K_addTapeTo : Nat := 103
abbrev k_M_read : Nat := 104
abbrev k_M_except : Nat := 105
abbrev k_M_term : Nat := 106
abbrev k_M_forbid : Nat := 107
abbrev k_M_ends : Nat := 108
abbrev k_M_pair : Nat := 109
abbrev k_M_rendered : Nat := 110
abbrev k_M_like : Nat := 111
abbrev k_M_keepCost : Nat := 112
abbrev k_M_loneCost : Nat := 113
abbrev k_M_maps : Nat := 114
abbrev k_M_patches : Nat := 115
abbrev k_M_often : Nat := 116
abbrev k_Ladder_tell : Nat := 117
abbrev k_Near_between : Nat := 118
abbrev k_Patch_make : Nat := 119
abbrev k_Scan_kindAt : Nat := 120
abbrev k_Scan_endOf : Nat := 121
abbrev k_K_init : Nat := 122
abbrev k_K_except : Nat := 123
abbrev k_K_segment : Nat := 124
abbrev k_K_forbid : Nat := 125
abbrev k_K_isLikeSource : Nat := 126
abbrev k_M_readRow : Nat := 127
abbrev k_M_load : Nat := 128
abbrev k_M_readSegment : Nat := 129
abbrev k_M_work : Nat := 130
abbrev k_Book_findEnds : Nat := 131
abbrev k_Row_read : Nat := 132
abbrev k_K_like : Nat := 133
abbrev k_K_differ : Nat := 134
abbrev k_K_spread : Nat := 135
abbrev k_K_scoreOf : Nat := 136
abbrev k_M_segment : Nat := 137
abbrev k_M_piece : Nat := 138
abbrev k_M_keep : Nat := 139
abbrev k_M_change : Nat := 140
abbrev k_M_readBoth : Nat := 141
abbrev k_M_faults : Nat := 142
abbrev k_Book_become : Nat := 143
abbrev k_Memory_addPair : Nat := 144
abbrev k_K_score : Nat := 145
abbrev k_K_isTapeTorn : Nat := 146
abbrev k_K_readRenderingOf : Nat := 147
abbrev k_K_aheadOf : Nat := 148
abbrev k_K_kindCounted : Nat := 149
abbrev k_M_like2 : Nat := 150
abbrev k_M_scoreOf : Nat := 151
abbrev k_M_differ : Nat := 152
abbrev k_M_patch : Nat := 153
abbrev k_M_spread : Nat := 154
abbrev k_K_load : Nat := 155
abbrev k_K_keep : Nat := 156
abbrev k_K_change : Nat := 157
abbrev k_K_found : Nat := 158
abbrev k_K_patch : Nat := 159
abbrev k_K_faults : Nat := 160
abbrev k_K_counted : Nat := 161
abbrev k_K_count : Nat := 162
abbrev k_M_score : Nat := 163
abbrev k_M_found : Nat := 164
abbrev k_M_countedOf : Nat := 165
abbrev k_M_counted : Nat := 166
abbrev k_M_count : Nat := 167
abbrev k_Law_law : Nat := 168
def yMs : List MethodName := [
  ⟨"KeptSentences$Book", "isStop", "(I)Z"⟩,
  ⟨"KeptSentences$Ladder", "<init>", "()V"⟩,
  ⟨"KeptSentences$Ladder", "addStep", "(III)V"⟩,
  ⟨"KeptSentences$Memory", "renderingAt", "(II)I"⟩,
  ⟨"KeptSentences$Memory", "renderingsOf", "(I)I"⟩,
  ⟨"KeptSentences$Nearness", "forgetPair", "(I)V"⟩,
  ⟨"KeptSentences$Nesting", "<init>", "()V"⟩,
  ⟨"KeptSentences$Patcher", "forgetServed", "()V"⟩,
  ⟨"KeptSentences$Patcher", "inRendering", "(I)I"⟩,
  ⟨"KeptSentences$Patcher", "haveAllServed", "(LKeptSentences$Row;)Z"⟩,
  ⟨"KeptSentences$Row", "<init>", "(LKeptSentences$Text;I)V"⟩,
  ⟨"KeptSentences$Row", "addPiece", "(III)V"⟩,
  ⟨"KeptSentences$Row", "isMark", "(I)Z"⟩,
  ⟨"KeptSentences$Row", "digitPlace", "(I)I"⟩,
  ⟨"KeptSentences$Row", "hasBytesOf", "(ILKeptSentences$Row;I)Z"⟩,
  ⟨"KeptSentences$Row", "hasLettersOf", "(ILKeptSentences$Row;I)Z"⟩,
  ⟨"KeptSentences$Scan", "isLetter", "(I)Z"⟩,
  ⟨"KeptSentences$Scan", "isDigit", "(I)Z"⟩,
  ⟨"KeptSentences$Text", "<init>", "(I)V"⟩,
  ⟨"KeptSentences$Text", "at", "(I)I"⟩,
  ⟨"KeptSentences$Text", "put", "(I)V"⟩,
  ⟨"KeptSentences$Text", "take", "(LKeptSentences$Text;II)V"⟩,
  ⟨"KeptSentences$Text", "firstBlank", "()I"⟩,
  ⟨"KeptSentences$Words", "<init>", "(I)V"⟩,
  ⟨"KeptSentences$Words", "isFull", "()Z"⟩,
  ⟨"KeptSentences$Words", "has", "(J)Z"⟩,
  ⟨"KeptSentences", "cut", "(I)I"⟩,
  ⟨"KeptSentences", "step", "(II)I"⟩,
  ⟨"KeptSentences", "about", "(I)I"⟩,
  ⟨"KeptSentences", "isSegment", "(I)Z"⟩,
  ⟨"KeptSentences", "isPair", "(I)Z"⟩,
  ⟨"KeptSentences", "isSomebody", "(I)Z"⟩,
  ⟨"KeptSentencesModel", "<init>", "()V"⟩,
  ⟨"KeptSentencesModel", "in", "(III)Z"⟩,
  ⟨"KeptSentencesModel", "copy", "(III)V"⟩,
  ⟨"KeptSentencesModel", "at", "(I)I"⟩,
  ⟨"KeptSentencesModel", "isDigit", "(I)Z"⟩,
  ⟨"KeptSentencesModel", "isLetter", "(I)Z"⟩,
  ⟨"KeptSentencesModel", "small", "(I)I"⟩,
  ⟨"KeptSentencesModel", "pointOf", "(I)I"⟩,
  ⟨"KeptSentencesModel", "digitAt", "(I)I"⟩,
  ⟨"KeptSentencesModel", "same", "(II)Z"⟩,
  ⟨"KeptSentencesModel", "word", "(III)V"⟩,
  ⟨"KeptSentencesModel", "wordsOf", "(I)I"⟩,
  ⟨"KeptSentencesModel", "latest", "(II)I"⟩,
  ⟨"KeptSentencesModel", "step", "(III)V"⟩,
  ⟨"KeptSentencesModel", "lay", "(I)V"⟩,
  ⟨"KeptSentencesModel", "reads", "(II)Z"⟩,
  ⟨"KeptSentencesModel", "about", "(I)I"⟩,
  ⟨"java/util/Arrays", "fill", "([II)V"⟩,
  ⟨"KeptSentences$Book", "<init>", "()V"⟩,
  ⟨"KeptSentences$Book", "isBlankOrEnd", "(LKeptSentences$Text;I)Z"⟩,
  ⟨"KeptSentences$Memory", "<init>", "()V"⟩,
  ⟨"KeptSentences$Memory", "addRendering", "(ILKeptSentences$Text;I)V"⟩,
  ⟨"KeptSentences$Memory", "takeBack", "()I"⟩,
  ⟨"KeptSentences$Nearness", "forgetAll", "()V"⟩,
  ⟨"KeptSentences$Patcher", "<init>", "()V"⟩,
  ⟨"KeptSentences$Patcher", "copy", "(LKeptSentences$Text;II)V"⟩,
  ⟨"KeptSentences$Patcher", "readsSame", "(LKeptSentences$Row;ILKeptSentences$Row;I)Z"⟩,
  ⟨"KeptSentences$Patcher", "copyNumber", "(LKeptSentences$Row;I)V"⟩,
  ⟨"KeptSentences$Row", "digit", "(I)I"⟩,
  ⟨"KeptSentences$Row", "isPieceLike", "(ILKeptSentences$Row;)Z"⟩,
  ⟨"KeptSentences$Row", "changeCost", "(ILKeptSentences$Row;I)I"⟩,
  ⟨"KeptSentences$Row", "aloneCost", "(I)I"⟩,
  ⟨"KeptSentences$Scan", "byteAt", "(LKeptSentences$Text;II)I"⟩,
  ⟨"KeptSentences$Scan", "lettersEnd", "(LKeptSentences$Text;II)I"⟩,
  ⟨"KeptSentences$Scan", "blanksEnd", "(LKeptSentences$Text;II)I"⟩,
  ⟨"KeptSentences$Scan", "digitsEnd", "(LKeptSentences$Text;III)I"⟩,
  ⟨"KeptSentences$Words", "packed", "(LKeptSentences$Text;II)J"⟩,
  ⟨"KeptSentences$Words", "add", "(J)V"⟩,
  ⟨"KeptSentences", "feed", "(JI)I"⟩,
  ⟨"KeptSentences", "tape", "(I)I"⟩,
  ⟨"KeptSentences", "piece", "(III)I"⟩,
  ⟨"KeptSentences", "pair", "(II)I"⟩,
  ⟨"KeptSentences", "rendered", "(III)I"⟩,
  ⟨"KeptSentencesModel", "feed", "(JI)I"⟩,
  ⟨"KeptSentencesModel", "cut", "(I)I"⟩,
  ⟨"KeptSentencesModel", "tape", "(I)I"⟩,
  ⟨"KeptSentencesModel", "digits", "(II)I"⟩,
  ⟨"KeptSentencesModel", "mark", "(I)I"⟩,
  ⟨"KeptSentencesModel", "isMark", "(I)Z"⟩,
  ⟨"KeptSentencesModel", "isTorn", "(I)Z"⟩,
  ⟨"KeptSentencesModel", "alike", "(IIII)Z"⟩,
  ⟨"KeptSentencesModel", "isWord", "(II)Z"⟩,
  ⟨"KeptSentencesModel", "isThat", "(II)Z"⟩,
  ⟨"KeptSentencesModel", "isSegment", "(I)Z"⟩,
  ⟨"KeptSentencesModel", "isPair", "(I)Z"⟩,
  ⟨"KeptSentencesModel", "comes", "(II)V"⟩,
  ⟨"KeptSentencesModel", "undo", "()I"⟩,
  ⟨"KeptSentencesModel", "step", "(II)I"⟩,
  ⟨"KeptSentences$Ladder", "leastSum", "(LKeptSentences$Row;LKeptSentences$Row;)I"⟩,
  ⟨"KeptSentences$Nearness", "<init>", "(LKeptSentences$Ladder;)V"⟩,
  ⟨"KeptSentences$Nesting", "isTorn", "(LKeptSentences$Row;)Z"⟩,
  ⟨"KeptSentences$Patcher", "matchDigits", "(LKeptSentences$Row;LKeptSentences$Row;)Z"⟩,
  ⟨"KeptSentences$Patcher", "putMark", "(LKeptSentences$Row;I)Z"⟩,
  ⟨"KeptSentences$Patcher", "putNumber", "(LKeptSentences$Row;ILKeptSentences$Row;LKeptSentences$Row;)Z"⟩,
  ⟨"KeptSentences$Row", "isLike", "(LKeptSentences$Row;)Z"⟩,
  ⟨"KeptSentences$Row", "timesOf", "(J)I"⟩,
  ⟨"KeptSentences$Scan", "kindBehindBracket", "(LKeptSentences$Text;II)I"⟩,
  ⟨"KeptSentences$Scan", "numberEnd", "(LKeptSentences$Text;III)I"⟩,
  ⟨"KeptSentences", "undo", "()I"⟩,
  ⟨"KeptSentences", "term", "()I"⟩,
  ⟨"KeptSentences", "moveTapeTo", "(II)V"⟩,
  ⟨"KeptSentences", "addTapeTo", "(LKeptSentences$Words;)I"⟩,
  ⟨"KeptSentencesModel", "read", "(IIIIZ)V"⟩,
  ⟨"KeptSentencesModel", "except", "()I"⟩,
  ⟨"KeptSentencesModel", "term", "()I"⟩,
  ⟨"KeptSentencesModel", "forbid", "()I"⟩,
  ⟨"KeptSentencesModel", "ends", "(II)Z"⟩,
  ⟨"KeptSentencesModel", "pair", "(II)I"⟩,
  ⟨"KeptSentencesModel", "rendered", "(III)I"⟩,
  ⟨"KeptSentencesModel", "like", "()Z"⟩,
  ⟨"KeptSentencesModel", "keepCost", "(II)I"⟩,
  ⟨"KeptSentencesModel", "loneCost", "(I)I"⟩,
  ⟨"KeptSentencesModel", "maps", "()Z"⟩,
  ⟨"KeptSentencesModel", "patches", "(I)Z"⟩,
  ⟨"KeptSentencesModel", "often", "(II)I"⟩,
  ⟨"KeptSentences$Ladder", "tell", "(LKeptSentences$Row;LKeptSentences$Row;)V"⟩,
  ⟨"KeptSentences$Nearness", "between", "(ILKeptSentences$Row;ILKeptSentences$Row;)I"⟩,
  ⟨"KeptSentences$Patcher", "make", "(LKeptSentences$Row;LKeptSentences$Row;LKeptSentences$Row;)Z"⟩,
  ⟨"KeptSentences$Scan", "kindAt", "(LKeptSentences$Text;II)I"⟩,
  ⟨"KeptSentences$Scan", "endOf", "(LKeptSentences$Text;IIII)I"⟩,
  ⟨"KeptSentences", "<init>", "()V"⟩,
  ⟨"KeptSentences", "except", "()I"⟩,
  ⟨"KeptSentences", "segment", "(II)I"⟩,
  ⟨"KeptSentences", "forbid", "()I"⟩,
  ⟨"KeptSentences", "isLikeSource", "(II)Z"⟩,
  ⟨"KeptSentencesModel", "readRow", "(II)V"⟩,
  ⟨"KeptSentencesModel", "load", "()I"⟩,
  ⟨"KeptSentencesModel", "readSegment", "(II)V"⟩,
  ⟨"KeptSentencesModel", "work", "()I"⟩,
  ⟨"KeptSentences$Book", "findEnds", "(LKeptSentences$Text;LKeptSentences$Words;)I"⟩,
  ⟨"KeptSentences$Row", "read", "(LKeptSentences$Text;III)V"⟩,
  ⟨"KeptSentences", "like", "(II)I"⟩,
  ⟨"KeptSentences", "differ", "(II)I"⟩,
  ⟨"KeptSentences", "spread", "(I)I"⟩,
  ⟨"KeptSentences", "scoreOf", "(II)I"⟩,
  ⟨"KeptSentencesModel", "segment", "(II)I"⟩,
  ⟨"KeptSentencesModel", "piece", "(III)I"⟩,
  ⟨"KeptSentencesModel", "keep", "(II)I"⟩,
  ⟨"KeptSentencesModel", "change", "(II)I"⟩,
  ⟨"KeptSentencesModel", "readBoth", "(II)V"⟩,
  ⟨"KeptSentencesModel", "faults", "(I)I"⟩,
  ⟨"KeptSentences$Book", "become", "(LKeptSentences$Text;LKeptSentences$Words;)I"⟩,
  ⟨"KeptSentences$Memory", "addPair", "(LKeptSentences$Row;)I"⟩,
  ⟨"KeptSentences", "score", "(II)I"⟩,
  ⟨"KeptSentences", "isTapeTorn", "()Z"⟩,
  ⟨"KeptSentences", "readRenderingOf", "(I)V"⟩,
  ⟨"KeptSentences", "aheadOf", "(II)I"⟩,
  ⟨"KeptSentences", "kindCounted", "(I)I"⟩,
  ⟨"KeptSentencesModel", "like", "(II)I"⟩,
  ⟨"KeptSentencesModel", "scoreOf", "(II)I"⟩,
  ⟨"KeptSentencesModel", "differ", "(II)I"⟩,
  ⟨"KeptSentencesModel", "patch", "(II)I"⟩,
  ⟨"KeptSentencesModel", "spread", "(I)I"⟩,
  ⟨"KeptSentences", "load", "()I"⟩,
  ⟨"KeptSentences", "keep", "(II)I"⟩,
  ⟨"KeptSentences", "change", "(II)I"⟩,
  ⟨"KeptSentences", "found", "(III)I"⟩,
  ⟨"KeptSentences", "patch", "(II)I"⟩,
  ⟨"KeptSentences", "faults", "(I)I"⟩,
  ⟨"KeptSentences", "counted", "(I)I"⟩,
  ⟨"KeptSentences", "count", "(II)I"⟩,
  ⟨"KeptSentencesModel", "score", "(II)I"⟩,
  ⟨"KeptSentencesModel", "found", "(III)I"⟩,
  ⟨"KeptSentencesModel", "countedOf", "(I)I"⟩,
  ⟨"KeptSentencesModel", "counted", "(I)I"⟩,
  ⟨"KeptSentencesModel", "count", "(II)I"⟩,
  ⟨"KeptSentencesLaw", "law", "([I)Z"⟩]
def yM (X : Nat) : MethodName := yMs.getD X ⟨"", "", ""⟩
def cods : List ByteArray := [prog_2_method_4_code, prog_3_method_1_code, prog_3_method_4_code, prog_4_method_5_code, prog_4_method_6_code, prog_5_method_3_code, prog_6_method_1_code, prog_7_method_3_code, prog_7_method_10_code, prog_7_method_11_code, prog_8_method_1_code, prog_8_method_3_code, prog_8_method_4_code, prog_8_method_5_code, prog_8_method_7_code, prog_8_method_8_code, prog_9_method_2_code, prog_9_method_3_code, prog_10_method_1_code, prog_10_method_2_code, prog_10_method_3_code, prog_10_method_4_code, prog_10_method_5_code, prog_11_method_1_code, prog_11_method_3_code, prog_11_method_5_code, prog_1_method_3_code, prog_1_method_18_code, prog_1_method_26_code, prog_1_method_27_code, prog_1_method_28_code, prog_1_method_29_code, prog_13_method_1_code, prog_13_method_3_code, prog_13_method_7_code, prog_13_method_8_code, prog_13_method_9_code, prog_13_method_10_code, prog_13_method_11_code, prog_13_method_15_code, prog_13_method_18_code, prog_13_method_21_code, prog_13_method_23_code, prog_13_method_32_code, prog_13_method_39_code, prog_13_method_52_code, prog_13_method_55_code, prog_13_method_57_code, prog_13_method_66_code, prog_16_method_103_code, prog_2_method_1_code, prog_2_method_5_code, prog_4_method_1_code, prog_4_method_3_code, prog_4_method_4_code, prog_5_method_2_code, prog_7_method_1_code, prog_7_method_5_code, prog_7_method_8_code, prog_7_method_9_code, prog_8_method_6_code, prog_8_method_10_code, prog_8_method_11_code, prog_8_method_12_code, prog_9_method_4_code, prog_9_method_8_code, prog_9_method_9_code, prog_9_method_10_code, prog_11_method_2_code, prog_11_method_4_code, prog_1_method_2_code, prog_1_method_4_code, prog_1_method_8_code, prog_1_method_12_code, prog_1_method_13_code, prog_13_method_4_code, prog_13_method_5_code, prog_13_method_6_code, prog_13_method_12_code, prog_13_method_13_code, prog_13_method_17_code, prog_13_method_19_code, prog_13_method_20_code, prog_13_method_22_code, prog_13_method_24_code, prog_13_method_30_code, prog_13_method_35_code, prog_13_method_36_code, prog_13_method_40_code, prog_13_method_54_code, prog_3_method_2_code, prog_5_method_1_code, prog_6_method_2_code, prog_7_method_4_code, prog_7_method_6_code, prog_7_method_7_code, prog_8_method_9_code, prog_8_method_13_code, prog_9_method_6_code, prog_9_method_11_code, prog_1_method_11_code, prog_1_method_20_code, prog_1_method_32_code, prog_1_method_33_code, prog_13_method_14_code, prog_13_method_25_code, prog_13_method_26_code, prog_13_method_27_code, prog_13_method_28_code, prog_13_method_41_code, prog_13_method_42_code, prog_13_method_43_code, prog_13_method_46_code, prog_13_method_47_code, prog_13_method_56_code, prog_13_method_58_code, prog_13_method_60_code, prog_3_method_3_code, prog_5_method_4_code, prog_7_method_2_code, prog_9_method_5_code, prog_9_method_7_code, prog_1_method_1_code, prog_1_method_5_code, prog_1_method_7_code, prog_1_method_21_code, prog_1_method_34_code, prog_13_method_16_code, prog_13_method_29_code, prog_13_method_31_code, prog_13_method_48_code, prog_2_method_3_code, prog_8_method_2_code, prog_1_method_14_code, prog_1_method_17_code, prog_1_method_25_code, prog_1_method_35_code, prog_13_method_33_code, prog_13_method_34_code, prog_13_method_37_code, prog_13_method_38_code, prog_13_method_44_code, prog_13_method_61_code, prog_2_method_2_code, prog_4_method_2_code, prog_1_method_15_code, prog_1_method_30_code, prog_1_method_31_code, prog_1_method_36_code, prog_1_method_37_code, prog_13_method_45_code, prog_13_method_49_code, prog_13_method_53_code, prog_13_method_59_code, prog_13_method_65_code, prog_1_method_6_code, prog_1_method_9_code, prog_1_method_10_code, prog_1_method_16_code, prog_1_method_19_code, prog_1_method_22_code, prog_1_method_23_code, prog_1_method_24_code, prog_13_method_50_code, prog_13_method_51_code, prog_13_method_62_code, prog_13_method_63_code, prog_13_method_64_code, code]
def cod (X : Nat) : ByteArray := cods.getD X code
def mxls : List Nat := [1, 1, 4, 4, 4, 3, 1, 2, 1, 3, 3, 4, 2, 2, 7, 7, 1, 1, 2, 2, 2, 5, 2, 2, 1, 4, 2, 3, 2, 2, 2, 2, 1, 3, 5, 2, 1, 1, 1, 1, 2, 5, 5, 4, 4, 4, 2, 6, 2, 4, 2, 2, 2, 4, 3, 1, 1, 5, 6, 4, 2, 3, 4, 2, 3, 4, 4, 5, 7, 3, 5, 2, 5, 4, 5, 5, 2, 2, 4, 2, 1, 4, 7, 5, 5, 2, 2, 3, 2, 3, 8, 2, 4, 6, 5, 6, 3, 5, 5, 6, 1, 6, 3, 4, 11, 1, 2, 1, 6, 6, 6, 5, 3, 2, 4, 5, 5, 8, 7, 7, 4, 5, 1, 1, 4, 1, 3, 3, 6, 3, 7, 12, 8, 3, 3, 4, 3, 3, 5, 3, 3, 3, 3, 6, 3, 3, 1, 3, 7, 4, 3, 5, 9, 5, 4, 2, 4, 3, 5, 3, 4, 2, 5, 3, 7, 5, 2, 5, 4]
def mxl (X : Nat) : Nat := mxls.getD X 0
def rks : List Nat := [3, 0, 0, 1, 1, 0, 0, 0, 1, 3, 0, 0, 3, 1, 3, 3, 3, 3, 0, 1, 0, 0, 1, 0, 3, 3, 1, 1, 1, 3, 3, 3, 0, 3, 0, 1, 3, 3, 1, 1, 1, 3, 0, 1, 1, 0, 0, 3, 1, 0, 0, 3, 0, 0, 1, 0, 0, 0, 3, 0, 1, 3, 1, 1, 1, 1, 1, 1, 2, 0, 1, 1, 1, 1, 1, 1, 1, 1, 1, 1, 3, 3, 3, 3, 3, 3, 3, 0, 1, 1, 1, 0, 3, 3, 3, 3, 3, 1, 1, 1, 1, 1, 0, 1, 0, 1, 1, 1, 3, 1, 1, 3, 1, 1, 3, 3, 1, 0, 1, 3, 1, 1, 0, 1, 1, 1, 3, 0, 1, 0, 1, 1, 0, 1, 1, 1, 1, 1, 1, 1, 1, 0, 1, 1, 1, 1, 3, 0, 1, 1, 1, 1, 1, 1, 1, 1, 1, 1, 1, 1, 1, 1, 1, 1, 1, 1, 1, 1, 3]
def rk (X : Nat) : Nat := rks.getD X 0
def rtyK (k : Nat) : Option FieldType := match k with
  | 0 => none
  | 1 => some .int
  | 2 => some .long
  | _ => some .boolean
def ownCs : List Nat := [0, 1, 1, 2, 2, 3, 4, 5, 5, 5, 6, 6, 6, 6, 6, 6, 11, 11, 7, 7, 7, 7, 7, 8, 8, 8, 9, 9, 9, 9, 9, 9, 10, 10, 10, 10, 10, 10, 10, 10, 10, 10, 10, 10, 10, 10, 10, 10, 10, 14, 0, 0, 2, 2, 2, 3, 5, 5, 5, 5, 6, 6, 6, 6, 11, 11, 11, 11, 8, 8, 9, 9, 9, 9, 9, 10, 10, 10, 10, 10, 10, 10, 10, 10, 10, 10, 10, 10, 10, 10, 1, 3, 4, 5, 5, 5, 6, 6, 11, 11, 9, 9, 9, 9, 10, 10, 10, 10, 10, 10, 10, 10, 10, 10, 10, 10, 10, 1, 3, 5, 11, 11, 9, 9, 9, 9, 9, 10, 10, 10, 10, 0, 6, 9, 9, 9, 9, 10, 10, 10, 10, 10, 10, 0, 2, 9, 9, 9, 9, 9, 10, 10, 10, 10, 10, 9, 9, 9, 9, 9, 9, 9, 9, 10, 10, 10, 10, 10, 12]
def ownC (X : Nat) : Nat := ownCs.getD X 0
def deps : List Nat := [1, 1, 1, 1, 1, 1, 1, 1, 1, 1, 1, 1, 1, 1, 1, 1, 1, 1, 1, 1, 1, 1, 1, 1, 1, 1, 1, 1, 1, 1, 1, 1, 1, 1, 1, 1, 1, 1, 1, 1, 1, 1, 1, 1, 1, 1, 1, 1, 1, 1, 2, 2, 2, 2, 2, 2, 2, 2, 2, 2, 2, 2, 2, 2, 2, 2, 2, 2, 2, 2, 2, 2, 2, 2, 2, 2, 2, 2, 2, 2, 2, 2, 2, 2, 2, 2, 2, 2, 2, 2, 3, 3, 3, 3, 3, 3, 3, 3, 3, 3, 3, 3, 3, 3, 3, 3, 3, 3, 3, 3, 3, 3, 3, 3, 3, 3, 3, 4, 4, 4, 4, 4, 4, 4, 4, 4, 4, 4, 4, 4, 4, 5, 5, 5, 5, 5, 5, 5, 5, 5, 5, 5, 5, 6, 6, 6, 6, 6, 6, 6, 6, 6, 6, 6, 6, 7, 7, 7, 7, 7, 7, 7, 7, 7, 7, 7, 8, 8, 10]
def dep (X : Nat) : Nat := deps.getD X 0
def mcs : List Nat := [0, 4, 0, 0, 0, 0, 1, 0, 0, 0, 3, 0, 0, 0, 0, 0, 0, 0, 1, 0, 0, 1, 0, 1, 0, 0, 0, 0, 0, 0, 0, 0, 23, 0, 0, 0, 0, 0, 0, 0, 0, 0, 0, 0, 0, 0, 0, 0, 0, 0, 100, 0, 206, 1, 0, 0, 4, 0, 0, 0, 0, 0, 0, 0, 0, 0, 0, 0, 0, 0, 0, 0, 0, 0, 0, 0, 0, 0, 0, 0, 0, 0, 0, 0, 0, 0, 0, 0, 0, 0, 0, 1, 0, 0, 0, 0, 0, 0, 0, 0, 0, 0, 1, 0, 0, 0, 0, 0, 0, 0, 0, 0, 0, 0, 0, 0, 0, 0, 0, 0, 0, 0, 336, 0, 0, 0, 0, 0, 0, 0, 0, 0, 0, 0, 0, 0, 0, 0, 0, 0, 0, 0, 0, 1, 1, 0, 0, 0, 0, 0, 0, 0, 0, 0, 0, 1, 2, 1, 0, 1, 0, 0, 0, 0, 0, 0, 0, 0, 600000]
def mcM (X : Nat) : Nat := mcs.getD X 0
def mss : List Nat := [0, 561, 0, 0, 0, 0, 200, 0, 0, 0, 1800, 0, 0, 0, 0, 0, 0, 0, 880, 0, 0, 640, 0, 10, 0, 0, 0, 0, 0, 0, 0, 0, 51975, 0, 0, 0, 0, 0, 0, 0, 0, 0, 0, 0, 0, 0, 0, 0, 0, 0, 44346, 0, 89280, 640, 0, 0, 912, 0, 0, 0, 0, 0, 0, 0, 0, 0, 0, 0, 0, 0, 0, 0, 0, 0, 0, 0, 0, 0, 0, 0, 0, 0, 0, 0, 0, 0, 0, 0, 0, 0, 0, 480, 0, 0, 0, 0, 0, 0, 0, 0, 0, 0, 640, 0, 0, 0, 0, 0, 0, 0, 0, 0, 0, 0, 0, 0, 0, 0, 0, 0, 0, 0, 138541, 0, 0, 0, 0, 0, 0, 0, 0, 0, 0, 0, 0, 0, 0, 0, 0, 0, 0, 0, 0, 640, 640, 0, 0, 0, 0, 0, 0, 0, 0, 0, 0, 640, 1280, 640, 0, 640, 0, 0, 0, 0, 0, 0, 0, 0, 7302250]
def msM (X : Nat) : Nat := mss.getD X 0
/-- links: kind, own, place in the pool, what -/
abbrev LK : Type := Nat × Nat × Nat × Nat × Nat
def lks : List LK := [
  (8, 1, 3, 0, 0),
  (0, 1, 11, 1, 0),
  (0, 1, 15, 1, 1),
  (0, 1, 18, 1, 2),
  (0, 1, 21, 1, 3),
  (0, 1, 49, 1, 4),
  (0, 2, 67, 2, 7),
  (12, 2, 74, 0, 0),
  (0, 2, 30, 2, 4),
  (0, 3, 9, 3, 0),
  (8, 4, 3, 0, 0),
  (0, 4, 9, 4, 0),
  (0, 5, 24, 5, 2),
  (0, 5, 44, 6, 7),
  (0, 5, 51, 6, 0),
  (8, 6, 3, 0, 0),
  (0, 6, 9, 6, 3),
  (11, 6, 15, 0, 0),
  (0, 6, 21, 6, 0),
  (0, 6, 25, 6, 1),
  (0, 6, 28, 6, 2),
  (0, 6, 38, 6, 6),
  (0, 6, 41, 6, 7),
  (0, 6, 44, 6, 8),
  (0, 6, 70, 7, 0),
  (8, 7, 3, 0, 0),
  (11, 7, 9, 0, 0),
  (0, 7, 15, 7, 0),
  (0, 7, 21, 7, 1),
  (9, 7, 25, 0, 0),
  (8, 8, 3, 0, 0),
  (11, 8, 9, 0, 0),
  (0, 8, 15, 8, 0),
  (0, 8, 35, 8, 1),
  (0, 9, 14, 9, 0),
  (0, 9, 87, 7, 1),
  (0, 9, 35, 9, 4),
  (0, 9, 214, 1, 4),
  (0, 9, 217, 1, 1),
  (0, 9, 220, 1, 2),
  (0, 9, 223, 1, 3),
  (0, 9, 21, 9, 1),
  (0, 9, 266, 0, 3),
  (0, 9, 28, 9, 2),
  (0, 9, 153, 2, 6),
  (0, 9, 156, 2, 7),
  (0, 9, 74, 9, 8),
  (0, 9, 254, 8, 1),
  (0, 9, 78, 9, 9),
  (0, 9, 84, 9, 11),
  (8, 10, 1, 0, 0),
  (6, 10, 7, 37200, 0),
  (0, 10, 8, 10, 1),
  (0, 10, 14, 10, 2),
  (0, 10, 17, 10, 3),
  (0, 10, 20, 10, 4),
  (0, 10, 23, 10, 5),
  (0, 10, 26, 10, 6),
  (0, 10, 29, 10, 7),
  (0, 10, 32, 10, 9),
  (0, 10, 35, 10, 10),
  (0, 10, 38, 10, 11),
  (0, 10, 41, 10, 16),
  (0, 10, 44, 10, 17),
  (0, 10, 47, 10, 18),
  (0, 10, 50, 10, 21),
  (0, 10, 53, 10, 22),
  (0, 10, 56, 10, 23),
  (0, 10, 59, 10, 24),
  (0, 10, 62, 10, 25),
  (0, 10, 65, 10, 26),
  (0, 10, 68, 10, 27),
  (0, 10, 71, 10, 29),
  (0, 10, 74, 10, 30),
  (0, 10, 78, 10, 31),
  (0, 10, 91, 10, 8),
  (0, 10, 216, 10, 28),
  (0, 10, 222, 10, 32),
  (0, 10, 151, 10, 15),
  (0, 10, 167, 10, 19),
  (0, 10, 170, 10, 20),
  (0, 10, 129, 10, 12),
  (0, 10, 136, 10, 13),
  (0, 10, 139, 10, 14),
  (8, 0, 3, 0, 0),
  (4, 0, 9, 7, 2),
  (3, 0, 11, 18, 1),
  (0, 0, 14, 0, 0),
  (5, 0, 20, 6, 104),
  (0, 0, 22, 0, 1),
  (0, 0, 26, 0, 2),
  (4, 0, 20, 6, 9),
  (3, 0, 30, 10, 2),
  (0, 0, 37, 7, 1),
  (1, 0, 66, 19, 1),
  (8, 2, 3, 0, 0),
  (5, 2, 9, 7, 105),
  (0, 2, 11, 2, 0),
  (5, 2, 17, 6, 104),
  (0, 2, 19, 2, 1),
  (0, 2, 23, 2, 2),
  (0, 2, 27, 2, 3),
  (0, 2, 33, 2, 5),
  (4, 2, 9, 7, 2),
  (3, 2, 36, 18, 1),
  (4, 2, 17, 6, 9),
  (3, 2, 39, 10, 2),
  (0, 2, 60, 7, 1),
  (1, 2, 56, 21, 3),
  (1, 2, 70, 3, 2),
  (0, 2, 42, 2, 6),
  (2, 3, 22, 49, 2),
  (8, 5, 3, 0, 0),
  (4, 5, 9, 7, 2),
  (3, 5, 13, 18, 1),
  (0, 5, 16, 5, 0),
  (0, 5, 20, 5, 1),
  (1, 5, 92, 19, 1),
  (1, 5, 95, 20, 1),
  (0, 5, 64, 6, 2),
  (0, 5, 54, 6, 3),
  (0, 5, 57, 6, 1),
  (2, 5, 109, 8, 1),
  (1, 6, 61, 13, 1),
  (1, 6, 65, 19, 1),
  (1, 6, 78, 15, 3),
  (1, 6, 82, 14, 3),
  (1, 6, 85, 12, 1),
  (1, 11, 9, 19, 1),
  (2, 11, 21, 16, 1),
  (2, 11, 25, 17, 1),
  (1, 8, 21, 19, 1),
  (2, 8, 27, 16, 1),
  (7, 8, 33, 32, 0),
  (1, 8, 39, 24, 0),
  (1, 9, 91, 20, 1),
  (1, 9, 94, 19, 1),
  (1, 9, 109, 29, 1),
  (0, 9, 113, 0, 1),
  (0, 9, 126, 6, 7),
  (0, 9, 136, 6, 0),
  (0, 9, 140, 6, 1),
  (0, 9, 143, 6, 2),
  (1, 9, 170, 30, 1),
  (0, 9, 177, 2, 2),
  (0, 9, 180, 2, 0),
  (0, 9, 184, 2, 3),
  (1, 9, 187, 4, 1),
  (0, 9, 190, 2, 5),
  (1, 9, 193, 3, 2),
  (2, 10, 85, 33, 3),
  (7, 10, 89, 255, 0),
  (1, 10, 94, 35, 1),
  (2, 10, 98, 36, 1),
  (1, 10, 119, 40, 1),
  (2, 10, 122, 38, 1),
  (2, 10, 105, 37, 1),
  (1, 10, 148, 34, 3),
  (1, 10, 182, 44, 2),
  (0, 1, 24, 6, 7),
  (6, 1, 30, 1000000, 0),
  (1, 1, 31, 62, 3),
  (1, 1, 35, 63, 1),
  (12, 1, 39, 0, 0),
  (8, 3, 3, 0, 0),
  (0, 3, 15, 3, 1),
  (1, 3, 19, 55, 0),
  (0, 4, 15, 6, 7),
  (0, 4, 21, 6, 0),
  (1, 4, 24, 60, 1),
  (2, 5, 82, 49, 2),
  (1, 5, 47, 12, 1),
  (1, 5, 88, 60, 1),
  (1, 5, 98, 13, 1),
  (1, 5, 60, 57, 3),
  (2, 5, 101, 58, 4),
  (1, 5, 105, 59, 2),
  (1, 6, 74, 61, 2),
  (2, 6, 89, 68, 3),
  (2, 11, 15, 64, 3),
  (2, 11, 41, 67, 4),
  (1, 9, 173, 54, 0),
  (1, 9, 240, 22, 0),
  (2, 9, 243, 68, 3),
  (1, 9, 247, 24, 0),
  (1, 9, 250, 69, 1),
  (0, 9, 81, 9, 10),
  (1, 9, 271, 53, 3),
  (1, 10, 102, 79, 1),
  (1, 10, 108, 78, 2),
  (1, 10, 125, 83, 2),
  (1, 10, 132, 42, 3),
  (1, 10, 142, 84, 2),
  (1, 10, 179, 86, 1),
  (1, 10, 185, 82, 4),
  (1, 10, 196, 41, 2),
  (2, 10, 199, 80, 1),
  (1, 10, 225, 47, 2),
  (1, 10, 228, 46, 1),
  (1, 1, 45, 90, 2),
  (1, 1, 52, 2, 3),
  (0, 3, 28, 6, 7),
  (11, 3, 34, 0, 0),
  (1, 3, 40, 90, 2),
  (0, 5, 28, 7, 1),
  (1, 5, 32, 7, 0),
  (1, 5, 35, 93, 2),
  (0, 5, 39, 6, 4),
  (1, 5, 67, 94, 2),
  (1, 5, 71, 95, 4),
  (0, 5, 75, 6, 5),
  (1, 5, 78, 9, 1),
  (2, 11, 28, 98, 3),
  (2, 11, 31, 65, 3),
  (2, 11, 34, 99, 4),
  (2, 11, 38, 66, 3),
  (8, 9, 1, 0, 0),
  (4, 9, 7, 7, 2),
  (3, 9, 11, 18, 1),
  (4, 9, 18, 0, 4),
  (3, 9, 20, 50, 0),
  (4, 9, 25, 2, 8),
  (3, 9, 27, 52, 0),
  (4, 9, 32, 1, 5),
  (10, 9, 34, 1, 0),
  (4, 9, 39, 3, 2),
  (3, 9, 41, 91, 1),
  (0, 9, 44, 9, 3),
  (4, 9, 48, 5, 3),
  (10, 9, 50, 56, 0),
  (0, 9, 51, 9, 5),
  (4, 9, 55, 4, 1),
  (10, 9, 57, 6, 0),
  (0, 9, 58, 9, 6),
  (4, 9, 62, 6, 9),
  (3, 9, 64, 10, 2),
  (0, 9, 67, 9, 7),
  (4, 9, 71, 8, 2),
  (3, 9, 73, 23, 1),
  (1, 9, 98, 103, 1),
  (0, 9, 117, 6, 4),
  (0, 9, 120, 6, 5),
  (0, 9, 123, 6, 6),
  (0, 9, 129, 6, 8),
  (1, 9, 132, 92, 1),
  (0, 9, 207, 2, 1),
  (1, 9, 275, 96, 1),
  (2, 10, 112, 39, 1),
  (1, 10, 115, 104, 5),
  (1, 10, 145, 108, 2),
  (6, 10, 202, 1000000, 0),
  (1, 10, 203, 112, 2),
  (1, 10, 206, 113, 1),
  (2, 0, 50, 120, 3),
  (2, 0, 56, 121, 5),
  (11, 0, 60, 0, 0),
  (1, 0, 70, 25, 1),
  (2, 0, 76, 0, 1),
  (2, 0, 80, 51, 2),
  (2, 0, 84, 66, 3),
  (2, 0, 87, 68, 3),
  (0, 6, 31, 6, 4),
  (0, 6, 35, 6, 5),
  (2, 6, 47, 120, 3),
  (2, 6, 53, 121, 5),
  (1, 6, 57, 11, 3),
  (1, 9, 197, 126, 2),
  (1, 9, 210, 117, 2),
  (1, 9, 278, 118, 4),
  (1, 10, 154, 85, 1),
  (1, 10, 157, 129, 2),
  (1, 10, 161, 43, 1),
  (1, 10, 164, 81, 1),
  (1, 10, 173, 127, 2),
  (1, 10, 176, 87, 2),
  (1, 10, 238, 116, 2),
  (1, 0, 33, 131, 2),
  (1, 0, 41, 21, 3),
  (1, 0, 45, 132, 4),
  (0, 0, 49, 0, 3),
  (0, 2, 46, 6, 3),
  (0, 2, 50, 6, 4),
  (0, 2, 53, 6, 5),
  (1, 2, 63, 132, 4),
  (1, 9, 201, 136, 2),
  (1, 9, 267, 132, 4),
  (11, 9, 282, 0, 0),
  (1, 10, 189, 141, 2),
  (1, 10, 192, 111, 0),
  (1, 10, 209, 130, 0),
  (1, 10, 219, 45, 3),
  (1, 10, 232, 114, 0),
  (1, 10, 235, 115, 1),
  (1, 9, 102, 143, 2),
  (1, 9, 106, 55, 0),
  (1, 9, 146, 31, 1),
  (1, 9, 149, 146, 0),
  (1, 9, 159, 144, 1),
  (1, 9, 163, 5, 1),
  (1, 9, 166, 102, 2),
  (1, 9, 204, 148, 2),
  (1, 9, 226, 147, 1),
  (1, 9, 229, 119, 3),
  (0, 9, 233, 5, 0),
  (1, 9, 236, 21, 3),
  (0, 9, 255, 8, 0),
  (1, 9, 259, 97, 1),
  (1, 9, 263, 149, 1),
  (1, 10, 213, 151, 2),
  (1, 10, 241, 165, 1),
  (4, 12, 7, 9, 12),
  (3, 12, 9, 122, 0),
  (4, 12, 10, 10, 33),
  (3, 12, 12, 32, 0),
  (7, 12, 13, 4294967295, 0),
  (1, 12, 15, 70, 2),
  (1, 12, 19, 75, 2),
  (1, 12, 20, 26, 1),
  (1, 12, 24, 76, 1),
  (1, 12, 25, 71, 1),
  (1, 12, 28, 77, 1),
  (1, 12, 29, 123, 0),
  (1, 12, 33, 105, 0),
  (1, 12, 34, 155, 0),
  (1, 12, 37, 128, 0),
  (1, 12, 38, 124, 2),
  (1, 12, 42, 137, 2),
  (1, 12, 43, 72, 3),
  (1, 12, 47, 138, 3),
  (1, 12, 48, 156, 2),
  (1, 12, 51, 139, 2),
  (1, 12, 52, 157, 2),
  (1, 12, 55, 140, 2),
  (1, 12, 56, 100, 0),
  (1, 12, 59, 88, 0),
  (1, 12, 60, 73, 2),
  (1, 12, 63, 109, 2),
  (1, 12, 64, 74, 3),
  (1, 12, 67, 110, 3),
  (1, 12, 68, 133, 2),
  (1, 12, 71, 150, 2),
  (1, 12, 72, 145, 2),
  (1, 12, 75, 163, 2),
  (1, 12, 76, 158, 3),
  (1, 12, 79, 164, 3),
  (1, 12, 80, 134, 2),
  (1, 12, 83, 152, 2),
  (1, 12, 84, 27, 2),
  (1, 12, 87, 89, 2),
  (1, 12, 88, 159, 2),
  (1, 12, 91, 153, 2),
  (1, 12, 92, 101, 0),
  (1, 12, 95, 106, 0),
  (1, 12, 96, 125, 0),
  (1, 12, 99, 107, 0),
  (1, 12, 100, 160, 1),
  (1, 12, 103, 142, 1),
  (1, 12, 104, 161, 1),
  (1, 12, 107, 166, 1),
  (1, 12, 108, 162, 2),
  (1, 12, 111, 167, 2),
  (1, 12, 112, 135, 1),
  (1, 12, 115, 154, 1),
  (1, 12, 116, 28, 1),
  (1, 12, 119, 48, 1)]
/-- a row of a table: the instruction, the next pc, what is forgotten there, a (target, class, callee ..), what is forgotten there, b, link, constant -/
abbrev TE : Type := Instr × Nat × List Nat × Nat × List Nat × Nat × Nat × Int32
/-- the calls that are no methods of ours: System.arraycopy, Math.max, Math.min -/
def spc : Nat → Nat
  | 1001 => 1
  | 1002 => 2
  | 1003 => 3
  | _ => 0
