def cT0 : u_T := fun k => match k with
  | 0 => ("LearnedCount$Finding", "weighing", "LLearnedCount$Weighing;", true)
  | _ => ("LearnedCount$Finding", "turned", "[I", true)
def cY0 : Nat → FieldType := fun k => match k with
  | 0 => (.object "LearnedCount$Weighing")
  | _ => (.array .int)
theorem cN0 : ∀ a, a < 2 → ∀ b, b < 2 → a ≠ b → (cT0 a).2.1 ≠ (cT0 b).2.1 := by decide +kernel
theorem cP0 : ∀ k, k < 2 → parseFieldDescriptor (cT0 k).2.2.1 = some (cY0 k) := by decide +kernel
theorem cI0 : ∀ w ∈ u_ws "LearnedCount$Finding" cT0 2, w ∈ TG := TG_all [500, 502] (by decide +kernel) (by decide +kernel)
def cT1 : u_T := fun k => match k with
  | 0 => ("LearnedCount$Library", "all", "[LLearnedCount$Word;", true)
  | 1 => ("LearnedCount$Library", "size", "I", false)
  | 2 => ("LearnedCount$Library", "copiesOf", "[I", true)
  | 3 => ("LearnedCount$Library", "yesIn", "[I", true)
  | 4 => ("LearnedCount$Library", "noIn", "[I", true)
  | 5 => ("LearnedCount$Library", "latestLaw", "[I", true)
  | 6 => ("LearnedCount$Library", "firstLaw", "[I", true)
  | 7 => ("LearnedCount$Library", "ofDoctor", "[I", true)
  | 8 => ("LearnedCount$Library", "inBook", "[I", true)
  | 9 => ("LearnedCount$Library", "ofWeight", "[I", true)
  | 10 => ("LearnedCount$Library", "lawWords", "I", false)
  | 11 => ("LearnedCount$Library", "noteWords", "I", false)
  | 12 => ("LearnedCount$Library", "inRing", "I", false)
  | 13 => ("LearnedCount$Library", "unsound", "I", false)
  | 14 => ("LearnedCount$Library", "followed", "[I", true)
  | _ => ("LearnedCount$Library", "reached", "[I", true)
def cY1 : Nat → FieldType := fun k => match k with
  | 0 => (.array (.object "LearnedCount$Word"))
  | 1 => .int
  | 2 => (.array .int)
  | 3 => (.array .int)
  | 4 => (.array .int)
  | 5 => (.array .int)
  | 6 => (.array .int)
  | 7 => (.array .int)
  | 8 => (.array .int)
  | 9 => (.array .int)
  | 10 => .int
  | 11 => .int
  | 12 => .int
  | 13 => .int
  | 14 => (.array .int)
  | _ => (.array .int)
theorem cN1 : ∀ a, a < 16 → ∀ b, b < 16 → a ≠ b → (cT1 a).2.1 ≠ (cT1 b).2.1 := by decide +kernel
theorem cP1 : ∀ k, k < 16 → parseFieldDescriptor (cT1 k).2.2.1 = some (cY1 k) := by decide +kernel
theorem cI1 : ∀ w ∈ u_ws "LearnedCount$Library" cT1 16, w ∈ TG := TG_all [362, 364, 366, 368, 370, 372, 374, 376, 378, 380, 382, 384, 386, 388, 390, 392] (by decide +kernel) (by decide +kernel)
def cT2 : u_T := fun k => match k with
  | 0 => ("LearnedCount$LibraryReader", "tokens", "LLearnedCount$Tokens;", true)
  | _ => ("LearnedCount$LibraryReader", "book", "I", false)
def cY2 : Nat → FieldType := fun k => match k with
  | 0 => (.object "LearnedCount$Tokens")
  | _ => .int
theorem cN2 : ∀ a, a < 2 → ∀ b, b < 2 → a ≠ b → (cT2 a).2.1 ≠ (cT2 b).2.1 := by decide +kernel
theorem cP2 : ∀ k, k < 2 → parseFieldDescriptor (cT2 k).2.2.1 = some (cY2 k) := by decide +kernel
theorem cI2 : ∀ w ∈ u_ws "LearnedCount$LibraryReader" cT2 2, w ∈ TG := TG_all [165, 167] (by decide +kernel) (by decide +kernel)
def cT3 : u_T := fun k => match k with
  | 0 => ("LearnedCount$Rule", "main", "I", false)
  | 1 => ("LearnedCount$Rule", "fewestCopies", "I", false)
  | 2 => ("LearnedCount$Rule", "notes", "Z", false)
  | 3 => ("LearnedCount$Rule", "two", "I", false)
  | 4 => ("LearnedCount$Rule", "head", "I", false)
  | 5 => ("LearnedCount$Rule", "silent", "I", false)
  | _ => ("LearnedCount$Rule", "laws", "I", false)
def cY3 : Nat → FieldType := fun k => match k with
  | 0 => .int
  | 1 => .int
  | 2 => .boolean
  | 3 => .int
  | 4 => .int
  | 5 => .int
  | _ => .int
theorem cN3 : ∀ a, a < 7 → ∀ b, b < 7 → a ≠ b → (cT3 a).2.1 ≠ (cT3 b).2.1 := by decide +kernel
theorem cP3 : ∀ k, k < 7 → parseFieldDescriptor (cT3 k).2.2.1 = some (cY3 k) := by decide +kernel
theorem cI3 : ∀ w ∈ u_ws "LearnedCount$Rule" cT3 7, w ∈ TG := TG_all [432, 434, 436, 438, 440, 442, 444] (by decide +kernel) (by decide +kernel)
def cT4 : u_T := fun k => match k with
  | _ => ("LearnedCount$RuleReader", "tokens", "LLearnedCount$Tokens;", true)
def cY4 : Nat → FieldType := fun k => match k with
  | _ => (.object "LearnedCount$Tokens")
theorem cN4 : ∀ a, a < 1 → ∀ b, b < 1 → a ≠ b → (cT4 a).2.1 ≠ (cT4 b).2.1 := by decide +kernel
theorem cP4 : ∀ k, k < 1 → parseFieldDescriptor (cT4 k).2.2.1 = some (cY4 k) := by decide +kernel
theorem cI4 : ∀ w ∈ u_ws "LearnedCount$RuleReader" cT4 1, w ∈ TG := TG_all [177] (by decide +kernel) (by decide +kernel)
def cT5 : u_T := fun k => match k with
  | 0 => ("LearnedCount$Sheet", "cells", "[I", true)
  | 1 => ("LearnedCount$Sheet", "lane", "I", false)
  | _ => ("LearnedCount$Sheet", "size", "I", false)
def cY5 : Nat → FieldType := fun k => match k with
  | 0 => (.array .int)
  | 1 => .int
  | _ => .int
theorem cN5 : ∀ a, a < 3 → ∀ b, b < 3 → a ≠ b → (cT5 a).2.1 ≠ (cT5 b).2.1 := by decide +kernel
theorem cP5 : ∀ k, k < 3 → parseFieldDescriptor (cT5 k).2.2.1 = some (cY5 k) := by decide +kernel
theorem cI5 : ∀ w ∈ u_ws "LearnedCount$Sheet" cT5 3, w ∈ TG := TG_all [518, 520, 522] (by decide +kernel) (by decide +kernel)
def cT6 : u_T := fun k => match k with
  | 0 => ("LearnedCount$Tape", "bytes", "[B", true)
  | _ => ("LearnedCount$Tape", "length", "I", false)
def cY6 : Nat → FieldType := fun k => match k with
  | 0 => (.array .byte)
  | _ => .int
theorem cN6 : ∀ a, a < 2 → ∀ b, b < 2 → a ≠ b → (cT6 a).2.1 ≠ (cT6 b).2.1 := by decide +kernel
theorem cP6 : ∀ k, k < 2 → parseFieldDescriptor (cT6 k).2.2.1 = some (cY6 k) := by decide +kernel
theorem cI6 : ∀ w ∈ u_ws "LearnedCount$Tape" cT6 2, w ∈ TG := TG_all [116, 118] (by decide +kernel) (by decide +kernel)
def cT7 : u_T := fun k => match k with
  | 0 => ("LearnedCount$Tokens", "tape", "LLearnedCount$Tape;", true)
  | 1 => ("LearnedCount$Tokens", "kind", "I", false)
  | 2 => ("LearnedCount$Tokens", "start", "I", false)
  | 3 => ("LearnedCount$Tokens", "behind", "I", false)
  | 4 => ("LearnedCount$Tokens", "number", "I", false)
  | 5 => ("LearnedCount$Tokens", "fault", "I", false)
  | _ => ("LearnedCount$Tokens", "place", "I", false)
def cY7 : Nat → FieldType := fun k => match k with
  | 0 => (.object "LearnedCount$Tape")
  | 1 => .int
  | 2 => .int
  | 3 => .int
  | 4 => .int
  | 5 => .int
  | _ => .int
theorem cN7 : ∀ a, a < 7 → ∀ b, b < 7 → a ≠ b → (cT7 a).2.1 ≠ (cT7 b).2.1 := by decide +kernel
theorem cP7 : ∀ k, k < 7 → parseFieldDescriptor (cT7 k).2.2.1 = some (cY7 k) := by decide +kernel
theorem cI7 : ∀ w ∈ u_ws "LearnedCount$Tokens" cT7 7, w ∈ TG := TG_all [142, 144, 146, 148, 150, 152, 154] (by decide +kernel) (by decide +kernel)
def cT8 : u_T := fun k => match k with
  | 0 => ("LearnedCount$Weighing", "library", "LLearnedCount$Library;", false)
  | 1 => ("LearnedCount$Weighing", "rule", "LLearnedCount$Rule;", false)
  | 2 => ("LearnedCount$Weighing", "counting", "I", false)
  | 3 => ("LearnedCount$Weighing", "opinions", "[I", true)
  | 4 => ("LearnedCount$Weighing", "weighed", "I", false)
  | 5 => ("LearnedCount$Weighing", "law", "I", false)
  | 6 => ("LearnedCount$Weighing", "yes", "I", false)
  | 7 => ("LearnedCount$Weighing", "no", "I", false)
  | 8 => ("LearnedCount$Weighing", "by", "I", false)
  | _ => ("LearnedCount$Weighing", "held", "I", false)
def cY8 : Nat → FieldType := fun k => match k with
  | 0 => (.object "LearnedCount$Library")
  | 1 => (.object "LearnedCount$Rule")
  | 2 => .int
  | 3 => (.array .int)
  | 4 => .int
  | 5 => .int
  | 6 => .int
  | 7 => .int
  | 8 => .int
  | _ => .int
theorem cN8 : ∀ a, a < 10 → ∀ b, b < 10 → a ≠ b → (cT8 a).2.1 ≠ (cT8 b).2.1 := by decide +kernel
theorem cP8 : ∀ k, k < 10 → parseFieldDescriptor (cT8 k).2.2.1 = some (cY8 k) := by decide +kernel
theorem cI8 : ∀ w ∈ u_ws "LearnedCount$Weighing" cT8 10, w ∈ TG := TG_all [470, 472, 474, 476, 478, 480, 482, 484, 486, 488] (by decide +kernel) (by decide +kernel)
def cT9 : u_T := fun k => match k with
  | 0 => ("LearnedCount$Word", "kind", "I", false)
  | 1 => ("LearnedCount$Word", "doctor", "I", false)
  | 2 => ("LearnedCount$Word", "book", "I", false)
  | 3 => ("LearnedCount$Word", "with", "I", false)
  | 4 => ("LearnedCount$Word", "without", "I", false)
  | 5 => ("LearnedCount$Word", "answer", "I", false)
  | 6 => ("LearnedCount$Word", "follows", "I", false)
  | 7 => ("LearnedCount$Word", "place", "I", false)
  | 8 => ("LearnedCount$Word", "day", "I", false)
  | 9 => ("LearnedCount$Word", "weight", "I", false)
  | _ => ("LearnedCount$Word", "stepsToEnd", "I", false)
def cY9 : Nat → FieldType := fun k => match k with
  | 0 => .int
  | 1 => .int
  | 2 => .int
  | 3 => .int
  | 4 => .int
  | 5 => .int
  | 6 => .int
  | 7 => .int
  | 8 => .int
  | 9 => .int
  | _ => .int
theorem cN9 : ∀ a, a < 11 → ∀ b, b < 11 → a ≠ b → (cT9 a).2.1 ≠ (cT9 b).2.1 := by decide +kernel
theorem cP9 : ∀ k, k < 11 → parseFieldDescriptor (cT9 k).2.2.1 = some (cY9 k) := by decide +kernel
theorem cI9 : ∀ w ∈ u_ws "LearnedCount$Word" cT9 11, w ∈ TG := TG_all [232, 234, 236, 238, 240, 242, 244, 246, 248, 250, 252] (by decide +kernel) (by decide +kernel)
def cT10 : u_T := fun k => match k with
  | 0 => ("LearnedCount", "tape", "LLearnedCount$Tape;", true)
  | 1 => ("LearnedCount", "tokens", "LLearnedCount$Tokens;", true)
  | 2 => ("LearnedCount", "libraryReader", "LLearnedCount$LibraryReader;", true)
  | 3 => ("LearnedCount", "ruleReader", "LLearnedCount$RuleReader;", true)
  | 4 => ("LearnedCount", "theLibrary", "LLearnedCount$Library;", false)
  | 5 => ("LearnedCount", "spareLibrary", "LLearnedCount$Library;", false)
  | 6 => ("LearnedCount", "theRule", "LLearnedCount$Rule;", false)
  | 7 => ("LearnedCount", "otherRule", "LLearnedCount$Rule;", false)
  | 8 => ("LearnedCount", "spareRule", "LLearnedCount$Rule;", false)
  | 9 => ("LearnedCount", "brought", "I", false)
  | 10 => ("LearnedCount", "latestFault", "I", false)
  | 11 => ("LearnedCount", "weighing", "LLearnedCount$Weighing;", true)
  | 12 => ("LearnedCount", "finding", "LLearnedCount$Finding;", true)
  | _ => ("LearnedCount", "sheets", "[LLearnedCount$Sheet;", true)
def cY10 : Nat → FieldType := fun k => match k with
  | 0 => (.object "LearnedCount$Tape")
  | 1 => (.object "LearnedCount$Tokens")
  | 2 => (.object "LearnedCount$LibraryReader")
  | 3 => (.object "LearnedCount$RuleReader")
  | 4 => (.object "LearnedCount$Library")
  | 5 => (.object "LearnedCount$Library")
  | 6 => (.object "LearnedCount$Rule")
  | 7 => (.object "LearnedCount$Rule")
  | 8 => (.object "LearnedCount$Rule")
  | 9 => .int
  | 10 => .int
  | 11 => (.object "LearnedCount$Weighing")
  | 12 => (.object "LearnedCount$Finding")
  | _ => (.array (.object "LearnedCount$Sheet"))
theorem cN10 : ∀ a, a < 14 → ∀ b, b < 14 → a ≠ b → (cT10 a).2.1 ≠ (cT10 b).2.1 := by decide +kernel
theorem cP10 : ∀ k, k < 14 → parseFieldDescriptor (cT10 k).2.2.1 = some (cY10 k) := by decide +kernel
theorem cI10 : ∀ w ∈ u_ws "LearnedCount" cT10 14, w ∈ TG := TG_all [539, 541, 543, 545, 547, 549, 551, 553, 555, 557, 559, 561, 563, 565] (by decide +kernel) (by decide +kernel)
def cT11 : u_T := fun k => match k with
  | 0 => ("LearnedCountModel", "words", "I", false)
  | 1 => ("LearnedCountModel", "told", "[I", true)
  | 2 => ("LearnedCountModel", "copy", "[I", true)
  | 3 => ("LearnedCountModel", "dWords", "I", false)
  | 4 => ("LearnedCountModel", "dTold", "[I", true)
  | 5 => ("LearnedCountModel", "dCopy", "[I", true)
  | 6 => ("LearnedCountModel", "isCopied", "[Z", true)
  | 7 => ("LearnedCountModel", "followsAt", "[I", true)
  | 8 => ("LearnedCountModel", "inBook", "I", false)
  | 9 => ("LearnedCountModel", "brought", "I", false)
  | 10 => ("LearnedCountModel", "tape", "[I", true)
  | 11 => ("LearnedCountModel", "taped", "I", false)
  | 12 => ("LearnedCountModel", "pos", "I", false)
  | 13 => ("LearnedCountModel", "from", "I", false)
  | 14 => ("LearnedCountModel", "sort", "I", false)
  | 15 => ("LearnedCountModel", "value", "I", false)
  | 16 => ("LearnedCountModel", "fault", "I", false)
  | 17 => ("LearnedCountModel", "wrongAt", "I", false)
  | 18 => ("LearnedCountModel", "rules", "[I", true)
  | 19 => ("LearnedCountModel", "others", "[I", true)
  | 20 => ("LearnedCountModel", "draft", "[I", true)
  | 21 => ("LearnedCountModel", "isTold", "[Z", true)
  | 22 => ("LearnedCountModel", "follows", "[I", true)
  | 23 => ("LearnedCountModel", "rings", "I", false)
  | 24 => ("LearnedCountModel", "unsound", "I", false)
  | 25 => ("LearnedCountModel", "sayYes", "[J", true)
  | 26 => ("LearnedCountModel", "sayNo", "[J", true)
  | 27 => ("LearnedCountModel", "eachYes", "[J", true)
  | 28 => ("LearnedCountModel", "eachNo", "[J", true)
  | 29 => ("LearnedCountModel", "clashes", "[J", true)
  | 30 => ("LearnedCountModel", "held", "[I", true)
  | 31 => ("LearnedCountModel", "heldBy", "[I", true)
  | 32 => ("LearnedCountModel", "yesMany", "[I", true)
  | 33 => ("LearnedCountModel", "noMany", "[I", true)
  | 34 => ("LearnedCountModel", "wasHeld", "[I", true)
  | 35 => ("LearnedCountModel", "changedMany", "I", false)
  | 36 => ("LearnedCountModel", "changedFirst", "I", false)
  | 37 => ("LearnedCountModel", "ends", "[I", true)
  | 38 => ("LearnedCountModel", "best", "[I", true)
  | 39 => ("LearnedCountModel", "firstTurn", "I", false)
  | 40 => ("LearnedCountModel", "lanes", "[I", true)
  | 41 => ("LearnedCountModel", "sizes", "[I", true)
  | _ => ("LearnedCountModel", "cells", "[I", true)
def cY11 : Nat → FieldType := fun k => match k with
  | 0 => .int
  | 1 => (.array .int)
  | 2 => (.array .int)
  | 3 => .int
  | 4 => (.array .int)
  | 5 => (.array .int)
  | 6 => (.array .boolean)
  | 7 => (.array .int)
  | 8 => .int
  | 9 => .int
  | 10 => (.array .int)
  | 11 => .int
  | 12 => .int
  | 13 => .int
  | 14 => .int
  | 15 => .int
  | 16 => .int
  | 17 => .int
  | 18 => (.array .int)
  | 19 => (.array .int)
  | 20 => (.array .int)
  | 21 => (.array .boolean)
  | 22 => (.array .int)
  | 23 => .int
  | 24 => .int
  | 25 => (.array .long)
  | 26 => (.array .long)
  | 27 => (.array .long)
  | 28 => (.array .long)
  | 29 => (.array .long)
  | 30 => (.array .int)
  | 31 => (.array .int)
  | 32 => (.array .int)
  | 33 => (.array .int)
  | 34 => (.array .int)
  | 35 => .int
  | 36 => .int
  | 37 => (.array .int)
  | 38 => (.array .int)
  | 39 => .int
  | 40 => (.array .int)
  | 41 => (.array .int)
  | _ => (.array .int)
theorem cN11 : ∀ a, a < 43 → ∀ b, b < 43 → a ≠ b → (cT11 a).2.1 ≠ (cT11 b).2.1 := by decide +kernel
theorem cP11 : ∀ k, k < 43 → parseFieldDescriptor (cT11 k).2.2.1 = some (cY11 k) := by decide +kernel
theorem cI11 : ∀ w ∈ u_ws "LearnedCountModel" cT11 43, w ∈ TG := TG_all [1177, 1179, 1181, 1183, 1185, 1187, 1189, 1191, 1193, 1195, 1197, 1199, 1201, 1203, 1205, 1207, 1209, 1211, 1213, 1215, 1217, 1219, 1221, 1223, 1225, 1227, 1229, 1231, 1233, 1235, 1237, 1239, 1241, 1243, 1245, 1247, 1249, 1251, 1253, 1255, 1257, 1259, 1261] (by decide +kernel) (by decide +kernel)
def kC : Nat → String := fun c => match c with
  | 0 => "LearnedCount$Finding"
  | 1 => "LearnedCount$Library"
  | 2 => "LearnedCount$LibraryReader"
  | 3 => "LearnedCount$Rule"
  | 4 => "LearnedCount$RuleReader"
  | 5 => "LearnedCount$Sheet"
  | 6 => "LearnedCount$Tape"
  | 7 => "LearnedCount$Tokens"
  | 8 => "LearnedCount$Weighing"
  | 9 => "LearnedCount$Word"
  | 10 => "LearnedCount"
  | _ => "LearnedCountModel"
def kT : Nat → u_T := fun c => match c with
  | 0 => cT0
  | 1 => cT1
  | 2 => cT2
  | 3 => cT3
  | 4 => cT4
  | 5 => cT5
  | 6 => cT6
  | 7 => cT7
  | 8 => cT8
  | 9 => cT9
  | 10 => cT10
  | _ => cT11
def kY : Nat → Nat → FieldType := fun c => match c with
  | 0 => cY0
  | 1 => cY1
  | 2 => cY2
  | 3 => cY3
  | 4 => cY4
  | 5 => cY5
  | 6 => cY6
  | 7 => cY7
  | 8 => cY8
  | 9 => cY9
  | 10 => cY10
  | _ => cY11
def kN : Nat → Nat := fun c => match c with
  | 0 => 2
  | 1 => 16
  | 2 => 2
  | 3 => 7
  | 4 => 1
  | 5 => 3
  | 6 => 2
  | 7 => 7
  | 8 => 10
  | 9 => 11
  | 10 => 14
  | _ => 43
def KC : List vw_C := [("LearnedCount$Finding", cT0, 2), ("LearnedCount$Library", cT1, 16), ("LearnedCount$LibraryReader", cT2, 2), ("LearnedCount$Rule", cT3, 7), ("LearnedCount$RuleReader", cT4, 1), ("LearnedCount$Sheet", cT5, 3), ("LearnedCount$Tape", cT6, 2), ("LearnedCount$Tokens", cT7, 7), ("LearnedCount$Weighing", cT8, 10), ("LearnedCount$Word", cT9, 11), ("LearnedCount", cT10, 14), ("LearnedCountModel", cT11, 43)]
theorem k_c {c : Nat} (h : c < 12) : KC[c]? = some (kC c, kT c, kN c) := by
  match c, h with
  | 0, _ => rfl
  | 1, _ => rfl
  | 2, _ => rfl
  | 3, _ => rfl
  | 4, _ => rfl
  | 5, _ => rfl
  | 6, _ => rfl
  | 7, _ => rfl
  | 8, _ => rfl
  | 9, _ => rfl
  | 10, _ => rfl
  | 11, _ => rfl
theorem k_i {c : Nat} (h : c < 12) : ∀ w ∈ u_ws (kC c) (kT c) (kN c), w ∈ TG := by
  match c, h with
  | 0, _ => exact cI0
  | 1, _ => exact cI1
  | 2, _ => exact cI2
  | 3, _ => exact cI3
  | 4, _ => exact cI4
  | 5, _ => exact cI5
  | 6, _ => exact cI6
  | 7, _ => exact cI7
  | 8, _ => exact cI8
  | 9, _ => exact cI9
  | 10, _ => exact cI10
  | 11, _ => exact cI11
theorem k_n {c : Nat} (h : c < 12) : ∀ a, a < kN c → ∀ b, b < kN c → a ≠ b → (kT c a).2.1 ≠ (kT c b).2.1 := by
  match c, h with
  | 0, _ => exact cN0
  | 1, _ => exact cN1
  | 2, _ => exact cN2
  | 3, _ => exact cN3
  | 4, _ => exact cN4
  | 5, _ => exact cN5
  | 6, _ => exact cN6
  | 7, _ => exact cN7
  | 8, _ => exact cN8
  | 9, _ => exact cN9
  | 10, _ => exact cN10
  | 11, _ => exact cN11
theorem k_p {c : Nat} (h : c < 12) : ∀ k, k < kN c → parseFieldDescriptor (kT c k).2.2.1 = some (kY c k) := by
  match c, h with
  | 0, _ => exact cP0
  | 1, _ => exact cP1
  | 2, _ => exact cP2
  | 3, _ => exact cP3
  | 4, _ => exact cP4
  | 5, _ => exact cP5
  | 6, _ => exact cP6
  | 7, _ => exact cP7
  | 8, _ => exact cP8
  | 9, _ => exact cP9
  | 10, _ => exact cP10
  | 11, _ => exact cP11
theorem k_ins {c : Nat} (h : c < 12) : Cond.instantiable (kC c) (kN c) ∈ TG := by
  match c, h with
  | 0, _ => exact TG_at 492 (by decide +kernel) (by decide +kernel)
  | 1, _ => exact TG_at 181 (by decide +kernel) (by decide +kernel)
  | 2, _ => exact TG_at 158 (by decide +kernel) (by decide +kernel)
  | 3, _ => exact TG_at 396 (by decide +kernel) (by decide +kernel)
  | 4, _ => exact TG_at 171 (by decide +kernel) (by decide +kernel)
  | 5, _ => exact TG_at 507 (by decide +kernel) (by decide +kernel)
  | 6, _ => exact TG_at 108 (by decide +kernel) (by decide +kernel)
  | 7, _ => exact TG_at 123 (by decide +kernel) (by decide +kernel)
  | 8, _ => exact TG_at 448 (by decide +kernel) (by decide +kernel)
  | 9, _ => exact TG_at 188 (by decide +kernel) (by decide +kernel)
  | 10, _ => exact TG_at 100 (by decide +kernel) (by decide +kernel)
  | 11, _ => exact TG_at 1089 (by decide +kernel) (by decide +kernel)
theorem k_ini {c : Nat} (h : c < 12) : Cond.initialized (kC c) ∈ TG := by
  match c, h with
  | 0, _ => exact TG_at 90 (by decide +kernel) (by decide +kernel)
  | 1, _ => exact TG_at 84 (by decide +kernel) (by decide +kernel)
  | 2, _ => exact TG_at 82 (by decide +kernel) (by decide +kernel)
  | 3, _ => exact TG_at 88 (by decide +kernel) (by decide +kernel)
  | 4, _ => exact TG_at 83 (by decide +kernel) (by decide +kernel)
  | 5, _ => exact TG_at 91 (by decide +kernel) (by decide +kernel)
  | 6, _ => exact TG_at 80 (by decide +kernel) (by decide +kernel)
  | 7, _ => exact TG_at 81 (by decide +kernel) (by decide +kernel)
  | 8, _ => exact TG_at 89 (by decide +kernel) (by decide +kernel)
  | 9, _ => exact TG_at 85 (by decide +kernel) (by decide +kernel)
  | 10, _ => exact TG_at 79 (by decide +kernel) (by decide +kernel)
  | 11, _ => exact TG_at 92 (by decide +kernel) (by decide +kernel)
/-- arrays: kind ↦ (type, length) -/
def aK : Nat → Nat × Nat := fun k => match k with
  | 12 => (0, 24)
  | 13 => (0, 8)
  | 14 => (0, 64)
  | 15 => (0, 7)
  | 16 => (0, 1024)
  | 17 => (2, 400)
  | 18 => (4, 24)
  | 19 => (5, 4)
  | 20 => (0, 40)
  | 21 => (0, 250)
  | 22 => (0, 400)
  | 23 => (0, 25)
  | 24 => (3, 8)
  | 25 => (3, 7)
  | 26 => (1, 25)
  | 27 => (1, 8)
  | 28 => (0, 4)
  | 29 => (0, 160)
  | _ => (0, 256)
def aT : Nat → FieldType := fun t => match t with
  | 0 => .int
  | 1 => .long
  | 2 => .byte
  | 3 => .boolean
  | 4 => (.object "LearnedCount$Word")
  | _ => (.object "LearnedCount$Sheet")
def rK : Nat → Nat → Nat := fun c j => match c with
  | 0 => ([8, 16] : List Nat).getD j 0
  | 1 => ([18, 0, 13, 14, 14, 14, 14, 13, 13, 15, 0, 0, 0, 0, 12, 12] : List Nat).getD j 0
  | 2 => ([7, 0] : List Nat).getD j 0
  | 4 => ([7] : List Nat).getD j 0
  | 5 => ([20, 0, 0] : List Nat).getD j 0
  | 6 => ([17, 0] : List Nat).getD j 0
  | 7 => ([6, 0, 0, 0, 0, 0, 0] : List Nat).getD j 0
  | 8 => ([1, 3, 0, 13, 0, 0, 0, 0, 0, 0] : List Nat).getD j 0
  | 10 => ([6, 7, 2, 4, 1, 1, 3, 3, 3, 0, 0, 8, 0, 19] : List Nat).getD j 0
  | 11 => ([0, 21, 13, 0, 21, 13, 24, 23, 0, 0, 22, 0, 0, 0, 0, 0, 0, 0, 15, 15, 15, 25, 23, 0, 0, 26, 26, 27, 27, 27, 14, 14, 14, 14, 14, 0, 0, 14, 30, 0, 28, 28, 29] : List Nat).getD j 0
  | 18 => 9
  | 19 => 5
  | _ => 0
