/-! ===== 02 kinds: printed by gen/kinds.py: classes, fields, rows ===== -/
def jT0 : u_T := fun k => match k with
  | 0 => ("LosersBooks$Acts", "before", "[LLosersBooks$World;", true)
  | 1 => ("LosersBooks$Acts", "next", "I", false)
  | _ => ("LosersBooks$Acts", "size", "I", false)
def jY0 : Nat → FieldType := fun k => match k with
  | 0 => .array (.object "LosersBooks$World")
  | 1 => .int
  | _ => .int
def jT1 : u_T := fun k => match k with
  | 0 => ("LosersBooks$Campaign", "kinds", "[I", true)
  | 1 => ("LosersBooks$Campaign", "digits", "[I", true)
  | _ => ("LosersBooks$Campaign", "size", "I", false)
def jY1 : Nat → FieldType := fun k => match k with
  | 0 => .array .int
  | 1 => .array .int
  | _ => .int
def jT2 : u_T := fun k => match k with
  | _ => ("LosersBooks$Dice", "x", "J", false)
def jY2 : Nat → FieldType := fun k => match k with
  | _ => .long
def jT3 : u_T := fun k => match k with
  | 0 => ("LosersBooks$Law", "code", "[I", true)
  | 1 => ("LosersBooks$Law", "pile", "[I", true)
  | 2 => ("LosersBooks$Law", "letters", "[I", true)
  | _ => ("LosersBooks$Law", "size", "I", false)
def jY3 : Nat → FieldType := fun k => match k with
  | 0 => .array .int
  | 1 => .array .int
  | 2 => .array .int
  | _ => .int
def jT4 : u_T := fun k => match k with
  | 0 => ("LosersBooks$LawReader", "tape", "LLosersBooks$Tape;", true)
  | _ => ("LosersBooks$LawReader", "law", "LLosersBooks$Law;", true)
def jY4 : Nat → FieldType := fun k => match k with
  | 0 => .object "LosersBooks$Tape"
  | _ => .object "LosersBooks$Law"
def jT5 : u_T := fun k => match k with
  | 0 => ("LosersBooks$Realm", "might", "[I", true)
  | 1 => ("LosersBooks$Realm", "bias", "[I", true)
  | 2 => ("LosersBooks$Realm", "style", "[I", true)
  | 3 => ("LosersBooks$Realm", "first", "[I", true)
  | 4 => ("LosersBooks$Realm", "second", "[I", true)
  | 5 => ("LosersBooks$Realm", "ground", "[I", true)
  | 6 => ("LosersBooks$Realm", "fell", "[I", true)
  | 7 => ("LosersBooks$Realm", "items", "[I", true)
  | 8 => ("LosersBooks$Realm", "kingdoms", "I", false)
  | 9 => ("LosersBooks$Realm", "fields", "I", false)
  | 10 => ("LosersBooks$Realm", "ruled", "Z", false)
  | 11 => ("LosersBooks$Realm", "rout", "I", false)
  | _ => ("LosersBooks$Realm", "coins", "I", false)
def jY5 : Nat → FieldType := fun k => match k with
  | 0 => .array .int
  | 1 => .array .int
  | 2 => .array .int
  | 3 => .array .int
  | 4 => .array .int
  | 5 => .array .int
  | 6 => .array .int
  | 7 => .array .int
  | 8 => .int
  | 9 => .int
  | 10 => .boolean
  | 11 => .int
  | _ => .int
def jT6 : u_T := fun k => match k with
  | 0 => ("LosersBooks$Rumours", "who", "[I", true)
  | 1 => ("LosersBooks$Rumours", "where", "[I", true)
  | 2 => ("LosersBooks$Rumours", "number", "[I", true)
  | 3 => ("LosersBooks$Rumours", "bias", "[I", true)
  | 4 => ("LosersBooks$Rumours", "truth", "[I", true)
  | 5 => ("LosersBooks$Rumours", "fits", "[I", true)
  | 6 => ("LosersBooks$Rumours", "kingdoms", "I", false)
  | 7 => ("LosersBooks$Rumours", "size", "I", false)
  | _ => ("LosersBooks$Rumours", "sound", "Z", false)
def jY6 : Nat → FieldType := fun k => match k with
  | 0 => .array .int
  | 1 => .array .int
  | 2 => .array .int
  | 3 => .array .int
  | 4 => .array .int
  | 5 => .array .int
  | 6 => .int
  | 7 => .int
  | _ => .boolean
def jT7 : u_T := fun k => match k with
  | 0 => ("LosersBooks$Tape", "signs", "[I", true)
  | 1 => ("LosersBooks$Tape", "size", "I", false)
  | 2 => ("LosersBooks$Tape", "at", "I", false)
  | _ => ("LosersBooks$Tape", "fault", "I", false)
def jY7 : Nat → FieldType := fun k => match k with
  | 0 => .array .int
  | 1 => .int
  | 2 => .int
  | _ => .int
def jT8 : u_T := fun k => match k with
  | 0 => ("LosersBooks$World", "might", "[I", true)
  | 1 => ("LosersBooks$World", "bias", "[I", true)
  | 2 => ("LosersBooks$World", "style", "[I", true)
  | 3 => ("LosersBooks$World", "wins", "[I", true)
  | 4 => ("LosersBooks$World", "held", "[I", true)
  | 5 => ("LosersBooks$World", "written", "[I", true)
  | 6 => ("LosersBooks$World", "pages", "[I", true)
  | 7 => ("LosersBooks$World", "log", "[I", true)
  | 8 => ("LosersBooks$World", "pageCount", "I", false)
  | 9 => ("LosersBooks$World", "logCount", "I", false)
  | 10 => ("LosersBooks$World", "coins", "I", false)
  | _ => ("LosersBooks$World", "year", "I", false)
def jY8 : Nat → FieldType := fun k => match k with
  | 0 => .array .int
  | 1 => .array .int
  | 2 => .array .int
  | 3 => .array .int
  | 4 => .array .int
  | 5 => .array .int
  | 6 => .array .int
  | 7 => .array .int
  | 8 => .int
  | 9 => .int
  | 10 => .int
  | _ => .int
def jT9 : u_T := fun k => match k with
  | 0 => ("LosersBooks", "tape", "LLosersBooks$Tape;", true)
  | 1 => ("LosersBooks", "pictured", "Z", false)
  | 2 => ("LosersBooks", "laws", "[LLosersBooks$Law;", true)
  | 3 => ("LosersBooks", "campaigns", "[LLosersBooks$Campaign;", true)
  | 4 => ("LosersBooks", "now", "LLosersBooks$World;", true)
  | 5 => ("LosersBooks", "apart", "LLosersBooks$World;", true)
  | 6 => ("LosersBooks", "picture", "LLosersBooks$World;", true)
  | 7 => ("LosersBooks", "acts", "LLosersBooks$Acts;", true)
  | 8 => ("LosersBooks", "rumours", "LLosersBooks$Rumours;", true)
  | 9 => ("LosersBooks", "dice", "LLosersBooks$Dice;", true)
  | 10 => ("LosersBooks", "realm", "LLosersBooks$Realm;", false)
  | 11 => ("LosersBooks", "realmDraft", "LLosersBooks$Realm;", false)
  | 12 => ("LosersBooks", "lawDraft", "LLosersBooks$Law;", false)
  | 13 => ("LosersBooks", "campaignDraft", "LLosersBooks$Campaign;", false)
  | 14 => ("LosersBooks", "lawCount", "I", false)
  | 15 => ("LosersBooks", "campaignCount", "I", false)
  | 16 => ("LosersBooks", "lawThatHolds", "I", false)
  | _ => ("LosersBooks", "intrigues", "I", false)
def jY9 : Nat → FieldType := fun k => match k with
  | 0 => .object "LosersBooks$Tape"
  | 1 => .boolean
  | 2 => .array (.object "LosersBooks$Law")
  | 3 => .array (.object "LosersBooks$Campaign")
  | 4 => .object "LosersBooks$World"
  | 5 => .object "LosersBooks$World"
  | 6 => .object "LosersBooks$World"
  | 7 => .object "LosersBooks$Acts"
  | 8 => .object "LosersBooks$Rumours"
  | 9 => .object "LosersBooks$Dice"
  | 10 => .object "LosersBooks$Realm"
  | 11 => .object "LosersBooks$Realm"
  | 12 => .object "LosersBooks$Law"
  | 13 => .object "LosersBooks$Campaign"
  | 14 => .int
  | 15 => .int
  | 16 => .int
  | _ => .int
def jT10 : u_T := fun k => match k with
  | 0 => ("LosersBooksModel", "thrown", "I", false)
  | 1 => ("LosersBooksModel", "tape", "[B", true)
  | 2 => ("LosersBooksModel", "texts", "[B", true)
  | 3 => ("LosersBooksModel", "textLong", "[I", true)
  | 4 => ("LosersBooksModel", "letters", "[I", true)
  | 5 => ("LosersBooksModel", "text", "[B", false)
  | 6 => ("LosersBooksModel", "length", "I", false)
  | 7 => ("LosersBooksModel", "lawMany", "I", false)
  | 8 => ("LosersBooksModel", "begins", "I", false)
  | 9 => ("LosersBooksModel", "ends", "I", false)
  | 10 => ("LosersBooksModel", "at", "I", false)
  | 11 => ("LosersBooksModel", "fault", "I", false)
  | 12 => ("LosersBooksModel", "deep", "I", false)
  | 13 => ("LosersBooksModel", "label", "I", false)
  | 14 => ("LosersBooksModel", "found", "I", false)
  | 15 => ("LosersBooksModel", "labels", "Ljava/lang/String;", true)
  | 16 => ("LosersBooksModel", "allowed", "Ljava/lang/String;", true)
  | 17 => ("LosersBooksModel", "hasFound", "Z", false)
  | 18 => ("LosersBooksModel", "rule", "[I", true)
  | 19 => ("LosersBooksModel", "ruleRead", "[I", true)
  | 20 => ("LosersBooksModel", "realm", "[I", true)
  | 21 => ("LosersBooksModel", "realmRead", "[I", true)
  | 22 => ("LosersBooksModel", "ground", "[I", true)
  | 23 => ("LosersBooksModel", "groundRead", "[I", true)
  | 24 => ("LosersBooksModel", "plan", "[I", true)
  | 25 => ("LosersBooksModel", "planLong", "[I", true)
  | 26 => ("LosersBooksModel", "kingdoms", "I", false)
  | 27 => ("LosersBooksModel", "fields", "I", false)
  | 28 => ("LosersBooksModel", "kingdomsRead", "I", false)
  | 29 => ("LosersBooksModel", "fieldsRead", "I", false)
  | 30 => ("LosersBooksModel", "plans", "I", false)
  | 31 => ("LosersBooksModel", "hasRules", "Z", false)
  | 32 => ("LosersBooksModel", "now", "[I", true)
  | 33 => ("LosersBooksModel", "trial", "[I", true)
  | 34 => ("LosersBooksModel", "law", "I", false)
  | 35 => ("LosersBooksModel", "intriguing", "I", false)
  | 36 => ("LosersBooksModel", "memoKey", "[J", true)
  | 37 => ("LosersBooksModel", "memoWorth", "[I", true)
  | 38 => ("LosersBooksModel", "undoRow", "[I", true)
  | 39 => ("LosersBooksModel", "acts", "I", false)
  | 40 => ("LosersBooksModel", "x", "J", false)
  | 41 => ("LosersBooksModel", "note", "[I", true)
  | 42 => ("LosersBooksModel", "truth", "[I", true)
  | 43 => ("LosersBooksModel", "bias", "[I", true)
  | 44 => ("LosersBooksModel", "notes", "I", false)
  | 45 => ("LosersBooksModel", "tally", "[I", true)
  | 46 => ("LosersBooksModel", "imageRow", "[I", true)
  | _ => ("LosersBooksModel", "hasImage", "Z", false)
def jY10 : Nat → FieldType := fun k => match k with
  | 0 => .int
  | 1 => .array .byte
  | 2 => .array .byte
  | 3 => .array .int
  | 4 => .array .int
  | 5 => .array .byte
  | 6 => .int
  | 7 => .int
  | 8 => .int
  | 9 => .int
  | 10 => .int
  | 11 => .int
  | 12 => .int
  | 13 => .int
  | 14 => .int
  | 15 => .object "java/lang/String"
  | 16 => .object "java/lang/String"
  | 17 => .boolean
  | 18 => .array .int
  | 19 => .array .int
  | 20 => .array .int
  | 21 => .array .int
  | 22 => .array .int
  | 23 => .array .int
  | 24 => .array .int
  | 25 => .array .int
  | 26 => .int
  | 27 => .int
  | 28 => .int
  | 29 => .int
  | 30 => .int
  | 31 => .boolean
  | 32 => .array .int
  | 33 => .array .int
  | 34 => .int
  | 35 => .int
  | 36 => .array .long
  | 37 => .array .int
  | 38 => .array .int
  | 39 => .int
  | 40 => .long
  | 41 => .array .int
  | 42 => .array .int
  | 43 => .array .int
  | 44 => .int
  | 45 => .array .int
  | 46 => .array .int
  | _ => .boolean
def jR : Nat → String := fun k => match k with
  | 0 => "LosersBooks$Acts"
  | 1 => "LosersBooks$Campaign"
  | 2 => "LosersBooks$Dice"
  | 3 => "LosersBooks$Law"
  | 4 => "LosersBooks$LawReader"
  | 5 => "LosersBooks$Realm"
  | 6 => "LosersBooks$Rumours"
  | 7 => "LosersBooks$Tape"
  | 8 => "LosersBooks$World"
  | 9 => "LosersBooks"
  | 10 => "LosersBooksModel"
  | _ => ""
def jT : Nat → u_T := fun k => match k with
  | 0 => jT0
  | 1 => jT1
  | 2 => jT2
  | 3 => jT3
  | 4 => jT4
  | 5 => jT5
  | 6 => jT6
  | 7 => jT7
  | 8 => jT8
  | 9 => jT9
  | 10 => jT10
  | _ => jT0
def jY : Nat → (Nat → FieldType) := fun k => match k with
  | 0 => jY0
  | 1 => jY1
  | 2 => jY2
  | 3 => jY3
  | 4 => jY4
  | 5 => jY5
  | 6 => jY6
  | 7 => jY7
  | 8 => jY8
  | 9 => jY9
  | 10 => jY10
  | _ => jY0
def jn : Nat → Nat := fun k => match k with
  | 0 => 3
  | 1 => 3
  | 2 => 1
  | 3 => 4
  | 4 => 2
  | 5 => 13
  | 6 => 9
  | 7 => 4
  | 8 => 12
  | 9 => 18
  | 10 => 48
  | _ => 0
abbrev jcl : List vw_C := [(jR 0, jT 0, jn 0), (jR 1, jT 1, jn 1), (jR 2, jT 2, jn 2), (jR 3, jT 3, jn 3), (jR 4, jT 4, jn 4), (jR 5, jT 5, jn 5), (jR 6, jT 6, jn 6), (jR 7, jT 7, jn 7), (jR 8, jT 8, jn 8), (jR 9, jT 9, jn 9), (jR 10, jT 10, jn 10)]
def ftc (k o : Nat) : Nat := match k with
  | 0 => (match o with | 0 => 4 | _ => 0)
  | 1 => (match o with | 0 => 4 | 1 => 4 | _ => 0)
  | 2 => (match o with | 0 => 2 | _ => 0)
  | 3 => (match o with | 0 => 4 | 1 => 4 | 2 => 4 | _ => 0)
  | 4 => (match o with | 0 => 4 | 1 => 3 | _ => 0)
  | 5 => (match o with | 0 => 4 | 1 => 4 | 2 => 4 | 3 => 4 | 4 => 4 | 5 => 4 | 6 => 4 | 7 => 4 | 10 => 1 | _ => 0)
  | 6 => (match o with | 0 => 4 | 1 => 4 | 2 => 4 | 3 => 4 | 4 => 4 | 5 => 4 | 8 => 1 | _ => 0)
  | 7 => (match o with | 0 => 4 | _ => 0)
  | 8 => (match o with | 0 => 4 | 1 => 4 | 2 => 4 | 3 => 4 | 4 => 4 | 5 => 4 | 6 => 4 | 7 => 4 | _ => 0)
  | 9 => (match o with | 0 => 4 | 1 => 1 | 2 => 4 | 3 => 4 | 4 => 4 | 5 => 4 | 6 => 4 | 7 => 4 | 8 => 4 | 9 => 4 | 10 => 3 | 11 => 3 | 12 => 3 | 13 => 3 | _ => 0)
  | 10 => (match o with | 1 => 4 | 2 => 4 | 3 => 4 | 4 => 4 | 5 => 3 | 15 => 4 | 16 => 4 | 17 => 1 | 18 => 4 | 19 => 4 | 20 => 4 | 21 => 4 | 22 => 4 | 23 => 4 | 24 => 4 | 25 => 4 | 31 => 1 | 32 => 4 | 33 => 4 | 36 => 4 | 37 => 4 | 38 => 4 | 40 => 2 | 41 => 4 | 42 => 4 | 43 => 4 | 45 => 4 | 46 => 4 | 47 => 1 | _ => 0)
  | _ => 9
def tkd (k o : Nat) : Nat := match k with
  | 0 => (match o with | 0 => 20 | _ => 0)
  | 1 => (match o with | 0 => 21 | 1 => 22 | _ => 0)
  | 2 => 0
  | 3 => (match o with | 0 => 23 | 1 => 24 | 2 => 25 | _ => 0)
  | 4 => (match o with | 0 => 7 | 1 => 3 | _ => 0)
  | 5 => (match o with | 0 => 26 | 1 => 27 | 2 => 28 | 3 => 29 | 4 => 30 | 5 => 31 | 6 => 32 | 7 => 33 | _ => 0)
  | 6 => (match o with | 0 => 34 | 1 => 35 | 2 => 36 | 3 => 37 | 4 => 38 | 5 => 39 | _ => 0)
  | 7 => (match o with | 0 => 40 | _ => 0)
  | 8 => (match o with | 0 => 41 | 1 => 42 | 2 => 43 | 3 => 44 | 4 => 45 | 5 => 46 | 6 => 47 | 7 => 48 | _ => 0)
  | 9 => (match o with | 0 => 7 | 2 => 49 | 3 => 50 | 4 => 8 | 5 => 8 | 6 => 8 | 8 => 6 | 9 => 2 | 10 => 5 | 11 => 5 | 12 => 3 | 13 => 1 | _ => 0)
  | 10 => (match o with | 1 => 60 | 2 => 60 | 3 => 61 | 4 => 62 | 5 => 60 | 15 => 90 | 16 => 90 | 18 => 63 | 19 => 64 | 20 => 65 | 21 => 64 | 22 => 66 | 23 => 64 | 24 => 67 | 25 => 68 | 32 => 69 | 33 => 69 | 36 => 70 | 37 => 71 | 38 => 72 | 41 => 73 | 42 => 74 | 43 => 75 | 45 => 76 | 46 => 77 | _ => 0)
  | 20 => 8
  | 49 => 3
  | 50 => 1
  | _ => 0
def sti (k o j : Nat) : Nat := match k with
  | 0 => (match o with | 0 => j | _ => 0)
  | 1 => (match o with | 0 => j | 1 => j | _ => 0)
  | 2 => 0
  | 3 => (match o with | 0 => j | 1 => j | 2 => j | _ => 0)
  | 4 => 0
  | 5 => (match o with | 0 => j | 1 => j | 2 => j | 3 => j | 4 => j | 5 => j | 6 => j | 7 => j | _ => 0)
  | 6 => (match o with | 0 => j | 1 => j | 2 => j | 3 => j | 4 => j | 5 => j | _ => 0)
  | 7 => (match o with | 0 => j | _ => 0)
  | 8 => (match o with | 0 => j | 1 => j | 2 => j | 3 => j | 4 => j | 5 => j | 6 => j | 7 => j | _ => 0)
  | 9 => (match o with | 2 => j | 3 => j | 5 => 1 | 6 => 2 | _ => 0)
  | 10 => (match o with | 2 => 1 | 3 => j | 4 => j | 15 => 6 | 16 => 3 | 18 => j | 20 => j | 21 => 1 | 22 => j | 23 => 2 | 24 => j | 25 => j | 33 => 1 | 36 => j | 37 => j | 38 => j | 41 => j | 42 => j | 43 => j | 45 => j | 46 => j | _ => 0)
  | 20 => o + 3
  | _ => 0
def eTc : Nat → Nat := fun k => match k with
  | 20 => 4
  | 21 => 0
  | 22 => 0
  | 23 => 0
  | 24 => 0
  | 25 => 0
  | 26 => 0
  | 27 => 0
  | 28 => 0
  | 29 => 0
  | 30 => 0
  | 31 => 0
  | 32 => 0
  | 33 => 0
  | 34 => 0
  | 35 => 0
  | 36 => 0
  | 37 => 0
  | 38 => 0
  | 39 => 0
  | 40 => 0
  | 41 => 0
  | 42 => 0
  | 43 => 0
  | 44 => 0
  | 45 => 0
  | 46 => 0
  | 47 => 0
  | 48 => 0
  | 49 => 3
  | 50 => 3
  | 51 => 2
  | 60 => 1
  | 61 => 0
  | 62 => 0
  | 63 => 0
  | 64 => 0
  | 65 => 0
  | 66 => 0
  | 67 => 0
  | 68 => 0
  | 69 => 0
  | 70 => 2
  | 71 => 0
  | 72 => 0
  | 73 => 0
  | 74 => 0
  | 75 => 0
  | 76 => 0
  | 77 => 0
  | _ => 9
def jln (k j : Nat) : Nat := match k with
  | 20 => 40
  | 21 => 16
  | 22 => 16
  | 23 => 240
  | 24 => 32
  | 25 => 8
  | 26 => 4
  | 27 => 4
  | 28 => 4
  | 29 => 8
  | 30 => 8
  | 31 => 8
  | 32 => 8
  | 33 => 4
  | 34 => 10
  | 35 => 10
  | 36 => 10
  | 37 => 4
  | 38 => 8
  | 39 => 4
  | 40 => 240
  | 41 => 4
  | 42 => 4
  | 43 => 4
  | 44 => 4
  | 45 => 4
  | 46 => 4
  | 47 => 30
  | 48 => 60
  | 49 => 4
  | 50 => 4
  | 51 => 1
  | 60 => (match j with | 0 => 240 | _ => 960)
  | 61 => 4
  | 62 => 128
  | 63 => 2
  | 64 => (match j with | 0 => 2 | 1 => 12 | _ => 32)
  | 65 => 12
  | 66 => 32
  | 67 => 160
  | 68 => 5
  | 69 => (match j with | 0 => 291 | _ => 291)
  | 70 => 8191
  | 71 => 8191
  | 72 => 11640
  | 73 => 30
  | 74 => 8
  | 75 => 4
  | 76 => 120
  | 77 => 291
  | _ => 0
def eCl : Nat → Nat := fun k => match k with
  | 20 => 3
  | 21 => 0
  | 22 => 0
  | 23 => 0
  | 24 => 0
  | 25 => 0
  | 26 => 0
  | 27 => 0
  | 28 => 0
  | 29 => 0
  | 30 => 0
  | 31 => 0
  | 32 => 0
  | 33 => 0
  | 34 => 0
  | 35 => 0
  | 36 => 0
  | 37 => 0
  | 38 => 0
  | 39 => 0
  | 40 => 0
  | 41 => 0
  | 42 => 0
  | 43 => 0
  | 44 => 0
  | 45 => 0
  | 46 => 0
  | 47 => 0
  | 48 => 0
  | 49 => 4
  | 50 => 5
  | 51 => 2
  | 60 => 1
  | 61 => 0
  | 62 => 0
  | 63 => 0
  | 64 => 0
  | 65 => 0
  | 66 => 0
  | 67 => 0
  | 68 => 0
  | 69 => 0
  | 70 => 2
  | 71 => 0
  | 72 => 0
  | 73 => 0
  | 74 => 0
  | 75 => 0
  | 76 => 0
  | 77 => 0
  | _ => 0
def eTy : Nat → FieldType := fun c => match c with | 0 => .int | 1 => .byte | 2 => .long | 3 => .object "LosersBooks$World" | 4 => .object "LosersBooks$Law" | _ => .object "LosersBooks$Campaign"
theorem jW0 : u_ws (jR 0) (jT 0) (jn 0) = [220, 222, 224].filterMap (fun i => lw_tbl[i]?) := by decide +kernel
theorem jW1 : u_ws (jR 1) (jT 1) (jn 1) = [375, 377, 379].filterMap (fun i => lw_tbl[i]?) := by decide +kernel
theorem jW2 : u_ws (jR 2) (jT 2) (jn 2) = [270].filterMap (fun i => lw_tbl[i]?) := by decide +kernel
theorem jW3 : u_ws (jR 3) (jT 3) (jn 3) = [355, 357, 359, 361].filterMap (fun i => lw_tbl[i]?) := by decide +kernel
theorem jW4 : u_ws (jR 4) (jT 4) (jn 4) = [614, 616].filterMap (fun i => lw_tbl[i]?) := by decide +kernel
theorem jW5 : u_ws (jR 5) (jT 5) (jn 5) = [317, 319, 321, 323, 325, 327, 329, 331, 333, 335, 337, 339, 341].filterMap (fun i => lw_tbl[i]?) := by decide +kernel
theorem jW6 : u_ws (jR 6) (jT 6) (jn 6) = [243, 245, 247, 249, 251, 253, 255, 257, 259].filterMap (fun i => lw_tbl[i]?) := by decide +kernel
theorem jW7 : u_ws (jR 7) (jT 7) (jn 7) = [139, 141, 143, 145].filterMap (fun i => lw_tbl[i]?) := by decide +kernel
theorem jW8 : u_ws (jR 8) (jT 8) (jn 8) = [182, 184, 186, 188, 190, 192, 194, 196, 198, 200, 202, 204].filterMap (fun i => lw_tbl[i]?) := by decide +kernel
theorem jW9 : u_ws (jR 9) (jT 9) (jn 9) = [400, 434, 402, 404, 406, 408, 410, 412, 414, 416, 418, 420, 422, 424, 426, 428, 430, 432].filterMap (fun i => lw_tbl[i]?) := by decide +kernel
theorem jW10 : u_ws (jR 10) (jT 10) (jn 10) = [1254, 1256, 1258, 1260, 1262, 1264, 1266, 1268, 1270, 1272, 1274, 1276, 1278, 1280, 1282, 1284, 1286, 1288, 1290, 1292, 1294, 1296, 1298, 1300, 1302, 1304, 1306, 1308, 1310, 1312, 1314, 1316, 1318, 1320, 1322, 1324, 1326, 1328, 1330, 1332, 1334, 1336, 1338, 1340, 1342, 1344, 1346, 1348].filterMap (fun i => lw_tbl[i]?) := by decide +kernel
theorem jN0 : ∀ a, a < jn 0 → ∀ b, b < jn 0 → a ≠ b → (jT 0 a).2.1 ≠ (jT 0 b).2.1 := by decide +kernel
theorem jN1 : ∀ a, a < jn 1 → ∀ b, b < jn 1 → a ≠ b → (jT 1 a).2.1 ≠ (jT 1 b).2.1 := by decide +kernel
theorem jN2 : ∀ a, a < jn 2 → ∀ b, b < jn 2 → a ≠ b → (jT 2 a).2.1 ≠ (jT 2 b).2.1 := by decide +kernel
theorem jN3 : ∀ a, a < jn 3 → ∀ b, b < jn 3 → a ≠ b → (jT 3 a).2.1 ≠ (jT 3 b).2.1 := by decide +kernel
theorem jN4 : ∀ a, a < jn 4 → ∀ b, b < jn 4 → a ≠ b → (jT 4 a).2.1 ≠ (jT 4 b).2.1 := by decide +kernel
theorem jN5 : ∀ a, a < jn 5 → ∀ b, b < jn 5 → a ≠ b → (jT 5 a).2.1 ≠ (jT 5 b).2.1 := by decide +kernel
theorem jN6 : ∀ a, a < jn 6 → ∀ b, b < jn 6 → a ≠ b → (jT 6 a).2.1 ≠ (jT 6 b).2.1 := by decide +kernel
theorem jN7 : ∀ a, a < jn 7 → ∀ b, b < jn 7 → a ≠ b → (jT 7 a).2.1 ≠ (jT 7 b).2.1 := by decide +kernel
theorem jN8 : ∀ a, a < jn 8 → ∀ b, b < jn 8 → a ≠ b → (jT 8 a).2.1 ≠ (jT 8 b).2.1 := by decide +kernel
theorem jN9 : ∀ a, a < jn 9 → ∀ b, b < jn 9 → a ≠ b → (jT 9 a).2.1 ≠ (jT 9 b).2.1 := by decide +kernel
theorem jN10 : ∀ a, a < jn 10 → ∀ b, b < jn 10 → a ≠ b → (jT 10 a).2.1 ≠ (jT 10 b).2.1 := by decide +kernel
theorem jD0 : ∀ a, a < jn 0 → parseFieldDescriptor (jT 0 a).2.2.1 = some (jY 0 a) := by decide +kernel
theorem jD1 : ∀ a, a < jn 1 → parseFieldDescriptor (jT 1 a).2.2.1 = some (jY 1 a) := by decide +kernel
theorem jD2 : ∀ a, a < jn 2 → parseFieldDescriptor (jT 2 a).2.2.1 = some (jY 2 a) := by decide +kernel
theorem jD3 : ∀ a, a < jn 3 → parseFieldDescriptor (jT 3 a).2.2.1 = some (jY 3 a) := by decide +kernel
theorem jD4 : ∀ a, a < jn 4 → parseFieldDescriptor (jT 4 a).2.2.1 = some (jY 4 a) := by decide +kernel
theorem jD5 : ∀ a, a < jn 5 → parseFieldDescriptor (jT 5 a).2.2.1 = some (jY 5 a) := by decide +kernel
theorem jD6 : ∀ a, a < jn 6 → parseFieldDescriptor (jT 6 a).2.2.1 = some (jY 6 a) := by decide +kernel
theorem jD7 : ∀ a, a < jn 7 → parseFieldDescriptor (jT 7 a).2.2.1 = some (jY 7 a) := by decide +kernel
theorem jD8 : ∀ a, a < jn 8 → parseFieldDescriptor (jT 8 a).2.2.1 = some (jY 8 a) := by decide +kernel
theorem jD9 : ∀ a, a < jn 9 → parseFieldDescriptor (jT 9 a).2.2.1 = some (jY 9 a) := by decide +kernel
theorem jD10 : ∀ a, a < jn 10 → parseFieldDescriptor (jT 10 a).2.2.1 = some (jY 10 a) := by decide +kernel
theorem jcl_at : ∀ k, k < 11 → jcl[k]? = some (jR k, jT k, jn k)
  | 0, _ => rfl
  | 1, _ => rfl
  | 2, _ => rfl
  | 3, _ => rfl
  | 4, _ => rfl
  | 5, _ => rfl
  | 6, _ => rfl
  | 7, _ => rfl
  | 8, _ => rfl
  | 9, _ => rfl
  | 10, _ => rfl
  | k + 11, h => absurd h (by omega)
theorem jN_at : ∀ k, k < 11 → ∀ a, a < jn k → ∀ b, b < jn k → a ≠ b → (jT k a).2.1 ≠ (jT k b).2.1
  | 0, _ => jN0
  | 1, _ => jN1
  | 2, _ => jN2
  | 3, _ => jN3
  | 4, _ => jN4
  | 5, _ => jN5
  | 6, _ => jN6
  | 7, _ => jN7
  | 8, _ => jN8
  | 9, _ => jN9
  | 10, _ => jN10
  | k + 11, h => absurd h (by omega)
theorem jD_at : ∀ k, k < 11 → ∀ a, a < jn k → parseFieldDescriptor (jT k a).2.2.1 = some (jY k a)
  | 0, _ => jD0
  | 1, _ => jD1
  | 2, _ => jD2
  | 3, _ => jD3
  | 4, _ => jD4
  | 5, _ => jD5
  | 6, _ => jD6
  | 7, _ => jD7
  | 8, _ => jD8
  | 9, _ => jD9
  | 10, _ => jD10
  | k + 11, h => absurd h (by omega)
theorem jW_at : ∀ k, k < 11 → ∀ w ∈ u_ws (jR k) (jT k) (jn k), w ∈ lw_tbl
  | 0, _ => fun w hw => by rw [jW0] at hw; obtain ⟨i, -, hi⟩ := List.mem_filterMap.mp hw; exact List.mem_of_getElem? hi
  | 1, _ => fun w hw => by rw [jW1] at hw; obtain ⟨i, -, hi⟩ := List.mem_filterMap.mp hw; exact List.mem_of_getElem? hi
  | 2, _ => fun w hw => by rw [jW2] at hw; obtain ⟨i, -, hi⟩ := List.mem_filterMap.mp hw; exact List.mem_of_getElem? hi
  | 3, _ => fun w hw => by rw [jW3] at hw; obtain ⟨i, -, hi⟩ := List.mem_filterMap.mp hw; exact List.mem_of_getElem? hi
  | 4, _ => fun w hw => by rw [jW4] at hw; obtain ⟨i, -, hi⟩ := List.mem_filterMap.mp hw; exact List.mem_of_getElem? hi
  | 5, _ => fun w hw => by rw [jW5] at hw; obtain ⟨i, -, hi⟩ := List.mem_filterMap.mp hw; exact List.mem_of_getElem? hi
  | 6, _ => fun w hw => by rw [jW6] at hw; obtain ⟨i, -, hi⟩ := List.mem_filterMap.mp hw; exact List.mem_of_getElem? hi
  | 7, _ => fun w hw => by rw [jW7] at hw; obtain ⟨i, -, hi⟩ := List.mem_filterMap.mp hw; exact List.mem_of_getElem? hi
  | 8, _ => fun w hw => by rw [jW8] at hw; obtain ⟨i, -, hi⟩ := List.mem_filterMap.mp hw; exact List.mem_of_getElem? hi
  | 9, _ => fun w hw => by rw [jW9] at hw; obtain ⟨i, -, hi⟩ := List.mem_filterMap.mp hw; exact List.mem_of_getElem? hi
  | 10, _ => fun w hw => by rw [jW10] at hw; obtain ⟨i, -, hi⟩ := List.mem_filterMap.mp hw; exact List.mem_of_getElem? hi
  | k + 11, h => absurd h (by omega)
