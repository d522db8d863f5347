theorem goodIn_q {big : List Cond} (ws : List Cond) (ps : List Nat) (hp : ws = ps.filterMap (fun i => big[i]?)) (h : ws.all goodWord = true) : GoodIn big ws := by
  intro w hw
  have h1 := List.all_eq_true.mp h w hw
  rw [hp] at hw
  obtain ⟨i, -, hi⟩ := List.mem_filterMap.mp hw
  exact ⟨List.mem_of_getElem? hi, good_of_word h1⟩
theorem goodIn_ap {big a b : List Cond} (ha : GoodIn big a) (hb : GoodIn big b) : GoodIn big (a ++ b) := fun w h => (List.mem_append.mp h).elim (ha w) (hb w)
/-! classes by their numbers; fields; methods by their numbers; links -/
def zk_cnL : List String := ["VeilOfStones$Convent", "VeilOfStones$Laws", "VeilOfStones$Leveller", "VeilOfStones$March", "VeilOfStones$Penance", "VeilOfStones$Reader", "VeilOfStones$Scales", "VeilOfStones$Script", "VeilOfStones$Steps", "VeilOfStones$Stones", "VeilOfStones$Tape", "VeilOfStones", "VeilOfStonesModel", "VeilOfStonesLaw", "java/lang/Integer", "java/lang/Math", "java/lang/String", "java/lang/StringLatin1", "java/lang/StringUTF16", "java/lang/System", "jdk/internal/util/Preconditions"]
def zk_cn (c : Nat) : String := zk_cnL.getD c ""
def zk_fld0 : List (String × String × String × Bool) := [("VeilOfStones$Convent", "sisters", "I", false), ("VeilOfStones$Convent", "texts", "I", false), ("VeilOfStones$Convent", "ruling", "I", false), ("VeilOfStones$Convent", "stones", "LVeilOfStones$Stones;", true), ("VeilOfStones$Convent", "steps", "LVeilOfStones$Steps;", true), ("VeilOfStones$Convent", "scales", "LVeilOfStones$Scales;", true)]
def zk_fld1 : List (String × String × String × Bool) := [("VeilOfStones$Laws", "scripts", "[LVeilOfStones$Script;", true), ("VeilOfStones$Laws", "names", "[I", true), ("VeilOfStones$Laws", "veils", "[I", true)]
def zk_fld2 : List (String × String × String × Bool) := [("VeilOfStones$Leveller", "found", "I", false), ("VeilOfStones$Leveller", "gravel", "I", false), ("VeilOfStones$Leveller", "stoneAt", "[I", true), ("VeilOfStones$Leveller", "ownerAt", "[I", true), ("VeilOfStones$Leveller", "weightAt", "[I", true), ("VeilOfStones$Leveller", "veils", "[I", true), ("VeilOfStones$Leveller", "sizes", "[I", true)]
def zk_fld3 : List (String × String × String × Bool) := [("VeilOfStones$March", "least", "I", false), ("VeilOfStones$March", "sisters", "I", false), ("VeilOfStones$March", "veils", "[I", true), ("VeilOfStones$March", "order", "[I", true), ("VeilOfStones$March", "best", "[I", true)]
def zk_fld4 : List (String × String × String × Bool) := [("VeilOfStones$Penance", "rows", "I", false), ("VeilOfStones$Penance", "inAllRows", "I", false), ("VeilOfStones$Penance", "stones", "I", false), ("VeilOfStones$Penance", "weightAt", "[I", true), ("VeilOfStones$Penance", "goers", "[I", true), ("VeilOfStones$Penance", "fewest", "[I", true)]
def zk_fld5 : List (String × String × String × Bool) := [("VeilOfStones$Reader", "flaw", "I", false), ("VeilOfStones$Reader", "place", "I", false), ("VeilOfStones$Reader", "hadWeighs", "Z", false), ("VeilOfStones$Reader", "hadGoes", "Z", false), ("VeilOfStones$Reader", "waiting", "[I", true), ("VeilOfStones$Reader", "waits", "I", false), ("VeilOfStones$Reader", "open", "I", false), ("VeilOfStones$Reader", "brackets", "I", false), ("VeilOfStones$Reader", "compared", "Z", false)]
def zk_fld6 : List (String × String × String × Bool) := [("VeilOfStones$Scales", "ones", "[I", true), ("VeilOfStones$Scales", "others", "[I", true), ("VeilOfStones$Scales", "signs", "[I", true), ("VeilOfStones$Scales", "count", "I", false), ("VeilOfStones$Scales", "veils", "[I", true)]
def zk_fld7 : List (String × String × String × Bool) := [("VeilOfStones$Script", "clauses", "I", false), ("VeilOfStones$Script", "parts", "[I", true), ("VeilOfStones$Script", "code", "[I", true), ("VeilOfStones$Script", "length", "I", false), ("VeilOfStones$Script", "weighsFrom", "I", false), ("VeilOfStones$Script", "weighsTo", "I", false), ("VeilOfStones$Script", "goesFrom", "I", false), ("VeilOfStones$Script", "goesTo", "I", false), ("VeilOfStones$Script", "stack", "[I", true)]
def zk_fld8 : List (String × String × String × Bool) := [("VeilOfStones$Steps", "rows", "[I", true), ("VeilOfStones$Steps", "oldest", "I", false), ("VeilOfStones$Steps", "count", "I", false)]
def zk_fld9 : List (String × String × String × Bool) := [("VeilOfStones$Stones", "row", "[I", true)]
def zk_fld10 : List (String × String × String × Bool) := [("VeilOfStones$Tape", "bytes", "[C", true), ("VeilOfStones$Tape", "length", "I", false), ("VeilOfStones$Tape", "token", "I", false), ("VeilOfStones$Tape", "tokenAt", "I", false), ("VeilOfStones$Tape", "value", "I", false), ("VeilOfStones$Tape", "at", "I", false)]
def zk_fld11 : List (String × String × String × Bool) := [("VeilOfStones", "now", "LVeilOfStones$Convent;", true), ("VeilOfStones", "kept", "LVeilOfStones$Convent;", true), ("VeilOfStones", "laws", "LVeilOfStones$Laws;", true), ("VeilOfStones", "tape", "LVeilOfStones$Tape;", true), ("VeilOfStones", "reader", "LVeilOfStones$Reader;", true), ("VeilOfStones", "leveller", "LVeilOfStones$Leveller;", true), ("VeilOfStones", "march", "LVeilOfStones$March;", true), ("VeilOfStones", "penance", "LVeilOfStones$Penance;", true)]
def zk_fld12 : List (String × String × String × Bool) := [("VeilOfStonesModel", "a", "[I", true), ("VeilOfStonesModel", "image", "[I", true), ("VeilOfStonesModel", "texts", "[I", true), ("VeilOfStonesModel", "tape", "[I", true), ("VeilOfStonesModel", "taped", "I", false), ("VeilOfStonesModel", "fault", "I", false), ("VeilOfStonesModel", "faultPlace", "I", false), ("VeilOfStonesModel", "at", "I", false), ("VeilOfStonesModel", "place", "I", false), ("VeilOfStonesModel", "token", "I", false), ("VeilOfStonesModel", "number", "I", false), ("VeilOfStonesModel", "word", "J", false), ("VeilOfStonesModel", "text0", "I", false), ("VeilOfStonesModel", "clauses", "I", false), ("VeilOfStonesModel", "written", "I", false), ("VeilOfStonesModel", "came", "I", false), ("VeilOfStonesModel", "pile", "[I", true), ("VeilOfStonesModel", "piled", "I", false), ("VeilOfStonesModel", "opens", "I", false), ("VeilOfStonesModel", "isWhole", "Z", false), ("VeilOfStonesModel", "sort0", "I", false), ("VeilOfStonesModel", "once", "I", false), ("VeilOfStonesModel", "named", "[I", true), ("VeilOfStonesModel", "values", "[J", true), ("VeilOfStonesModel", "truth", "[Z", true), ("VeilOfStonesModel", "weights", "[I", true), ("VeilOfStonesModel", "counts", "[I", true), ("VeilOfStonesModel", "gravelWeight", "[I", true), ("VeilOfStonesModel", "gravelOf", "[I", true), ("VeilOfStonesModel", "gravel", "[I", true), ("VeilOfStonesModel", "row", "[I", true), ("VeilOfStonesModel", "best", "[I", true), ("VeilOfStonesModel", "found", "[I", true), ("VeilOfStonesModel", "cameFrom", "[I", true), ("VeilOfStonesModel", "cameBy", "[I", true), ("VeilOfStonesModel", "sins", "[I", true), ("VeilOfStonesModel", "left", "[I", true)]
def zk_fld : List (List (String × String × String × Bool)) := [zk_fld0, zk_fld1, zk_fld2, zk_fld3, zk_fld4, zk_fld5, zk_fld6, zk_fld7, zk_fld8, zk_fld9, zk_fld10, zk_fld11, zk_fld12]
def zk_nf (c : Nat) : Nat := (zk_fld.getD c []).length
def zk_TT (c : Nat) : u_T := fun k => (zk_fld.getD c []).getD k ("", "", "", false)
def zk_fty0 : List FieldType := [.int, .int, .int, (.object "VeilOfStones$Stones"), (.object "VeilOfStones$Steps"), (.object "VeilOfStones$Scales")]
def zk_fty1 : List FieldType := [(.array (.object "VeilOfStones$Script")), (.array .int), (.array .int)]
def zk_fty2 : List FieldType := [.int, .int, (.array .int), (.array .int), (.array .int), (.array .int), (.array .int)]
def zk_fty3 : List FieldType := [.int, .int, (.array .int), (.array .int), (.array .int)]
def zk_fty4 : List FieldType := [.int, .int, .int, (.array .int), (.array .int), (.array .int)]
def zk_fty5 : List FieldType := [.int, .int, .boolean, .boolean, (.array .int), .int, .int, .int, .boolean]
def zk_fty6 : List FieldType := [(.array .int), (.array .int), (.array .int), .int, (.array .int)]
def zk_fty7 : List FieldType := [.int, (.array .int), (.array .int), .int, .int, .int, .int, .int, (.array .int)]
def zk_fty8 : List FieldType := [(.array .int), .int, .int]
def zk_fty9 : List FieldType := [(.array .int)]
def zk_fty10 : List FieldType := [(.array .char), .int, .int, .int, .int, .int]
def zk_fty11 : List FieldType := [(.object "VeilOfStones$Convent"), (.object "VeilOfStones$Convent"), (.object "VeilOfStones$Laws"), (.object "VeilOfStones$Tape"), (.object "VeilOfStones$Reader"), (.object "VeilOfStones$Leveller"), (.object "VeilOfStones$March"), (.object "VeilOfStones$Penance")]
def zk_fty12 : List FieldType := [(.array .int), (.array .int), (.array .int), (.array .int), .int, .int, .int, .int, .int, .int, .int, .long, .int, .int, .int, .int, (.array .int), .int, .int, .boolean, .int, .int, (.array .int), (.array .long), (.array .boolean), (.array .int), (.array .int), (.array .int), (.array .int), (.array .int), (.array .int), (.array .int), (.array .int), (.array .int), (.array .int), (.array .int), (.array .int)]
def zk_ftyL : List (List FieldType) := [zk_fty0, zk_fty1, zk_fty2, zk_fty3, zk_fty4, zk_fty5, zk_fty6, zk_fty7, zk_fty8, zk_fty9, zk_fty10, zk_fty11, zk_fty12]
def zk_ty (c k : Nat) : FieldType := (zk_ftyL.getD c []).getD k .int
def zk_cl : List vw_C := (List.range 13).map fun c => (zk_cn c, zk_TT c, zk_nf c)
abbrev zk_MR : Type := Nat × String × String × ByteArray × Nat × Option FieldType × Nat × Nat × Nat × Nat
def zk_mt0 : List zk_MR := [(0, "<init>", "()V", prog_2_method_1_code, 1, none, 2, 40, 2, 0),
  (0, "copyFrom", "(LVeilOfStones$Convent;)V", prog_2_method_2_code, 2, none, 2, 81, 0, 1),
  (0, "hasSister", "(I)Z", prog_2_method_3_code, 2, (some .boolean), 0, 0, 0, 1),
  (0, "hasText", "(I)Z", prog_2_method_4_code, 2, (some .boolean), 0, 0, 0, 1),
  (0, "hasRoom", "(I)Z", prog_2_method_5_code, 2, (some .boolean), 3, 65, 0, 1),
  (0, "addVow", "(II)I", prog_2_method_6_code, 3, (some .int), 4, 86, 0, 2),
  (0, "firstToGo", "(IILVeilOfStones$Laws;)I", prog_2_method_7_code, 5, (some .int), 4, 97, 0, 3),
  (0, "strip", "(I)I", prog_2_method_8_code, 2, (some .int), 4, 86, 0, 1),
  (0, "passOn", "(III)I", prog_2_method_9_code, 5, (some .int), 4, 87, 0, 3),
  (0, "pardon", "(I)I", prog_2_method_10_code, 3, (some .int), 4, 87, 0, 1),
  (0, "letGoBy", "(I)I", prog_2_method_11_code, 3, (some .int), 3, 81, 0, 1),
  (0, "rage", "(IILVeilOfStones$Laws;)I", prog_2_method_12_code, 9, (some .int), 5, 121, 0, 3),
  (1, "<init>", "()V", prog_3_method_1_code, 2, none, 2, 40, 2, 0),
  (1, "scriptAt", "(I)LVeilOfStones$Script;", prog_3_method_2_code, 2, (some (.object "VeilOfStones$Script")), 0, 0, 0, 1),
  (1, "nameStone", "(LVeilOfStones$Stones;I)V", prog_3_method_3_code, 3, none, 2, 42, 0, 2),
  (1, "weightBy", "(ILVeilOfStones$Stones;I)I", prog_3_method_4_code, 5, (some .int), 3, 72, 0, 3),
  (1, "goesBy", "(ILVeilOfStones$Stones;II)Z", prog_3_method_5_code, 6, (some .boolean), 3, 72, 0, 4),
  (1, "weighVeils", "(ILVeilOfStones$Stones;)V", prog_3_method_6_code, 5, none, 4, 96, 0, 2),
  (1, "veilOf", "(I)I", prog_3_method_7_code, 2, (some .int), 0, 0, 0, 1),
  (2, "<init>", "()V", prog_4_method_1_code, 1, none, 1, 20, 2, 0),
  (2, "look", "(LVeilOfStones$Convent;LVeilOfStones$Laws;)Z", prog_4_method_2_code, 5, (some .boolean), 5, 120, 0, 2),
  (2, "search", "(II)Z", prog_4_method_3_code, 5, (some .boolean), 2, 46, 0, 2),
  (2, "turn", "(I)V", prog_4_method_4_code, 6, none, 0, 0, 0, 1),
  (2, "isLevel", "(II)Z", prog_4_method_5_code, 6, (some .boolean), 1, 21, 0, 2),
  (2, "bitsOf", "(I)I", prog_4_method_6_code, 4, (some .int), 0, 0, 0, 1),
  (3, "<init>", "()V", prog_5_method_1_code, 1, none, 1, 20, 2, 0),
  (3, "arrange", "(LVeilOfStones$Laws;I)V", prog_5_method_2_code, 6, none, 3, 65, 0, 2),
  (3, "sisterAt", "(I)I", prog_5_method_3_code, 2, (some .int), 0, 0, 0, 1),
  (3, "greatestStep", "()I", prog_5_method_4_code, 3, (some .int), 2, 43, 0, 0),
  (3, "veilAt", "(I)I", prog_5_method_6_code, 3, (some .int), 1, 21, 0, 1),
  (3, "turn", "()Z", prog_5_method_7_code, 5, (some .boolean), 1, 23, 0, 0),
  (3, "swap", "(II)V", prog_5_method_8_code, 4, none, 0, 0, 0, 2),
  (4, "<init>", "()V", prog_6_method_1_code, 1, none, 1, 20, 2, 0),
  (4, "look", "(LVeilOfStones$Convent;LVeilOfStones$Laws;I)V", prog_6_method_2_code, 7, none, 4, 97, 0, 3),
  (4, "weightOf", "(I)I", prog_6_method_3_code, 4, (some .int), 0, 0, 0, 1),
  (4, "behind", "(II)I", prog_6_method_4_code, 4, (some .int), 0, 0, 0, 2),
  (4, "fewestFrom", "(I)I", prog_6_method_5_code, 2, (some .int), 0, 0, 0, 1),
  (4, "lighten", "(I)I", prog_6_method_6_code, 5, (some .int), 1, 23, 0, 1),
  (4, "sinAt", "(I)I", prog_6_method_7_code, 5, (some .int), 2, 45, 0, 1),
  (4, "lowestSin", "(I)I", prog_6_method_8_code, 3, (some .int), 1, 23, 0, 1)]
def zk_mt1 : List zk_MR := [(4, "guess", "(II)V", prog_6_method_9_code, 9, none, 1, 23, 0, 2),
  (5, "<init>", "()V", prog_7_method_1_code, 1, none, 1, 20, 2, 0),
  (5, "read", "(LVeilOfStones$Tape;LVeilOfStones$Script;)V", prog_7_method_2_code, 5, none, 8, 179, 0, 2),
  (5, "blame", "(LVeilOfStones$Tape;I)V", prog_7_method_3_code, 3, none, 0, 0, 0, 2),
  (5, "checkStart", "(LVeilOfStones$Tape;Z)V", prog_7_method_4_code, 4, none, 1, 22, 0, 2),
  (5, "readDeed", "(LVeilOfStones$Tape;LVeilOfStones$Script;I)V", prog_7_method_5_code, 7, none, 7, 153, 0, 3),
  (5, "expect", "(LVeilOfStones$Tape;I)V", prog_7_method_6_code, 3, none, 6, 129, 0, 2),
  (5, "readNumber", "(LVeilOfStones$Tape;II)I", prog_7_method_7_code, 5, (some .int), 6, 129, 0, 3),
  (5, "readLaw", "(LVeilOfStones$Tape;LVeilOfStones$Script;I)V", prog_7_method_8_code, 7, none, 6, 129, 0, 3),
  (5, "readStart", "(LVeilOfStones$Tape;LVeilOfStones$Script;I)Z", prog_7_method_9_code, 5, (some .boolean), 2, 41, 0, 3),
  (5, "startsAsk", "()Z", prog_7_method_10_code, 2, (some .boolean), 1, 20, 0, 0),
  (5, "readSign", "(LVeilOfStones$Tape;LVeilOfStones$Script;I)V", prog_7_method_11_code, 5, none, 3, 64, 0, 3),
  (5, "canFollow", "(II)Z", prog_7_method_12_code, 3, (some .boolean), 1, 20, 0, 2),
  (5, "isComparison", "(I)Z", prog_7_method_13_code, 1, (some .boolean), 0, 0, 1, 1),
  (5, "rank", "(I)I", prog_7_method_14_code, 1, (some .int), 1, 20, 1, 1),
  (5, "settle", "(LVeilOfStones$Script;I)V", prog_7_method_15_code, 4, none, 2, 41, 0, 2),
  (5, "lastWaiting", "()I", prog_7_method_16_code, 1, (some .int), 0, 0, 0, 0),
  (5, "await", "(I)V", prog_7_method_17_code, 2, none, 0, 0, 0, 1),
  (5, "drop", "()V", prog_7_method_18_code, 2, none, 1, 20, 0, 0),
  (6, "<init>", "()V", prog_8_method_1_code, 1, none, 1, 20, 2, 0),
  (6, "copyFrom", "(LVeilOfStones$Scales;)V", prog_8_method_2_code, 2, none, 1, 60, 0, 1),
  (6, "add", "(III)Z", prog_8_method_3_code, 4, (some .boolean), 0, 0, 0, 3),
  (6, "weigh", "(LVeilOfStones$Convent;LVeilOfStones$Laws;)V", prog_8_method_4_code, 5, none, 5, 120, 0, 2),
  (6, "signBy", "(III)I", prog_8_method_5_code, 4, (some .int), 1, 23, 0, 3),
  (6, "veilBy", "(II)I", prog_8_method_6_code, 4, (some .int), 0, 0, 0, 2),
  (6, "fitting", "(I)I", prog_8_method_7_code, 4, (some .int), 3, 68, 0, 1),
  (6, "fitsAll", "(I)Z", prog_8_method_8_code, 3, (some .boolean), 2, 46, 0, 1),
  (6, "mostTelling", "(II)I", prog_8_method_9_code, 8, (some .int), 3, 74, 0, 2),
  (6, "mostAlike", "(III)I", prog_8_method_10_code, 9, (some .int), 2, 46, 0, 3),
  (7, "<init>", "()V", prog_9_method_1_code, 1, none, 1, 20, 2, 0),
  (7, "clear", "()V", prog_9_method_2_code, 1, none, 0, 0, 0, 0),
  (7, "isFull", "()Z", prog_9_method_3_code, 1, (some .boolean), 0, 0, 0, 0),
  (7, "weighs", "()Z", prog_9_method_4_code, 1, (some .boolean), 0, 0, 0, 0),
  (7, "goes", "()Z", prog_9_method_5_code, 1, (some .boolean), 0, 0, 0, 0),
  (7, "part", "(II)I", prog_9_method_6_code, 4, (some .int), 0, 0, 0, 2),
  (7, "addClause", "(IIII)V", prog_9_method_7_code, 6, none, 0, 0, 0, 4),
  (7, "add", "(I)V", prog_9_method_8_code, 2, none, 0, 0, 0, 1),
  (7, "startLaw", "(I)V", prog_9_method_9_code, 2, none, 1, 25, 0, 1),
  (7, "endLaw", "(I)V", prog_9_method_10_code, 2, none, 0, 0, 0, 1),
  (7, "run", "(II[I)I", prog_9_method_11_code, 9, (some .int), 2, 44, 0, 3)]
def zk_mt2 : List zk_MR := [(7, "joined", "(III)I", prog_9_method_12_code, 3, (some .int), 1, 22, 1, 3),
  (7, "held", "(J)J", prog_9_method_13_code, 2, (some .long), 0, 0, 1, 1),
  (7, "isSo", "(III)Z", prog_9_method_14_code, 3, (some .boolean), 0, 0, 1, 3),
  (8, "<init>", "()V", prog_10_method_1_code, 1, none, 1, 20, 2, 0),
  (8, "copyFrom", "(LVeilOfStones$Steps;)V", prog_10_method_2_code, 2, none, 1, 60, 0, 1),
  (8, "keep", "(LVeilOfStones$Stones;)V", prog_10_method_4_code, 2, none, 2, 60, 0, 1),
  (8, "takeBack", "(LVeilOfStones$Stones;)Z", prog_10_method_5_code, 2, (some .boolean), 2, 60, 0, 1),
  (9, "<init>", "()V", prog_11_method_1_code, 1, none, 1, 20, 2, 0),
  (9, "copyFrom", "(LVeilOfStones$Stones;)V", prog_11_method_2_code, 2, none, 1, 60, 0, 1),
  (9, "count", "()I", prog_11_method_3_code, 1, (some .int), 0, 0, 0, 0),
  (9, "day", "()I", prog_11_method_4_code, 1, (some .int), 0, 0, 0, 0),
  (9, "passDay", "()V", prog_11_method_5_code, 1, none, 0, 0, 0, 0),
  (9, "has", "(I)Z", prog_11_method_6_code, 2, (some .boolean), 0, 0, 0, 1),
  (9, "word", "(I)I", prog_11_method_7_code, 2, (some .int), 0, 0, 0, 1),
  (9, "kindOf", "(I)I", prog_11_method_8_code, 2, (some .int), 1, 21, 0, 1),
  (9, "sewnOn", "(I)I", prog_11_method_9_code, 2, (some .int), 1, 21, 0, 1),
  (9, "placeOf", "(I)I", prog_11_method_10_code, 2, (some .int), 1, 21, 0, 1),
  (9, "ownerOf", "(I)I", prog_11_method_11_code, 2, (some .int), 1, 21, 0, 1),
  (9, "inside", "(I)I", prog_11_method_12_code, 4, (some .int), 2, 42, 0, 1),
  (9, "sew", "(II)I", prog_11_method_13_code, 4, (some .int), 1, 20, 0, 2),
  (9, "drop", "(I)V", prog_11_method_14_code, 2, none, 3, 65, 0, 1),
  (9, "give", "(II)V", prog_11_method_15_code, 3, none, 3, 65, 0, 2),
  (9, "move", "(III)V", prog_11_method_16_code, 4, none, 2, 42, 0, 3),
  (10, "<init>", "()V", prog_12_method_1_code, 1, none, 1, 20, 2, 0),
  (10, "hasRoomFor", "(I)Z", prog_12_method_2_code, 2, (some .boolean), 0, 0, 0, 1),
  (10, "addFour", "(I)V", prog_12_method_3_code, 3, none, 0, 0, 0, 1),
  (10, "rewind", "()V", prog_12_method_4_code, 1, none, 6, 129, 0, 0),
  (10, "advance", "()V", prog_12_method_5_code, 1, none, 5, 109, 0, 0),
  (10, "byteAt", "(I)I", prog_12_method_6_code, 2, (some .int), 0, 0, 0, 1),
  (10, "isLetter", "(I)Z", prog_12_method_7_code, 1, (some .boolean), 0, 0, 1, 1),
  (10, "isDigit", "(I)Z", prog_12_method_8_code, 1, (some .boolean), 0, 0, 1, 1),
  (10, "readNumber", "()V", prog_12_method_9_code, 1, none, 1, 21, 0, 0),
  (10, "readWord", "()V", prog_12_method_10_code, 5, none, 4, 85, 0, 0),
  (10, "readSign", "()V", prog_12_method_11_code, 1, none, 1, 21, 0, 0),
  (10, "signOf", "(I)I", prog_12_method_12_code, 1, (some .int), 0, 0, 1, 1),
  (11, "<init>", "()V", prog_1_method_1_code, 1, none, 3, 61, 2, 0),
  (11, "sister", "()I", prog_1_method_2_code, 1, (some .int), 0, 0, 0, 0),
  (11, "feed", "(IIIII)I", prog_1_method_3_code, 6, (some .int), 1, 22, 0, 5),
  (11, "end", "(I)I", prog_1_method_4_code, 2, (some .int), 0, 0, 0, 1),
  (11, "text", "()I", prog_1_method_5_code, 2, (some .int), 9, 203, 0, 0)]
def zk_mt3 : List zk_MR := [(11, "fault", "(I)I", prog_1_method_6_code, 2, (some .int), 0, 0, 0, 1),
  (11, "by", "(I)Z", prog_1_method_7_code, 2, (some .boolean), 1, 21, 0, 1),
  (11, "vow", "(II)I", prog_1_method_8_code, 3, (some .int), 5, 108, 0, 2),
  (11, "sin", "(II)I", prog_1_method_9_code, 3, (some .int), 5, 121, 0, 2),
  (11, "pass", "(III)I", prog_1_method_10_code, 4, (some .int), 5, 111, 0, 3),
  (11, "forgive", "(I)I", prog_1_method_11_code, 2, (some .int), 5, 109, 0, 1),
  (11, "later", "(I)I", prog_1_method_12_code, 2, (some .int), 4, 103, 0, 1),
  (11, "played", "(I)I", prog_1_method_13_code, 4, (some .int), 6, 145, 0, 1),
  (11, "follow", "(LVeilOfStones$Script;I)Z", prog_1_method_14_code, 5, (some .boolean), 5, 121, 0, 2),
  (11, "storm", "(II)I", prog_1_method_15_code, 3, (some .int), 6, 149, 0, 2),
  (11, "undo", "()I", prog_1_method_16_code, 1, (some .int), 3, 81, 0, 0),
  (11, "stone", "(II)I", prog_1_method_17_code, 3, (some .int), 4, 96, 0, 2),
  (11, "veil", "(II)I", prog_1_method_18_code, 3, (some .int), 5, 120, 0, 2),
  (11, "spread", "()I", prog_1_method_19_code, 4, (some .int), 5, 120, 0, 0),
  (11, "level", "(I)I", prog_1_method_20_code, 3, (some .int), 6, 144, 0, 1),
  (11, "procession", "(I)I", prog_1_method_21_code, 2, (some .int), 5, 120, 0, 1),
  (11, "light", "(III)I", prog_1_method_22_code, 5, (some .int), 5, 123, 0, 3),
  (11, "done", "(IIIZ)I", prog_1_method_23_code, 5, (some .int), 5, 123, 0, 4),
  (11, "tell", "(III)I", prog_1_method_24_code, 4, (some .int), 1, 23, 0, 3),
  (11, "hush", "()I", prog_1_method_25_code, 2, (some .int), 0, 0, 0, 0),
  (11, "fits", "()I", prog_1_method_26_code, 1, (some .int), 6, 144, 0, 0),
  (11, "next", "()I", prog_1_method_27_code, 1, (some .int), 6, 144, 0, 0),
  (11, "image", "()I", prog_1_method_28_code, 1, (some .int), 3, 102, 0, 0),
  (11, "back", "()I", prog_1_method_29_code, 1, (some .int), 3, 102, 0, 0),
  (11, "about", "(I)I", prog_1_method_30_code, 2, (some .int), 3, 65, 0, 1),
  (12, "<init>", "()V", prog_14_method_1_code, 1, none, 1, 22, 2, 0),
  (12, "copy", "([I[I)V", prog_14_method_2_code, 3, none, 0, 0, 1, 2),
  (12, "isIn", "(III)Z", prog_14_method_3_code, 3, (some .boolean), 0, 0, 1, 3),
  (12, "has", "(II)Z", prog_14_method_4_code, 2, (some .boolean), 0, 0, 1, 2),
  (12, "bits", "(I)I", prog_14_method_5_code, 3, (some .int), 0, 0, 1, 1),
  (12, "isSister", "(I)Z", prog_14_method_6_code, 2, (some .boolean), 1, 22, 0, 1),
  (12, "isStone", "(I)Z", prog_14_method_7_code, 2, (some .boolean), 1, 22, 0, 1),
  (12, "isKind", "(I)Z", prog_14_method_8_code, 1, (some .boolean), 1, 22, 1, 1),
  (12, "get", "(II)I", prog_14_method_9_code, 3, (some .int), 0, 0, 0, 2),
  (12, "set", "(III)V", prog_14_method_10_code, 4, none, 0, 0, 0, 3),
  (12, "stonesOf", "(I)I", prog_14_method_11_code, 4, (some .int), 1, 22, 0, 1),
  (12, "hasRoom", "(I)Z", prog_14_method_12_code, 2, (some .boolean), 2, 45, 0, 1),
  (12, "sister", "()I", prog_14_method_13_code, 1, (some .int), 0, 0, 0, 0),
  (12, "four", "(I)V", prog_14_method_14_code, 3, none, 0, 0, 0, 1),
  (12, "feed", "(IIIII)I", prog_14_method_15_code, 6, (some .int), 1, 22, 0, 5)]
def zk_mt4 : List zk_MR := [(12, "end", "(I)I", prog_14_method_16_code, 2, (some .int), 1, 22, 0, 1),
  (12, "byteAt", "(I)I", prog_14_method_17_code, 2, (some .int), 0, 0, 0, 1),
  (12, "isLetter", "(I)Z", prog_14_method_18_code, 1, (some .boolean), 1, 22, 1, 1),
  (12, "isDigit", "(I)Z", prog_14_method_19_code, 1, (some .boolean), 1, 22, 1, 1),
  (12, "nextToken", "()V", prog_14_method_20_code, 3, none, 2, 42, 0, 0),
  (12, "w3", "(III)J", prog_14_method_21_code, 3, (some .long), 0, 0, 1, 3),
  (12, "w5", "(IIIII)J", prog_14_method_22_code, 5, (some .long), 1, 22, 1, 5),
  (12, "w4", "(IIII)J", prog_14_method_23_code, 4, (some .long), 1, 22, 1, 4),
  (12, "w6", "(IIIIII)J", prog_14_method_24_code, 6, (some .long), 2, 46, 1, 6),
  (12, "isWord", "(J)Z", prog_14_method_25_code, 3, (some .boolean), 0, 0, 0, 1),
  (12, "emit", "(II)V", prog_14_method_26_code, 3, none, 0, 0, 0, 2),
  (12, "push", "(I)V", prog_14_method_27_code, 2, none, 0, 0, 0, 1),
  (12, "whole", "()V", prog_14_method_28_code, 1, none, 1, 22, 0, 0),
  (12, "settle", "(I)V", prog_14_method_29_code, 2, none, 1, 22, 0, 1),
  (12, "nameOf", "()I", prog_14_method_30_code, 1, (some .int), 3, 71, 0, 0),
  (12, "isBarred", "(I)Z", prog_14_method_31_code, 2, (some .boolean), 0, 0, 0, 1),
  (12, "beginOne", "()I", prog_14_method_32_code, 2, (some .int), 4, 91, 0, 0),
  (12, "hasParen", "()Z", prog_14_method_33_code, 2, (some .boolean), 0, 0, 0, 0),
  (12, "goesOn", "()Z", prog_14_method_34_code, 1, (some .boolean), 1, 21, 0, 0),
  (12, "behindOne", "()I", prog_14_method_35_code, 2, (some .int), 3, 64, 0, 0),
  (12, "summed", "()I", prog_14_method_36_code, 2, (some .int), 5, 112, 0, 0),
  (12, "compareOf", "()I", prog_14_method_37_code, 1, (some .int), 0, 0, 0, 0),
  (12, "asks", "()I", prog_14_method_38_code, 5, (some .int), 6, 133, 0, 0),
  (12, "either", "()I", prog_14_method_39_code, 6, (some .int), 7, 157, 0, 0),
  (12, "sortOf", "()I", prog_14_method_40_code, 1, (some .int), 3, 71, 0, 0),
  (12, "figure", "(III)I", prog_14_method_41_code, 4, (some .int), 3, 64, 0, 3),
  (12, "ofOne", "(I)I", prog_14_method_42_code, 3, (some .int), 4, 87, 0, 1),
  (12, "toOther", "(I)I", prog_14_method_43_code, 4, (some .int), 5, 109, 0, 1),
  (12, "line", "(II)I", prog_14_method_44_code, 3, (some .int), 6, 132, 0, 2),
  (12, "clause", "()I", prog_14_method_45_code, 6, (some .int), 8, 182, 0, 0),
  (12, "readText", "()I", prog_14_method_46_code, 2, (some .int), 9, 207, 0, 0),
  (12, "text", "()I", prog_14_method_47_code, 1, (some .int), 10, 228, 0, 0),
  (12, "fault", "(I)I", prog_14_method_48_code, 2, (some .int), 0, 0, 0, 1),
  (12, "by", "(I)Z", prog_14_method_49_code, 2, (some .boolean), 1, 22, 0, 1),
  (12, "clip", "(J)J", prog_14_method_50_code, 2, (some .long), 0, 0, 1, 1),
  (12, "two", "(IJJ)J", prog_14_method_51_code, 5, (some .long), 1, 21, 1, 3),
  (12, "isAsked", "(IJJ)Z", prog_14_method_52_code, 5, (some .boolean), 0, 0, 1, 3),
  (12, "work", "(II)V", prog_14_method_53_code, 10, none, 2, 45, 0, 2),
  (12, "clauseOf", "(II)I", prog_14_method_54_code, 4, (some .int), 0, 0, 0, 2),
  (12, "name", "(II)V", prog_14_method_55_code, 3, none, 1, 22, 0, 2)]
def zk_mt5 : List zk_MR := [(12, "weightBy", "(II)I", prog_14_method_56_code, 4, (some .int), 3, 74, 0, 2),
  (12, "goes", "(II)Z", prog_14_method_57_code, 4, (some .boolean), 3, 74, 0, 2),
  (12, "weightOf", "(II)I", prog_14_method_58_code, 5, (some .int), 4, 97, 0, 2),
  (12, "veilBy", "(II)I", prog_14_method_59_code, 3, (some .int), 5, 121, 0, 2),
  (12, "taken", "(II)I", prog_14_method_60_code, 4, (some .int), 4, 97, 0, 2),
  (12, "keep", "()V", prog_14_method_61_code, 3, none, 1, 22, 0, 0),
  (12, "undo", "()I", prog_14_method_62_code, 3, (some .int), 1, 23, 0, 0),
  (12, "vow", "(II)I", prog_14_method_63_code, 4, (some .int), 3, 66, 0, 2),
  (12, "sin", "(II)I", prog_14_method_64_code, 4, (some .int), 5, 120, 0, 2),
  (12, "lowestOf", "(II)I", prog_14_method_65_code, 4, (some .int), 1, 22, 0, 2),
  (12, "pass", "(III)I", prog_14_method_66_code, 5, (some .int), 3, 66, 0, 3),
  (12, "forgive", "(I)I", prog_14_method_67_code, 2, (some .int), 3, 66, 0, 1),
  (12, "later", "(I)I", prog_14_method_68_code, 3, (some .int), 2, 44, 0, 1),
  (12, "isPlayed", "(I)Z", prog_14_method_69_code, 4, (some .boolean), 6, 143, 0, 1),
  (12, "played", "(I)I", prog_14_method_70_code, 3, (some .int), 7, 166, 0, 1),
  (12, "anew", "(I)I", prog_14_method_71_code, 1, (some .int), 0, 0, 1, 1),
  (12, "storm", "(II)I", prog_14_method_72_code, 8, (some .int), 5, 120, 0, 2),
  (12, "stone", "(II)I", prog_14_method_73_code, 3, (some .int), 4, 97, 0, 2),
  (12, "veil", "(II)I", prog_14_method_74_code, 3, (some .int), 6, 143, 0, 2),
  (12, "findWeights", "()V", prog_14_method_75_code, 2, none, 6, 143, 0, 0),
  (12, "spreadNow", "()I", prog_14_method_76_code, 4, (some .int), 0, 0, 0, 0),
  (12, "spread", "()I", prog_14_method_77_code, 1, (some .int), 7, 164, 0, 0),
  (12, "findGravel", "()I", prog_14_method_78_code, 3, (some .int), 4, 97, 0, 0),
  (12, "put", "(II)Z", prog_14_method_79_code, 5, (some .boolean), 1, 21, 0, 2),
  (12, "level", "(I)I", prog_14_method_80_code, 6, (some .int), 7, 164, 0, 1),
  (12, "exchange", "(II)V", prog_14_method_81_code, 4, none, 0, 0, 0, 2),
  (12, "nextRow", "()Z", prog_14_method_82_code, 6, (some .boolean), 1, 23, 0, 0),
  (12, "greatestGap", "()I", prog_14_method_83_code, 4, (some .int), 0, 0, 0, 0),
  (12, "procession", "(I)I", prog_14_method_84_code, 6, (some .int), 7, 164, 0, 1),
  (12, "isFound", "(II)Z", prog_14_method_85_code, 4, (some .boolean), 0, 0, 0, 2),
  (12, "findLight", "(II)I", prog_14_method_86_code, 7, (some .int), 5, 121, 0, 2),
  (12, "light", "(III)I", prog_14_method_87_code, 8, (some .int), 6, 147, 0, 3),
  (12, "done", "(IIIZ)I", prog_14_method_88_code, 11, (some .int), 5, 121, 0, 4),
  (12, "tell", "(III)I", prog_14_method_89_code, 5, (some .int), 2, 43, 0, 3),
  (12, "hush", "()I", prog_14_method_90_code, 2, (some .int), 0, 0, 0, 0),
  (12, "tells", "(III)I", prog_14_method_91_code, 5, (some .int), 6, 143, 0, 3),
  (12, "isFit", "(I)Z", prog_14_method_92_code, 4, (some .boolean), 7, 167, 0, 1),
  (12, "fits", "()I", prog_14_method_93_code, 3, (some .int), 8, 190, 0, 0),
  (12, "alike", "(III)I", prog_14_method_94_code, 8, (some .int), 7, 167, 0, 3),
  (12, "next", "()I", prog_14_method_95_code, 7, (some .int), 9, 212, 0, 0)]
def zk_mt6 : List zk_MR := [(12, "image", "()I", prog_14_method_96_code, 1, (some .int), 1, 22, 0, 0),
  (12, "back", "()I", prog_14_method_97_code, 1, (some .int), 1, 22, 0, 0),
  (12, "about", "(I)I", prog_14_method_98_code, 2, (some .int), 2, 45, 0, 1),
  (14, "compare", "(II)I", prog_15_method_40_code, 2, (some .int), 0, 0, 1, 2),
  (14, "bitCount", "(I)I", prog_15_method_49_code, 1, (some .int), 0, 0, 1, 1),
  (15, "abs", "(I)I", prog_16_method_59_code, 1, (some .int), 0, 0, 1, 1),
  (15, "max", "(II)I", prog_16_method_65_code, 2, (some .int), 0, 0, 1, 2),
  (15, "min", "(II)I", prog_16_method_69_code, 2, (some .int), 0, 0, 1, 2),
  (16, "length", "()I", prog_17_method_54_code, 1, (some .int), 1, 20, 0, 0),
  (16, "charAt", "(I)C", prog_17_method_56_code, 2, (some .char), 3, 64, 0, 1),
  (16, "coder", "()B", prog_17_method_152_code, 1, (some .byte), 0, 0, 0, 0),
  (16, "isLatin1", "()Z", prog_17_method_154_code, 1, (some .boolean), 0, 0, 0, 0),
  (16, "checkIndex", "(II)V", prog_17_method_155_code, 2, none, 1, 22, 1, 2),
  (17, "charAt", "([BI)C", prog_18_method_2_code, 2, (some .char), 2, 43, 1, 2),
  (20, "checkIndex", "(IILjava/util/function/BiFunction;)I", prog_21_method_11_code, 3, (some .int), 0, 0, 1, 3),
  (3, "orderAt", "(I)I", prog_5_method_5_code, 2, (some .int), 0, 0, 0, 1),
  (8, "placeBehind", "(I)I", prog_10_method_3_code, 2, (some .int), 1, 22, 0, 1),
  (15, "floorMod", "(II)I", prog_16_method_50_code, 3, (some .int), 0, 0, 1, 2)]
def zk_mtab : List zk_MR := zk_mt0 ++ zk_mt1 ++ zk_mt2 ++ zk_mt3 ++ zk_mt4 ++ zk_mt5 ++ zk_mt6
def zk_lawR : zk_MR := (13, "law", "([I)Z", code, 4, some .boolean, 13, 498, 1, 1)
def zk_mr (i : Nat) : zk_MR := (zk_mtab ++ [zk_lawR]).getD i zk_lawR
def zk_yr (r : zk_MR) : MethodName := ⟨zk_cn r.1, r.2.1, r.2.2.1⟩
def zk_yn (i : Nat) : MethodName := zk_yr (zk_mr i)
def zk_cc (i : Nat) : ByteArray := (zk_mr i).2.2.2.1
def zk_mL (i : Nat) : Nat := (zk_mr i).2.2.2.2.1
def zk_rt (i : Nat) : Option FieldType := (zk_mr i).2.2.2.2.2.1
def zk_fr (i : Nat) : Nat := (zk_mr i).2.2.2.2.2.2.1
def zk_lo (i : Nat) : Nat := (zk_mr i).2.2.2.2.2.2.2.1
def zk_kd (i : Nat) : Nat := (zk_mr i).2.2.2.2.2.2.2.2.1
def zk_np (i : Nat) : Nat := (zk_mr i).2.2.2.2.2.2.2.2.2
def zk_own (i : Nat) : Nat := (zk_mr i).1
def zk_wcode : List Cond := zk_mtab.map fun r => .code (zk_yr r) r.2.2.2.1 r.2.2.2.2.1 r.2.2.2.2.2.1
def zk_wkind : List Cond := zk_mtab.map fun r => if r.2.2.2.2.2.2.2.2.1 = 1 then .static (zk_yr r) else .instanceMethod (zk_yr r)
def zk_wsel : List Cond := (zk_mtab.filter fun r => r.2.2.2.2.2.2.2.2.1 == 0).map fun r => .selects (zk_cn r.1) (zk_yr r) (zk_yr r)
def zk_wini : List Cond := zk_cnL.map fun c => .initialized c
def zk_LK : List (Nat × Nat × Nat) := [(0, 42, 88), (0, 46, 84), (0, 49, 60), (0, 52, 98), (0, 56, 244), (0, 61, 2), (0, 65, 89), (0, 69, 4), (0, 72, 85), (0, 75, 99), (0, 79, 96), (0, 82, 16), (0, 88, 100), (0, 92, 94), (0, 95, 101), (0, 99, 92), (0, 102, 97), (0, 105, 90), (0, 108, 91), (0, 111, 6), (1, 25, 94), (1, 31, 90), (1, 35, 95), (1, 38, 97), (1, 41, 13), (1, 45, 72), (1, 49, 14), (1, 60, 79), (1, 64, 247), (1, 70, 246), (1, 73, 73), (1, 82, 89), (1, 85, 96), (1, 88, 15), (2, 40, 89), (2, 46, 96), (2, 50, 97), (2, 56, 15), (2, 62, 17), (2, 66, 18), (2, 69, 98), (2, 72, 244), (2, 77, 22), (2, 81, 23), (2, 85, 24), (2, 88, 247), (2, 94, 246), (3, 28, 247), (3, 34, 246), (3, 37, 18), (3, 44, 28), (3, 54, 30), (3, 58, 29), (3, 61, 245), (3, 64, 255), (3, 67, 31), (4, 36, 89), (4, 42, 96), (4, 49, 15), (4, 55, 16), (4, 59, 34), (4, 62, 35), (4, 66, 36), (4, 69, 247), (4, 74, 39), (5, 41, 70), (5, 46, 106), (5, 54, 71), (5, 58, 44), (5, 62, 107), (5, 65, 48), (5, 69, 45), (5, 75, 43), (5, 79, 47), (5, 83, 46), (5, 86, 75), (5, 93, 77), (5, 97, 49), (5, 101, 51), (5, 104, 78), (5, 107, 76), (5, 110, 50), (5, 113, 57), (5, 116, 56), (5, 120, 52), (5, 124, 54), (5, 128, 55), (5, 132, 58), (5, 135, 53), (6, 43, 17), (6, 49, 18), (6, 53, 64), (6, 57, 243), (6, 62, 66), (6, 66, 63), (6, 70, 68), (6, 73, 246), (7, 40, 75), (7, 44, 246), (7, 50, 80), (7, 54, 81), (7, 58, 82), (8, 28, 257), (8, 37, 256), (9, 21, 93), (9, 25, 89), (9, 29, 96), (9, 32, 90), (9, 35, 97), (9, 38, 102), (9, 42, 92), (9, 46, 94), (9, 49, 95), (10, 31, 107), (10, 34, 108), (10, 38, 109), (10, 42, 112), (10, 45, 110), (10, 48, 111), (10, 51, 113), (10, 54, 247), (10, 62, 248), (10, 67, 249), (10, 71, 114), (11, 21, 12), (11, 65, 104), (11, 69, 105), (11, 79, 13), (11, 83, 42), (11, 93, 3), (11, 99, 5), (11, 103, 6), (11, 107, 7), (11, 111, 8), (11, 115, 9), (11, 118, 10), (11, 126, 128), (11, 130, 74), (11, 133, 11), (11, 144, 86), (11, 153, 92), (11, 158, 94), (11, 161, 95), (11, 164, 96), (11, 167, 97), (11, 170, 15), (11, 174, 2), (11, 177, 17), (11, 181, 18), (11, 184, 98), (11, 187, 247), (11, 192, 246), (11, 195, 20), (11, 199, 21), (11, 206, 26), (11, 213, 27), (11, 216, 33), (11, 219, 37), (11, 222, 38), (11, 225, 40), (11, 239, 61), (11, 246, 62), (11, 250, 65), (11, 253, 67), (11, 256, 1), (11, 260, 90), (11, 264, 89), (11, 266, 244), (12, 79, 146), (12, 83, 147), (12, 87, 153), (12, 91, 155), (12, 95, 149), (12, 101, 158), (12, 108, 161), (12, 117, 163), (12, 125, 162), (12, 132, 165), (12, 136, 166), (12, 156, 170), (12, 160, 167), (12, 164, 168), (12, 171, 164), (12, 174, 172), (12, 177, 174), (12, 181, 175), (12, 184, 171), (12, 187, 177), (12, 191, 173), (12, 194, 178), (12, 197, 179), (12, 200, 176), (12, 203, 169), (12, 207, 180), (12, 210, 181), (12, 213, 182), (12, 218, 185), (12, 224, 186), (12, 229, 187), (12, 232, 184), (12, 238, 183), (12, 241, 188), (12, 244, 189), (12, 247, 190), (12, 254, 194), (12, 258, 195), (12, 262, 196), (12, 266, 198), (12, 269, 199), (12, 272, 197), (12, 277, 148), (12, 281, 200), (12, 284, 202), (12, 287, 201), (12, 290, 154), (12, 294, 152), (12, 297, 150), (12, 300, 156), (12, 303, 205), (12, 306, 204), (12, 309, 209), (12, 312, 151), (12, 315, 207), (12, 318, 208), (12, 321, 210), (12, 324, 211), (12, 327, 212), (12, 330, 213), (12, 333, 215), (12, 336, 203), (12, 339, 219), (12, 342, 220), (12, 345, 222), (12, 348, 223), (12, 351, 225), (12, 354, 227), (12, 357, 226), (12, 360, 229), (12, 363, 230), (12, 366, 235), (12, 369, 236), (12, 372, 237), (12, 375, 238), (13, 9, 115), (13, 12, 145), (13, 13, 116), (13, 17, 157), (13, 18, 117), (13, 22, 159), (13, 23, 118), (13, 27, 160), (13, 28, 119), (13, 31, 191), (13, 32, 120), (13, 35, 192), (13, 36, 121), (13, 40, 193), (13, 41, 122), (13, 45, 207), (13, 46, 123), (13, 49, 208), (13, 50, 124), (13, 54, 210), (13, 55, 125), (13, 58, 211), (13, 59, 126), (13, 62, 212), (13, 63, 127), (13, 66, 214), (13, 67, 129), (13, 70, 216), (13, 71, 130), (13, 74, 206), (13, 75, 131), (13, 78, 217), (13, 79, 132), (13, 82, 218), (13, 83, 133), (13, 86, 221), (13, 87, 134), (13, 90, 224), (13, 91, 135), (13, 94, 228), (13, 95, 136), (13, 98, 231), (13, 99, 137), (13, 103, 232), (13, 104, 138), (13, 107, 233), (13, 108, 139), (13, 111, 234), (13, 112, 140), (13, 115, 237), (13, 116, 141), (13, 119, 239), (13, 120, 142), (13, 123, 240), (13, 124, 143), (13, 127, 241), (13, 128, 144), (13, 131, 242), (16, 335, 250), (16, 492, 251), (16, 495, 253), (16, 1059, 254), (17, 9, 252), (18, 414, 252)]
def zk_wLK : List Cond := zk_LK.map fun r => .methodLink (zk_cn r.1) r.2.1 (zk_yn r.2.2)
def zk_AK : List (Nat × Nat) := [(3, 48), (6, 28), (8, 22), (9, 15)]
def zk_wAK : List Cond := zk_AK.map fun r => .methodLink (zk_cn r.1) r.2 arraycopyName
def zk_OK : List (Nat × Nat) := [(0, 3), (1, 3), (2, 3), (3, 3), (4, 3), (5, 3), (6, 3), (7, 3), (8, 1), (9, 3), (10, 3), (11, 1), (12, 1)]
def zk_wOK : List Cond := zk_OK.map fun r => .methodLink (zk_cn r.1) r.2 Lib.objectInit
def zk_FL : List (Nat × Nat × Nat × Nat) := [(0, 9, 0, 0), (0, 15, 0, 1), (0, 18, 0, 2), (0, 24, 0, 3), (0, 31, 0, 4), (0, 38, 0, 5), (1, 11, 1, 0), (1, 17, 1, 1), (1, 21, 1, 2), (1, 53, 7, 4), (1, 57, 7, 5), (1, 76, 7, 6), (1, 79, 7, 7), (2, 9, 2, 0), (2, 15, 2, 1), (2, 18, 2, 2), (2, 22, 2, 3), (2, 25, 2, 4), (2, 28, 2, 5), (2, 31, 2, 6), (2, 34, 0, 3), (2, 53, 0, 2), (3, 9, 3, 0), (3, 15, 3, 1), (3, 18, 3, 2), (3, 22, 3, 3), (3, 25, 3, 4), (4, 9, 4, 0), (4, 15, 4, 1), (4, 18, 4, 2), (4, 21, 4, 3), (4, 25, 4, 4), (4, 28, 4, 5), (4, 31, 0, 3), (4, 46, 0, 2), (5, 9, 5, 0), (5, 15, 5, 1), (5, 18, 5, 2), (5, 22, 5, 3), (5, 25, 5, 4), (5, 29, 5, 5), (5, 32, 5, 6), (5, 35, 5, 7), (5, 38, 5, 8), (5, 51, 10, 2), (5, 72, 10, 3), (5, 90, 10, 4), (6, 11, 6, 0), (6, 15, 6, 1), (6, 18, 6, 2), (6, 21, 6, 3), (6, 25, 6, 4), (6, 34, 0, 1), (6, 39, 0, 3), (7, 9, 7, 0), (7, 15, 7, 1), (7, 19, 7, 2), (7, 22, 7, 3), (7, 25, 7, 4), (7, 28, 7, 5), (7, 31, 7, 6), (7, 34, 7, 7), (7, 37, 7, 8), (8, 11, 8, 0), (8, 15, 8, 1), (8, 19, 8, 2), (8, 34, 9, 0), (9, 11, 9, 0), (10, 9, 10, 0), (10, 15, 10, 1), (10, 19, 10, 2), (10, 22, 10, 3), (10, 25, 10, 4), (10, 28, 10, 5), (11, 10, 11, 0), (11, 16, 11, 1), (11, 22, 11, 2), (11, 29, 11, 3), (11, 36, 11, 4), (11, 43, 11, 5), (11, 50, 11, 6), (11, 57, 11, 7), (11, 61, 0, 0), (11, 73, 10, 1), (11, 76, 0, 1), (11, 87, 5, 0), (11, 90, 5, 1), (11, 96, 0, 2), (11, 121, 7, 0), (11, 136, 0, 4), (11, 140, 0, 3), (11, 150, 8, 2), (11, 203, 2, 0), (11, 210, 3, 0), (11, 229, 4, 1), (11, 232, 4, 0), (11, 235, 0, 5), (11, 245, 6, 3), (12, 7, 12, 0), (12, 13, 12, 1), (12, 16, 12, 2), (12, 19, 12, 3), (12, 22, 12, 5), (12, 26, 12, 6), (12, 29, 12, 16), (12, 32, 12, 22), (12, 35, 12, 23), (12, 39, 12, 24), (12, 43, 12, 25), (12, 46, 12, 26), (12, 49, 12, 27), (12, 52, 12, 28), (12, 55, 12, 29), (12, 58, 12, 30), (12, 61, 12, 31), (12, 64, 12, 32), (12, 67, 12, 33), (12, 70, 12, 34), (12, 73, 12, 35), (12, 76, 12, 36), (12, 98, 12, 4), (12, 105, 12, 7), (12, 111, 12, 8), (12, 114, 12, 9), (12, 121, 12, 10), (12, 128, 12, 11), (12, 140, 12, 12), (12, 143, 12, 14), (12, 146, 12, 17), (12, 149, 12, 19), (12, 153, 12, 18), (12, 168, 12, 20), (12, 235, 12, 21)]
def zk_wFL : List Cond := zk_FL.map fun r => .fieldLink (zk_cn r.1) r.2.1 (zk_TT r.2.2.1 r.2.2.2).1 (zk_TT r.2.2.1 r.2.2.2).2.1 (zk_TT r.2.2.1 r.2.2.2).2.2.1
def zk_wlay : List Cond := (List.range 13).flatMap fun c => u_ws (zk_cn c) (zk_TT c) (zk_nf c)
def zk_CL : List (Nat × Nat × Nat) := [(0, 21, 9), (0, 28, 8), (0, 35, 6), (1, 9, 7), (11, 7, 0), (11, 19, 1), (11, 26, 10), (11, 33, 5), (11, 40, 2), (11, 47, 3), (11, 54, 4), (13, 7, 11), (13, 10, 12)]
def zk_wCL : List Cond := zk_CL.map fun r => .classLink (zk_cn r.1) r.2.1 (zk_cn r.2.2)
def zk_wnew : List Cond := (List.range 13).map fun c => .instantiable (zk_cn c) (zk_nf c)
def zk_CT : List (Nat × Nat × Int) := [(14, 265, 1431655765), (14, 266, 858993459), (14, 267, 252645135), (3, 43, 1000000), (12, 124, 100000)]
def zk_wCT : List Cond := zk_CT.map fun r => .constant (zk_cn r.1) r.2.1 (Int32.ofInt r.2.2)
def zk_LT : List (Nat × Nat × Int) := [(7, 62, 1000000), (7, 64, -1000000), (12, 216, 28530), (12, 222, 28518), (12, 227, 29807), (12, 250, 1000000), (12, 252, -1000000), (12, 275, 99)]
def zk_wLT : List Cond := zk_LT.map fun r => .constantLong (zk_cn r.1) r.2.1 (Int64.ofInt r.2.2)
def zk_wetc : List Cond := [.arrayClass .int, .arrayClass .char, .arrayClass .long, .arrayClass .boolean, .native arraycopyName, .static arraycopyName, .instanceMethod Lib.objectInit, .code Lib.objectInit ⟨#[0xb1]⟩ 1 none]
def zk_wjdk : List Cond := [.fieldLink "java/lang/String" 38 "java/lang/String" "COMPACT_STRINGS" "Z", .fieldLink "java/lang/String" 15 "java/lang/String" "coder" "B", .fieldLink "java/lang/String" 9 "java/lang/String" "value" "[B", .fieldLink "java/lang/String" 1053 "jdk/internal/util/Preconditions" "SIOOBE_FORMATTER" "Ljava/util/function/BiFunction;"]
def zk_wcode0 : List Cond := zk_mt0.map fun r => .code (zk_yr r) r.2.2.2.1 r.2.2.2.2.1 r.2.2.2.2.2.1
set_option maxRecDepth 100000 in
theorem zk_gcode0 : GoodIn lw_tbl zk_wcode0 := goodIn_q _ [126, 1075, 666, 654, 674, 662, 723, 772, 795, 808, 818, 843, 215, 464, 741, 865, 728, 880, 887, 337, 902, 914, 918, 922, 928, 366, 936, 968, 944, 948, 960, 964, 389, 976, 988, 992, 996, 984, 1001, 1005] rfl (by decide +kernel)
def zk_wcode1 : List Cond := zk_mt1.map fun r => .code (zk_yr r) r.2.2.2.1 r.2.2.2.2.1 r.2.2.2.2.2.1
set_option maxRecDepth 100000 in
theorem zk_gcode1 : GoodIn lw_tbl zk_wcode1 := goodIn_q _ [1013, 301, 468, 569, 565, 632, 640, 636, 574, 586, 594, 606, 610, 613, 616, 620, 598, 602, 624, 161, 1088, 1021, 1033, 1047, 1051, 1039, 1043, 1062, 1066, 222, 472, 561, 869, 733, 835, 582, 590, 578, 628, 754] rfl (by decide +kernel)
def zk_wcode2 : List Cond := zk_mt2.map fun r => .code (zk_yr r) r.2.2.2.1 r.2.2.2.2.1 r.2.2.2.2.2.1
set_option maxRecDepth 100000 in
theorem zk_gcode2 : GoodIn lw_tbl zk_wcode2 := goodIn_q _ [760, 763, 768, 144, 1084, 697, 852, 132, 1079, 670, 715, 823, 785, 687, 737, 746, 683, 750, 678, 711, 776, 800, 781, 271, 448, 452, 476, 480, 484, 487, 543, 547, 491, 554, 557, 118, 440, 444, 456, 460] rfl (by decide +kernel)
def zk_wcode3 : List Cond := zk_mt3.map fun r => .code (zk_yr r) r.2.2.2.1 r.2.2.2.2.1 r.2.2.2.2.2.1
set_option maxRecDepth 100000 in
theorem zk_gcode3 : GoodIn lw_tbl zk_wcode3 := goodIn_q _ [646, 650, 658, 719, 791, 804, 814, 827, 831, 839, 848, 856, 875, 892, 898, 932, 972, 1009, 1017, 1025, 1029, 1058, 1071, 1094, 1098, 1105, 1109, 1240, 1419, 1404, 1389, 1462, 1385, 1401, 1378, 1397, 1393, 1225, 1233, 1229] rfl (by decide +kernel)
def zk_wcode4 : List Cond := zk_mt4.map fun r => .code (zk_yr r) r.2.2.2.1 r.2.2.2.2.1 r.2.2.2.2.2.1
set_option maxRecDepth 100000 in
theorem zk_gcode4 : GoodIn lw_tbl zk_wcode4 := goodIn_q _ [1237, 1256, 1263, 1259, 1252, 1280, 1277, 1287, 1274, 1284, 1311, 1315, 1319, 1307, 1327, 1331, 1323, 1299, 1295, 1303, 1291, 1343, 1339, 1335, 1271, 1352, 1360, 1356, 1348, 1267, 1248, 1244, 1366, 1370, 1441, 1438, 1446, 1435, 1427, 1431] rfl (by decide +kernel)
def zk_wcode5 : List Cond := zk_mt5.map fun r => .code (zk_yr r) r.2.2.2.1 r.2.2.2.2.1 r.2.2.2.2.2.1
set_option maxRecDepth 100000 in
theorem zk_gcode5 : GoodIn lw_tbl zk_wcode5 := goodIn_q _ [1494, 1423, 1507, 1503, 1416, 1408, 1374, 1382, 1412, 1454, 1450, 1458, 1466, 1474, 1470, 1486, 1483, 1490, 1499, 1515, 1519, 1511, 1527, 1531, 1523, 1547, 1543, 1539, 1535, 1559, 1555, 1551, 1563, 1567, 1571, 1583, 1579, 1575, 1592, 1587] rfl (by decide +kernel)
def zk_wcode6 : List Cond := zk_mt6.map fun r => .code (zk_yr r) r.2.2.2.1 r.2.2.2.2.1 r.2.2.2.2.2.1
set_option maxRecDepth 100000 in
theorem zk_gcode6 : GoodIn lw_tbl zk_wcode6 := goodIn_q _ [1596, 1600, 1604, 1054, 690, 955, 757, 550, 496, 506, 500, 510, 516, 513, 521, 952, 701, 704] rfl (by decide +kernel)
theorem zk_wcode_eq : zk_wcode = zk_wcode0 ++ zk_wcode1 ++ zk_wcode2 ++ zk_wcode3 ++ zk_wcode4 ++ zk_wcode5 ++ zk_wcode6 := by simp only [zk_wcode, zk_mtab, List.map_append, zk_wcode0, zk_wcode1, zk_wcode2, zk_wcode3, zk_wcode4, zk_wcode5, zk_wcode6]
theorem zk_gcode : GoodIn lw_tbl zk_wcode := by rw [zk_wcode_eq]; exact goodIn_ap (goodIn_ap (goodIn_ap (goodIn_ap (goodIn_ap (goodIn_ap (zk_gcode0) zk_gcode1) zk_gcode2) zk_gcode3) zk_gcode4) zk_gcode5) zk_gcode6
set_option maxRecDepth 100000 in
theorem zk_gkind : GoodIn lw_tbl zk_wkind := goodIn_q _ [125, 1073, 664, 652, 672, 660, 721, 770, 793, 806, 816, 841, 214, 462, 740, 863, 726, 878, 885, 336, 900, 912, 917, 921, 927, 365, 934, 966, 943, 947, 959, 963, 388, 974, 987, 991, 995, 982, 999, 1004, 1011, 300, 466, 568, 564, 631, 639, 635, 573, 585, 593, 605, 609, 612, 615, 619, 597, 601, 623, 160, 1086, 1019, 1031, 1046, 1050, 1037, 1042, 1060, 1065, 221, 470, 559, 867, 731, 833, 580, 588, 576, 626, 752, 759, 762, 767, 143, 1082, 695, 850, 131, 1077, 668, 713, 821, 783, 686, 735, 744, 681, 748, 676, 709, 774, 798, 780, 270, 446, 450, 474, 478, 483, 486, 542, 546, 490, 553, 556, 117, 438, 442, 454, 458, 644, 648, 656, 717, 789, 802, 812, 825, 830, 837, 846, 854, 873, 890, 896, 930, 970, 1007, 1015, 1023, 1027, 1056, 1069, 1092, 1096, 1104, 1108, 1239, 1418, 1403, 1388, 1461, 1384, 1400, 1377, 1396, 1392, 1223, 1232, 1227, 1235, 1255, 1262, 1258, 1251, 1279, 1276, 1286, 1273, 1283, 1310, 1314, 1318, 1306, 1326, 1330, 1322, 1298, 1294, 1302, 1290, 1342, 1338, 1334, 1270, 1351, 1359, 1355, 1347, 1266, 1247, 1242, 1364, 1368, 1440, 1437, 1445, 1434, 1426, 1430, 1493, 1422, 1506, 1502, 1415, 1407, 1372, 1380, 1410, 1453, 1448, 1456, 1464, 1473, 1468, 1485, 1481, 1488, 1497, 1514, 1518, 1509, 1526, 1530, 1521, 1546, 1542, 1538, 1533, 1558, 1554, 1549, 1561, 1565, 1569, 1582, 1578, 1573, 1591, 1585, 1594, 1598, 1602, 1053, 689, 954, 756, 549, 494, 504, 498, 508, 515, 512, 520, 951, 700, 703] (by decide +kernel) (by decide +kernel)
set_option maxRecDepth 100000 in
theorem zk_gsel : GoodIn lw_tbl zk_wsel := goodIn_q _ [1074, 665, 653, 673, 661, 722, 771, 794, 807, 817, 842, 463, 20, 864, 727, 879, 886, 901, 913, 23, 24, 25, 935, 967, 26, 27, 29, 30, 975, 31, 32, 33, 983, 1000, 34, 1012, 467, 5, 4, 15, 17, 16, 6, 7, 8, 11, 12, 13, 9, 10, 14, 1087, 1020, 1032, 36, 37, 1038, 35, 1061, 38, 471, 560, 868, 732, 834, 581, 589, 577, 627, 753, 1083, 696, 851, 1078, 669, 714, 822, 784, 18, 736, 745, 682, 749, 677, 710, 775, 799, 21, 447, 451, 475, 479, 0, 2, 1, 3, 439, 443, 455, 459, 645, 649, 657, 718, 790, 803, 813, 826, 22, 838, 847, 855, 874, 891, 897, 931, 971, 1008, 1016, 1024, 1028, 1057, 1070, 1093, 1097, 65, 76, 68, 64, 67, 66, 1224, 39, 1228, 1236, 42, 41, 45, 51, 52, 53, 50, 55, 56, 54, 48, 47, 49, 46, 59, 58, 57, 44, 61, 63, 62, 60, 43, 40, 1243, 1365, 1369, 74, 72, 73, 78, 71, 80, 79, 70, 69, 1373, 1381, 1411, 75, 1449, 1457, 1465, 77, 1469, 1482, 1489, 1498, 81, 82, 1510, 83, 84, 1522, 87, 86, 85, 1534, 89, 88, 1550, 1562, 1566, 1570, 91, 90, 1574, 92, 1586, 1595, 1599, 1603, 495, 505, 499, 509, 28, 19] (by decide +kernel) (by decide +kernel)
set_option maxRecDepth 100000 in
theorem zk_gini : GoodIn lw_tbl zk_wini := goodIn_q _ [95, 99, 103, 104, 105, 102, 98, 100, 97, 96, 101, 94, 106, 93, 112, 111, 107, 108, 110, 113, 109] (by decide +kernel) (by decide +kernel)
set_option maxRecDepth 100000 in
theorem zk_gLK : GoodIn lw_tbl zk_wLK := goodIn_q _ [1076, 1081, 1085, 675, 688, 663, 667, 671, 694, 708, 724, 725, 773, 796, 797, 809, 810, 819, 820, 844, 734, 742, 743, 747, 729, 866, 738, 751, 870, 871, 730, 881, 882, 883, 903, 904, 905, 906, 907, 908, 909, 910, 915, 919, 925, 923, 924, 937, 938, 939, 941, 957, 945, 953, 949, 961, 977, 978, 979, 980, 985, 989, 993, 997, 1002, 469, 473, 558, 562, 570, 571, 629, 566, 633, 637, 641, 575, 583, 603, 625, 587, 591, 599, 595, 607, 614, 617, 621, 611, 1034, 1035, 1048, 1052, 1040, 1044, 1063, 1067, 579, 755, 758, 761, 766, 702, 698, 684, 679, 680, 712, 777, 778, 782, 786, 787, 477, 481, 485, 488, 541, 544, 551, 548, 493, 503, 555, 213, 445, 449, 461, 465, 651, 659, 720, 769, 792, 805, 815, 828, 832, 840, 849, 857, 858, 859, 860, 861, 862, 876, 877, 884, 888, 893, 894, 899, 911, 933, 965, 973, 981, 998, 1010, 1018, 1030, 1036, 1059, 1072, 1090, 1099, 1100, 1107, 1238, 1398, 1394, 1402, 1230, 1253, 1257, 1261, 1278, 1275, 1308, 1285, 1272, 1249, 1316, 1324, 1328, 1312, 1296, 1304, 1292, 1300, 1320, 1281, 1288, 1340, 1336, 1349, 1357, 1353, 1268, 1332, 1345, 1264, 1245, 1439, 1436, 1444, 1424, 1428, 1432, 1417, 1491, 1504, 1420, 1375, 1383, 1386, 1390, 1405, 1413, 1451, 1459, 1475, 1476, 1477, 1478, 1479, 1471, 1484, 1500, 1512, 1516, 1524, 1528, 1544, 1536, 1540, 1556, 1552, 1580, 1576, 1588, 1589, 116, 1103, 437, 1222, 441, 1226, 453, 1234, 457, 1241, 643, 1363, 647, 1367, 655, 1379, 716, 1409, 788, 1447, 801, 1455, 811, 1463, 824, 1467, 836, 1480, 845, 1371, 853, 1487, 872, 1496, 889, 1508, 895, 1520, 929, 1532, 969, 1548, 1006, 1560, 1014, 1564, 1022, 1568, 1026, 1572, 1055, 1584, 1068, 1593, 1091, 1597, 1095, 1601, 497, 507, 511, 519, 514, 531] (by decide +kernel) (by decide +kernel)
set_option maxRecDepth 100000 in
theorem zk_gAK : GoodIn lw_tbl zk_wAK := goodIn_q _ [956, 1089, 705, 1080] (by decide +kernel) (by decide +kernel)
set_option maxRecDepth 100000 in
theorem zk_gOK : GoodIn lw_tbl zk_wOK := goodIn_q _ [127, 216, 338, 367, 390, 302, 162, 223, 145, 133, 272, 119, 1106] (by decide +kernel) (by decide +kernel)
set_option maxRecDepth 100000 in
theorem zk_gFL : GoodIn lw_tbl zk_wFL := goodIn_q _ [180, 182, 185, 189, 194, 196, 257, 258, 259, 230, 232, 234, 236, 339, 341, 342, 343, 344, 345, 346, 190, 187, 368, 370, 371, 372, 373, 391, 393, 395, 396, 397, 398, 191, 186, 303, 305, 307, 308, 309, 310, 311, 312, 313, 277, 279, 281, 163, 164, 165, 166, 168, 183, 192, 224, 226, 227, 228, 229, 231, 233, 235, 237, 146, 147, 148, 135, 134, 273, 274, 276, 278, 280, 282, 412, 413, 414, 415, 416, 417, 418, 419, 181, 275, 184, 304, 306, 188, 225, 195, 193, 149, 340, 369, 394, 392, 197, 167, 1110, 1111, 1112, 1113, 1115, 1116, 1124, 1130, 1131, 1132, 1133, 1134, 1135, 1136, 1137, 1138, 1139, 1140, 1141, 1142, 1143, 1144, 1114, 1117, 1118, 1119, 1120, 1121, 1122, 1123, 1125, 1127, 1126, 1128, 1129] (by decide +kernel) (by decide +kernel)
set_option maxRecDepth 100000 in
theorem zk_glay : GoodIn lw_tbl zk_wlay := goodIn_q _ [198, 200, 202, 204, 206, 208, 260, 262, 264, 347, 349, 351, 353, 355, 357, 359, 374, 376, 378, 380, 382, 399, 401, 403, 405, 407, 409, 314, 316, 318, 320, 322, 324, 326, 328, 330, 169, 171, 173, 175, 177, 238, 240, 242, 244, 246, 248, 250, 252, 254, 150, 152, 154, 136, 283, 285, 287, 289, 291, 293, 420, 422, 424, 426, 428, 430, 432, 434, 1145, 1147, 1149, 1151, 1153, 1155, 1157, 1159, 1161, 1163, 1165, 1167, 1169, 1171, 1173, 1175, 1177, 1179, 1181, 1183, 1185, 1187, 1189, 1191, 1193, 1195, 1197, 1199, 1201, 1203, 1205, 1207, 1209, 1211, 1213, 1215, 1217] (by decide +kernel) (by decide +kernel)
set_option maxRecDepth 100000 in
theorem zk_gCL : GoodIn lw_tbl zk_wCL := goodIn_q _ [128, 140, 157, 217, 122, 211, 267, 297, 333, 362, 385, 114, 1101] (by decide +kernel) (by decide +kernel)
set_option maxRecDepth 100000 in
theorem zk_gnew : GoodIn lw_tbl zk_wnew := goodIn_q _ [123, 212, 334, 363, 386, 298, 158, 219, 141, 129, 268, 115, 1102] (by decide +kernel) (by decide +kernel)
set_option maxRecDepth 100000 in
theorem zk_gCT : GoodIn lw_tbl zk_wCT := goodIn_q _ [691, 692, 693, 940, 1260] (by decide +kernel) (by decide +kernel)
set_option maxRecDepth 100000 in
theorem zk_gLT : GoodIn lw_tbl zk_wLT := goodIn_q _ [764, 765, 1344, 1361, 1362, 1442, 1443, 1495] (by decide +kernel) (by decide +kernel)
set_option maxRecDepth 100000 in
theorem zk_getc : GoodIn lw_tbl zk_wetc := goodIn_q _ [139, 296, 1220, 1221, 707, 706, 120, 121] (by decide +kernel) (by decide +kernel)
set_option maxRecDepth 100000 in
theorem zk_gjdk : GoodIn lw_tbl zk_wjdk := goodIn_q _ [501, 1606, 1605, 517] (by decide +kernel) (by decide +kernel)
def zk_gT : List Cond := zk_wcode ++ (zk_wkind ++ (zk_wsel ++ (zk_wini ++ (zk_wLK ++ (zk_wAK ++ (zk_wOK ++ (zk_wFL ++ (zk_wlay ++ (zk_wCL ++ (zk_wnew ++ (zk_wCT ++ (zk_wLT ++ (zk_wetc ++ (zk_wjdk))))))))))))))
theorem zk_gT_good : GoodIn lw_tbl zk_gT := goodIn_ap zk_gcode (goodIn_ap zk_gkind (goodIn_ap zk_gsel (goodIn_ap zk_gini (goodIn_ap zk_gLK (goodIn_ap zk_gAK (goodIn_ap zk_gOK (goodIn_ap zk_gFL (goodIn_ap zk_glay (goodIn_ap zk_gCL (goodIn_ap zk_gnew (goodIn_ap zk_gCT (goodIn_ap zk_gLT (goodIn_ap zk_getc (zk_gjdk))))))))))))))
