/-! TABLES OF THE SMALL MACHINE (made by wip/whole/gen.py out of the Statement): classes, fields, methods, their instructions -/
def mf_0 : u_T := fun k => match k with
  | 0 => ("BeatParish", "tape", "[I", true)
  | 1 => ("BeatParish", "taped", "I", false)
  | 2 => ("BeatParish", "told", "LBeatParish$Told;", false)
  | 3 => ("BeatParish", "draft", "LBeatParish$Told;", false)
  | 4 => ("BeatParish", "reader", "LBeatParish$Reader;", true)
  | 5 => ("BeatParish", "clock", "LBeatParish$Clock;", true)
  | 6 => ("BeatParish", "now", "LBeatParish$State;", true)
  | 7 => ("BeatParish", "trial", "LBeatParish$State;", true)
  | 8 => ("BeatParish", "image", "LBeatParish$State;", true)
  | 9 => ("BeatParish", "imaged", "Z", false)
  | 10 => ("BeatParish", "deeds", "LBeatParish$Deeds;", true)
  | 11 => ("BeatParish", "sights", "LBeatParish$Sights;", true)
  | 12 => ("BeatParish", "packed", "[I", true)
  | _ => ("BeatParish", "gains", "[I", true)
def mf_1 : u_T := fun k => match k with
  | 0 => ("BeatParish$Told", "people", "I", false)
  | 1 => ("BeatParish$Told", "manNames", "[I", true)
  | 2 => ("BeatParish$Told", "fast", "[I", true)
  | 3 => ("BeatParish$Told", "aged", "[I", true)
  | 4 => ("BeatParish$Told", "tied", "[I", true)
  | 5 => ("BeatParish$Told", "works", "I", false)
  | 6 => ("BeatParish$Told", "workNames", "[I", true)
  | 7 => ("BeatParish$Told", "owners", "[I", true)
  | 8 => ("BeatParish$Told", "beats", "[I", true)
  | 9 => ("BeatParish$Told", "bars", "[I", true)
  | 10 => ("BeatParish$Told", "begins", "[I", true)
  | 11 => ("BeatParish$Told", "speedCount", "I", false)
  | 12 => ("BeatParish$Told", "speeds", "[I", true)
  | 13 => ("BeatParish$Told", "spring", "I", false)
  | 14 => ("BeatParish$Told", "wasp", "I", false)
  | 15 => ("BeatParish$Told", "seed", "I", false)
  | 16 => ("BeatParish$Told", "knots", "I", false)
  | 17 => ("BeatParish$Told", "code", "[I", true)
  | 18 => ("BeatParish$Told", "lawFrom", "[I", true)
  | _ => ("BeatParish$Told", "lawTo", "[I", true)
def mf_2 : u_T := fun k => match k with
  | 0 => ("BeatParish$Reader", "tokens", "LBeatParish$Tokens;", true)
  | 1 => ("BeatParish$Reader", "into", "LBeatParish$Told;", false)
  | 2 => ("BeatParish$Reader", "once", "I", false)
  | 3 => ("BeatParish$Reader", "knots", "I", false)
  | 4 => ("BeatParish$Reader", "fault", "I", false)
  | _ => ("BeatParish$Reader", "faultPlace", "I", false)
def mf_3 : u_T := fun k => match k with
  | 0 => ("BeatParish$Tokens", "words", "[I", true)
  | 1 => ("BeatParish$Tokens", "kinds", "[I", true)
  | 2 => ("BeatParish$Tokens", "places", "[I", true)
  | 3 => ("BeatParish$Tokens", "values", "[I", true)
  | 4 => ("BeatParish$Tokens", "count", "I", false)
  | 5 => ("BeatParish$Tokens", "turn", "I", false)
  | 6 => ("BeatParish$Tokens", "kind", "I", false)
  | 7 => ("BeatParish$Tokens", "place", "I", false)
  | _ => ("BeatParish$Tokens", "value", "I", false)
def mf_4 : u_T := fun k => match k with
  | 0 => ("BeatParish$Clock", "told", "LBeatParish$Told;", false)
  | 1 => ("BeatParish$Clock", "instead", "I", false)
  | 2 => ("BeatParish$Clock", "reckoner", "LBeatParish$Reckoner;", true)
  | _ => ("BeatParish$Clock", "had", "[I", true)
def mf_5 : u_T := fun k => match k with
  | 0 => ("BeatParish$Reckoner", "names", "[J", true)
  | 1 => ("BeatParish$Reckoner", "stack", "[J", true)
  | 2 => ("BeatParish$Reckoner", "height", "I", false)
  | _ => ("BeatParish$Reckoner", "wrong", "Z", false)
def mf_6 : u_T := fun k => match k with
  | 0 => ("BeatParish$State", "hour", "I", false)
  | 1 => ("BeatParish$State", "coil", "I", false)
  | 2 => ("BeatParish$State", "shift", "I", false)
  | 3 => ("BeatParish$State", "number", "I", false)
  | 4 => ("BeatParish$State", "here", "I", false)
  | 5 => ("BeatParish$State", "slips", "[I", true)
  | 6 => ("BeatParish$State", "hiccups", "[I", true)
  | 7 => ("BeatParish$State", "left", "[I", true)
  | 8 => ("BeatParish$State", "doneIn", "[I", true)
  | 9 => ("BeatParish$State", "wentOn", "I", false)
  | _ => ("BeatParish$State", "slipped", "I", false)
def mf_7 : u_T := fun k => match k with
  | 0 => ("BeatParish$Deeds", "count", "I", false)
  | 1 => ("BeatParish$Deeds", "kinds", "[I", true)
  | 2 => ("BeatParish$Deeds", "men", "[I", true)
  | _ => ("BeatParish$Deeds", "before", "[I", true)
def mf_8 : u_T := fun k => match k with
  | 0 => ("BeatParish$Sights", "count", "I", false)
  | 1 => ("BeatParish$Sights", "knownBy", "I", false)
  | 2 => ("BeatParish$Sights", "strikes", "[I", true)
  | 3 => ("BeatParish$Sights", "hours", "[I", true)
  | 4 => ("BeatParish$Sights", "works", "[I", true)
  | 5 => ("BeatParish$Sights", "beats", "[I", true)
  | _ => ("BeatParish$Sights", "atLeasts", "I", false)
def mf_9 : u_T := fun k => match k with
  | 0 => ("BeatParishModel", "tape", "[I", true)
  | 1 => ("BeatParishModel", "tapeSize", "I", false)
  | 2 => ("BeatParishModel", "thrown", "I", false)
  | 3 => ("BeatParishModel", "words", "[I", true)
  | 4 => ("BeatParishModel", "fault", "I", false)
  | 5 => ("BeatParishModel", "faultPlace", "I", false)
  | 6 => ("BeatParishModel", "stop", "I", false)
  | 7 => ("BeatParishModel", "next", "I", false)
  | 8 => ("BeatParishModel", "kind", "I", false)
  | 9 => ("BeatParishModel", "which", "I", false)
  | 10 => ("BeatParishModel", "at", "I", false)
  | 11 => ("BeatParishModel", "got", "I", false)
  | 12 => ("BeatParishModel", "people", "I", false)
  | 13 => ("BeatParishModel", "ties", "I", false)
  | 14 => ("BeatParishModel", "works", "I", false)
  | 15 => ("BeatParishModel", "speeds", "I", false)
  | 16 => ("BeatParishModel", "knots", "I", false)
  | 17 => ("BeatParishModel", "peopleRead", "I", false)
  | 18 => ("BeatParishModel", "tiesRead", "I", false)
  | 19 => ("BeatParishModel", "worksRead", "I", false)
  | 20 => ("BeatParishModel", "speedsRead", "I", false)
  | 21 => ("BeatParishModel", "knotsRead", "I", false)
  | 22 => ("BeatParishModel", "onceTold", "[Z", true)
  | 23 => ("BeatParishModel", "once", "[I", true)
  | 24 => ("BeatParishModel", "manName", "[I", true)
  | 25 => ("BeatParishModel", "manFast", "[I", true)
  | 26 => ("BeatParishModel", "manAged", "[I", true)
  | 27 => ("BeatParishModel", "tied", "[I", true)
  | 28 => ("BeatParishModel", "workName", "[I", true)
  | 29 => ("BeatParishModel", "workMan", "[I", true)
  | 30 => ("BeatParishModel", "workBeats", "[I", true)
  | 31 => ("BeatParishModel", "workBar", "[I", true)
  | 32 => ("BeatParishModel", "workHour", "[I", true)
  | 33 => ("BeatParishModel", "speedAt", "[I", true)
  | 34 => ("BeatParishModel", "lawTold", "[Z", true)
  | 35 => ("BeatParishModel", "first", "[I", true)
  | 36 => ("BeatParishModel", "last", "[I", true)
  | 37 => ("BeatParishModel", "knot", "[I", true)
  | 38 => ("BeatParishModel", "part", "[I", true)
  | 39 => ("BeatParishModel", "other", "[I", true)
  | 40 => ("BeatParishModel", "wait", "[I", true)
  | 41 => ("BeatParishModel", "held", "[I", true)
  | 42 => ("BeatParishModel", "waits", "I", false)
  | 43 => ("BeatParishModel", "helds", "I", false)
  | 44 => ("BeatParishModel", "brackets", "I", false)
  | 45 => ("BeatParishModel", "counted", "I", false)
  | 46 => ("BeatParishModel", "wants", "Z", false)
  | 47 => ("BeatParishModel", "mayNot", "Z", false)
  | 48 => ("BeatParishModel", "names", "[J", true)
  | 49 => ("BeatParishModel", "value", "[J", true)
  | 50 => ("BeatParishModel", "isError", "Z", false)
  | 51 => ("BeatParishModel", "rest1", "[I", true)
  | 52 => ("BeatParishModel", "doneIn", "[I", true)
  | 53 => ("BeatParishModel", "slips", "[I", true)
  | 54 => ("BeatParishModel", "hiccups", "[I", true)
  | 55 => ("BeatParishModel", "here", "[Z", true)
  | 56 => ("BeatParishModel", "coil", "[I", true)
  | 57 => ("BeatParishModel", "shifted", "[I", true)
  | 58 => ("BeatParishModel", "hour", "[I", true)
  | 59 => ("BeatParishModel", "hadHiccups", "[I", true)
  | 60 => ("BeatParishModel", "drawn", "J", false)
  | 61 => ("BeatParishModel", "worked", "I", false)
  | 62 => ("BeatParishModel", "slipped", "I", false)
  | 63 => ("BeatParishModel", "draws", "Z", false)
  | 64 => ("BeatParishModel", "noWasp", "Z", false)
  | 65 => ("BeatParishModel", "noHiccups", "Z", false)
  | 66 => ("BeatParishModel", "paced", "I", false)
  | 67 => ("BeatParishModel", "otherWork", "I", false)
  | 68 => ("BeatParishModel", "otherHour", "I", false)
  | 69 => ("BeatParishModel", "daysBy", "[I", true)
  | 70 => ("BeatParishModel", "lastBy", "[I", true)
  | 71 => ("BeatParishModel", "seenMany", "I", false)
  | 72 => ("BeatParishModel", "knownTold", "I", false)
  | 73 => ("BeatParishModel", "seen1", "[I", true)
  | 74 => ("BeatParishModel", "counts", "[Z", true)
  | 75 => ("BeatParishModel", "undos", "I", false)
  | 76 => ("BeatParishModel", "undo", "[I", true)
  | 77 => ("BeatParishModel", "hasImage", "Z", false)
  | 78 => ("BeatParishModel", "image", "[I", true)
  | 79 => ("BeatParishModel", "imageRest", "[I", true)
  | _ => ("BeatParishModel", "imageDrawn", "J", false)
abbrev mj_cl : List vw_C := [("BeatParish", mf_0, 14), ("BeatParish$Told", mf_1, 20), ("BeatParish$Reader", mf_2, 6), ("BeatParish$Tokens", mf_3, 9), ("BeatParish$Clock", mf_4, 4), ("BeatParish$Reckoner", mf_5, 4), ("BeatParish$State", mf_6, 11), ("BeatParish$Deeds", mf_7, 4), ("BeatParish$Sights", mf_8, 7), ("BeatParishModel", mf_9, 81)]
def mj_ft : List (List Nat) := [[2, 0, 2, 2, 2, 2, 2, 2, 2, 3, 2, 2, 2, 2], [0, 2, 2, 2, 2, 0, 2, 2, 2, 2, 2, 0, 2, 0, 0, 0, 0, 2, 2, 2], [2, 2, 0, 0, 0, 0], [2, 2, 2, 2, 0, 0, 0, 0, 0], [2, 0, 2, 2], [2, 2, 0, 3], [0, 0, 0, 0, 0, 2, 2, 2, 2, 0, 0], [0, 2, 2, 2], [0, 0, 2, 2, 2, 2, 0], [2, 0, 0, 2, 0, 0, 0, 0, 0, 0, 0, 0, 0, 0, 0, 0, 0, 0, 0, 0, 0, 0, 2, 2, 2, 2, 2, 2, 2, 2, 2, 2, 2, 2, 2, 2, 2, 2, 2, 2, 2, 2, 0, 0, 0, 0, 3, 3, 2, 2, 3, 2, 2, 2, 2, 2, 2, 2, 2, 2, 1, 0, 0, 3, 3, 3, 0, 0, 0, 2, 2, 0, 0, 2, 2, 0, 2, 3, 2, 2, 1]]
/-- the type of a field: 0 int, 1 long, 2 reference, 3 boolean -/
def mj_ty (c i : Nat) : Nat := (mj_ft.getD c []).getD i 0
def mj_dv (c i : Nat) : Value := match mj_ty c i with
  | 1 => .long 0
  | 2 => .null
  | _ => .int 0
def mj_cn : List String := ["BeatParish", "BeatParish$Told", "BeatParish$Reader", "BeatParish$Tokens", "BeatParish$Clock", "BeatParish$Reckoner", "BeatParish$State", "BeatParish$Deeds", "BeatParish$Sights", "BeatParishModel", "BeatParishLaw", "java/lang/Math", "java/lang/Integer"]
/-- a method: name, locals, what it returns, its class; places of words in lw_tbl: static or instance, selects, initialized -/
def mj_mt_0 : List (MethodName × Nat × Option FieldType × Nat × Nat × Nat × Nat) := [(⟨"BeatParish", "<init>", "()V"⟩, 1, none, 0, 142, 0, 118),
  (⟨"BeatParish", "feed", "(IIIII)I"⟩, 6, (some .int), 0, 602, 603, 118),
  (⟨"BeatParish", "feedFour", "(I)V"⟩, 3, none, 0, 607, 1, 118),
  (⟨"BeatParish", "text", "(I)I"⟩, 4, (some .int), 0, 611, 612, 118),
  (⟨"BeatParish", "fault", "(I)I"⟩, 2, (some .int), 0, 809, 810, 118),
  (⟨"BeatParish", "named", "(II)I"⟩, 3, (some .int), 0, 813, 814, 118),
  (⟨"BeatParish", "man", "(II)I"⟩, 3, (some .int), 0, 1224, 1225, 118),
  (⟨"BeatParish", "doneOf", "(I)I"⟩, 4, (some .int), 0, 1295, 47, 118),
  (⟨"BeatParish", "work", "(II)I"⟩, 3, (some .int), 0, 818, 819, 118),
  (⟨"BeatParish", "tie", "(II)I"⟩, 3, (some .int), 0, 826, 827, 118),
  (⟨"BeatParish", "beat", "()I"⟩, 1, (some .int), 0, 835, 836, 118),
  (⟨"BeatParish", "law", "(II)J"⟩, 5, (some .long), 0, 852, 853, 118),
  (⟨"BeatParish", "shift", "(I)Z"⟩, 2, (some .boolean), 0, 895, 896, 118),
  (⟨"BeatParish", "wind", "(I)I"⟩, 2, (some .int), 0, 909, 910, 118),
  (⟨"BeatParish", "hiccup", "(II)Z"⟩, 3, (some .boolean), 0, 913, 914, 118),
  (⟨"BeatParish", "aunt", "(IZ)Z"⟩, 3, (some .boolean), 0, 922, 923, 118),
  (⟨"BeatParish", "go", "(I)I"⟩, 3, (some .int), 0, 930, 931, 118),
  (⟨"BeatParish", "ahead", "(III)I"⟩, 4, (some .int), 0, 990, 991, 118),
  (⟨"BeatParish", "tryHours", "(II)V"⟩, 4, none, 0, 1000, 42, 118),
  (⟨"BeatParish", "done", "(I)I"⟩, 3, (some .int), 0, 1013, 1014, 118),
  (⟨"BeatParish", "stops", "()I"⟩, 2, (some .int), 0, 1018, 1019, 118),
  (⟨"BeatParish", "pace", "(II)I"⟩, 9, (some .int), 0, 1022, 1023, 118),
  (⟨"BeatParish", "tryPace", "(II)V"⟩, 4, none, 0, 1027, 43, 118),
  (⟨"BeatParish", "bars", "(I)I"⟩, 6, (some .int), 0, 1034, 1035, 118),
  (⟨"BeatParish", "meet", "(IIII)I"⟩, 8, (some .int), 0, 1041, 1042, 118),
  (⟨"BeatParish", "cut", "(II)I"⟩, 7, (some .int), 0, 1045, 1046, 118),
  (⟨"BeatParish", "crowd", "(I)I"⟩, 2, (some .int), 0, 1054, 1055, 118),
  (⟨"BeatParish", "off", "(III)I"⟩, 8, (some .int), 0, 1059, 1060, 118),
  (⟨"BeatParish", "rests", "(II)I"⟩, 5, (some .int), 0, 1067, 1068, 118),
  (⟨"BeatParish", "rest", "(III)I"⟩, 6, (some .int), 0, 1081, 1082, 118),
  (⟨"BeatParish", "isRest", "(IIII)Z"⟩, 4, (some .boolean), 0, 1071, 0, 118),
  (⟨"BeatParish", "loss", "(III)I"⟩, 7, (some .int), 0, 1074, 0, 118),
  (⟨"BeatParish", "reaches", "(I)I"⟩, 2, (some .int), 0, 1085, 1086, 118),
  (⟨"BeatParish", "slowest", "()I"⟩, 3, (some .int), 0, 1089, 1090, 118),
  (⟨"BeatParish", "pack", "(I)I"⟩, 4, (some .int), 0, 1093, 1094, 118),
  (⟨"BeatParish", "fewestDays", "(II)I"⟩, 8, (some .int), 0, 1098, 44, 118),
  (⟨"BeatParish", "canon", "(II)I"⟩, 5, (some .int), 0, 1103, 1104, 118),
  (⟨"BeatParish", "strange", "(II)I"⟩, 7, (some .int), 0, 1107, 1108, 118),
  (⟨"BeatParish", "firstSlip", "(II)I"⟩, 4, (some .int), 0, 1111, 1112, 118),
  (⟨"BeatParish", "goOn", "()I"⟩, 1, (some .int), 0, 1119, 1120, 118),
  (⟨"BeatParish", "startBy", "(II)I"⟩, 6, (some .int), 0, 1124, 1125, 118),
  (⟨"BeatParish", "idle", "()I"⟩, 3, (some .int), 0, 1130, 1131, 118),
  (⟨"BeatParish", "see", "(IIIZ)I"⟩, 5, (some .int), 0, 1134, 1135, 118),
  (⟨"BeatParish", "strike", "(I)I"⟩, 2, (some .int), 0, 1144, 1145, 118),
  (⟨"BeatParish", "known", "(I)Z"⟩, 2, (some .boolean), 0, 1152, 1153, 118),
  (⟨"BeatParish", "shifts", "()I"⟩, 5, (some .int), 0, 1156, 1157, 118),
  (⟨"BeatParish", "isShiftedBy", "(III)Z"⟩, 5, (some .boolean), 0, 1176, 45, 118),
  (⟨"BeatParish", "chance", "(III)I"⟩, 7, (some .int), 0, 1183, 1184, 118),
  (⟨"BeatParish", "tried", "(III)I"⟩, 4, (some .int), 0, 1187, 1188, 118),
  (⟨"BeatParish", "undo", "()I"⟩, 1, (some .int), 0, 1192, 1193, 118)]
def mj_mt_1 : List (MethodName × Nat × Option FieldType × Nat × Nat × Nat × Nat) := [(⟨"BeatParish", "keep", "()I"⟩, 1, (some .int), 0, 1201, 1202, 118),
  (⟨"BeatParish", "back", "()I"⟩, 1, (some .int), 0, 1205, 1206, 118),
  (⟨"BeatParish", "count", "(I)I"⟩, 2, (some .int), 0, 1209, 1210, 118),
  (⟨"BeatParish", "isHere", "(I)Z"⟩, 2, (some .boolean), 0, 918, 37, 118),
  (⟨"BeatParish", "isWithin", "(III)Z"⟩, 3, (some .boolean), 0, 696, 0, 118),
  (⟨"BeatParish", "has", "(II)Z"⟩, 2, (some .boolean), 0, 723, 0, 118),
  (⟨"BeatParish", "gcd", "(II)I"⟩, 6, (some .int), 0, 1038, 0, 118),
  (⟨"BeatParish", "at", "([II)I"⟩, 2, (some .int), 0, 555, 0, 118),
  (⟨"BeatParish", "put", "([III)V"⟩, 3, none, 0, 332, 0, 118),
  (⟨"BeatParish", "fill", "([II)V"⟩, 3, none, 0, 158, 0, 118),
  (⟨"BeatParish", "copyRow", "([I[I)V"⟩, 3, none, 0, 987, 0, 118),
  (⟨"BeatParish", "find", "([III)I"⟩, 4, (some .int), 0, 632, 0, 118),
  (⟨"BeatParish$Told", "<init>", "()V"⟩, 1, none, 1, 150, 0, 119),
  (⟨"BeatParish$Told", "clear", "()V"⟩, 1, none, 1, 155, 0, 119),
  (⟨"BeatParish$Told", "isMan", "(I)Z"⟩, 2, (some .boolean), 1, 830, 831, 119),
  (⟨"BeatParish$Told", "isWork", "(I)Z"⟩, 2, (some .boolean), 1, 822, 823, 119),
  (⟨"BeatParish$Told", "areTied", "(II)Z"⟩, 3, (some .boolean), 1, 718, 719, 119),
  (⟨"BeatParish$Told", "addTie", "(II)V"⟩, 3, none, 1, 726, 727, 119),
  (⟨"BeatParish$Told", "tieCount", "()I"⟩, 3, (some .int), 1, 704, 705, 119),
  (⟨"BeatParish$Told", "addKnot", "(I)V"⟩, 2, none, 1, 793, 794, 119),
  (⟨"BeatParish$Told", "worksOf", "(I)I"⟩, 4, (some .int), 1, 1063, 1064, 119),
  (⟨"BeatParish$Told", "reach", "(II)I"⟩, 6, (some .int), 1, 1050, 1051, 119),
  (⟨"BeatParish$Reader", "<init>", "(LBeatParish$Told;)V"⟩, 2, none, 2, 273, 0, 120),
  (⟨"BeatParish$Reader", "read", "([IILBeatParish$Told;)I"⟩, 5, (some .int), 2, 615, 616, 120),
  (⟨"BeatParish$Reader", "refuse", "(I)V"⟩, 2, none, 2, 675, 9, 120),
  (⟨"BeatParish$Reader", "sees", "(I)Z"⟩, 2, (some .boolean), 2, 684, 11, 120),
  (⟨"BeatParish$Reader", "take", "(I)V"⟩, 2, none, 2, 689, 12, 120),
  (⟨"BeatParish$Reader", "readLine", "()V"⟩, 1, none, 2, 663, 6, 120),
  (⟨"BeatParish$Reader", "takeUnless", "(II)V"⟩, 3, none, 2, 671, 8, 120),
  (⟨"BeatParish$Reader", "readMan", "()V"⟩, 4, none, 2, 667, 7, 120),
  (⟨"BeatParish$Reader", "readTie", "()V"⟩, 3, none, 2, 701, 14, 120),
  (⟨"BeatParish$Reader", "readWork", "()V"⟩, 6, none, 2, 732, 16, 120),
  (⟨"BeatParish$Reader", "readSpeed", "()V"⟩, 2, none, 2, 736, 17, 120),
  (⟨"BeatParish$Reader", "readOnce", "(I)I"⟩, 2, (some .int), 2, 740, 18, 120),
  (⟨"BeatParish$Reader", "takeOnce", "()V"⟩, 1, none, 2, 744, 19, 120),
  (⟨"BeatParish$Reader", "readLaw", "()V"⟩, 2, none, 2, 750, 20, 120),
  (⟨"BeatParish$Reader", "readNumber", "(II)I"⟩, 4, (some .int), 2, 693, 13, 120),
  (⟨"BeatParish$Reader", "readNewName", "([II)I"⟩, 4, (some .int), 2, 680, 10, 120),
  (⟨"BeatParish$Reader", "findPerson", "()I"⟩, 2, (some .int), 2, 715, 15, 120),
  (⟨"BeatParish$Reader", "takeKnot", "()V"⟩, 1, none, 2, 766, 24, 120),
  (⟨"BeatParish$Reader", "add", "(I)V"⟩, 2, none, 2, 790, 30, 120),
  (⟨"BeatParish$Reader", "readEither", "(I)V"⟩, 3, none, 2, 754, 21, 120),
  (⟨"BeatParish$Reader", "readBoth", "(I)V"⟩, 3, none, 2, 758, 22, 120),
  (⟨"BeatParish$Reader", "readNot", "(I)V"⟩, 4, none, 2, 762, 23, 120),
  (⟨"BeatParish$Reader", "readComparison", "(I)V"⟩, 3, none, 2, 770, 25, 120),
  (⟨"BeatParish$Reader", "readSum", "(I)V"⟩, 4, none, 2, 774, 26, 120),
  (⟨"BeatParish$Reader", "readProduct", "(I)V"⟩, 4, none, 2, 778, 27, 120),
  (⟨"BeatParish$Reader", "readPart", "(I)V"⟩, 4, none, 2, 782, 28, 120),
  (⟨"BeatParish$Reader", "readGroup", "(I)V"⟩, 2, none, 2, 786, 29, 120),
  (⟨"BeatParish$Tokens", "<init>", "()V"⟩, 6, none, 3, 279, 0, 121)]
def mj_mt_2 : List (MethodName × Nat × Option FieldType × Nat × Nat × Nat × Nat) := [(⟨"BeatParish$Tokens", "letter", "(II)I"⟩, 2, (some .int), 3, 335, 0, 121),
  (⟨"BeatParish$Tokens", "split", "([II)V"⟩, 6, none, 3, 620, 621, 121),
  (⟨"BeatParish$Tokens", "step", "()V"⟩, 1, none, 3, 658, 659, 121),
  (⟨"BeatParish$Tokens", "add", "(III)V"⟩, 4, none, 3, 637, 3, 121),
  (⟨"BeatParish$Tokens", "isLetter", "(I)Z"⟩, 1, (some .boolean), 3, 625, 0, 121),
  (⟨"BeatParish$Tokens", "isDigit", "(I)Z"⟩, 1, (some .boolean), 3, 640, 0, 121),
  (⟨"BeatParish$Tokens", "cutWord", "([III)I"⟩, 7, (some .int), 3, 629, 2, 121),
  (⟨"BeatParish$Tokens", "cutNumber", "([III)I"⟩, 6, (some .int), 3, 644, 4, 121),
  (⟨"BeatParish$Tokens", "cutSign", "(III)I"⟩, 5, (some .int), 3, 652, 5, 121),
  (⟨"BeatParish$Tokens", "signKind", "(II)I"⟩, 2, (some .int), 3, 655, 0, 121),
  (⟨"BeatParish$Clock", "<init>", "(LBeatParish$Told;)V"⟩, 2, none, 4, 393, 0, 126),
  (⟨"BeatParish$Clock", "turnTo", "(LBeatParish$Told;)V"⟩, 2, none, 4, 797, 798, 126),
  (⟨"BeatParish$Clock", "speedOf", "(I)I"⟩, 2, (some .int), 4, 844, 31, 126),
  (⟨"BeatParish$Clock", "plainBeat", "(LBeatParish$State;)I"⟩, 2, (some .int), 4, 839, 840, 126),
  (⟨"BeatParish$Clock", "beatOf", "(LBeatParish$State;I)I"⟩, 4, (some .int), 4, 938, 939, 126),
  (⟨"BeatParish$Clock", "isWaspIn", "(LBeatParish$State;I)Z"⟩, 3, (some .boolean), 4, 944, 38, 126),
  (⟨"BeatParish$Clock", "pass", "(LBeatParish$State;I)V"⟩, 5, none, 4, 934, 935, 126),
  (⟨"BeatParish$Clock", "goingOn", "(LBeatParish$State;I)I"⟩, 6, (some .int), 4, 951, 952, 126),
  (⟨"BeatParish$Clock", "goOnWith", "(LBeatParish$State;II)V"⟩, 6, none, 4, 966, 39, 126),
  (⟨"BeatParish$Clock", "spread", "(LBeatParish$State;I)V"⟩, 5, none, 4, 984, 41, 126),
  (⟨"BeatParish$Clock", "name", "(LBeatParish$State;III)V"⟩, 5, none, 4, 857, 858, 126),
  (⟨"BeatParish$Clock", "lawWithin", "(IIII)I"⟩, 7, (some .int), 4, 971, 40, 126),
  (⟨"BeatParish$Reckoner", "<init>", "()V"⟩, 1, none, 5, 399, 0, 127),
  (⟨"BeatParish$Reckoner", "set", "(IJ)V"⟩, 4, none, 5, 861, 862, 127),
  (⟨"BeatParish$Reckoner", "value", "(LBeatParish$Told;I)J"⟩, 6, (some .long), 5, 865, 866, 127),
  (⟨"BeatParish$Reckoner", "push", "(J)V"⟩, 3, none, 5, 871, 32, 127),
  (⟨"BeatParish$Reckoner", "nameValue", "(I)J"⟩, 2, (some .long), 5, 877, 33, 127),
  (⟨"BeatParish$Reckoner", "pop", "()J"⟩, 1, (some .long), 5, 885, 35, 127),
  (⟨"BeatParish$Reckoner", "join", "(I)V"⟩, 6, none, 5, 881, 34, 127),
  (⟨"BeatParish$Reckoner", "holds", "(IJJ)Z"⟩, 5, (some .boolean), 5, 891, 0, 127),
  (⟨"BeatParish$State", "<init>", "()V"⟩, 1, none, 6, 434, 0, 128),
  (⟨"BeatParish$State", "begin", "(LBeatParish$Told;)V"⟩, 3, none, 6, 550, 551, 128),
  (⟨"BeatParish$State", "copy", "(LBeatParish$State;)V"⟩, 2, none, 6, 994, 995, 128),
  (⟨"BeatParish$State", "isDone", "(I)Z"⟩, 2, (some .boolean), 6, 955, 956, 128),
  (⟨"BeatParish$State", "isFree", "(I)Z"⟩, 2, (some .boolean), 6, 959, 960, 128),
  (⟨"BeatParish$State", "sendAway", "(I)V"⟩, 2, none, 6, 926, 927, 128),
  (⟨"BeatParish$State", "doneBits", "(I)I"⟩, 4, (some .int), 6, 1007, 1008, 128),
  (⟨"BeatParish$State", "doneCount", "(I)I"⟩, 2, (some .int), 6, 1003, 1004, 128),
  (⟨"BeatParish$State", "allSlips", "()I"⟩, 3, (some .int), 6, 1030, 1031, 128),
  (⟨"BeatParish$State", "hiccupping", "()I"⟩, 3, (some .int), 6, 1214, 1215, 128),
  (⟨"BeatParish$Deeds", "<init>", "()V"⟩, 1, none, 7, 502, 0, 129),
  (⟨"BeatParish$Deeds", "forget", "()V"⟩, 1, none, 7, 801, 802, 129),
  (⟨"BeatParish$Deeds", "add", "(III)V"⟩, 4, none, 7, 899, 900, 129),
  (⟨"BeatParish$Deeds", "dropOldest", "()V"⟩, 2, none, 7, 904, 36, 129),
  (⟨"BeatParish$Deeds", "takeBack", "(LBeatParish$State;)I"⟩, 4, (some .int), 7, 1196, 1197, 129),
  (⟨"BeatParish$Sights", "<init>", "()V"⟩, 1, none, 8, 522, 0, 130),
  (⟨"BeatParish$Sights", "forget", "()V"⟩, 1, none, 8, 805, 806, 130),
  (⟨"BeatParish$Sights", "knownCount", "()I"⟩, 1, (some .int), 8, 1164, 1165, 130),
  (⟨"BeatParish$Sights", "add", "(IIIZ)I"⟩, 5, (some .int), 8, 1139, 1140, 130),
  (⟨"BeatParish$Sights", "addStrike", "(I)I"⟩, 2, (some .int), 8, 1148, 1149, 130)]
def mj_mt_3 : List (MethodName × Nat × Option FieldType × Nat × Nat × Nat × Nat) := [(⟨"BeatParish$Sights", "standing", "()I"⟩, 5, (some .int), 8, 1160, 1161, 130),
  (⟨"BeatParish$Sights", "lastHour", "(I)I"⟩, 4, (some .int), 8, 1170, 1171, 130),
  (⟨"BeatParish$Sights", "fit", "(LBeatParish$State;I)Z"⟩, 5, (some .boolean), 8, 1179, 1180, 130),
  (⟨"BeatParishModel", "<init>", "()V"⟩, 1, none, 9, 1316, 0, 131),
  (⟨"BeatParishModel", "thrown", "()I"⟩, 1, (some .int), 9, 1588, 1589, 131),
  (⟨"BeatParishModel", "feed", "(IIIII)I"⟩, 8, (some .int), 9, 1592, 1593, 131),
  (⟨"BeatParishModel", "isIn", "(III)Z"⟩, 3, (some .boolean), 9, 1648, 0, 131),
  (⟨"BeatParishModel", "isOf", "(II)Z"⟩, 2, (some .boolean), 9, 1659, 0, 131),
  (⟨"BeatParishModel", "wrong", "(I)Z"⟩, 2, (some .boolean), 9, 1630, 60, 131),
  (⟨"BeatParishModel", "wordAt", "(II)I"⟩, 8, (some .int), 9, 1609, 55, 131),
  (⟨"BeatParishModel", "isSmall", "(I)Z"⟩, 2, (some .boolean), 9, 1605, 54, 131),
  (⟨"BeatParishModel", "isDigit", "(I)Z"⟩, 2, (some .boolean), 9, 1617, 57, 131),
  (⟨"BeatParishModel", "token", "()V"⟩, 1, none, 9, 1601, 53, 131),
  (⟨"BeatParishModel", "signToken", "()V"⟩, 4, none, 9, 1622, 58, 131),
  (⟨"BeatParishModel", "packed", "(II)I"⟩, 5, (some .int), 9, 1613, 56, 131),
  (⟨"BeatParishModel", "isKey", "(I)Z"⟩, 2, (some .boolean), 9, 1691, 73, 131),
  (⟨"BeatParishModel", "isSign", "(I)Z"⟩, 2, (some .boolean), 9, 1679, 70, 131),
  (⟨"BeatParishModel", "number", "(II)Z"⟩, 3, (some .boolean), 9, 1645, 63, 131),
  (⟨"BeatParishModel", "plain", "()V"⟩, 2, none, 9, 1321, 48, 131),
  (⟨"BeatParishModel", "copies", "([II)V"⟩, 3, none, 9, 1328, 0, 131),
  (⟨"BeatParishModel", "keepText", "()V"⟩, 2, none, 9, 1325, 49, 131),
  (⟨"BeatParishModel", "find", "([IIII)I"⟩, 5, (some .int), 9, 1641, 0, 131),
  (⟨"BeatParishModel", "newName", "([III)Z"⟩, 4, (some .boolean), 9, 1638, 62, 131),
  (⟨"BeatParishModel", "manThere", "()Z"⟩, 2, (some .boolean), 9, 1656, 65, 131),
  (⟨"BeatParishModel", "manLine", "()Z"⟩, 2, (some .boolean), 9, 1634, 61, 131),
  (⟨"BeatParishModel", "tieLine", "()Z"⟩, 4, (some .boolean), 9, 1652, 64, 131),
  (⟨"BeatParishModel", "workLine", "()Z"⟩, 2, (some .boolean), 9, 1663, 66, 131),
  (⟨"BeatParishModel", "speedLine", "()Z"⟩, 1, (some .boolean), 9, 1667, 67, 131),
  (⟨"BeatParishModel", "onceLine", "(II)Z"⟩, 3, (some .boolean), 9, 1671, 68, 131),
  (⟨"BeatParishModel", "lineRead", "()Z"⟩, 3, (some .boolean), 9, 1626, 59, 131),
  (⟨"BeatParishModel", "text", "(I)I"⟩, 3, (some .int), 9, 1596, 1597, 131),
  (⟨"BeatParishModel", "fault", "(I)I"⟩, 2, (some .int), 9, 1721, 1722, 131),
  (⟨"BeatParishModel", "named", "(II)I"⟩, 3, (some .int), 9, 1725, 1726, 131),
  (⟨"BeatParishModel", "rank", "(I)I"⟩, 1, (some .int), 9, 1714, 0, 131),
  (⟨"BeatParishModel", "grown", "(III)V"⟩, 4, none, 9, 1703, 76, 131),
  (⟨"BeatParishModel", "dropHeld", "()I"⟩, 1, (some .int), 9, 1718, 79, 131),
  (⟨"BeatParishModel", "bind", "(I)V"⟩, 5, none, 9, 1711, 78, 131),
  (⟨"BeatParishModel", "isCounted", "()Z"⟩, 1, (some .boolean), 9, 1695, 74, 131),
  (⟨"BeatParishModel", "waitsFor", "(I)V"⟩, 2, none, 9, 1687, 72, 131),
  (⟨"BeatParishModel", "nameMet", "()I"⟩, 1, (some .int), 9, 1699, 75, 131),
  (⟨"BeatParishModel", "leafRead", "()Z"⟩, 2, (some .boolean), 9, 1683, 71, 131),
  (⟨"BeatParishModel", "signs", "()Z"⟩, 2, (some .boolean), 9, 1707, 77, 131),
  (⟨"BeatParishModel", "sumRead", "()Z"⟩, 1, (some .boolean), 9, 1675, 69, 131),
  (⟨"BeatParishModel", "bounded", "(J)J"⟩, 3, (some .long), 9, 1790, 89, 131),
  (⟨"BeatParishModel", "compares", "(IJJ)Z"⟩, 5, (some .boolean), 9, 1799, 0, 131),
  (⟨"BeatParishModel", "times", "(JJ)J"⟩, 6, (some .long), 9, 1796, 90, 131),
  (⟨"BeatParishModel", "valueOf", "(I)J"⟩, 6, (some .long), 9, 1786, 88, 131),
  (⟨"BeatParishModel", "begin", "()V"⟩, 1, none, 9, 1332, 50, 131),
  (⟨"BeatParishModel", "atFirst", "(I)V"⟩, 3, none, 9, 1336, 51, 131),
  (⟨"BeatParishModel", "plainTried", "()V"⟩, 1, none, 9, 1340, 52, 131)]
def mj_mt_4 : List (MethodName × Nat × Option FieldType × Nat × Nat × Nat × Nat) := [(⟨"BeatParishModel", "layTried", "()V"⟩, 2, none, 9, 1879, 103, 131),
  (⟨"BeatParishModel", "isMan", "(I)Z"⟩, 2, (some .boolean), 9, 1734, 80, 131),
  (⟨"BeatParishModel", "isWork", "(I)Z"⟩, 2, (some .boolean), 9, 1750, 83, 131),
  (⟨"BeatParishModel", "within", "(III)I"⟩, 3, (some .int), 9, 1769, 0, 131),
  (⟨"BeatParishModel", "speedOf", "(I)I"⟩, 2, (some .int), 9, 1766, 85, 131),
  (⟨"BeatParishModel", "beatOf", "(IZ)I"⟩, 4, (some .int), 9, 1762, 84, 131),
  (⟨"BeatParishModel", "layNames", "(IIII)V"⟩, 5, none, 9, 1778, 86, 131),
  (⟨"BeatParishModel", "lawOf", "(I)J"⟩, 3, (some .long), 9, 1782, 87, 131),
  (⟨"BeatParishModel", "boundLaw", "(IIII)I"⟩, 7, (some .int), 9, 1859, 99, 131),
  (⟨"BeatParishModel", "slipsBy", "(III)I"⟩, 5, (some .int), 9, 1855, 98, 131),
  (⟨"BeatParishModel", "hushOf", "(III)I"⟩, 4, (some .int), 9, 1867, 101, 131),
  (⟨"BeatParishModel", "wearOf", "(II)I"⟩, 3, (some .int), 9, 1871, 102, 131),
  (⟨"BeatParishModel", "number1", "(I)I"⟩, 2, (some .int), 9, 1839, 95, 131),
  (⟨"BeatParishModel", "isWasp", "(I)Z"⟩, 2, (some .boolean), 9, 1835, 94, 131),
  (⟨"BeatParishModel", "isOn", "(II)Z"⟩, 5, (some .boolean), 9, 1847, 96, 131),
  (⟨"BeatParishModel", "works1", "(III)V"⟩, 7, none, 9, 1851, 97, 131),
  (⟨"BeatParishModel", "spreads", "(II)V"⟩, 5, none, 9, 1863, 100, 131),
  (⟨"BeatParishModel", "hourGoes", "(I)V"⟩, 5, none, 9, 1831, 93, 131),
  (⟨"BeatParishModel", "goMany", "(I)V"⟩, 3, none, 9, 1883, 104, 131),
  (⟨"BeatParishModel", "doneAll", "(I)I"⟩, 4, (some .int), 9, 1887, 105, 131),
  (⟨"BeatParishModel", "slipsAll", "(I)I"⟩, 4, (some .int), 9, 1903, 106, 131),
  (⟨"BeatParishModel", "fails", "(I)I"⟩, 2, (some .int), 9, 1738, 81, 131),
  (⟨"BeatParishModel", "doneOf", "(I)I"⟩, 4, (some .int), 9, 1742, 82, 131),
  (⟨"BeatParishModel", "man", "(II)I"⟩, 3, (some .int), 9, 1729, 1730, 131),
  (⟨"BeatParishModel", "work", "(II)I"⟩, 3, (some .int), 9, 1745, 1746, 131),
  (⟨"BeatParishModel", "tie", "(II)I"⟩, 3, (some .int), 9, 1753, 1754, 131),
  (⟨"BeatParishModel", "beat", "()I"⟩, 1, (some .int), 9, 1757, 1758, 131),
  (⟨"BeatParishModel", "law", "(II)J"⟩, 5, (some .long), 9, 1772, 1773, 131),
  (⟨"BeatParishModel", "shift", "(I)Z"⟩, 2, (some .boolean), 9, 1802, 1803, 131),
  (⟨"BeatParishModel", "wind", "(I)I"⟩, 2, (some .int), 9, 1814, 1815, 131),
  (⟨"BeatParishModel", "hiccup", "(II)Z"⟩, 3, (some .boolean), 9, 1818, 1819, 131),
  (⟨"BeatParishModel", "aunt", "(IZ)Z"⟩, 3, (some .boolean), 9, 1822, 1823, 131),
  (⟨"BeatParishModel", "go", "(I)I"⟩, 3, (some .int), 9, 1826, 1827, 131),
  (⟨"BeatParishModel", "ahead", "(III)I"⟩, 4, (some .int), 9, 1874, 1875, 131),
  (⟨"BeatParishModel", "done", "(I)I"⟩, 3, (some .int), 9, 1890, 1891, 131),
  (⟨"BeatParishModel", "stops", "()I"⟩, 2, (some .int), 9, 1894, 1895, 131),
  (⟨"BeatParishModel", "pace", "(II)I"⟩, 9, (some .int), 9, 1898, 1899, 131),
  (⟨"BeatParishModel", "common", "(II)I"⟩, 5, (some .int), 9, 1910, 0, 131),
  (⟨"BeatParishModel", "bars", "(I)I"⟩, 4, (some .int), 9, 1906, 1907, 131),
  (⟨"BeatParishModel", "meet", "(IIII)I"⟩, 7, (some .int), 9, 1913, 1914, 131),
  (⟨"BeatParishModel", "manyOf", "(I)I"⟩, 3, (some .int), 9, 1925, 0, 131),
  (⟨"BeatParishModel", "hereBits", "()I"⟩, 3, (some .int), 9, 1922, 107, 131),
  (⟨"BeatParishModel", "comesTo", "(II)I"⟩, 7, (some .int), 9, 1929, 108, 131),
  (⟨"BeatParishModel", "cut", "(II)I"⟩, 6, (some .int), 9, 1917, 1918, 131),
  (⟨"BeatParishModel", "reaches", "(I)I"⟩, 2, (some .int), 9, 1932, 1933, 131),
  (⟨"BeatParishModel", "pack", "(I)I"⟩, 9, (some .int), 9, 1936, 1937, 131),
  (⟨"BeatParishModel", "canon", "(II)I"⟩, 4, (some .int), 9, 1940, 1941, 131),
  (⟨"BeatParishModel", "crowd", "(I)I"⟩, 4, (some .int), 9, 1944, 1945, 131),
  (⟨"BeatParishModel", "off", "(III)I"⟩, 7, (some .int), 9, 1948, 1949, 131),
  (⟨"BeatParishModel", "loses", "(III)I"⟩, 10, (some .int), 9, 1965, 111, 131)]
def mj_mt_5 : List (MethodName × Nat × Option FieldType × Nat × Nat × Nat × Nat) := [(⟨"BeatParishModel", "restAt", "(III)I"⟩, 8, (some .int), 9, 1961, 110, 131),
  (⟨"BeatParishModel", "areTwo", "(II)Z"⟩, 3, (some .boolean), 9, 1957, 109, 131),
  (⟨"BeatParishModel", "rests", "(II)I"⟩, 3, (some .int), 9, 1952, 1953, 131),
  (⟨"BeatParishModel", "rest", "(III)I"⟩, 4, (some .int), 9, 1968, 1969, 131),
  (⟨"BeatParishModel", "slowest", "()I"⟩, 3, (some .int), 9, 1972, 1973, 131),
  (⟨"BeatParishModel", "strange", "(II)I"⟩, 7, (some .int), 9, 1976, 1977, 131),
  (⟨"BeatParishModel", "firstSlip", "(II)I"⟩, 5, (some .int), 9, 1980, 1981, 131),
  (⟨"BeatParishModel", "startBy", "(II)I"⟩, 4, (some .int), 9, 1984, 1985, 131),
  (⟨"BeatParishModel", "idle", "()I"⟩, 3, (some .int), 9, 1988, 1989, 131),
  (⟨"BeatParishModel", "goOn", "()I"⟩, 3, (some .int), 9, 1992, 1993, 131),
  (⟨"BeatParishModel", "noted", "(IIII)I"⟩, 5, (some .int), 9, 2001, 112, 131),
  (⟨"BeatParishModel", "see", "(IIIZ)I"⟩, 5, (some .int), 9, 1996, 1997, 131),
  (⟨"BeatParishModel", "strike", "(I)I"⟩, 2, (some .int), 9, 2004, 2005, 131),
  (⟨"BeatParishModel", "known", "(I)Z"⟩, 2, (some .boolean), 9, 2008, 2009, 131),
  (⟨"BeatParishModel", "knownBy", "()I"⟩, 1, (some .int), 9, 2017, 113, 131),
  (⟨"BeatParishModel", "isSo", "(I)Z"⟩, 4, (some .boolean), 9, 2025, 115, 131),
  (⟨"BeatParishModel", "fits", "(I)Z"⟩, 3, (some .boolean), 9, 2021, 114, 131),
  (⟨"BeatParishModel", "shifts", "()I"⟩, 3, (some .int), 9, 2012, 2013, 131),
  (⟨"BeatParishModel", "chance", "(III)I"⟩, 8, (some .int), 9, 2028, 2029, 131),
  (⟨"BeatParishModel", "tried", "(III)I"⟩, 4, (some .int), 9, 2032, 2033, 131),
  (⟨"BeatParishModel", "put", "([II)V"⟩, 4, none, 9, 1811, 92, 131),
  (⟨"BeatParishModel", "take", "([II)V"⟩, 4, none, 9, 2041, 116, 131),
  (⟨"BeatParishModel", "remember", "()V"⟩, 2, none, 9, 1807, 91, 131),
  (⟨"BeatParishModel", "undo", "()I"⟩, 1, (some .int), 9, 2036, 2037, 131),
  (⟨"BeatParishModel", "keep", "()I"⟩, 2, (some .int), 9, 2044, 2045, 131),
  (⟨"BeatParishModel", "back", "()I"⟩, 2, (some .int), 9, 2048, 2049, 131),
  (⟨"BeatParishModel", "count", "(I)I"⟩, 4, (some .int), 9, 2052, 2053, 131),
  (⟨"java/lang/Math", "abs", "(I)I"⟩, 1, (some .int), 11, 1078, 0, 132),
  (⟨"java/lang/Math", "abs", "(J)J"⟩, 2, (some .long), 11, 888, 0, 132),
  (⟨"java/lang/Math", "max", "(II)I"⟩, 2, (some .int), 11, 849, 0, 132),
  (⟨"java/lang/Math", "max", "(JJ)J"⟩, 4, (some .long), 11, 979, 0, 132),
  (⟨"java/lang/Math", "min", "(II)I"⟩, 2, (some .int), 11, 648, 0, 132),
  (⟨"java/lang/Math", "min", "(JJ)J"⟩, 4, (some .long), 11, 976, 0, 132),
  (⟨"java/lang/Integer", "numberOfTrailingZeros", "(I)I"⟩, 2, (some .int), 12, 1115, 0, 133),
  (⟨"java/lang/Integer", "bitCount", "(I)I"⟩, 1, (some .int), 12, 708, 0, 133),
  (⟨"BeatParishLaw", "law", "([I)Z"⟩, 7, (some .boolean), 10, 0, 0, 117)]
def mj_mt : List (MethodName × Nat × Option FieldType × Nat × Nat × Nat × Nat) := mj_mt_0 ++ (mj_mt_1 ++ (mj_mt_2 ++ (mj_mt_3 ++ (mj_mt_4 ++ (mj_mt_5)))))
def mj_m (y : Nat) : MethodName × Nat × Option FieldType × Nat × Nat × Nat × Nat := mj_mt.getD y (⟨"", "", ""⟩, 0, none, 0, 0, 0, 0)
def mj_bs : List ByteArray := [prog_1_method_1_code, prog_1_method_2_code, prog_1_method_3_code, prog_1_method_4_code, prog_1_method_5_code, prog_1_method_6_code, prog_1_method_7_code, prog_1_method_8_code, prog_1_method_9_code, prog_1_method_10_code, prog_1_method_11_code, prog_1_method_12_code, prog_1_method_13_code, prog_1_method_14_code, prog_1_method_15_code, prog_1_method_16_code, prog_1_method_17_code, prog_1_method_18_code, prog_1_method_19_code, prog_1_method_20_code, prog_1_method_21_code, prog_1_method_22_code, prog_1_method_23_code, prog_1_method_24_code, prog_1_method_25_code, prog_1_method_26_code, prog_1_method_27_code, prog_1_method_28_code, prog_1_method_29_code, prog_1_method_30_code, prog_1_method_31_code, prog_1_method_32_code, prog_1_method_33_code, prog_1_method_34_code, prog_1_method_35_code, prog_1_method_36_code, prog_1_method_37_code, prog_1_method_38_code, prog_1_method_39_code, prog_1_method_40_code, prog_1_method_41_code, prog_1_method_42_code, prog_1_method_43_code, prog_1_method_44_code, prog_1_method_45_code, prog_1_method_46_code, prog_1_method_47_code, prog_1_method_48_code, prog_1_method_49_code, prog_1_method_50_code, prog_1_method_51_code, prog_1_method_52_code, prog_1_method_53_code, prog_1_method_54_code, prog_1_method_55_code, prog_1_method_56_code, prog_1_method_57_code, prog_1_method_58_code, prog_1_method_59_code, prog_1_method_60_code, prog_1_method_61_code, prog_1_method_62_code, prog_9_method_1_code, prog_9_method_2_code, prog_9_method_3_code, prog_9_method_4_code, prog_9_method_5_code, prog_9_method_6_code, prog_9_method_7_code, prog_9_method_8_code, prog_9_method_9_code, prog_9_method_10_code, prog_4_method_1_code, prog_4_method_2_code, prog_4_method_3_code, prog_4_method_4_code, prog_4_method_5_code, prog_4_method_6_code, prog_4_method_7_code, prog_4_method_8_code, prog_4_method_9_code, prog_4_method_10_code, prog_4_method_11_code, prog_4_method_12_code, prog_4_method_13_code, prog_4_method_14_code, prog_4_method_15_code, prog_4_method_16_code, prog_4_method_17_code, prog_4_method_18_code, prog_4_method_19_code, prog_4_method_20_code, prog_4_method_21_code, prog_4_method_22_code, prog_4_method_23_code, prog_4_method_24_code, prog_4_method_25_code, prog_4_method_26_code, prog_4_method_27_code, prog_8_method_1_code, prog_8_method_2_code, prog_8_method_3_code, prog_8_method_4_code, prog_8_method_5_code, prog_8_method_6_code, prog_8_method_7_code, prog_8_method_8_code, prog_8_method_9_code, prog_8_method_10_code, prog_8_method_11_code, prog_2_method_1_code, prog_2_method_2_code, prog_2_method_3_code, prog_2_method_4_code, prog_2_method_5_code, prog_2_method_6_code, prog_2_method_7_code, prog_2_method_8_code, prog_2_method_9_code, prog_2_method_10_code, prog_2_method_11_code, prog_2_method_12_code, prog_5_method_1_code, prog_5_method_2_code, prog_5_method_3_code, prog_5_method_4_code, prog_5_method_5_code, prog_5_method_6_code, prog_5_method_7_code, prog_5_method_8_code, prog_7_method_1_code, prog_7_method_2_code, prog_7_method_3_code, prog_7_method_4_code, prog_7_method_5_code, prog_7_method_6_code, prog_7_method_7_code, prog_7_method_8_code, prog_7_method_9_code, prog_7_method_10_code, prog_3_method_1_code, prog_3_method_2_code, prog_3_method_3_code, prog_3_method_4_code, prog_3_method_5_code, prog_6_method_1_code, prog_6_method_2_code, prog_6_method_3_code, prog_6_method_4_code, prog_6_method_5_code, prog_6_method_6_code, prog_6_method_7_code, prog_6_method_8_code, prog_11_method_1_code, prog_11_method_2_code, prog_11_method_3_code, prog_11_method_4_code, prog_11_method_5_code, prog_11_method_6_code, prog_11_method_7_code, prog_11_method_8_code, prog_11_method_9_code, prog_11_method_10_code, prog_11_method_11_code, prog_11_method_12_code, prog_11_method_13_code, prog_11_method_14_code, prog_11_method_15_code, prog_11_method_17_code, prog_11_method_18_code, prog_11_method_19_code, prog_11_method_20_code, prog_11_method_21_code, prog_11_method_22_code, prog_11_method_23_code, prog_11_method_24_code, prog_11_method_25_code, prog_11_method_26_code, prog_11_method_27_code, prog_11_method_28_code, prog_11_method_29_code, prog_11_method_30_code, prog_11_method_31_code, prog_11_method_32_code, prog_11_method_33_code, prog_11_method_34_code, prog_11_method_35_code, prog_11_method_36_code, prog_11_method_37_code, prog_11_method_38_code, prog_11_method_39_code, prog_11_method_40_code, prog_11_method_41_code, prog_11_method_42_code, prog_11_method_43_code, prog_11_method_44_code, prog_11_method_45_code, prog_11_method_46_code, prog_11_method_47_code, prog_11_method_48_code, prog_11_method_49_code, prog_11_method_50_code, prog_11_method_51_code, prog_11_method_52_code, prog_11_method_53_code, prog_11_method_54_code, prog_11_method_55_code, prog_11_method_56_code, prog_11_method_57_code, prog_11_method_58_code, prog_11_method_59_code, prog_11_method_60_code, prog_11_method_61_code, prog_11_method_62_code, prog_11_method_63_code, prog_11_method_64_code, prog_11_method_65_code, prog_11_method_66_code, prog_11_method_67_code, prog_11_method_68_code, prog_11_method_69_code, prog_11_method_70_code, prog_11_method_71_code, prog_11_method_72_code, prog_11_method_73_code, prog_11_method_74_code, prog_11_method_75_code, prog_11_method_76_code, prog_11_method_77_code, prog_11_method_78_code, prog_11_method_79_code, prog_11_method_80_code, prog_11_method_81_code, prog_11_method_82_code, prog_11_method_83_code, prog_11_method_84_code, prog_11_method_85_code, prog_11_method_86_code, prog_11_method_87_code, prog_11_method_88_code, prog_11_method_89_code, prog_11_method_90_code, prog_11_method_91_code, prog_11_method_92_code, prog_11_method_93_code, prog_11_method_94_code, prog_11_method_95_code, prog_11_method_96_code, prog_11_method_97_code, prog_11_method_98_code, prog_11_method_99_code, prog_11_method_100_code, prog_11_method_101_code, prog_11_method_102_code, prog_11_method_103_code, prog_11_method_104_code, prog_11_method_105_code, prog_11_method_106_code, prog_11_method_107_code, prog_11_method_108_code, prog_11_method_109_code, prog_11_method_110_code, prog_11_method_111_code, prog_11_method_112_code, prog_11_method_113_code, prog_11_method_114_code, prog_11_method_115_code, prog_11_method_116_code, prog_11_method_117_code, prog_11_method_118_code, prog_11_method_119_code, prog_11_method_120_code, prog_11_method_121_code, prog_11_method_122_code, prog_11_method_123_code, prog_11_method_124_code, prog_11_method_125_code, prog_18_method_59_code, prog_18_method_61_code, prog_18_method_65_code, prog_18_method_66_code, prog_18_method_69_code, prog_18_method_70_code, prog_17_method_48_code, prog_17_method_49_code, code]
def mj_by (y : Nat) : ByteArray := mj_bs.getD y ⟨#[]⟩
abbrev mj_nm (y : Nat) : MethodName := (mj_m y).1
abbrev mj_ml (y : Nat) : Nat := (mj_m y).2.1
abbrev mj_rt (y : Nat) : Option FieldType := (mj_m y).2.2.1
def mj_ow (y : Nat) : String := mj_cn.getD (mj_m y).2.2.2.1 ""
def mj_cps : List Nat := [143, 604, 608, 613, 811, 815, 1226, 1296, 820, 828, 837, 854, 897, 911, 915, 924, 932, 992, 1001, 1015, 1020, 1024, 1028, 1036, 1043, 1047, 1056, 1061, 1069, 1083, 1072, 1075, 1087, 1091, 1095, 1099, 1105, 1109, 1113, 1121, 1126, 1132, 1136, 1146, 1154, 1158, 1177, 1185, 1189, 1194, 1203, 1207, 1211, 919, 697, 724, 1039, 556, 333, 159, 988, 633, 151, 156, 832, 824, 720, 728, 706, 795, 1065, 1052, 274, 617, 676, 685, 690, 664, 672, 668, 702, 733, 737, 741, 745, 751, 694, 681, 716, 767, 791, 755, 759, 763, 771, 775, 779, 783, 787, 280, 336, 622, 660, 638, 626, 641, 630, 645, 653, 656, 394, 799, 845, 841, 940, 945, 936, 953, 967, 985, 859, 972, 400, 863, 867, 872, 878, 886, 882, 892, 435, 552, 996, 957, 961, 928, 1009, 1005, 1032, 1216, 503, 803, 901, 905, 1198, 523, 807, 1166, 1141, 1150, 1162, 1172, 1181, 1317, 1590, 1594, 1649, 1660, 1631, 1610, 1606, 1618, 1602, 1623, 1614, 1692, 1680, 1646, 1322, 1329, 1326, 1642, 1639, 1657, 1635, 1653, 1664, 1668, 1672, 1627, 1598, 1723, 1727, 1715, 1704, 1719, 1712, 1696, 1688, 1700, 1684, 1708, 1676, 1791, 1800, 1797, 1787, 1333, 1337, 1341, 1880, 1735, 1751, 1770, 1767, 1763, 1779, 1783, 1860, 1856, 1868, 1872, 1840, 1836, 1848, 1852, 1864, 1832, 1884, 1888, 1904, 1739, 1743, 1731, 1747, 1755, 1759, 1774, 1804, 1816, 1820, 1824, 1828, 1876, 1892, 1896, 1900, 1911, 1908, 1915, 1926, 1923, 1930, 1919, 1934, 1938, 1942, 1946, 1950, 1966, 1962, 1958, 1954, 1970, 1974, 1978, 1982, 1986, 1990, 1994, 2002, 1998, 2006, 2010, 2018, 2026, 2022, 2014, 2030, 2034, 1812, 2042, 1808, 2038, 2046, 2050, 2054, 1079, 889, 850, 980, 649, 977, 1116, 709]
abbrev mj_NM : Nat := 285
