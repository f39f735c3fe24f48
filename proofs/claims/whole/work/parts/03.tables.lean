/-! TABLES OF THE SMALL MACHINE (made by wip/whole/gen.py out of the Statement): classes, fields, methods, their instructions -/
def mf_0 : u_T := fun k => match k with
  | 0 => ("BeatParish", "tape", "[I", true)
  | 1 => ("BeatParish", "taped", "I", false)
  | 2 => ("BeatParish", "told", "LBeatParish$Told;", false)
  | 3 => ("BeatParish", "draft", "LBeatParish$Told;", false)
  | 4 => ("BeatParish", "reader", "LBeatParish$Reader;", true)
  | 5 => ("BeatParish", "clock", "LBeatParish$Clock;", true)
  | 6 => ("BeatParish", "now", "LBeatParish$State;", true)
  | 7 => ("BeatParish", "trial", "LBeatParish$State;", true)
  | 8 => ("BeatParish", "image", "LBeatParish$State;", true)
  | 9 => ("BeatParish", "imaged", "Z", false)
  | 10 => ("BeatParish", "deeds", "LBeatParish$Deeds;", true)
  | 11 => ("BeatParish", "sights", "LBeatParish$Sights;", true)
  | 12 => ("BeatParish", "packed", "[I", true)
  | _ => ("BeatParish", "gains", "[I", true)
def mf_1 : u_T := fun k => match k with
  | 0 => ("BeatParish$Told", "people", "I", false)
  | 1 => ("BeatParish$Told", "manNames", "[I", true)
  | 2 => ("BeatParish$Told", "fast", "[I", true)
  | 3 => ("BeatParish$Told", "aged", "[I", true)
  | 4 => ("BeatParish$Told", "tied", "[I", true)
  | 5 => ("BeatParish$Told", "works", "I", false)
  | 6 => ("BeatParish$Told", "workNames", "[I", true)
  | 7 => ("BeatParish$Told", "owners", "[I", true)
  | 8 => ("BeatParish$Told", "beats", "[I", true)
  | 9 => ("BeatParish$Told", "bars", "[I", true)
  | 10 => ("BeatParish$Told", "begins", "[I", true)
  | 11 => ("BeatParish$Told", "speedCount", "I", false)
  | 12 => ("BeatParish$Told", "speeds", "[I", true)
  | 13 => ("BeatParish$Told", "spring", "I", false)
  | 14 => ("BeatParish$Told", "wasp", "I", false)
  | 15 => ("BeatParish$Told", "seed", "I", false)
  | 16 => ("BeatParish$Told", "knots", "I", false)
  | 17 => ("BeatParish$Told", "code", "[I", true)
  | 18 => ("BeatParish$Told", "lawFrom", "[I", true)
  | _ => ("BeatParish$Told", "lawTo", "[I", true)
def mf_2 : u_T := fun k => match k with
  | 0 => ("BeatParish$Reader", "tokens", "LBeatParish$Tokens;", true)
  | 1 => ("BeatParish$Reader", "into", "LBeatParish$Told;", false)
  | 2 => ("BeatParish$Reader", "once", "I", false)
  | 3 => ("BeatParish$Reader", "knots", "I", false)
  | 4 => ("BeatParish$Reader", "fault", "I", false)
  | _ => ("BeatParish$Reader", "faultPlace", "I", false)
def mf_3 : u_T := fun k => match k with
  | 0 => ("BeatParish$Tokens", "words", "[I", true)
  | 1 => ("BeatParish$Tokens", "kinds", "[I", true)
  | 2 => ("BeatParish$Tokens", "places", "[I", true)
  | 3 => ("BeatParish$Tokens", "values", "[I", true)
  | 4 => ("BeatParish$Tokens", "count", "I", false)
  | 5 => ("BeatParish$Tokens", "turn", "I", false)
  | 6 => ("BeatParish$Tokens", "kind", "I", false)
  | 7 => ("BeatParish$Tokens", "place", "I", false)
  | _ => ("BeatParish$Tokens", "value", "I", false)
def mf_4 : u_T := fun k => match k with
  | 0 => ("BeatParish$Clock", "told", "LBeatParish$Told;", false)
  | 1 => ("BeatParish$Clock", "instead", "I", false)
  | 2 => ("BeatParish$Clock", "reckoner", "LBeatParish$Reckoner;", true)
  | _ => ("BeatParish$Clock", "had", "[I", true)
def mf_5 : u_T := fun k => match k with
  | 0 => ("BeatParish$Reckoner", "names", "[J", true)
  | 1 => ("BeatParish$Reckoner", "stack", "[J", true)
  | 2 => ("BeatParish$Reckoner", "height", "I", false)
  | _ => ("BeatParish$Reckoner", "wrong", "Z", false)
def mf_6 : u_T := fun k => match k with
  | 0 => ("BeatParish$State", "hour", "I", false)
  | 1 => ("BeatParish$State", "coil", "I", false)
  | 2 => ("BeatParish$State", "shift", "I", false)
  | 3 => ("BeatParish$State", "number", "I", false)
  | 4 => ("BeatParish$State", "here", "I", false)
  | 5 => ("BeatParish$State", "slips", "[I", true)
  | 6 => ("BeatParish$State", "hiccups", "[I", true)
  | 7 => ("BeatParish$State", "left", "[I", true)
  | 8 => ("BeatParish$State", "doneIn", "[I", true)
  | 9 => ("BeatParish$State", "wentOn", "I", false)
  | _ => ("BeatParish$State", "slipped", "I", false)
def mf_7 : u_T := fun k => match k with
  | 0 => ("BeatParish$Deeds", "count", "I", false)
  | 1 => ("BeatParish$Deeds", "kinds", "[I", true)
  | 2 => ("BeatParish$Deeds", "men", "[I", true)
  | _ => ("BeatParish$Deeds", "before", "[I", true)
def mf_8 : u_T := fun k => match k with
  | 0 => ("BeatParish$Sights", "count", "I", false)
  | 1 => ("BeatParish$Sights", "knownBy", "I", false)
  | 2 => ("BeatParish$Sights", "strikes", "[I", true)
  | 3 => ("BeatParish$Sights", "hours", "[I", true)
  | 4 => ("BeatParish$Sights", "works", "[I", true)
  | 5 => ("BeatParish$Sights", "beats", "[I", true)
  | _ => ("BeatParish$Sights", "atLeasts", "I", false)
def mf_9 : u_T := fun k => match k with
  | 0 => ("BeatParishModel", "tape", "[I", true)
  | 1 => ("BeatParishModel", "tapeSize", "I", false)
  | 2 => ("BeatParishModel", "thrown", "I", false)
  | 3 => ("BeatParishModel", "words", "[I", true)
  | 4 => ("BeatParishModel", "fault", "I", false)
  | 5 => ("BeatParishModel", "faultPlace", "I", false)
  | 6 => ("BeatParishModel", "stop", "I", false)
  | 7 => ("BeatParishModel", "next", "I", false)
  | 8 => ("BeatParishModel", "kind", "I", false)
  | 9 => ("BeatParishModel", "which", "I", false)
  | 10 => ("BeatParishModel", "at", "I", false)
  | 11 => ("BeatParishModel", "got", "I", false)
  | 12 => ("BeatParishModel", "people", "I", false)
  | 13 => ("BeatParishModel", "ties", "I", false)
  | 14 => ("BeatParishModel", "works", "I", false)
  | 15 => ("BeatParishModel", "speeds", "I", false)
  | 16 => ("BeatParishModel", "knots", "I", false)
  | 17 => ("BeatParishModel", "peopleRead", "I", false)
  | 18 => ("BeatParishModel", "tiesRead", "I", false)
  | 19 => ("BeatParishModel", "worksRead", "I", false)
  | 20 => ("BeatParishModel", "speedsRead", "I", false)
  | 21 => ("BeatParishModel", "knotsRead", "I", false)
  | 22 => ("BeatParishModel", "onceTold", "[Z", true)
  | 23 => ("BeatParishModel", "once", "[I", true)
  | 24 => ("BeatParishModel", "manName", "[I", true)
  | 25 => ("BeatParishModel", "manFast", "[I", true)
  | 26 => ("BeatParishModel", "manAged", "[I", true)
  | 27 => ("BeatParishModel", "tied", "[I", true)
  | 28 => ("BeatParishModel", "workName", "[I", true)
  | 29 => ("BeatParishModel", "workMan", "[I", true)
  | 30 => ("BeatParishModel", "workBeats", "[I", true)
  | 31 => ("BeatParishModel", "workBar", "[I", true)
  | 32 => ("BeatParishModel", "workHour", "[I", true)
  | 33 => ("BeatParishModel", "speedAt", "[I", true)
  | 34 => ("BeatParishModel", "lawTold", "[Z", true)
  | 35 => ("BeatParishModel", "first", "[I", true)
  | 36 => ("BeatParishModel", "last", "[I", true)
  | 37 => ("BeatParishModel", "knot", "[I", true)
  | 38 => ("BeatParishModel", "part", "[I", true)
  | 39 => ("BeatParishModel", "other", "[I", true)
  | 40 => ("BeatParishModel", "wait", "[I", true)
  | 41 => ("BeatParishModel", "held", "[I", true)
  | 42 => ("BeatParishModel", "waits", "I", false)
  | 43 => ("BeatParishModel", "helds", "I", false)
  | 44 => ("BeatParishModel", "brackets", "I", false)
  | 45 => ("BeatParishModel", "counted", "I", false)
  | 46 => ("BeatParishModel", "wants", "Z", false)
  | 47 => ("BeatParishModel", "mayNot", "Z", false)
  | 48 => ("BeatParishModel", "names", "[J", true)
  | 49 => ("BeatParishModel", "value", "[J", true)
  | 50 => ("BeatParishModel", "isError", "Z", false)
  | 51 => ("BeatParishModel", "rest1", "[I", true)
  | 52 => ("BeatParishModel", "doneIn", "[I", true)
  | 53 => ("BeatParishModel", "slips", "[I", true)
  | 54 => ("BeatParishModel", "hiccups", "[I", true)
  | 55 => ("BeatParishModel", "here", "[Z", true)
  | 56 => ("BeatParishModel", "coil", "[I", true)
  | 57 => ("BeatParishModel", "shifted", "[I", true)
  | 58 => ("BeatParishModel", "hour", "[I", true)
  | 59 => ("BeatParishModel", "hadHiccups", "[I", true)
  | 60 => ("BeatParishModel", "drawn", "J", false)
  | 61 => ("BeatParishModel", "worked", "I", false)
  | 62 => ("BeatParishModel", "slipped", "I", false)
  | 63 => ("BeatParishModel", "draws", "Z", false)
  | 64 => ("BeatParishModel", "noWasp", "Z", false)
  | 65 => ("BeatParishModel", "noHiccups", "Z", false)
  | 66 => ("BeatParishModel", "paced", "I", false)
  | 67 => ("BeatParishModel", "otherWork", "I", false)
  | 68 => ("BeatParishModel", "otherHour", "I", false)
  | 69 => ("BeatParishModel", "daysBy", "[I", true)
  | 70 => ("BeatParishModel", "lastBy", "[I", true)
  | 71 => ("BeatParishModel", "seenMany", "I", false)
  | 72 => ("BeatParishModel", "knownTold", "I", false)
  | 73 => ("BeatParishModel", "seen1", "[I", true)
  | 74 => ("BeatParishModel", "counts", "[Z", true)
  | 75 => ("BeatParishModel", "undos", "I", false)
  | 76 => ("BeatParishModel", "undo", "[I", true)
  | 77 => ("BeatParishModel", "hasImage", "Z", false)
  | 78 => ("BeatParishModel", "image", "[I", true)
  | 79 => ("BeatParishModel", "imageRest", "[I", true)
  | _ => ("BeatParishModel", "imageDrawn", "J", false)
abbrev mj_cl : List vw_C := [("BeatParish", mf_0, 14), ("BeatParish$Told", mf_1, 20), ("BeatParish$Reader", mf_2, 6), ("BeatParish$Tokens", mf_3, 9), ("BeatParish$Clock", mf_4, 4), ("BeatParish$Reckoner", mf_5, 4), ("BeatParish$State", mf_6, 11), ("BeatParish$Deeds", mf_7, 4), ("BeatParish$Sights", mf_8, 7), ("BeatParishModel", mf_9, 81)]
def mj_ft : List (List Nat) := [[2, 0, 2, 2, 2, 2, 2, 2, 2, 3, 2, 2, 2, 2], [0, 2, 2, 2, 2, 0, 2, 2, 2, 2, 2, 0, 2, 0, 0, 0, 0, 2, 2, 2], [2, 2, 0, 0, 0, 0], [2, 2, 2, 2, 0, 0, 0, 0, 0], [2, 0, 2, 2], [2, 2, 0, 3], [0, 0, 0, 0, 0, 2, 2, 2, 2, 0, 0], [0, 2, 2, 2], [0, 0, 2, 2, 2, 2, 0], [2, 0, 0, 2, 0, 0, 0, 0, 0, 0, 0, 0, 0, 0, 0, 0, 0, 0, 0, 0, 0, 0, 2, 2, 2, 2, 2, 2, 2, 2, 2, 2, 2, 2, 2, 2, 2, 2, 2, 2, 2, 2, 0, 0, 0, 0, 3, 3, 2, 2, 3, 2, 2, 2, 2, 2, 2, 2, 2, 2, 1, 0, 0, 3, 3, 3, 0, 0, 0, 2, 2, 0, 0, 2, 2, 0, 2, 3, 2, 2, 1]]
/-- the type of a field: 0 int, 1 long, 2 reference, 3 boolean -/
def mj_ty (c i : Nat) : Nat := (mj_ft.getD c []).getD i 0
def mj_dv (c i : Nat) : Value := match mj_ty c i with
  | 1 => .long 0
  | 2 => .null
  | _ => .int 0
def mj_cn : List String := ["BeatParish", "BeatParish$Told", "BeatParish$Reader", "BeatParish$Tokens", "BeatParish$Clock", "BeatParish$Reckoner", "BeatParish$State", "BeatParish$Deeds", "BeatParish$Sights", "BeatParishModel", "BeatParishLaw", "java/lang/Math", "java/lang/Integer"]
/-- a method: name, locals, what it returns, its class; places of words in lw_tbl: static or instance, selects, initialized -/
def mj_mt_0 : List (MethodName × Nat × Option FieldType × Nat × Nat × Nat × Nat) := [(⟨"BeatParish", "<init>", "()V"⟩, 1, none, 0, 8025, 0, 8001),
  (⟨"BeatParish", "feed", "(IIIII)I"⟩, 6, (some .int), 0, 10005, 10006, 8001),
  (⟨"BeatParish", "feedFour", "(I)V"⟩, 3, none, 0, 10010, 1, 8001),
  (⟨"BeatParish", "text", "(I)I"⟩, 4, (some .int), 0, 10014, 10015, 8001),
  (⟨"BeatParish", "fault", "(I)I"⟩, 2, (some .int), 0, 10212, 10213, 8001),
  (⟨"BeatParish", "named", "(II)I"⟩, 3, (some .int), 0, 10216, 10217, 8001),
  (⟨"BeatParish", "man", "(II)I"⟩, 3, (some .int), 0, 12147, 12148, 8001),
  (⟨"BeatParish", "doneOf", "(I)I"⟩, 4, (some .int), 0, 12218, 2015, 8001),
  (⟨"BeatParish", "work", "(II)I"⟩, 3, (some .int), 0, 10221, 10222, 8001),
  (⟨"BeatParish", "tie", "(II)I"⟩, 3, (some .int), 0, 10229, 10230, 8001),
  (⟨"BeatParish", "beat", "()I"⟩, 1, (some .int), 0, 10238, 10239, 8001),
  (⟨"BeatParish", "law", "(II)J"⟩, 5, (some .long), 0, 11015, 11016, 8001),
  (⟨"BeatParish", "shift", "(I)Z"⟩, 2, (some .boolean), 0, 11058, 11059, 8001),
  (⟨"BeatParish", "wind", "(I)I"⟩, 2, (some .int), 0, 11072, 11073, 8001),
  (⟨"BeatParish", "hiccup", "(II)Z"⟩, 3, (some .boolean), 0, 11076, 11077, 8001),
  (⟨"BeatParish", "aunt", "(IZ)Z"⟩, 3, (some .boolean), 0, 11085, 11086, 8001),
  (⟨"BeatParish", "go", "(I)I"⟩, 3, (some .int), 0, 11093, 11094, 8001),
  (⟨"BeatParish", "ahead", "(III)I"⟩, 4, (some .int), 0, 11153, 11154, 8001),
  (⟨"BeatParish", "tryHours", "(II)V"⟩, 4, none, 0, 11163, 2010, 8001),
  (⟨"BeatParish", "done", "(I)I"⟩, 3, (some .int), 0, 11176, 11177, 8001),
  (⟨"BeatParish", "stops", "()I"⟩, 2, (some .int), 0, 11181, 11182, 8001),
  (⟨"BeatParish", "pace", "(II)I"⟩, 9, (some .int), 0, 11185, 11186, 8001),
  (⟨"BeatParish", "tryPace", "(II)V"⟩, 4, none, 0, 11190, 2011, 8001),
  (⟨"BeatParish", "bars", "(I)I"⟩, 6, (some .int), 0, 11197, 11198, 8001),
  (⟨"BeatParish", "meet", "(IIII)I"⟩, 8, (some .int), 0, 11204, 11205, 8001),
  (⟨"BeatParish", "cut", "(II)I"⟩, 7, (some .int), 0, 11208, 11209, 8001),
  (⟨"BeatParish", "crowd", "(I)I"⟩, 2, (some .int), 0, 11217, 11218, 8001),
  (⟨"BeatParish", "off", "(III)I"⟩, 8, (some .int), 0, 11222, 11223, 8001),
  (⟨"BeatParish", "rests", "(II)I"⟩, 5, (some .int), 0, 11230, 11231, 8001),
  (⟨"BeatParish", "rest", "(III)I"⟩, 6, (some .int), 0, 12004, 12005, 8001),
  (⟨"BeatParish", "isRest", "(IIII)Z"⟩, 4, (some .boolean), 0, 11234, 0, 8001),
  (⟨"BeatParish", "loss", "(III)I"⟩, 7, (some .int), 0, 11237, 0, 8001),
  (⟨"BeatParish", "reaches", "(I)I"⟩, 2, (some .int), 0, 12008, 12009, 8001),
  (⟨"BeatParish", "slowest", "()I"⟩, 3, (some .int), 0, 12012, 12013, 8001),
  (⟨"BeatParish", "pack", "(I)I"⟩, 4, (some .int), 0, 12016, 12017, 8001),
  (⟨"BeatParish", "fewestDays", "(II)I"⟩, 8, (some .int), 0, 12021, 2012, 8001),
  (⟨"BeatParish", "canon", "(II)I"⟩, 5, (some .int), 0, 12026, 12027, 8001),
  (⟨"BeatParish", "strange", "(II)I"⟩, 7, (some .int), 0, 12030, 12031, 8001),
  (⟨"BeatParish", "firstSlip", "(II)I"⟩, 4, (some .int), 0, 12034, 12035, 8001),
  (⟨"BeatParish", "goOn", "()I"⟩, 1, (some .int), 0, 12042, 12043, 8001),
  (⟨"BeatParish", "startBy", "(II)I"⟩, 6, (some .int), 0, 12047, 12048, 8001),
  (⟨"BeatParish", "idle", "()I"⟩, 3, (some .int), 0, 12053, 12054, 8001),
  (⟨"BeatParish", "see", "(IIIZ)I"⟩, 5, (some .int), 0, 12057, 12058, 8001),
  (⟨"BeatParish", "strike", "(I)I"⟩, 2, (some .int), 0, 12067, 12068, 8001),
  (⟨"BeatParish", "known", "(I)Z"⟩, 2, (some .boolean), 0, 12075, 12076, 8001),
  (⟨"BeatParish", "shifts", "()I"⟩, 5, (some .int), 0, 12079, 12080, 8001),
  (⟨"BeatParish", "isShiftedBy", "(III)Z"⟩, 5, (some .boolean), 0, 12099, 2013, 8001),
  (⟨"BeatParish", "chance", "(III)I"⟩, 7, (some .int), 0, 12106, 12107, 8001),
  (⟨"BeatParish", "tried", "(III)I"⟩, 4, (some .int), 0, 12110, 12111, 8001),
  (⟨"BeatParish", "undo", "()I"⟩, 1, (some .int), 0, 12115, 12116, 8001)]
def mj_mt_1 : List (MethodName × Nat × Option FieldType × Nat × Nat × Nat × Nat) := [(⟨"BeatParish", "keep", "()I"⟩, 1, (some .int), 0, 12124, 12125, 8001),
  (⟨"BeatParish", "back", "()I"⟩, 1, (some .int), 0, 12128, 12129, 8001),
  (⟨"BeatParish", "count", "(I)I"⟩, 2, (some .int), 0, 12132, 12133, 8001),
  (⟨"BeatParish", "isHere", "(I)Z"⟩, 2, (some .boolean), 0, 11081, 2005, 8001),
  (⟨"BeatParish", "isWithin", "(III)Z"⟩, 3, (some .boolean), 0, 10099, 0, 8001),
  (⟨"BeatParish", "has", "(II)Z"⟩, 2, (some .boolean), 0, 10126, 0, 8001),
  (⟨"BeatParish", "gcd", "(II)I"⟩, 6, (some .int), 0, 11201, 0, 8001),
  (⟨"BeatParish", "at", "([II)I"⟩, 2, (some .int), 0, 9198, 0, 8001),
  (⟨"BeatParish", "put", "([III)V"⟩, 3, none, 0, 8215, 0, 8001),
  (⟨"BeatParish", "fill", "([II)V"⟩, 3, none, 0, 8041, 0, 8001),
  (⟨"BeatParish", "copyRow", "([I[I)V"⟩, 3, none, 0, 11150, 0, 8001),
  (⟨"BeatParish", "find", "([III)I"⟩, 4, (some .int), 0, 10035, 0, 8001),
  (⟨"BeatParish$Told", "<init>", "()V"⟩, 1, none, 1, 8033, 0, 8002),
  (⟨"BeatParish$Told", "clear", "()V"⟩, 1, none, 1, 8038, 0, 8002),
  (⟨"BeatParish$Told", "isMan", "(I)Z"⟩, 2, (some .boolean), 1, 10233, 10234, 8002),
  (⟨"BeatParish$Told", "isWork", "(I)Z"⟩, 2, (some .boolean), 1, 10225, 10226, 8002),
  (⟨"BeatParish$Told", "areTied", "(II)Z"⟩, 3, (some .boolean), 1, 10121, 10122, 8002),
  (⟨"BeatParish$Told", "addTie", "(II)V"⟩, 3, none, 1, 10129, 10130, 8002),
  (⟨"BeatParish$Told", "tieCount", "()I"⟩, 3, (some .int), 1, 10107, 10108, 8002),
  (⟨"BeatParish$Told", "addKnot", "(I)V"⟩, 2, none, 1, 10196, 10197, 8002),
  (⟨"BeatParish$Told", "worksOf", "(I)I"⟩, 4, (some .int), 1, 11226, 11227, 8002),
  (⟨"BeatParish$Told", "reach", "(II)I"⟩, 6, (some .int), 1, 11213, 11214, 8002),
  (⟨"BeatParish$Reader", "<init>", "(LBeatParish$Told;)V"⟩, 2, none, 2, 8156, 0, 8003),
  (⟨"BeatParish$Reader", "read", "([IILBeatParish$Told;)I"⟩, 5, (some .int), 2, 10018, 10019, 8003),
  (⟨"BeatParish$Reader", "refuse", "(I)V"⟩, 2, none, 2, 10078, 9, 8003),
  (⟨"BeatParish$Reader", "sees", "(I)Z"⟩, 2, (some .boolean), 2, 10087, 11, 8003),
  (⟨"BeatParish$Reader", "take", "(I)V"⟩, 2, none, 2, 10092, 12, 8003),
  (⟨"BeatParish$Reader", "readLine", "()V"⟩, 1, none, 2, 10066, 6, 8003),
  (⟨"BeatParish$Reader", "takeUnless", "(II)V"⟩, 3, none, 2, 10074, 8, 8003),
  (⟨"BeatParish$Reader", "readMan", "()V"⟩, 4, none, 2, 10070, 7, 8003),
  (⟨"BeatParish$Reader", "readTie", "()V"⟩, 3, none, 2, 10104, 14, 8003),
  (⟨"BeatParish$Reader", "readWork", "()V"⟩, 6, none, 2, 10135, 1000, 8003),
  (⟨"BeatParish$Reader", "readSpeed", "()V"⟩, 2, none, 2, 10139, 1001, 8003),
  (⟨"BeatParish$Reader", "readOnce", "(I)I"⟩, 2, (some .int), 2, 10143, 1002, 8003),
  (⟨"BeatParish$Reader", "takeOnce", "()V"⟩, 1, none, 2, 10147, 1003, 8003),
  (⟨"BeatParish$Reader", "readLaw", "()V"⟩, 2, none, 2, 10153, 1004, 8003),
  (⟨"BeatParish$Reader", "readNumber", "(II)I"⟩, 4, (some .int), 2, 10096, 13, 8003),
  (⟨"BeatParish$Reader", "readNewName", "([II)I"⟩, 4, (some .int), 2, 10083, 10, 8003),
  (⟨"BeatParish$Reader", "findPerson", "()I"⟩, 2, (some .int), 2, 10118, 15, 8003),
  (⟨"BeatParish$Reader", "takeKnot", "()V"⟩, 1, none, 2, 10169, 1008, 8003),
  (⟨"BeatParish$Reader", "add", "(I)V"⟩, 2, none, 2, 10193, 1014, 8003),
  (⟨"BeatParish$Reader", "readEither", "(I)V"⟩, 3, none, 2, 10157, 1005, 8003),
  (⟨"BeatParish$Reader", "readBoth", "(I)V"⟩, 3, none, 2, 10161, 1006, 8003),
  (⟨"BeatParish$Reader", "readNot", "(I)V"⟩, 4, none, 2, 10165, 1007, 8003),
  (⟨"BeatParish$Reader", "readComparison", "(I)V"⟩, 3, none, 2, 10173, 1009, 8003),
  (⟨"BeatParish$Reader", "readSum", "(I)V"⟩, 4, none, 2, 10177, 1010, 8003),
  (⟨"BeatParish$Reader", "readProduct", "(I)V"⟩, 4, none, 2, 10181, 1011, 8003),
  (⟨"BeatParish$Reader", "readPart", "(I)V"⟩, 4, none, 2, 10185, 1012, 8003),
  (⟨"BeatParish$Reader", "readGroup", "(I)V"⟩, 2, none, 2, 10189, 1013, 8003),
  (⟨"BeatParish$Tokens", "<init>", "()V"⟩, 6, none, 3, 8162, 0, 8004)]
def mj_mt_2 : List (MethodName × Nat × Option FieldType × Nat × Nat × Nat × Nat) := [(⟨"BeatParish$Tokens", "letter", "(II)I"⟩, 2, (some .int), 3, 8218, 0, 8004),
  (⟨"BeatParish$Tokens", "split", "([II)V"⟩, 6, none, 3, 10023, 10024, 8004),
  (⟨"BeatParish$Tokens", "step", "()V"⟩, 1, none, 3, 10061, 10062, 8004),
  (⟨"BeatParish$Tokens", "add", "(III)V"⟩, 4, none, 3, 10040, 3, 8004),
  (⟨"BeatParish$Tokens", "isLetter", "(I)Z"⟩, 1, (some .boolean), 3, 10028, 0, 8004),
  (⟨"BeatParish$Tokens", "isDigit", "(I)Z"⟩, 1, (some .boolean), 3, 10043, 0, 8004),
  (⟨"BeatParish$Tokens", "cutWord", "([III)I"⟩, 7, (some .int), 3, 10032, 2, 8004),
  (⟨"BeatParish$Tokens", "cutNumber", "([III)I"⟩, 6, (some .int), 3, 10047, 4, 8004),
  (⟨"BeatParish$Tokens", "cutSign", "(III)I"⟩, 5, (some .int), 3, 10055, 5, 8004),
  (⟨"BeatParish$Tokens", "signKind", "(II)I"⟩, 2, (some .int), 3, 10058, 0, 8004),
  (⟨"BeatParish$Clock", "<init>", "(LBeatParish$Told;)V"⟩, 2, none, 4, 9036, 0, 8009),
  (⟨"BeatParish$Clock", "turnTo", "(LBeatParish$Told;)V"⟩, 2, none, 4, 10200, 10201, 8009),
  (⟨"BeatParish$Clock", "speedOf", "(I)I"⟩, 2, (some .int), 4, 11007, 1015, 8009),
  (⟨"BeatParish$Clock", "plainBeat", "(LBeatParish$State;)I"⟩, 2, (some .int), 4, 11002, 11003, 8009),
  (⟨"BeatParish$Clock", "beatOf", "(LBeatParish$State;I)I"⟩, 4, (some .int), 4, 11101, 11102, 8009),
  (⟨"BeatParish$Clock", "isWaspIn", "(LBeatParish$State;I)Z"⟩, 3, (some .boolean), 4, 11107, 2006, 8009),
  (⟨"BeatParish$Clock", "pass", "(LBeatParish$State;I)V"⟩, 5, none, 4, 11097, 11098, 8009),
  (⟨"BeatParish$Clock", "goingOn", "(LBeatParish$State;I)I"⟩, 6, (some .int), 4, 11114, 11115, 8009),
  (⟨"BeatParish$Clock", "goOnWith", "(LBeatParish$State;II)V"⟩, 6, none, 4, 11129, 2007, 8009),
  (⟨"BeatParish$Clock", "spread", "(LBeatParish$State;I)V"⟩, 5, none, 4, 11147, 2009, 8009),
  (⟨"BeatParish$Clock", "name", "(LBeatParish$State;III)V"⟩, 5, none, 4, 11020, 11021, 8009),
  (⟨"BeatParish$Clock", "lawWithin", "(IIII)I"⟩, 7, (some .int), 4, 11134, 2008, 8009),
  (⟨"BeatParish$Reckoner", "<init>", "()V"⟩, 1, none, 5, 9042, 0, 8010),
  (⟨"BeatParish$Reckoner", "set", "(IJ)V"⟩, 4, none, 5, 11024, 11025, 8010),
  (⟨"BeatParish$Reckoner", "value", "(LBeatParish$Told;I)J"⟩, 6, (some .long), 5, 11028, 11029, 8010),
  (⟨"BeatParish$Reckoner", "push", "(J)V"⟩, 3, none, 5, 11034, 2000, 8010),
  (⟨"BeatParish$Reckoner", "nameValue", "(I)J"⟩, 2, (some .long), 5, 11040, 2001, 8010),
  (⟨"BeatParish$Reckoner", "pop", "()J"⟩, 1, (some .long), 5, 11048, 2003, 8010),
  (⟨"BeatParish$Reckoner", "join", "(I)V"⟩, 6, none, 5, 11044, 2002, 8010),
  (⟨"BeatParish$Reckoner", "holds", "(IJJ)Z"⟩, 5, (some .boolean), 5, 11054, 0, 8010),
  (⟨"BeatParish$State", "<init>", "()V"⟩, 1, none, 6, 9077, 0, 8011),
  (⟨"BeatParish$State", "begin", "(LBeatParish$Told;)V"⟩, 3, none, 6, 9193, 9194, 8011),
  (⟨"BeatParish$State", "copy", "(LBeatParish$State;)V"⟩, 2, none, 6, 11157, 11158, 8011),
  (⟨"BeatParish$State", "isDone", "(I)Z"⟩, 2, (some .boolean), 6, 11118, 11119, 8011),
  (⟨"BeatParish$State", "isFree", "(I)Z"⟩, 2, (some .boolean), 6, 11122, 11123, 8011),
  (⟨"BeatParish$State", "sendAway", "(I)V"⟩, 2, none, 6, 11089, 11090, 8011),
  (⟨"BeatParish$State", "doneBits", "(I)I"⟩, 4, (some .int), 6, 11170, 11171, 8011),
  (⟨"BeatParish$State", "doneCount", "(I)I"⟩, 2, (some .int), 6, 11166, 11167, 8011),
  (⟨"BeatParish$State", "allSlips", "()I"⟩, 3, (some .int), 6, 11193, 11194, 8011),
  (⟨"BeatParish$State", "hiccupping", "()I"⟩, 3, (some .int), 6, 12137, 12138, 8011),
  (⟨"BeatParish$Deeds", "<init>", "()V"⟩, 1, none, 7, 9145, 0, 8012),
  (⟨"BeatParish$Deeds", "forget", "()V"⟩, 1, none, 7, 10204, 10205, 8012),
  (⟨"BeatParish$Deeds", "add", "(III)V"⟩, 4, none, 7, 11062, 11063, 8012),
  (⟨"BeatParish$Deeds", "dropOldest", "()V"⟩, 2, none, 7, 11067, 2004, 8012),
  (⟨"BeatParish$Deeds", "takeBack", "(LBeatParish$State;)I"⟩, 4, (some .int), 7, 12119, 12120, 8012),
  (⟨"BeatParish$Sights", "<init>", "()V"⟩, 1, none, 8, 9165, 0, 8013),
  (⟨"BeatParish$Sights", "forget", "()V"⟩, 1, none, 8, 10208, 10209, 8013),
  (⟨"BeatParish$Sights", "knownCount", "()I"⟩, 1, (some .int), 8, 12087, 12088, 8013),
  (⟨"BeatParish$Sights", "add", "(IIIZ)I"⟩, 5, (some .int), 8, 12062, 12063, 8013),
  (⟨"BeatParish$Sights", "addStrike", "(I)I"⟩, 2, (some .int), 8, 12071, 12072, 8013)]
def mj_mt_3 : List (MethodName × Nat × Option FieldType × Nat × Nat × Nat × Nat) := [(⟨"BeatParish$Sights", "standing", "()I"⟩, 5, (some .int), 8, 12083, 12084, 8013),
  (⟨"BeatParish$Sights", "lastHour", "(I)I"⟩, 4, (some .int), 8, 12093, 12094, 8013),
  (⟨"BeatParish$Sights", "fit", "(LBeatParish$State;I)Z"⟩, 5, (some .boolean), 8, 12102, 12103, 8013),
  (⟨"BeatParishModel", "<init>", "()V"⟩, 1, none, 9, 12239, 0, 8014),
  (⟨"BeatParishModel", "thrown", "()I"⟩, 1, (some .int), 9, 14031, 14032, 8014),
  (⟨"BeatParishModel", "feed", "(IIIII)I"⟩, 8, (some .int), 9, 14035, 14036, 8014),
  (⟨"BeatParishModel", "isIn", "(III)Z"⟩, 3, (some .boolean), 9, 14091, 0, 8014),
  (⟨"BeatParishModel", "isOf", "(II)Z"⟩, 2, (some .boolean), 9, 14102, 0, 8014),
  (⟨"BeatParishModel", "wrong", "(I)Z"⟩, 2, (some .boolean), 9, 14073, 3012, 8014),
  (⟨"BeatParishModel", "wordAt", "(II)I"⟩, 8, (some .int), 9, 14052, 3007, 8014),
  (⟨"BeatParishModel", "isSmall", "(I)Z"⟩, 2, (some .boolean), 9, 14048, 3006, 8014),
  (⟨"BeatParishModel", "isDigit", "(I)Z"⟩, 2, (some .boolean), 9, 14060, 3009, 8014),
  (⟨"BeatParishModel", "token", "()V"⟩, 1, none, 9, 14044, 3005, 8014),
  (⟨"BeatParishModel", "signToken", "()V"⟩, 4, none, 9, 14065, 3010, 8014),
  (⟨"BeatParishModel", "packed", "(II)I"⟩, 5, (some .int), 9, 14056, 3008, 8014),
  (⟨"BeatParishModel", "isKey", "(I)Z"⟩, 2, (some .boolean), 9, 14134, 4009, 8014),
  (⟨"BeatParishModel", "isSign", "(I)Z"⟩, 2, (some .boolean), 9, 14122, 4006, 8014),
  (⟨"BeatParishModel", "number", "(II)Z"⟩, 3, (some .boolean), 9, 14088, 3015, 8014),
  (⟨"BeatParishModel", "plain", "()V"⟩, 2, none, 9, 13004, 3000, 8014),
  (⟨"BeatParishModel", "copies", "([II)V"⟩, 3, none, 9, 13011, 0, 8014),
  (⟨"BeatParishModel", "keepText", "()V"⟩, 2, none, 9, 13008, 3001, 8014),
  (⟨"BeatParishModel", "find", "([IIII)I"⟩, 5, (some .int), 9, 14084, 0, 8014),
  (⟨"BeatParishModel", "newName", "([III)Z"⟩, 4, (some .boolean), 9, 14081, 3014, 8014),
  (⟨"BeatParishModel", "manThere", "()Z"⟩, 2, (some .boolean), 9, 14099, 4001, 8014),
  (⟨"BeatParishModel", "manLine", "()Z"⟩, 2, (some .boolean), 9, 14077, 3013, 8014),
  (⟨"BeatParishModel", "tieLine", "()Z"⟩, 4, (some .boolean), 9, 14095, 4000, 8014),
  (⟨"BeatParishModel", "workLine", "()Z"⟩, 2, (some .boolean), 9, 14106, 4002, 8014),
  (⟨"BeatParishModel", "speedLine", "()Z"⟩, 1, (some .boolean), 9, 14110, 4003, 8014),
  (⟨"BeatParishModel", "onceLine", "(II)Z"⟩, 3, (some .boolean), 9, 14114, 4004, 8014),
  (⟨"BeatParishModel", "lineRead", "()Z"⟩, 3, (some .boolean), 9, 14069, 3011, 8014),
  (⟨"BeatParishModel", "text", "(I)I"⟩, 3, (some .int), 9, 14039, 14040, 8014),
  (⟨"BeatParishModel", "fault", "(I)I"⟩, 2, (some .int), 9, 14164, 14165, 8014),
  (⟨"BeatParishModel", "named", "(II)I"⟩, 3, (some .int), 9, 14168, 14169, 8014),
  (⟨"BeatParishModel", "rank", "(I)I"⟩, 1, (some .int), 9, 14157, 0, 8014),
  (⟨"BeatParishModel", "grown", "(III)V"⟩, 4, none, 9, 14146, 4012, 8014),
  (⟨"BeatParishModel", "dropHeld", "()I"⟩, 1, (some .int), 9, 14161, 4015, 8014),
  (⟨"BeatParishModel", "bind", "(I)V"⟩, 5, none, 9, 14154, 4014, 8014),
  (⟨"BeatParishModel", "isCounted", "()Z"⟩, 1, (some .boolean), 9, 14138, 4010, 8014),
  (⟨"BeatParishModel", "waitsFor", "(I)V"⟩, 2, none, 9, 14130, 4008, 8014),
  (⟨"BeatParishModel", "nameMet", "()I"⟩, 1, (some .int), 9, 14142, 4011, 8014),
  (⟨"BeatParishModel", "leafRead", "()Z"⟩, 2, (some .boolean), 9, 14126, 4007, 8014),
  (⟨"BeatParishModel", "signs", "()Z"⟩, 2, (some .boolean), 9, 14150, 4013, 8014),
  (⟨"BeatParishModel", "sumRead", "()Z"⟩, 1, (some .boolean), 9, 14118, 4005, 8014),
  (⟨"BeatParishModel", "bounded", "(J)J"⟩, 3, (some .long), 9, 14233, 5009, 8014),
  (⟨"BeatParishModel", "compares", "(IJJ)Z"⟩, 5, (some .boolean), 9, 15002, 0, 8014),
  (⟨"BeatParishModel", "times", "(JJ)J"⟩, 6, (some .long), 9, 14239, 5010, 8014),
  (⟨"BeatParishModel", "valueOf", "(I)J"⟩, 6, (some .long), 9, 14229, 5008, 8014),
  (⟨"BeatParishModel", "begin", "()V"⟩, 1, none, 9, 13015, 3002, 8014),
  (⟨"BeatParishModel", "atFirst", "(I)V"⟩, 3, none, 9, 13019, 3003, 8014),
  (⟨"BeatParishModel", "plainTried", "()V"⟩, 1, none, 9, 13023, 3004, 8014)]
def mj_mt_4 : List (MethodName × Nat × Option FieldType × Nat × Nat × Nat × Nat) := [(⟨"BeatParishModel", "layTried", "()V"⟩, 2, none, 9, 15082, 6007, 8014),
  (⟨"BeatParishModel", "isMan", "(I)Z"⟩, 2, (some .boolean), 9, 14177, 5000, 8014),
  (⟨"BeatParishModel", "isWork", "(I)Z"⟩, 2, (some .boolean), 9, 14193, 5003, 8014),
  (⟨"BeatParishModel", "within", "(III)I"⟩, 3, (some .int), 9, 14212, 0, 8014),
  (⟨"BeatParishModel", "speedOf", "(I)I"⟩, 2, (some .int), 9, 14209, 5005, 8014),
  (⟨"BeatParishModel", "beatOf", "(IZ)I"⟩, 4, (some .int), 9, 14205, 5004, 8014),
  (⟨"BeatParishModel", "layNames", "(IIII)V"⟩, 5, none, 9, 14221, 5006, 8014),
  (⟨"BeatParishModel", "lawOf", "(I)J"⟩, 3, (some .long), 9, 14225, 5007, 8014),
  (⟨"BeatParishModel", "boundLaw", "(IIII)I"⟩, 7, (some .int), 9, 15062, 6003, 8014),
  (⟨"BeatParishModel", "slipsBy", "(III)I"⟩, 5, (some .int), 9, 15058, 6002, 8014),
  (⟨"BeatParishModel", "hushOf", "(III)I"⟩, 4, (some .int), 9, 15070, 6005, 8014),
  (⟨"BeatParishModel", "wearOf", "(II)I"⟩, 3, (some .int), 9, 15074, 6006, 8014),
  (⟨"BeatParishModel", "number1", "(I)I"⟩, 2, (some .int), 9, 15042, 5015, 8014),
  (⟨"BeatParishModel", "isWasp", "(I)Z"⟩, 2, (some .boolean), 9, 15038, 5014, 8014),
  (⟨"BeatParishModel", "isOn", "(II)Z"⟩, 5, (some .boolean), 9, 15050, 6000, 8014),
  (⟨"BeatParishModel", "works1", "(III)V"⟩, 7, none, 9, 15054, 6001, 8014),
  (⟨"BeatParishModel", "spreads", "(II)V"⟩, 5, none, 9, 15066, 6004, 8014),
  (⟨"BeatParishModel", "hourGoes", "(I)V"⟩, 5, none, 9, 15034, 5013, 8014),
  (⟨"BeatParishModel", "goMany", "(I)V"⟩, 3, none, 9, 15086, 6008, 8014),
  (⟨"BeatParishModel", "doneAll", "(I)I"⟩, 4, (some .int), 9, 15090, 6009, 8014),
  (⟨"BeatParishModel", "slipsAll", "(I)I"⟩, 4, (some .int), 9, 15106, 6010, 8014),
  (⟨"BeatParishModel", "fails", "(I)I"⟩, 2, (some .int), 9, 14181, 5001, 8014),
  (⟨"BeatParishModel", "doneOf", "(I)I"⟩, 4, (some .int), 9, 14185, 5002, 8014),
  (⟨"BeatParishModel", "man", "(II)I"⟩, 3, (some .int), 9, 14172, 14173, 8014),
  (⟨"BeatParishModel", "work", "(II)I"⟩, 3, (some .int), 9, 14188, 14189, 8014),
  (⟨"BeatParishModel", "tie", "(II)I"⟩, 3, (some .int), 9, 14196, 14197, 8014),
  (⟨"BeatParishModel", "beat", "()I"⟩, 1, (some .int), 9, 14200, 14201, 8014),
  (⟨"BeatParishModel", "law", "(II)J"⟩, 5, (some .long), 9, 14215, 14216, 8014),
  (⟨"BeatParishModel", "shift", "(I)Z"⟩, 2, (some .boolean), 9, 15005, 15006, 8014),
  (⟨"BeatParishModel", "wind", "(I)I"⟩, 2, (some .int), 9, 15017, 15018, 8014),
  (⟨"BeatParishModel", "hiccup", "(II)Z"⟩, 3, (some .boolean), 9, 15021, 15022, 8014),
  (⟨"BeatParishModel", "aunt", "(IZ)Z"⟩, 3, (some .boolean), 9, 15025, 15026, 8014),
  (⟨"BeatParishModel", "go", "(I)I"⟩, 3, (some .int), 9, 15029, 15030, 8014),
  (⟨"BeatParishModel", "ahead", "(III)I"⟩, 4, (some .int), 9, 15077, 15078, 8014),
  (⟨"BeatParishModel", "done", "(I)I"⟩, 3, (some .int), 9, 15093, 15094, 8014),
  (⟨"BeatParishModel", "stops", "()I"⟩, 2, (some .int), 9, 15097, 15098, 8014),
  (⟨"BeatParishModel", "pace", "(II)I"⟩, 9, (some .int), 9, 15101, 15102, 8014),
  (⟨"BeatParishModel", "common", "(II)I"⟩, 5, (some .int), 9, 15113, 0, 8014),
  (⟨"BeatParishModel", "bars", "(I)I"⟩, 4, (some .int), 9, 15109, 15110, 8014),
  (⟨"BeatParishModel", "meet", "(IIII)I"⟩, 7, (some .int), 9, 15116, 15117, 8014),
  (⟨"BeatParishModel", "manyOf", "(I)I"⟩, 3, (some .int), 9, 15128, 0, 8014),
  (⟨"BeatParishModel", "hereBits", "()I"⟩, 3, (some .int), 9, 15125, 6011, 8014),
  (⟨"BeatParishModel", "comesTo", "(II)I"⟩, 7, (some .int), 9, 15132, 6012, 8014),
  (⟨"BeatParishModel", "cut", "(II)I"⟩, 6, (some .int), 9, 15120, 15121, 8014),
  (⟨"BeatParishModel", "reaches", "(I)I"⟩, 2, (some .int), 9, 15135, 15136, 8014),
  (⟨"BeatParishModel", "pack", "(I)I"⟩, 9, (some .int), 9, 15139, 15140, 8014),
  (⟨"BeatParishModel", "canon", "(II)I"⟩, 4, (some .int), 9, 15143, 15144, 8014),
  (⟨"BeatParishModel", "crowd", "(I)I"⟩, 4, (some .int), 9, 15147, 15148, 8014),
  (⟨"BeatParishModel", "off", "(III)I"⟩, 7, (some .int), 9, 15151, 15152, 8014),
  (⟨"BeatParishModel", "loses", "(III)I"⟩, 10, (some .int), 9, 15168, 6015, 8014)]
def mj_mt_5 : List (MethodName × Nat × Option FieldType × Nat × Nat × Nat × Nat) := [(⟨"BeatParishModel", "restAt", "(III)I"⟩, 8, (some .int), 9, 15164, 6014, 8014),
  (⟨"BeatParishModel", "areTwo", "(II)Z"⟩, 3, (some .boolean), 9, 15160, 6013, 8014),
  (⟨"BeatParishModel", "rests", "(II)I"⟩, 3, (some .int), 9, 15155, 15156, 8014),
  (⟨"BeatParishModel", "rest", "(III)I"⟩, 4, (some .int), 9, 15171, 15172, 8014),
  (⟨"BeatParishModel", "slowest", "()I"⟩, 3, (some .int), 9, 15175, 15176, 8014),
  (⟨"BeatParishModel", "strange", "(II)I"⟩, 7, (some .int), 9, 15179, 15180, 8014),
  (⟨"BeatParishModel", "firstSlip", "(II)I"⟩, 5, (some .int), 9, 15183, 15184, 8014),
  (⟨"BeatParishModel", "startBy", "(II)I"⟩, 4, (some .int), 9, 15187, 15188, 8014),
  (⟨"BeatParishModel", "idle", "()I"⟩, 3, (some .int), 9, 15191, 15192, 8014),
  (⟨"BeatParishModel", "goOn", "()I"⟩, 3, (some .int), 9, 15195, 15196, 8014),
  (⟨"BeatParishModel", "noted", "(IIII)I"⟩, 5, (some .int), 9, 15204, 7000, 8014),
  (⟨"BeatParishModel", "see", "(IIIZ)I"⟩, 5, (some .int), 9, 15199, 15200, 8014),
  (⟨"BeatParishModel", "strike", "(I)I"⟩, 2, (some .int), 9, 15207, 15208, 8014),
  (⟨"BeatParishModel", "known", "(I)Z"⟩, 2, (some .boolean), 9, 15211, 15212, 8014),
  (⟨"BeatParishModel", "knownBy", "()I"⟩, 1, (some .int), 9, 15220, 7001, 8014),
  (⟨"BeatParishModel", "isSo", "(I)Z"⟩, 4, (some .boolean), 9, 15228, 7003, 8014),
  (⟨"BeatParishModel", "fits", "(I)Z"⟩, 3, (some .boolean), 9, 15224, 7002, 8014),
  (⟨"BeatParishModel", "shifts", "()I"⟩, 3, (some .int), 9, 15215, 15216, 8014),
  (⟨"BeatParishModel", "chance", "(III)I"⟩, 8, (some .int), 9, 15231, 15232, 8014),
  (⟨"BeatParishModel", "tried", "(III)I"⟩, 4, (some .int), 9, 15235, 15236, 8014),
  (⟨"BeatParishModel", "put", "([II)V"⟩, 4, none, 9, 15014, 5012, 8014),
  (⟨"BeatParishModel", "take", "([II)V"⟩, 4, none, 9, 16004, 7004, 8014),
  (⟨"BeatParishModel", "remember", "()V"⟩, 2, none, 9, 15010, 5011, 8014),
  (⟨"BeatParishModel", "undo", "()I"⟩, 1, (some .int), 9, 15239, 16000, 8014),
  (⟨"BeatParishModel", "keep", "()I"⟩, 2, (some .int), 9, 16007, 16008, 8014),
  (⟨"BeatParishModel", "back", "()I"⟩, 2, (some .int), 9, 16011, 16012, 8014),
  (⟨"BeatParishModel", "count", "(I)I"⟩, 4, (some .int), 9, 16015, 16016, 8014),
  (⟨"java/lang/Math", "abs", "(I)I"⟩, 1, (some .int), 11, 12001, 0, 8015),
  (⟨"java/lang/Math", "abs", "(J)J"⟩, 2, (some .long), 11, 11051, 0, 8015),
  (⟨"java/lang/Math", "max", "(II)I"⟩, 2, (some .int), 11, 11012, 0, 8015),
  (⟨"java/lang/Math", "max", "(JJ)J"⟩, 4, (some .long), 11, 11142, 0, 8015),
  (⟨"java/lang/Math", "min", "(II)I"⟩, 2, (some .int), 11, 10051, 0, 8015),
  (⟨"java/lang/Math", "min", "(JJ)J"⟩, 4, (some .long), 11, 11139, 0, 8015),
  (⟨"java/lang/Integer", "numberOfTrailingZeros", "(I)I"⟩, 2, (some .int), 12, 12038, 0, 8016),
  (⟨"java/lang/Integer", "bitCount", "(I)I"⟩, 1, (some .int), 12, 10111, 0, 8016),
  (⟨"BeatParishLaw", "law", "([I)Z"⟩, 7, (some .boolean), 10, 0, 0, 8000)]
def mj_mt : List (MethodName × Nat × Option FieldType × Nat × Nat × Nat × Nat) := mj_mt_0 ++ (mj_mt_1 ++ (mj_mt_2 ++ (mj_mt_3 ++ (mj_mt_4 ++ (mj_mt_5)))))
def mj_m (y : Nat) : MethodName × Nat × Option FieldType × Nat × Nat × Nat × Nat := mj_mt.getD y (⟨"", "", ""⟩, 0, none, 0, 0, 0, 0)
def mj_bs : List ByteArray := [prog_1_method_1_code, prog_1_method_2_code, prog_1_method_3_code, prog_1_method_4_code, prog_1_method_5_code, prog_1_method_6_code, prog_1_method_7_code, prog_1_method_8_code, prog_1_method_9_code, prog_1_method_10_code, prog_1_method_11_code, prog_1_method_12_code, prog_1_method_13_code, prog_1_method_14_code, prog_1_method_15_code, prog_1_method_16_code, prog_1_method_17_code, prog_1_method_18_code, prog_1_method_19_code, prog_1_method_20_code, prog_1_method_21_code, prog_1_method_22_code, prog_1_method_23_code, prog_1_method_24_code, prog_1_method_25_code, prog_1_method_26_code, prog_1_method_27_code, prog_1_method_28_code, prog_1_method_29_code, prog_1_method_30_code, prog_1_method_31_code, prog_1_method_32_code, prog_1_method_33_code, prog_1_method_34_code, prog_1_method_35_code, prog_1_method_36_code, prog_1_method_37_code, prog_1_method_38_code, prog_1_method_39_code, prog_1_method_40_code, prog_1_method_41_code, prog_1_method_42_code, prog_1_method_43_code, prog_1_method_44_code, prog_1_method_45_code, prog_1_method_46_code, prog_1_method_47_code, prog_1_method_48_code, prog_1_method_49_code, prog_1_method_50_code, prog_1_method_51_code, prog_1_method_52_code, prog_1_method_53_code, prog_1_method_54_code, prog_1_method_55_code, prog_1_method_56_code, prog_1_method_57_code, prog_1_method_58_code, prog_1_method_59_code, prog_1_method_60_code, prog_1_method_61_code, prog_1_method_62_code, prog_9_method_1_code, prog_9_method_2_code, prog_9_method_3_code, prog_9_method_4_code, prog_9_method_5_code, prog_9_method_6_code, prog_9_method_7_code, prog_9_method_8_code, prog_9_method_9_code, prog_9_method_10_code, prog_4_method_1_code, prog_4_method_2_code, prog_4_method_3_code, prog_4_method_4_code, prog_4_method_5_code, prog_4_method_6_code, prog_4_method_7_code, prog_4_method_8_code, prog_4_method_9_code, prog_4_method_10_code, prog_4_method_11_code, prog_4_method_12_code, prog_4_method_13_code, prog_4_method_14_code, prog_4_method_15_code, prog_4_method_16_code, prog_4_method_17_code, prog_4_method_18_code, prog_4_method_19_code, prog_4_method_20_code, prog_4_method_21_code, prog_4_method_22_code, prog_4_method_23_code, prog_4_method_24_code, prog_4_method_25_code, prog_4_method_26_code, prog_4_method_27_code, prog_8_method_1_code, prog_8_method_2_code, prog_8_method_3_code, prog_8_method_4_code, prog_8_method_5_code, prog_8_method_6_code, prog_8_method_7_code, prog_8_method_8_code, prog_8_method_9_code, prog_8_method_10_code, prog_8_method_11_code, prog_2_method_1_code, prog_2_method_2_code, prog_2_method_3_code, prog_2_method_4_code, prog_2_method_5_code, prog_2_method_6_code, prog_2_method_7_code, prog_2_method_8_code, prog_2_method_9_code, prog_2_method_10_code, prog_2_method_11_code, prog_2_method_12_code, prog_5_method_1_code, prog_5_method_2_code, prog_5_method_3_code, prog_5_method_4_code, prog_5_method_5_code, prog_5_method_6_code, prog_5_method_7_code, prog_5_method_8_code, prog_7_method_1_code, prog_7_method_2_code, prog_7_method_3_code, prog_7_method_4_code, prog_7_method_5_code, prog_7_method_6_code, prog_7_method_7_code, prog_7_method_8_code, prog_7_method_9_code, prog_7_method_10_code, prog_3_method_1_code, prog_3_method_2_code, prog_3_method_3_code, prog_3_method_4_code, prog_3_method_5_code, prog_6_method_1_code, prog_6_method_2_code, prog_6_method_3_code, prog_6_method_4_code, prog_6_method_5_code, prog_6_method_6_code, prog_6_method_7_code, prog_6_method_8_code, prog_11_method_1_code, prog_11_method_2_code, prog_11_method_3_code, prog_11_method_4_code, prog_11_method_5_code, prog_11_method_6_code, prog_11_method_7_code, prog_11_method_8_code, prog_11_method_9_code, prog_11_method_10_code, prog_11_method_11_code, prog_11_method_12_code, prog_11_method_13_code, prog_11_method_14_code, prog_11_method_15_code, prog_11_method_17_code, prog_11_method_18_code, prog_11_method_19_code, prog_11_method_20_code, prog_11_method_21_code, prog_11_method_22_code, prog_11_method_23_code, prog_11_method_24_code, prog_11_method_25_code, prog_11_method_26_code, prog_11_method_27_code, prog_11_method_28_code, prog_11_method_29_code, prog_11_method_30_code, prog_11_method_31_code, prog_11_method_32_code, prog_11_method_33_code, prog_11_method_34_code, prog_11_method_35_code, prog_11_method_36_code, prog_11_method_37_code, prog_11_method_38_code, prog_11_method_39_code, prog_11_method_40_code, prog_11_method_41_code, prog_11_method_42_code, prog_11_method_43_code, prog_11_method_44_code, prog_11_method_45_code, prog_11_method_46_code, prog_11_method_47_code, prog_11_method_48_code, prog_11_method_49_code, prog_11_method_50_code, prog_11_method_51_code, prog_11_method_52_code, prog_11_method_53_code, prog_11_method_54_code, prog_11_method_55_code, prog_11_method_56_code, prog_11_method_57_code, prog_11_method_58_code, prog_11_method_59_code, prog_11_method_60_code, prog_11_method_61_code, prog_11_method_62_code, prog_11_method_63_code, prog_11_method_64_code, prog_11_method_65_code, prog_11_method_66_code, prog_11_method_67_code, prog_11_method_68_code, prog_11_method_69_code, prog_11_method_70_code, prog_11_method_71_code, prog_11_method_72_code, prog_11_method_73_code, prog_11_method_74_code, prog_11_method_75_code, prog_11_method_76_code, prog_11_method_77_code, prog_11_method_78_code, prog_11_method_79_code, prog_11_method_80_code, prog_11_method_81_code, prog_11_method_82_code, prog_11_method_83_code, prog_11_method_84_code, prog_11_method_85_code, prog_11_method_86_code, prog_11_method_87_code, prog_11_method_88_code, prog_11_method_89_code, prog_11_method_90_code, prog_11_method_91_code, prog_11_method_92_code, prog_11_method_93_code, prog_11_method_94_code, prog_11_method_95_code, prog_11_method_96_code, prog_11_method_97_code, prog_11_method_98_code, prog_11_method_99_code, prog_11_method_100_code, prog_11_method_101_code, prog_11_method_102_code, prog_11_method_103_code, prog_11_method_104_code, prog_11_method_105_code, prog_11_method_106_code, prog_11_method_107_code, prog_11_method_108_code, prog_11_method_109_code, prog_11_method_110_code, prog_11_method_111_code, prog_11_method_112_code, prog_11_method_113_code, prog_11_method_114_code, prog_11_method_115_code, prog_11_method_116_code, prog_11_method_117_code, prog_11_method_118_code, prog_11_method_119_code, prog_11_method_120_code, prog_11_method_121_code, prog_11_method_122_code, prog_11_method_123_code, prog_11_method_124_code, prog_11_method_125_code, prog_18_method_59_code, prog_18_method_61_code, prog_18_method_65_code, prog_18_method_66_code, prog_18_method_69_code, prog_18_method_70_code, prog_17_method_48_code, prog_17_method_49_code, code]
def mj_by (y : Nat) : ByteArray := mj_bs.getD y ⟨#[]⟩
abbrev mj_nm (y : Nat) : MethodName := (mj_m y).1
abbrev mj_ml (y : Nat) : Nat := (mj_m y).2.1
abbrev mj_rt (y : Nat) : Option FieldType := (mj_m y).2.2.1
def mj_ow (y : Nat) : String := mj_cn.getD (mj_m y).2.2.2.1 ""
def mj_cps : List Nat := [8026, 10007, 10011, 10016, 10214, 10218, 12149, 12219, 10223, 10231, 11000, 11017, 11060, 11074, 11078, 11087, 11095, 11155, 11164, 11178, 11183, 11187, 11191, 11199, 11206, 11210, 11219, 11224, 11232, 12006, 11235, 11238, 12010, 12014, 12018, 12022, 12028, 12032, 12036, 12044, 12049, 12055, 12059, 12069, 12077, 12081, 12100, 12108, 12112, 12117, 12126, 12130, 12134, 11082, 10100, 10127, 11202, 9199, 8216, 8042, 11151, 10036, 8034, 8039, 10235, 10227, 10123, 10131, 10109, 10198, 11228, 11215, 8157, 10020, 10079, 10088, 10093, 10067, 10075, 10071, 10105, 10136, 10140, 10144, 10148, 10154, 10097, 10084, 10119, 10170, 10194, 10158, 10162, 10166, 10174, 10178, 10182, 10186, 10190, 8163, 8219, 10025, 10063, 10041, 10029, 10044, 10033, 10048, 10056, 10059, 9037, 10202, 11008, 11004, 11103, 11108, 11099, 11116, 11130, 11148, 11022, 11135, 9043, 11026, 11030, 11035, 11041, 11049, 11045, 11055, 9078, 9195, 11159, 11120, 11124, 11091, 11172, 11168, 11195, 12139, 9146, 10206, 11064, 11068, 12121, 9166, 10210, 12089, 12064, 12073, 12085, 12095, 12104, 13000, 14033, 14037, 14092, 14103, 14074, 14053, 14049, 14061, 14045, 14066, 14057, 14135, 14123, 14089, 13005, 13012, 13009, 14085, 14082, 14100, 14078, 14096, 14107, 14111, 14115, 14070, 14041, 14166, 14170, 14158, 14147, 14162, 14155, 14139, 14131, 14143, 14127, 14151, 14119, 14234, 15003, 15000, 14230, 13016, 13020, 13024, 15083, 14178, 14194, 14213, 14210, 14206, 14222, 14226, 15063, 15059, 15071, 15075, 15043, 15039, 15051, 15055, 15067, 15035, 15087, 15091, 15107, 14182, 14186, 14174, 14190, 14198, 14202, 14217, 15007, 15019, 15023, 15027, 15031, 15079, 15095, 15099, 15103, 15114, 15111, 15118, 15129, 15126, 15133, 15122, 15137, 15141, 15145, 15149, 15153, 15169, 15165, 15161, 15157, 15173, 15177, 15181, 15185, 15189, 15193, 15197, 15205, 15201, 15209, 15213, 15221, 15229, 15225, 15217, 15233, 15237, 15015, 16005, 15011, 16001, 16009, 16013, 16017, 12002, 11052, 11013, 11143, 10052, 11140, 12039, 10112]
abbrev mj_NM : Nat := 285
