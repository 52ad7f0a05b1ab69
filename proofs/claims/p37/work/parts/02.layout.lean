def qr_Fitter : String := "ColumnsLevelled$Fitter"
def qt_Fitter : u_T := fun k => match k with
  | 0 => ("ColumnsLevelled$Fitter", "run", "LColumnsLevelled$Run;", true)
  | 1 => ("ColumnsLevelled$Fitter", "flow", "LColumnsLevelled$Flow;", true)
  | 2 => ("ColumnsLevelled$Fitter", "rule", "I", false)
  | 3 => ("ColumnsLevelled$Fitter", "lineHigh", "I", false)
  | 4 => ("ColumnsLevelled$Fitter", "bears", "[[I", true)
  | 5 => ("ColumnsLevelled$Fitter", "measuredSection", "I", false)
  | 6 => ("ColumnsLevelled$Fitter", "measuredHeight", "I", false)
  | 7 => ("ColumnsLevelled$Fitter", "measuredColumns", "I", false)
  | 8 => ("ColumnsLevelled$Fitter", "known", "[I", true)
  | _ => ("ColumnsLevelled$Fitter", "learnt", "Z", false)
def qr_Flow : String := "ColumnsLevelled$Flow"
def qt_Flow : u_T := fun k => match k with
  | 0 => ("ColumnsLevelled$Flow", "pieces", "I", false)
  | 1 => ("ColumnsLevelled$Flow", "sections", "I", false)
  | 2 => ("ColumnsLevelled$Flow", "notes", "I", false)
  | 3 => ("ColumnsLevelled$Flow", "run", "LColumnsLevelled$Run;", true)
  | 4 => ("ColumnsLevelled$Flow", "firsts", "[I", true)
  | 5 => ("ColumnsLevelled$Flow", "owners", "[I", true)
  | 6 => ("ColumnsLevelled$Flow", "numbers", "[I", true)
  | 7 => ("ColumnsLevelled$Flow", "heights", "[I", true)
  | 8 => ("ColumnsLevelled$Flow", "gaps", "[I", true)
  | 9 => ("ColumnsLevelled$Flow", "noteLines", "[I", true)
  | 10 => ("ColumnsLevelled$Flow", "parts", "[I", true)
  | 11 => ("ColumnsLevelled$Flow", "tops", "[I", true)
  | 12 => ("ColumnsLevelled$Flow", "heightsTo", "[I", true)
  | 13 => ("ColumnsLevelled$Flow", "linesTo", "[I", true)
  | 14 => ("ColumnsLevelled$Flow", "lastLines", "[I", true)
  | 15 => ("ColumnsLevelled$Flow", "ends", "[Z", true)
  | 16 => ("ColumnsLevelled$Flow", "begins", "[I", true)
  | 17 => ("ColumnsLevelled$Flow", "finishes", "[I", true)
  | 18 => ("ColumnsLevelled$Flow", "spanHeights", "[I", true)
  | _ => ("ColumnsLevelled$Flow", "notePieces", "[I", true)
def qr_Past : String := "ColumnsLevelled$Past"
def qt_Past : u_T := fun k => match k with
  | 0 => ("ColumnsLevelled$Past", "runs", "[LColumnsLevelled$Run;", true)
  | 1 => ("ColumnsLevelled$Past", "next", "I", false)
  | _ => ("ColumnsLevelled$Past", "acts", "I", false)
def qr_Press : String := "ColumnsLevelled$Press"
def qt_Press : u_T := fun k => match k with
  | 0 => ("ColumnsLevelled$Press", "run", "LColumnsLevelled$Run;", true)
  | 1 => ("ColumnsLevelled$Press", "flow", "LColumnsLevelled$Flow;", true)
  | 2 => ("ColumnsLevelled$Press", "fitter", "LColumnsLevelled$Fitter;", true)
  | 3 => ("ColumnsLevelled$Press", "rows", "[[I", true)
  | 4 => ("ColumnsLevelled$Press", "columns", "I", false)
  | 5 => ("ColumnsLevelled$Press", "page", "I", false)
  | 6 => ("ColumnsLevelled$Press", "free", "I", false)
  | 7 => ("ColumnsLevelled$Press", "place", "I", false)
  | 8 => ("ColumnsLevelled$Press", "carried", "I", false)
  | 9 => ("ColumnsLevelled$Press", "stuck", "I", false)
  | 10 => ("ColumnsLevelled$Press", "spansPut", "I", false)
  | 11 => ("ColumnsLevelled$Press", "spanPages", "[I", true)
  | _ => ("ColumnsLevelled$Press", "spanAboves", "[I", true)
def qr_Run : String := "ColumnsLevelled$Run"
def qt_Run : u_T := fun k => match k with
  | 0 => ("ColumnsLevelled$Run", "blocks", "I", false)
  | 1 => ("ColumnsLevelled$Run", "settings", "[I", true)
  | _ => ("ColumnsLevelled$Run", "cells", "[I", true)
def qr_Tape : String := "ColumnsLevelled$Tape"
def qt_Tape : u_T := fun k => match k with
  | 0 => ("ColumnsLevelled$Tape", "bytes", "[I", true)
  | _ => ("ColumnsLevelled$Tape", "length", "I", false)
def qr_Teller : String := "ColumnsLevelled$Teller"
def qt_Teller : u_T := fun k => match k with
  | 0 => ("ColumnsLevelled$Teller", "tape", "LColumnsLevelled$Tape;", true)
  | 1 => ("ColumnsLevelled$Teller", "draft", "LColumnsLevelled$Run;", true)
  | 2 => ("ColumnsLevelled$Teller", "signs", "[I", true)
  | 3 => ("ColumnsLevelled$Teller", "places", "[I", true)
  | 4 => ("ColumnsLevelled$Teller", "values", "[I", true)
  | 5 => ("ColumnsLevelled$Teller", "next", "I", false)
  | 6 => ("ColumnsLevelled$Teller", "fault", "I", false)
  | _ => ("ColumnsLevelled$Teller", "told", "I", false)
def qr_Walker : String := "ColumnsLevelled$Walker"
def qt_Walker : u_T := fun k => match k with
  | 0 => ("ColumnsLevelled$Walker", "flow", "LColumnsLevelled$Flow;", true)
  | 1 => ("ColumnsLevelled$Walker", "fitter", "LColumnsLevelled$Fitter;", true)
  | 2 => ("ColumnsLevelled$Walker", "carries", "[[I", true)
  | _ => ("ColumnsLevelled$Walker", "many", "[[I", true)
def qr_Top : String := "ColumnsLevelled"
def qt_Top : u_T := fun k => match k with
  | 0 => ("ColumnsLevelled", "run", "LColumnsLevelled$Run;", true)
  | 1 => ("ColumnsLevelled", "tape", "LColumnsLevelled$Tape;", true)
  | 2 => ("ColumnsLevelled", "teller", "LColumnsLevelled$Teller;", true)
  | 3 => ("ColumnsLevelled", "past", "LColumnsLevelled$Past;", true)
  | 4 => ("ColumnsLevelled", "shelves", "[LColumnsLevelled$Run;", true)
  | 5 => ("ColumnsLevelled", "shelved", "I", false)
  | 6 => ("ColumnsLevelled", "shown", "LColumnsLevelled$Press;", true)
  | 7 => ("ColumnsLevelled", "asked", "LColumnsLevelled$Press;", true)
  | 8 => ("ColumnsLevelled", "walker", "LColumnsLevelled$Walker;", true)
  | 9 => ("ColumnsLevelled", "laid", "Z", false)
  | _ => ("ColumnsLevelled", "poured", "Z", false)
def qr_Flat : String := "ColumnsLevelledLaw$Flat"
def qt_Flat : u_T := fun k => match k with
  | 0 => ("ColumnsLevelledLaw$Flat", "r", "LColumnsLevelledLaw$Run;", true)
  | 1 => ("ColumnsLevelledLaw$Flat", "block", "[I", true)
  | 2 => ("ColumnsLevelledLaw$Flat", "number", "[I", true)
  | 3 => ("ColumnsLevelledLaw$Flat", "high", "[I", true)
  | 4 => ("ColumnsLevelledLaw$Flat", "space", "[I", true)
  | 5 => ("ColumnsLevelledLaw$Flat", "note", "[I", true)
  | 6 => ("ColumnsLevelledLaw$Flat", "section", "[I", true)
  | 7 => ("ColumnsLevelledLaw$Flat", "first", "[I", true)
  | 8 => ("ColumnsLevelledLaw$Flat", "span", "[I", true)
  | 9 => ("ColumnsLevelledLaw$Flat", "pieces", "I", false)
  | _ => ("ColumnsLevelledLaw$Flat", "sections", "I", false)
def qr_LRun : String := "ColumnsLevelledLaw$Run"
def qt_LRun : u_T := fun k => match k with
  | 0 => ("ColumnsLevelledLaw$Run", "set", "[I", true)
  | 1 => ("ColumnsLevelledLaw$Run", "many", "I", false)
  | 2 => ("ColumnsLevelledLaw$Run", "block", "[[I", true)
  | _ => ("ColumnsLevelledLaw$Run", "mark", "[[I", true)
def qr_SB : String := "java/lang/StringBuilder"
def qt_SB : u_T := fun k => match k with
  | 0 => ("java/lang/AbstractStringBuilder", "value", "[B", false)
  | 1 => ("java/lang/AbstractStringBuilder", "coder", "B", false)
  | 2 => ("java/lang/AbstractStringBuilder", "maybeLatin1", "Z", false)
  | _ => ("java/lang/AbstractStringBuilder", "count", "I", false)
def qr_String : String := "java/lang/String"
def qt_String : u_T := fun k => match k with
  | 0 => ("java/lang/String", "value", "[B", true)
  | 1 => ("java/lang/String", "coder", "B", true)
  | 2 => ("java/lang/String", "hash", "I", false)
  | _ => ("java/lang/String", "hashIsZero", "Z", false)
abbrev qm_cl : List vw_C := [(qr_Fitter, qt_Fitter, 10), (qr_Flow, qt_Flow, 20), (qr_Past, qt_Past, 3), (qr_Press, qt_Press, 13), (qr_Run, qt_Run, 3), (qr_Tape, qt_Tape, 2), (qr_Teller, qt_Teller, 8), (qr_Walker, qt_Walker, 4), (qr_Top, qt_Top, 11), (qr_Flat, qt_Flat, 11), (qr_LRun, qt_LRun, 4), (qr_SB, qt_SB, 4), (qr_String, qt_String, 4)]
def qm_ftl : List (List Bool) := [[true, true, false, false, true, false, false, false, true, false], [false, false, false, true, true, true, true, true, true, true, true, true, true, true, true, true, true, true, true, true], [true, false, false], [true, true, true, true, false, false, false, false, false, false, false, true, true], [false, true, true], [true, false], [true, true, true, true, true, false, false, false], [true, true, true, true], [true, true, true, true, true, false, true, true, true, false, false], [true, true, true, true, true, true, true, true, true, false, false], [true, false, true, true], [true, false, false, false], [true, false, false, false]]
def qm_N : Nat := 367
def qm_runs : List (Nat × Nat × Nat) := [(1, 18, 0), (1, 14, 0), (1, 1, 8), (1, 1, 256), (1, 15, 0), (1, 1, 400), (1, 16, 0), (1, 14, 0), (1, 1, 8), (1, 1, 256), (3, 1, 401), (1, 12, 0), (1, 5, 10), (1, 14, 0), (1, 1, 8), (1, 1, 256), (1, 14, 0), (1, 1, 8), (1, 1, 256), (1, 14, 0), (1, 1, 8), (1, 1, 256), (1, 14, 0), (1, 1, 8), (1, 1, 256), (1, 14, 0), (1, 1, 8), (1, 1, 256), (1, 14, 0), (1, 1, 8), (1, 1, 256), (1, 14, 0), (1, 1, 8), (1, 1, 256), (1, 14, 0), (1, 1, 8), (1, 1, 256), (1, 14, 0), (1, 1, 8), (1, 1, 256), (1, 14, 0), (1, 1, 8), (1, 1, 256), (1, 5, 2), (1, 14, 0), (1, 1, 8), (1, 1, 256), (1, 14, 0), (1, 1, 8), (1, 1, 256), (1, 13, 0), (1, 11, 0), (1, 1, 16), (10, 1, 91), (1, 2, 91), (3, 1, 17), (1, 1, 64), (1, 10, 0), (1, 4, 6), (6, 1, 91), (1, 1, 1820), (1, 4, 240), (240, 1, 12), (2, 1, 16), (1, 13, 0), (1, 14, 0), (1, 1, 8), (1, 1, 256), (1, 11, 0), (1, 1, 16), (10, 1, 91), (1, 2, 91), (3, 1, 17), (1, 1, 64), (1, 10, 0), (1, 4, 6), (6, 1, 91), (1, 1, 1820), (1, 4, 5), (5, 1, 12), (2, 1, 16), (1, 17, 0), (1, 4, 2), (2, 1, 91), (1, 4, 2), (2, 1, 1820), (38, 0, 0), (3, 1, 8), (1, 6, 0)]
def qm_kl : List (Nat × Nat × Nat) → Nat → Nat × Nat
  | [], _ => (0, 0)
  | (c, t, n) :: r, i => if i < c then (t, n) else qm_kl r (i - c)
def qm_kd (i : Nat) : Nat × Nat := qm_kl qm_runs i
def qm_rft : List (Nat × List Nat) := [(0, [1, 4, 6, 13, 45, 0, 52, 322, 360, 0, 0]), (1, [0, 2, 3]), (4, [5, 0]), (6, [4, 7, 10, 11, 12, 0, 0, 0]), (7, [0, 8, 9]), (13, [14, 0, 0]), (15, [0, 16, 17]), (18, [0, 19, 20]), (21, [0, 22, 23]), (24, [0, 25, 26]), (27, [0, 28, 29]), (30, [0, 31, 32]), (33, [0, 34, 35]), (36, [0, 37, 38]), (39, [0, 40, 41]), (42, [0, 43, 44]), (46, [0, 47, 48]), (49, [0, 50, 51]), (52, [1, 53, 70, 79, 0, 0, 0, 0, 0, 0, 0, 320, 321]), (53, [0, 0, 0, 1, 54, 55, 56, 57, 58, 59, 60, 61, 62, 63, 64, 65, 66, 67, 68, 69]), (70, [1, 53, 0, 0, 71, 0, 0, 0, 78, 0]), (322, [323, 326, 343, 352, 0, 0, 0, 0, 0, 0, 0, 358, 359]), (323, [0, 324, 325]), (326, [0, 0, 0, 323, 327, 328, 329, 330, 331, 332, 333, 334, 335, 336, 337, 338, 339, 340, 341, 342]), (343, [323, 326, 0, 0, 344, 0, 0, 0, 351, 0]), (360, [53, 70, 361, 364])]
def qm_look : List (Nat × List Nat) → Nat → Option (List Nat)
  | [], _ => none
  | q :: r, i => if i = q.1 then some q.2 else qm_look r i
def qm_rf (i k : Nat) : Nat := match qm_look qm_rft i with
  | some l => l.getD k 0
  | none => if (qm_kd i).1 = 4 then i + 1 + k else if (qm_kd i).1 = 5 then i + 1 + 3 * k else 0
def qs_byt : List (List Int32) := [[32, 99, 111, 108, 117, 109, 110, 115, 32, 104, 101, 105, 103, 104, 116, 32, 111, 114, 112, 104, 97, 110, 115, 32, 119, 105, 100, 111, 119, 115, 32, 102, 111, 108, 108, 111, 119, 32, 110, 111, 116, 101, 32, 114, 117, 108, 101, 32, 114, 111, 111, 109, 32, 108, 105, 110, 101, 115, 32, 115, 111, 108, 105, 100, 32, 104, 101, 97, 100, 32, 116, 97, 98, 108, 101, 32, 115, 112, 97, 110, 32, 116, 105, 101, 100, 32, 119, 104, 111, 108, 101, 32, 115, 112, 97, 99, 101, 32, 109, 97, 114, 107, 32],
  [99, 111, 108, 117, 109, 110, 115],
  [104, 101, 105, 103, 104, 116],
  [111, 114, 112, 104, 97, 110, 115],
  [119, 105, 100, 111, 119, 115],
  [102, 111, 108, 108, 111, 119],
  [110, 111, 116, 101],
  [114, 117, 108, 101],
  [114, 111, 111, 109],
  [108, 105, 110, 101, 115],
  [115, 111, 108, 105, 100],
  [104, 101, 97, 100],
  [116, 97, 98, 108, 101],
  [115, 112, 97, 110],
  [116, 105, 101, 100],
  [115, 112, 97, 99, 101],
  [119, 104, 111, 108, 101],
  [109, 97, 114, 107]]
def qs_len : List Nat := [103, 7, 6, 7, 6, 6, 4, 4, 4, 5, 5, 4, 5, 4, 4, 5, 5, 4]
def qs_all : List (String × Nat × String × Nat) := [(qr_Teller, 94, " columns height orphans widows follow note rule room lines solid head table span tied whole space mark ", 408)]
