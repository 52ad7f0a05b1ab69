def jy_Fitter_init : MethodName := ⟨qr_Fitter, "<init>", "(LColumnsLevelled$Run;LColumnsLevelled$Flow;)V"⟩
def jy_Fitter_forget : MethodName := ⟨qr_Fitter, "forget", "()V"⟩
def jy_Fitter_leftOver : MethodName := ⟨qr_Fitter, "leftOver", "(IIII)I"⟩
def jy_Fitter_linesIn : MethodName := ⟨qr_Fitter, "linesIn", "(I)I"⟩
def jy_Fitter_bearsAt : MethodName := ⟨qr_Fitter, "bearsAt", "(II)I"⟩
def jy_Fitter_leastOf : MethodName := ⟨qr_Fitter, "leastOf", "(I)I"⟩
def jy_Fitter_leastFrom : MethodName := ⟨qr_Fitter, "leastFrom", "(IIII)I"⟩
def jy_Fitter_slotOf : MethodName := ⟨qr_Fitter, "slotOf", "(III)I"⟩
def jy_Fitter_measure : MethodName := ⟨qr_Fitter, "measure", "(III)V"⟩
def jy_Fitter_bearsFrom : MethodName := ⟨qr_Fitter, "bearsFrom", "(II[I)I"⟩
def jy_Fitter_latest : MethodName := ⟨qr_Fitter, "latest", "(IIIII)I"⟩
def jy_Flow_init : MethodName := ⟨qr_Flow, "<init>", "(LColumnsLevelled$Run;)V"⟩
def jy_Flow_lay : MethodName := ⟨qr_Flow, "lay", "()V"⟩
def jy_Flow_openSection : MethodName := ⟨qr_Flow, "openSection", "(I)V"⟩
def jy_Flow_layPieces : MethodName := ⟨qr_Flow, "layPieces", "(I)V"⟩
def jy_Flow_markEnds : MethodName := ⟨qr_Flow, "markEnds", "()V"⟩
def jy_Flow_markEnd : MethodName := ⟨qr_Flow, "markEnd", "(I)V"⟩
def jy_Flow_endsBehind : MethodName := ⟨qr_Flow, "endsBehind", "(II)Z"⟩
def jy_Flow_spans : MethodName := ⟨qr_Flow, "spans", "()I"⟩
def jy_Flow_mayEnd : MethodName := ⟨qr_Flow, "mayEnd", "(I)Z"⟩
def jy_Flow_endsIn : MethodName := ⟨qr_Flow, "endsIn", "(II)I"⟩
def jy_Flow_ownLines : MethodName := ⟨qr_Flow, "ownLines", "(II)I"⟩
def jy_Flow_lastLinesAhead : MethodName := ⟨qr_Flow, "lastLinesAhead", "(I)I"⟩
def jy_Flow_text : MethodName := ⟨qr_Flow, "text", "(II)I"⟩
def jy_Past_init : MethodName := ⟨qr_Past, "<init>", "()V"⟩
def jy_Past_push : MethodName := ⟨qr_Past, "push", "(LColumnsLevelled$Run;)V"⟩
def jy_Past_pop : MethodName := ⟨qr_Past, "pop", "(LColumnsLevelled$Run;)V"⟩
def jy_Press_init : MethodName := ⟨qr_Press, "<init>", "(LColumnsLevelled$Run;I)V"⟩
def jy_Press_lay : MethodName := ⟨qr_Press, "lay", "()V"⟩
def jy_Press_pourAll : MethodName := ⟨qr_Press, "pourAll", "()I"⟩
def jy_Press_answer : MethodName := ⟨qr_Press, "answer", "()I"⟩
def jy_Press_turnPage : MethodName := ⟨qr_Press, "turnPage", "()V"⟩
def jy_Press_pageIsFree : MethodName := ⟨qr_Press, "pageIsFree", "()Z"⟩
def jy_Press_putSpan : MethodName := ⟨qr_Press, "putSpan", "(I)V"⟩
def jy_Press_pourSection : MethodName := ⟨qr_Press, "pourSection", "(I)V"⟩
def jy_Press_level : MethodName := ⟨qr_Press, "level", "(II)V"⟩
def jy_Press_fill : MethodName := ⟨qr_Press, "fill", "(I)Z"⟩
def jy_Press_putColumn : MethodName := ⟨qr_Press, "putColumn", "(IIIIZ)Z"⟩
def jy_Press_cell : MethodName := ⟨qr_Press, "cell", "(II)I"⟩
def jy_Press_used : MethodName := ⟨qr_Press, "used", "(I)I"⟩
def jy_Press_columnOf : MethodName := ⟨qr_Press, "columnOf", "(I)I"⟩
def jy_Press_leftOfNote : MethodName := ⟨qr_Press, "leftOfNote", "(II)I"⟩
def jy_Press_linesByMark : MethodName := ⟨qr_Press, "linesByMark", "(I)I"⟩
def jy_Press_columnsOfNote : MethodName := ⟨qr_Press, "columnsOfNote", "(I)I"⟩
def jy_Run_init : MethodName := ⟨qr_Run, "<init>", "()V"⟩
def jy_Run_takes : MethodName := ⟨qr_Run, "takes", "(II)Z"⟩
def jy_Run_clear : MethodName := ⟨qr_Run, "clear", "()V"⟩
def jy_Run_copyFrom : MethodName := ⟨qr_Run, "copyFrom", "(LColumnsLevelled$Run;)V"⟩
def jy_Run_setting : MethodName := ⟨qr_Run, "setting", "(I)I"⟩
def jy_Run_put : MethodName := ⟨qr_Run, "put", "(II)V"⟩
def jy_Run_has : MethodName := ⟨qr_Run, "has", "(I)Z"⟩
def jy_Run_hasPieces : MethodName := ⟨qr_Run, "hasPieces", "(I)Z"⟩
def jy_Run_cell : MethodName := ⟨qr_Run, "cell", "(II)I"⟩
def jy_Run_putCell : MethodName := ⟨qr_Run, "putCell", "(III)V"⟩
def jy_Run_allPieces : MethodName := ⟨qr_Run, "allPieces", "()I"⟩
def jy_Run_add : MethodName := ⟨qr_Run, "add", "(I)I"⟩
def jy_Run_exchange : MethodName := ⟨qr_Run, "exchange", "(II)V"⟩
def jy_Run_repeat : MethodName := ⟨qr_Run, "repeat", "(I)V"⟩
def jy_Run_remove : MethodName := ⟨qr_Run, "remove", "(I)V"⟩
def jy_Run_copyCells : MethodName := ⟨qr_Run, "copyCells", "(II)V"⟩
def jy_Run_noteAt : MethodName := ⟨qr_Run, "noteAt", "(II)I"⟩
def jy_Run_addMark : MethodName := ⟨qr_Run, "addMark", "(III)V"⟩
def jy_Tape_init : MethodName := ⟨qr_Tape, "<init>", "()V"⟩
def jy_Tape_append : MethodName := ⟨qr_Tape, "append", "(I)V"⟩
def jy_Teller_init : MethodName := ⟨qr_Teller, "<init>", "(LColumnsLevelled$Tape;)V"⟩
def jy_Teller_read : MethodName := ⟨qr_Teller, "read", "()I"⟩
def jy_Teller_split : MethodName := ⟨qr_Teller, "split", "()V"⟩
def jy_Teller_signOf : MethodName := ⟨qr_Teller, "signOf", "(I)I"⟩
def jy_Teller_numberOf : MethodName := ⟨qr_Teller, "numberOf", "(II)I"⟩
def jy_Teller_wordOf : MethodName := ⟨qr_Teller, "wordOf", "(II)I"⟩
def jy_Teller_isWord : MethodName := ⟨qr_Teller, "isWord", "(III)Z"⟩
def jy_Teller_readPart : MethodName := ⟨qr_Teller, "readPart", "()V"⟩
def jy_Teller_readSetting : MethodName := ⟨qr_Teller, "readSetting", "(II)V"⟩
def jy_Teller_readBlock : MethodName := ⟨qr_Teller, "readBlock", "(II)V"⟩
def jy_Teller_mostHigh : MethodName := ⟨qr_Teller, "mostHigh", "(I)I"⟩
def jy_Teller_readWords : MethodName := ⟨qr_Teller, "readWords", "(II)V"⟩
def jy_Teller_readMark : MethodName := ⟨qr_Teller, "readMark", "(II)V"⟩
def jy_Teller_tellOnce : MethodName := ⟨qr_Teller, "tellOnce", "(II)V"⟩
def jy_Teller_readWord : MethodName := ⟨qr_Teller, "readWord", "()I"⟩
def jy_Teller_readNumber : MethodName := ⟨qr_Teller, "readNumber", "(II)I"⟩
def jy_Teller_wrong : MethodName := ⟨qr_Teller, "wrong", "(II)V"⟩
def jy_Teller_sign : MethodName := ⟨qr_Teller, "sign", "()I"⟩
def jy_Teller_place : MethodName := ⟨qr_Teller, "place", "()I"⟩
def jy_Walker_init : MethodName := ⟨qr_Walker, "<init>", "(LColumnsLevelled$Press;)V"⟩
def jy_Top_init : MethodName := ⟨qr_Top, "<init>", "()V"⟩
def jy_Top_feed : MethodName := ⟨qr_Top, "feed", "(IIIII)I"⟩
def jy_Top_end : MethodName := ⟨qr_Top, "end", "(I)I"⟩
def jy_Top_tell : MethodName := ⟨qr_Top, "tell", "()I"⟩
def jy_Top_set : MethodName := ⟨qr_Top, "set", "(II)I"⟩
def jy_Top_tie : MethodName := ⟨qr_Top, "tie", "(IZ)I"⟩
def jy_Top_space : MethodName := ⟨qr_Top, "space", "(II)I"⟩
def jy_Top_swap : MethodName := ⟨qr_Top, "swap", "(II)I"⟩
def jy_Top_again : MethodName := ⟨qr_Top, "again", "(I)I"⟩
def jy_Top_drop : MethodName := ⟨qr_Top, "drop", "(I)I"⟩
def jy_Top_undo : MethodName := ⟨qr_Top, "undo", "()I"⟩
def jy_Top_keep : MethodName := ⟨qr_Top, "keep", "(I)I"⟩
def jy_Top_back : MethodName := ⟨qr_Top, "back", "(I)I"⟩
def jy_Top_block : MethodName := ⟨qr_Top, "block", "(II)I"⟩
def jy_Top_piece : MethodName := ⟨qr_Top, "piece", "(II)I"⟩
def jy_Top_section : MethodName := ⟨qr_Top, "section", "(II)I"⟩
def jy_Top_count : MethodName := ⟨qr_Top, "count", "(I)I"⟩
def jy_Top_pour : MethodName := ⟨qr_Top, "pour", "()I"⟩
def jy_Top_column : MethodName := ⟨qr_Top, "column", "(II)I"⟩
def jy_Top_note : MethodName := ⟨qr_Top, "note", "(II)I"⟩
def jy_Top_loose : MethodName := ⟨qr_Top, "loose", "(I)I"⟩
def jy_Top_least : MethodName := ⟨qr_Top, "least", "(I)I"⟩
def jy_Top_at : MethodName := ⟨qr_Top, "at", "([II)I"⟩
def jy_Top_beginAct : MethodName := ⟨qr_Top, "beginAct", "()V"⟩
def jy_Top_changed : MethodName := ⟨qr_Top, "changed", "()V"⟩
def jy_Top_laidOut : MethodName := ⟨qr_Top, "laidOut", "()LColumnsLevelled$Press;"⟩
def jy_Top_pouredNow : MethodName := ⟨qr_Top, "pouredNow", "()LColumnsLevelled$Press;"⟩
def jy_Top_asks : MethodName := ⟨qr_Top, "asks", "(II)Z"⟩
def jy_Math_max : MethodName := ⟨"java/lang/Math", "max", "(II)I"⟩
def jy_Math_min : MethodName := ⟨"java/lang/Math", "min", "(II)I"⟩
def jy_String_init_81219 : MethodName := ⟨"java/lang/String", "<init>", "(Ljava/lang/StringBuilder;)V"⟩
def jy_String_length : MethodName := ⟨"java/lang/String", "length", "()I"⟩
def jy_String_charAt : MethodName := ⟨"java/lang/String", "charAt", "(I)C"⟩
def jy_String_getBytes : MethodName := ⟨"java/lang/String", "getBytes", "([BIB)V"⟩
def jy_String_init_db425 : MethodName := ⟨"java/lang/String", "<init>", "(Ljava/lang/AbstractStringBuilder;Ljava/lang/Void;)V"⟩
def jy_String_coder : MethodName := ⟨"java/lang/String", "coder", "()B"⟩
def jy_String_isLatin1 : MethodName := ⟨"java/lang/String", "isLatin1", "()Z"⟩
def jy_String_checkIndex : MethodName := ⟨"java/lang/String", "checkIndex", "(II)V"⟩
def jy_String_checkBoundsOffCount : MethodName := ⟨"java/lang/String", "checkBoundsOffCount", "(III)I"⟩
def jy_String_checkBoundsBeginEnd : MethodName := ⟨"java/lang/String", "checkBoundsBeginEnd", "(III)V"⟩
theorem jc_0 : qm_cls 0 qr_Fitter qt_Fitter 10 := ⟨rfl, fun w hw => (fun h => qm_good h.1 h.2) ((by decide +kernel : ∀ w ∈ u_ws qr_Fitter qt_Fitter 10, w ∈ lw_tbl ∧ goodWord w = true) w hw)⟩
def qy_Fitter : Nat → FieldType := fun k => match k with
  | 0 => .object "ColumnsLevelled$Run"
  | 1 => .object "ColumnsLevelled$Flow"
  | 2 => .int
  | 3 => .int
  | 4 => .array (.array (.int))
  | 5 => .int
  | 6 => .int
  | 7 => .int
  | 8 => .array (.int)
  | _ => .boolean
theorem qn_Fitter : ∀ k, k < 10 → parseFieldDescriptor (qt_Fitter k).2.2.1 = some (qy_Fitter k) := by decide +kernel
theorem qv_Fitter : ∀ a, a < 10 → ∀ b, b < 10 → a ≠ b → (qt_Fitter a).2.1 ≠ (qt_Fitter b).2.1 := by decide +kernel
theorem jc_1 : qm_cls 1 qr_Flow qt_Flow 20 := ⟨rfl, fun w hw => (fun h => qm_good h.1 h.2) ((by decide +kernel : ∀ w ∈ u_ws qr_Flow qt_Flow 20, w ∈ lw_tbl ∧ goodWord w = true) w hw)⟩
def qy_Flow : Nat → FieldType := fun k => match k with
  | 0 => .int
  | 1 => .int
  | 2 => .int
  | 3 => .object "ColumnsLevelled$Run"
  | 4 => .array (.int)
  | 5 => .array (.int)
  | 6 => .array (.int)
  | 7 => .array (.int)
  | 8 => .array (.int)
  | 9 => .array (.int)
  | 10 => .array (.int)
  | 11 => .array (.int)
  | 12 => .array (.int)
  | 13 => .array (.int)
  | 14 => .array (.int)
  | 15 => .array (.boolean)
  | 16 => .array (.int)
  | 17 => .array (.int)
  | 18 => .array (.int)
  | _ => .array (.int)
theorem qn_Flow : ∀ k, k < 20 → parseFieldDescriptor (qt_Flow k).2.2.1 = some (qy_Flow k) := by decide +kernel
theorem qv_Flow : ∀ a, a < 20 → ∀ b, b < 20 → a ≠ b → (qt_Flow a).2.1 ≠ (qt_Flow b).2.1 := by decide +kernel
theorem jc_2 : qm_cls 2 qr_Past qt_Past 3 := ⟨rfl, fun w hw => (fun h => qm_good h.1 h.2) ((by decide +kernel : ∀ w ∈ u_ws qr_Past qt_Past 3, w ∈ lw_tbl ∧ goodWord w = true) w hw)⟩
def qy_Past : Nat → FieldType := fun k => match k with
  | 0 => .array (.object "ColumnsLevelled$Run")
  | 1 => .int
  | _ => .int
theorem qn_Past : ∀ k, k < 3 → parseFieldDescriptor (qt_Past k).2.2.1 = some (qy_Past k) := by decide +kernel
theorem qv_Past : ∀ a, a < 3 → ∀ b, b < 3 → a ≠ b → (qt_Past a).2.1 ≠ (qt_Past b).2.1 := by decide +kernel
theorem jc_3 : qm_cls 3 qr_Press qt_Press 13 := ⟨rfl, fun w hw => (fun h => qm_good h.1 h.2) ((by decide +kernel : ∀ w ∈ u_ws qr_Press qt_Press 13, w ∈ lw_tbl ∧ goodWord w = true) w hw)⟩
def qy_Press : Nat → FieldType := fun k => match k with
  | 0 => .object "ColumnsLevelled$Run"
  | 1 => .object "ColumnsLevelled$Flow"
  | 2 => .object "ColumnsLevelled$Fitter"
  | 3 => .array (.array (.int))
  | 4 => .int
  | 5 => .int
  | 6 => .int
  | 7 => .int
  | 8 => .int
  | 9 => .int
  | 10 => .int
  | 11 => .array (.int)
  | _ => .array (.int)
theorem qn_Press : ∀ k, k < 13 → parseFieldDescriptor (qt_Press k).2.2.1 = some (qy_Press k) := by decide +kernel
theorem qv_Press : ∀ a, a < 13 → ∀ b, b < 13 → a ≠ b → (qt_Press a).2.1 ≠ (qt_Press b).2.1 := by decide +kernel
theorem jc_4 : qm_cls 4 qr_Run qt_Run 3 := ⟨rfl, fun w hw => (fun h => qm_good h.1 h.2) ((by decide +kernel : ∀ w ∈ u_ws qr_Run qt_Run 3, w ∈ lw_tbl ∧ goodWord w = true) w hw)⟩
def qy_Run : Nat → FieldType := fun k => match k with
  | 0 => .int
  | 1 => .array (.int)
  | _ => .array (.int)
theorem qn_Run : ∀ k, k < 3 → parseFieldDescriptor (qt_Run k).2.2.1 = some (qy_Run k) := by decide +kernel
theorem qv_Run : ∀ a, a < 3 → ∀ b, b < 3 → a ≠ b → (qt_Run a).2.1 ≠ (qt_Run b).2.1 := by decide +kernel
theorem jc_5 : qm_cls 5 qr_Tape qt_Tape 2 := ⟨rfl, fun w hw => (fun h => qm_good h.1 h.2) ((by decide +kernel : ∀ w ∈ u_ws qr_Tape qt_Tape 2, w ∈ lw_tbl ∧ goodWord w = true) w hw)⟩
def qy_Tape : Nat → FieldType := fun k => match k with
  | 0 => .array (.int)
  | _ => .int
theorem qn_Tape : ∀ k, k < 2 → parseFieldDescriptor (qt_Tape k).2.2.1 = some (qy_Tape k) := by decide +kernel
theorem qv_Tape : ∀ a, a < 2 → ∀ b, b < 2 → a ≠ b → (qt_Tape a).2.1 ≠ (qt_Tape b).2.1 := by decide +kernel
theorem jc_6 : qm_cls 6 qr_Teller qt_Teller 8 := ⟨rfl, fun w hw => (fun h => qm_good h.1 h.2) ((by decide +kernel : ∀ w ∈ u_ws qr_Teller qt_Teller 8, w ∈ lw_tbl ∧ goodWord w = true) w hw)⟩
def qy_Teller : Nat → FieldType := fun k => match k with
  | 0 => .object "ColumnsLevelled$Tape"
  | 1 => .object "ColumnsLevelled$Run"
  | 2 => .array (.int)
  | 3 => .array (.int)
  | 4 => .array (.int)
  | 5 => .int
  | 6 => .int
  | _ => .int
theorem qn_Teller : ∀ k, k < 8 → parseFieldDescriptor (qt_Teller k).2.2.1 = some (qy_Teller k) := by decide +kernel
theorem qv_Teller : ∀ a, a < 8 → ∀ b, b < 8 → a ≠ b → (qt_Teller a).2.1 ≠ (qt_Teller b).2.1 := by decide +kernel
theorem jc_7 : qm_cls 7 qr_Walker qt_Walker 4 := ⟨rfl, fun w hw => (fun h => qm_good h.1 h.2) ((by decide +kernel : ∀ w ∈ u_ws qr_Walker qt_Walker 4, w ∈ lw_tbl ∧ goodWord w = true) w hw)⟩
def qy_Walker : Nat → FieldType := fun k => match k with
  | 0 => .object "ColumnsLevelled$Flow"
  | 1 => .object "ColumnsLevelled$Fitter"
  | 2 => .array (.array (.int))
  | _ => .array (.array (.int))
theorem qn_Walker : ∀ k, k < 4 → parseFieldDescriptor (qt_Walker k).2.2.1 = some (qy_Walker k) := by decide +kernel
theorem qv_Walker : ∀ a, a < 4 → ∀ b, b < 4 → a ≠ b → (qt_Walker a).2.1 ≠ (qt_Walker b).2.1 := by decide +kernel
theorem jc_8 : qm_cls 8 qr_Top qt_Top 11 := ⟨rfl, fun w hw => (fun h => qm_good h.1 h.2) ((by decide +kernel : ∀ w ∈ u_ws qr_Top qt_Top 11, w ∈ lw_tbl ∧ goodWord w = true) w hw)⟩
def qy_Top : Nat → FieldType := fun k => match k with
  | 0 => .object "ColumnsLevelled$Run"
  | 1 => .object "ColumnsLevelled$Tape"
  | 2 => .object "ColumnsLevelled$Teller"
  | 3 => .object "ColumnsLevelled$Past"
  | 4 => .array (.object "ColumnsLevelled$Run")
  | 5 => .int
  | 6 => .object "ColumnsLevelled$Press"
  | 7 => .object "ColumnsLevelled$Press"
  | 8 => .object "ColumnsLevelled$Walker"
  | 9 => .boolean
  | _ => .boolean
theorem qn_Top : ∀ k, k < 11 → parseFieldDescriptor (qt_Top k).2.2.1 = some (qy_Top k) := by decide +kernel
theorem qv_Top : ∀ a, a < 11 → ∀ b, b < 11 → a ≠ b → (qt_Top a).2.1 ≠ (qt_Top b).2.1 := by decide +kernel
theorem jc_9 : qm_cls 9 qr_Flat qt_Flat 11 := ⟨rfl, fun w hw => (fun h => qm_good h.1 h.2) ((by decide +kernel : ∀ w ∈ u_ws qr_Flat qt_Flat 11, w ∈ lw_tbl ∧ goodWord w = true) w hw)⟩
def qy_Flat : Nat → FieldType := fun k => match k with
  | 0 => .object "ColumnsLevelledLaw$Run"
  | 1 => .array (.int)
  | 2 => .array (.int)
  | 3 => .array (.int)
  | 4 => .array (.int)
  | 5 => .array (.int)
  | 6 => .array (.int)
  | 7 => .array (.int)
  | 8 => .array (.int)
  | 9 => .int
  | _ => .int
theorem qn_Flat : ∀ k, k < 11 → parseFieldDescriptor (qt_Flat k).2.2.1 = some (qy_Flat k) := by decide +kernel
theorem qv_Flat : ∀ a, a < 11 → ∀ b, b < 11 → a ≠ b → (qt_Flat a).2.1 ≠ (qt_Flat b).2.1 := by decide +kernel
theorem jc_10 : qm_cls 10 qr_LRun qt_LRun 4 := ⟨rfl, fun w hw => (fun h => qm_good h.1 h.2) ((by decide +kernel : ∀ w ∈ u_ws qr_LRun qt_LRun 4, w ∈ lw_tbl ∧ goodWord w = true) w hw)⟩
def qy_LRun : Nat → FieldType := fun k => match k with
  | 0 => .array (.int)
  | 1 => .int
  | 2 => .array (.array (.int))
  | _ => .array (.array (.int))
theorem qn_LRun : ∀ k, k < 4 → parseFieldDescriptor (qt_LRun k).2.2.1 = some (qy_LRun k) := by decide +kernel
theorem qv_LRun : ∀ a, a < 4 → ∀ b, b < 4 → a ≠ b → (qt_LRun a).2.1 ≠ (qt_LRun b).2.1 := by decide +kernel
theorem jc_11 : qm_cls 11 qr_SB qt_SB 4 := ⟨rfl, fun w hw => (fun h => qm_good h.1 h.2) ((by decide +kernel : ∀ w ∈ u_ws qr_SB qt_SB 4, w ∈ lw_tbl ∧ goodWord w = true) w hw)⟩
def qy_SB : Nat → FieldType := fun k => match k with
  | 0 => .array (.byte)
  | 1 => .byte
  | 2 => .boolean
  | _ => .int
theorem qn_SB : ∀ k, k < 4 → parseFieldDescriptor (qt_SB k).2.2.1 = some (qy_SB k) := by decide +kernel
theorem qv_SB : ∀ a, a < 4 → ∀ b, b < 4 → a ≠ b → (qt_SB a).2.1 ≠ (qt_SB b).2.1 := by decide +kernel
theorem jc_12 : qm_cls 12 qr_String qt_String 4 := ⟨rfl, fun w hw => (fun h => qm_good h.1 h.2) ((by decide +kernel : ∀ w ∈ u_ws qr_String qt_String 4, w ∈ lw_tbl ∧ goodWord w = true) w hw)⟩
def qy_String : Nat → FieldType := fun k => match k with
  | 0 => .array (.byte)
  | 1 => .byte
  | 2 => .int
  | _ => .boolean
theorem qn_String : ∀ k, k < 4 → parseFieldDescriptor (qt_String k).2.2.1 = some (qy_String k) := by decide +kernel
theorem qv_String : ∀ a, a < 4 → ∀ b, b < 4 → a ≠ b → (qt_String a).2.1 ≠ (qt_String b).2.1 := by decide +kernel
theorem fl_Top_12 : qm_FL qr_Top 12 8 0 := ⟨_, _, _, jc_8, by decide, qm_good (List.mem_of_getElem? (i := 381) (by decide +kernel)) rfl⟩
theorem fl_Top_19 : qm_FL qr_Top 19 8 1 := ⟨_, _, _, jc_8, by decide, qm_good (List.mem_of_getElem? (i := 382) (by decide +kernel)) rfl⟩
theorem fl_Top_35 : qm_FL qr_Top 35 8 3 := ⟨_, _, _, jc_8, by decide, qm_good (List.mem_of_getElem? (i := 384) (by decide +kernel)) rfl⟩
theorem fl_Top_39 : qm_FL qr_Top 39 8 4 := ⟨_, _, _, jc_8, by decide, qm_good (List.mem_of_getElem? (i := 385) (by decide +kernel)) rfl⟩
theorem fl_Top_48 : qm_FL qr_Top 48 8 6 := ⟨_, _, _, jc_8, by decide, qm_good (List.mem_of_getElem? (i := 387) (by decide +kernel)) rfl⟩
theorem fl_Top_64 : qm_FL qr_Top 64 5 1 := ⟨_, _, _, jc_5, by decide, qm_good (List.mem_of_getElem? (i := 101) (by decide +kernel)) rfl⟩
theorem fl_Top_83 : qm_FL qr_Top 83 2 2 := ⟨_, _, _, jc_2, by decide, qm_good (List.mem_of_getElem? (i := 155) (by decide +kernel)) rfl⟩
theorem fl_Top_122 : qm_FL qr_Top 122 4 0 := ⟨_, _, _, jc_4, by decide, qm_good (List.mem_of_getElem? (i := 81) (by decide +kernel)) rfl⟩
theorem fl_Top_137 : qm_FL qr_Top 137 8 5 := ⟨_, _, _, jc_8, by decide, qm_good (List.mem_of_getElem? (i := 386) (by decide +kernel)) rfl⟩
theorem fl_Top_144 : qm_FL qr_Top 144 3 1 := ⟨_, _, _, jc_3, by decide, qm_good (List.mem_of_getElem? (i := 318) (by decide +kernel)) rfl⟩
theorem fl_Top_148 : qm_FL qr_Top 148 1 4 := ⟨_, _, _, jc_1, by decide, qm_good (List.mem_of_getElem? (i := 184) (by decide +kernel)) rfl⟩
theorem fl_Top_158 : qm_FL qr_Top 158 1 0 := ⟨_, _, _, jc_1, by decide, qm_good (List.mem_of_getElem? (i := 176) (by decide +kernel)) rfl⟩
theorem fl_Top_161 : qm_FL qr_Top 161 1 5 := ⟨_, _, _, jc_1, by decide, qm_good (List.mem_of_getElem? (i := 186) (by decide +kernel)) rfl⟩
theorem fl_Top_164 : qm_FL qr_Top 164 1 6 := ⟨_, _, _, jc_1, by decide, qm_good (List.mem_of_getElem? (i := 188) (by decide +kernel)) rfl⟩
theorem fl_Top_167 : qm_FL qr_Top 167 1 7 := ⟨_, _, _, jc_1, by decide, qm_good (List.mem_of_getElem? (i := 190) (by decide +kernel)) rfl⟩
theorem fl_Top_170 : qm_FL qr_Top 170 1 8 := ⟨_, _, _, jc_1, by decide, qm_good (List.mem_of_getElem? (i := 193) (by decide +kernel)) rfl⟩
theorem fl_Top_173 : qm_FL qr_Top 173 1 9 := ⟨_, _, _, jc_1, by decide, qm_good (List.mem_of_getElem? (i := 195) (by decide +kernel)) rfl⟩
theorem fl_Top_179 : qm_FL qr_Top 179 1 10 := ⟨_, _, _, jc_1, by decide, qm_good (List.mem_of_getElem? (i := 198) (by decide +kernel)) rfl⟩
theorem fl_Top_182 : qm_FL qr_Top 182 1 1 := ⟨_, _, _, jc_1, by decide, qm_good (List.mem_of_getElem? (i := 179) (by decide +kernel)) rfl⟩
theorem fl_Top_185 : qm_FL qr_Top 185 1 16 := ⟨_, _, _, jc_1, by decide, qm_good (List.mem_of_getElem? (i := 212) (by decide +kernel)) rfl⟩
theorem fl_Top_188 : qm_FL qr_Top 188 1 17 := ⟨_, _, _, jc_1, by decide, qm_good (List.mem_of_getElem? (i := 216) (by decide +kernel)) rfl⟩
theorem fl_Top_191 : qm_FL qr_Top 191 1 18 := ⟨_, _, _, jc_1, by decide, qm_good (List.mem_of_getElem? (i := 219) (by decide +kernel)) rfl⟩
theorem fl_Top_200 : qm_FL qr_Top 200 1 2 := ⟨_, _, _, jc_1, by decide, qm_good (List.mem_of_getElem? (i := 181) (by decide +kernel)) rfl⟩
theorem fl_Top_212 : qm_FL qr_Top 212 3 4 := ⟨_, _, _, jc_3, by decide, qm_good (List.mem_of_getElem? (i := 324) (by decide +kernel)) rfl⟩
theorem fl_Top_222 : qm_FL qr_Top 222 1 19 := ⟨_, _, _, jc_1, by decide, qm_good (List.mem_of_getElem? (i := 221) (by decide +kernel)) rfl⟩
theorem fl_Top_240 : qm_FL qr_Top 240 3 9 := ⟨_, _, _, jc_3, by decide, qm_good (List.mem_of_getElem? (i := 330) (by decide +kernel)) rfl⟩
theorem fl_Top_267 : qm_FL qr_Top 267 3 2 := ⟨_, _, _, jc_3, by decide, qm_good (List.mem_of_getElem? (i := 321) (by decide +kernel)) rfl⟩
theorem fl_Top_330 : qm_FL qr_Top 330 8 9 := ⟨_, _, _, jc_8, by decide, qm_good (List.mem_of_getElem? (i := 390) (by decide +kernel)) rfl⟩
theorem fl_Top_334 : qm_FL qr_Top 334 8 10 := ⟨_, _, _, jc_8, by decide, qm_good (List.mem_of_getElem? (i := 391) (by decide +kernel)) rfl⟩
theorem fl_Fitter_9 : qm_FL qr_Fitter 9 0 0 := ⟨_, _, _, jc_0, by decide, qm_good (List.mem_of_getElem? (i := 280) (by decide +kernel)) rfl⟩
theorem fl_Fitter_15 : qm_FL qr_Fitter 15 0 1 := ⟨_, _, _, jc_0, by decide, qm_good (List.mem_of_getElem? (i := 281) (by decide +kernel)) rfl⟩
theorem fl_Fitter_21 : qm_FL qr_Fitter 21 0 4 := ⟨_, _, _, jc_0, by decide, qm_good (List.mem_of_getElem? (i := 284) (by decide +kernel)) rfl⟩
theorem fl_Fitter_24 : qm_FL qr_Fitter 24 0 8 := ⟨_, _, _, jc_0, by decide, qm_good (List.mem_of_getElem? (i := 288) (by decide +kernel)) rfl⟩
theorem fl_Fitter_28 : qm_FL qr_Fitter 28 0 9 := ⟨_, _, _, jc_0, by decide, qm_good (List.mem_of_getElem? (i := 289) (by decide +kernel)) rfl⟩
theorem fl_Fitter_41 : qm_FL qr_Fitter 41 0 2 := ⟨_, _, _, jc_0, by decide, qm_good (List.mem_of_getElem? (i := 282) (by decide +kernel)) rfl⟩
theorem fl_Fitter_45 : qm_FL qr_Fitter 45 0 3 := ⟨_, _, _, jc_0, by decide, qm_good (List.mem_of_getElem? (i := 283) (by decide +kernel)) rfl⟩
theorem fl_Fitter_48 : qm_FL qr_Fitter 48 0 5 := ⟨_, _, _, jc_0, by decide, qm_good (List.mem_of_getElem? (i := 285) (by decide +kernel)) rfl⟩
theorem fl_Fitter_75 : qm_FL qr_Fitter 75 1 16 := ⟨_, _, _, jc_1, by decide, qm_good (List.mem_of_getElem? (i := 211) (by decide +kernel)) rfl⟩
theorem fl_Fitter_93 : qm_FL qr_Fitter 93 1 17 := ⟨_, _, _, jc_1, by decide, qm_good (List.mem_of_getElem? (i := 215) (by decide +kernel)) rfl⟩
theorem fl_Fitter_99 : qm_FL qr_Fitter 99 0 6 := ⟨_, _, _, jc_0, by decide, qm_good (List.mem_of_getElem? (i := 286) (by decide +kernel)) rfl⟩
theorem fl_Fitter_102 : qm_FL qr_Fitter 102 0 7 := ⟨_, _, _, jc_0, by decide, qm_good (List.mem_of_getElem? (i := 287) (by decide +kernel)) rfl⟩
theorem fl_Fitter_105 : qm_FL qr_Fitter 105 1 15 := ⟨_, _, _, jc_1, by decide, qm_good (List.mem_of_getElem? (i := 208) (by decide +kernel)) rfl⟩
theorem fl_Fitter_113 : qm_FL qr_Fitter 113 1 12 := ⟨_, _, _, jc_1, by decide, qm_good (List.mem_of_getElem? (i := 202) (by decide +kernel)) rfl⟩
theorem fl_Fitter_116 : qm_FL qr_Fitter 116 1 8 := ⟨_, _, _, jc_1, by decide, qm_good (List.mem_of_getElem? (i := 192) (by decide +kernel)) rfl⟩
theorem fl_Fitter_119 : qm_FL qr_Fitter 119 1 11 := ⟨_, _, _, jc_1, by decide, qm_good (List.mem_of_getElem? (i := 200) (by decide +kernel)) rfl⟩
theorem fl_Fitter_122 : qm_FL qr_Fitter 122 1 13 := ⟨_, _, _, jc_1, by decide, qm_good (List.mem_of_getElem? (i := 204) (by decide +kernel)) rfl⟩
theorem fl_Fitter_125 : qm_FL qr_Fitter 125 1 14 := ⟨_, _, _, jc_1, by decide, qm_good (List.mem_of_getElem? (i := 206) (by decide +kernel)) rfl⟩
theorem fl_Flow_9 : qm_FL qr_Flow 9 1 3 := ⟨_, _, _, jc_1, by decide, qm_good (List.mem_of_getElem? (i := 182) (by decide +kernel)) rfl⟩
theorem fl_Flow_15 : qm_FL qr_Flow 15 1 4 := ⟨_, _, _, jc_1, by decide, qm_good (List.mem_of_getElem? (i := 183) (by decide +kernel)) rfl⟩
theorem fl_Flow_19 : qm_FL qr_Flow 19 1 5 := ⟨_, _, _, jc_1, by decide, qm_good (List.mem_of_getElem? (i := 185) (by decide +kernel)) rfl⟩
theorem fl_Flow_22 : qm_FL qr_Flow 22 1 6 := ⟨_, _, _, jc_1, by decide, qm_good (List.mem_of_getElem? (i := 187) (by decide +kernel)) rfl⟩
theorem fl_Flow_25 : qm_FL qr_Flow 25 1 7 := ⟨_, _, _, jc_1, by decide, qm_good (List.mem_of_getElem? (i := 189) (by decide +kernel)) rfl⟩
theorem fl_Flow_28 : qm_FL qr_Flow 28 1 8 := ⟨_, _, _, jc_1, by decide, qm_good (List.mem_of_getElem? (i := 191) (by decide +kernel)) rfl⟩
theorem fl_Flow_31 : qm_FL qr_Flow 31 1 9 := ⟨_, _, _, jc_1, by decide, qm_good (List.mem_of_getElem? (i := 194) (by decide +kernel)) rfl⟩
theorem fl_Flow_34 : qm_FL qr_Flow 34 1 10 := ⟨_, _, _, jc_1, by decide, qm_good (List.mem_of_getElem? (i := 197) (by decide +kernel)) rfl⟩
theorem fl_Flow_37 : qm_FL qr_Flow 37 1 11 := ⟨_, _, _, jc_1, by decide, qm_good (List.mem_of_getElem? (i := 199) (by decide +kernel)) rfl⟩
theorem fl_Flow_40 : qm_FL qr_Flow 40 1 12 := ⟨_, _, _, jc_1, by decide, qm_good (List.mem_of_getElem? (i := 201) (by decide +kernel)) rfl⟩
theorem fl_Flow_43 : qm_FL qr_Flow 43 1 13 := ⟨_, _, _, jc_1, by decide, qm_good (List.mem_of_getElem? (i := 203) (by decide +kernel)) rfl⟩
theorem fl_Flow_46 : qm_FL qr_Flow 46 1 14 := ⟨_, _, _, jc_1, by decide, qm_good (List.mem_of_getElem? (i := 205) (by decide +kernel)) rfl⟩
theorem fl_Flow_49 : qm_FL qr_Flow 49 1 15 := ⟨_, _, _, jc_1, by decide, qm_good (List.mem_of_getElem? (i := 207) (by decide +kernel)) rfl⟩
theorem fl_Flow_53 : qm_FL qr_Flow 53 1 16 := ⟨_, _, _, jc_1, by decide, qm_good (List.mem_of_getElem? (i := 209) (by decide +kernel)) rfl⟩
theorem fl_Flow_56 : qm_FL qr_Flow 56 1 17 := ⟨_, _, _, jc_1, by decide, qm_good (List.mem_of_getElem? (i := 213) (by decide +kernel)) rfl⟩
theorem fl_Flow_59 : qm_FL qr_Flow 59 1 18 := ⟨_, _, _, jc_1, by decide, qm_good (List.mem_of_getElem? (i := 217) (by decide +kernel)) rfl⟩
theorem fl_Flow_62 : qm_FL qr_Flow 62 1 19 := ⟨_, _, _, jc_1, by decide, qm_good (List.mem_of_getElem? (i := 220) (by decide +kernel)) rfl⟩
theorem fl_Flow_65 : qm_FL qr_Flow 65 1 0 := ⟨_, _, _, jc_1, by decide, qm_good (List.mem_of_getElem? (i := 175) (by decide +kernel)) rfl⟩
theorem fl_Flow_69 : qm_FL qr_Flow 69 1 1 := ⟨_, _, _, jc_1, by decide, qm_good (List.mem_of_getElem? (i := 177) (by decide +kernel)) rfl⟩
theorem fl_Flow_72 : qm_FL qr_Flow 72 1 2 := ⟨_, _, _, jc_1, by decide, qm_good (List.mem_of_getElem? (i := 180) (by decide +kernel)) rfl⟩
theorem fl_Flow_75 : qm_FL qr_Flow 75 4 0 := ⟨_, _, _, jc_4, by decide, qm_good (List.mem_of_getElem? (i := 79) (by decide +kernel)) rfl⟩
theorem fl_Past_11 : qm_FL qr_Past 11 2 0 := ⟨_, _, _, jc_2, by decide, qm_good (List.mem_of_getElem? (i := 152) (by decide +kernel)) rfl⟩
theorem fl_Past_18 : qm_FL qr_Past 18 2 1 := ⟨_, _, _, jc_2, by decide, qm_good (List.mem_of_getElem? (i := 153) (by decide +kernel)) rfl⟩
theorem fl_Past_26 : qm_FL qr_Past 26 2 2 := ⟨_, _, _, jc_2, by decide, qm_good (List.mem_of_getElem? (i := 154) (by decide +kernel)) rfl⟩
theorem fl_Press_9 : qm_FL qr_Press 9 3 0 := ⟨_, _, _, jc_3, by decide, qm_good (List.mem_of_getElem? (i := 315) (by decide +kernel)) rfl⟩
theorem fl_Press_20 : qm_FL qr_Press 20 3 1 := ⟨_, _, _, jc_3, by decide, qm_good (List.mem_of_getElem? (i := 317) (by decide +kernel)) rfl⟩
theorem fl_Press_29 : qm_FL qr_Press 29 3 2 := ⟨_, _, _, jc_3, by decide, qm_good (List.mem_of_getElem? (i := 320) (by decide +kernel)) rfl⟩
theorem fl_Press_41 : qm_FL qr_Press 41 3 3 := ⟨_, _, _, jc_3, by decide, qm_good (List.mem_of_getElem? (i := 322) (by decide +kernel)) rfl⟩
theorem fl_Press_44 : qm_FL qr_Press 44 3 11 := ⟨_, _, _, jc_3, by decide, qm_good (List.mem_of_getElem? (i := 332) (by decide +kernel)) rfl⟩
theorem fl_Press_48 : qm_FL qr_Press 48 3 12 := ⟨_, _, _, jc_3, by decide, qm_good (List.mem_of_getElem? (i := 333) (by decide +kernel)) rfl⟩
theorem fl_Press_51 : qm_FL qr_Press 51 3 9 := ⟨_, _, _, jc_3, by decide, qm_good (List.mem_of_getElem? (i := 329) (by decide +kernel)) rfl⟩
theorem fl_Press_64 : qm_FL qr_Press 64 3 4 := ⟨_, _, _, jc_3, by decide, qm_good (List.mem_of_getElem? (i := 323) (by decide +kernel)) rfl⟩
theorem fl_Press_67 : qm_FL qr_Press 67 3 5 := ⟨_, _, _, jc_3, by decide, qm_good (List.mem_of_getElem? (i := 325) (by decide +kernel)) rfl⟩
theorem fl_Press_76 : qm_FL qr_Press 76 3 6 := ⟨_, _, _, jc_3, by decide, qm_good (List.mem_of_getElem? (i := 326) (by decide +kernel)) rfl⟩
theorem fl_Press_82 : qm_FL qr_Press 82 1 1 := ⟨_, _, _, jc_1, by decide, qm_good (List.mem_of_getElem? (i := 178) (by decide +kernel)) rfl⟩
theorem fl_Press_85 : qm_FL qr_Press 85 1 16 := ⟨_, _, _, jc_1, by decide, qm_good (List.mem_of_getElem? (i := 210) (by decide +kernel)) rfl⟩
theorem fl_Press_92 : qm_FL qr_Press 92 3 7 := ⟨_, _, _, jc_3, by decide, qm_good (List.mem_of_getElem? (i := 327) (by decide +kernel)) rfl⟩
theorem fl_Press_95 : qm_FL qr_Press 95 3 8 := ⟨_, _, _, jc_3, by decide, qm_good (List.mem_of_getElem? (i := 328) (by decide +kernel)) rfl⟩
theorem fl_Press_102 : qm_FL qr_Press 102 1 17 := ⟨_, _, _, jc_1, by decide, qm_good (List.mem_of_getElem? (i := 214) (by decide +kernel)) rfl⟩
theorem fl_Press_112 : qm_FL qr_Press 112 1 18 := ⟨_, _, _, jc_1, by decide, qm_good (List.mem_of_getElem? (i := 218) (by decide +kernel)) rfl⟩
theorem fl_Press_167 : qm_FL qr_Press 167 1 9 := ⟨_, _, _, jc_1, by decide, qm_good (List.mem_of_getElem? (i := 196) (by decide +kernel)) rfl⟩
theorem fl_Run_11 : qm_FL qr_Run 11 4 1 := ⟨_, _, _, jc_4, by decide, qm_good (List.mem_of_getElem? (i := 83) (by decide +kernel)) rfl⟩
theorem fl_Run_15 : qm_FL qr_Run 15 4 2 := ⟨_, _, _, jc_4, by decide, qm_good (List.mem_of_getElem? (i := 84) (by decide +kernel)) rfl⟩
theorem fl_Run_27 : qm_FL qr_Run 27 4 0 := ⟨_, _, _, jc_4, by decide, qm_good (List.mem_of_getElem? (i := 80) (by decide +kernel)) rfl⟩
theorem fl_Tape_9 : qm_FL qr_Tape 9 5 0 := ⟨_, _, _, jc_5, by decide, qm_good (List.mem_of_getElem? (i := 99) (by decide +kernel)) rfl⟩
theorem fl_Tape_15 : qm_FL qr_Tape 15 5 1 := ⟨_, _, _, jc_5, by decide, qm_good (List.mem_of_getElem? (i := 102) (by decide +kernel)) rfl⟩
theorem fl_Teller_11 : qm_FL qr_Teller 11 6 0 := ⟨_, _, _, jc_6, by decide, qm_good (List.mem_of_getElem? (i := 117) (by decide +kernel)) rfl⟩
theorem fl_Teller_18 : qm_FL qr_Teller 18 6 1 := ⟨_, _, _, jc_6, by decide, qm_good (List.mem_of_getElem? (i := 118) (by decide +kernel)) rfl⟩
theorem fl_Teller_22 : qm_FL qr_Teller 22 6 2 := ⟨_, _, _, jc_6, by decide, qm_good (List.mem_of_getElem? (i := 120) (by decide +kernel)) rfl⟩
theorem fl_Teller_26 : qm_FL qr_Teller 26 6 3 := ⟨_, _, _, jc_6, by decide, qm_good (List.mem_of_getElem? (i := 121) (by decide +kernel)) rfl⟩
theorem fl_Teller_29 : qm_FL qr_Teller 29 6 4 := ⟨_, _, _, jc_6, by decide, qm_good (List.mem_of_getElem? (i := 122) (by decide +kernel)) rfl⟩
theorem fl_Teller_38 : qm_FL qr_Teller 38 6 5 := ⟨_, _, _, jc_6, by decide, qm_good (List.mem_of_getElem? (i := 123) (by decide +kernel)) rfl⟩
theorem fl_Teller_42 : qm_FL qr_Teller 42 6 6 := ⟨_, _, _, jc_6, by decide, qm_good (List.mem_of_getElem? (i := 124) (by decide +kernel)) rfl⟩
theorem fl_Teller_45 : qm_FL qr_Teller 45 6 7 := ⟨_, _, _, jc_6, by decide, qm_good (List.mem_of_getElem? (i := 125) (by decide +kernel)) rfl⟩
theorem fl_Teller_65 : qm_FL qr_Teller 65 5 1 := ⟨_, _, _, jc_5, by decide, qm_good (List.mem_of_getElem? (i := 103) (by decide +kernel)) rfl⟩
theorem fl_Teller_70 : qm_FL qr_Teller 70 5 0 := ⟨_, _, _, jc_5, by decide, qm_good (List.mem_of_getElem? (i := 100) (by decide +kernel)) rfl⟩
theorem fl_Teller_132 : qm_FL qr_Teller 132 4 0 := ⟨_, _, _, jc_4, by decide, qm_good (List.mem_of_getElem? (i := 82) (by decide +kernel)) rfl⟩
theorem fp_Top_64 : qm_FP qr_Top 64 5 1 .int := ⟨_, _, _, qy_Tape, jc_5, by decide, qm_good (List.mem_of_getElem? (i := 101) (by decide +kernel)) rfl, qn_Tape, qv_Tape, rfl, rfl, rfl, rfl⟩
theorem fp_Top_83 : qm_FP qr_Top 83 2 2 .int := ⟨_, _, _, qy_Past, jc_2, by decide, qm_good (List.mem_of_getElem? (i := 155) (by decide +kernel)) rfl, qn_Past, qv_Past, rfl, rfl, rfl, rfl⟩
theorem fp_Top_137 : qm_FP qr_Top 137 8 5 .int := ⟨_, _, _, qy_Top, jc_8, by decide, qm_good (List.mem_of_getElem? (i := 386) (by decide +kernel)) rfl, qn_Top, qv_Top, rfl, rfl, rfl, rfl⟩
theorem fp_Top_330 : qm_FP qr_Top 330 8 9 .boolean := ⟨_, _, _, qy_Top, jc_8, by decide, qm_good (List.mem_of_getElem? (i := 390) (by decide +kernel)) rfl, qn_Top, qv_Top, rfl, rfl, rfl, rfl⟩
theorem fp_Top_334 : qm_FP qr_Top 334 8 10 .boolean := ⟨_, _, _, qy_Top, jc_8, by decide, qm_good (List.mem_of_getElem? (i := 391) (by decide +kernel)) rfl, qn_Top, qv_Top, rfl, rfl, rfl, rfl⟩
theorem fp_Fitter_28 : qm_FP qr_Fitter 28 0 9 .boolean := ⟨_, _, _, qy_Fitter, jc_0, by decide, qm_good (List.mem_of_getElem? (i := 289) (by decide +kernel)) rfl, qn_Fitter, qv_Fitter, rfl, rfl, rfl, rfl⟩
theorem fp_Fitter_41 : qm_FP qr_Fitter 41 0 2 .int := ⟨_, _, _, qy_Fitter, jc_0, by decide, qm_good (List.mem_of_getElem? (i := 282) (by decide +kernel)) rfl, qn_Fitter, qv_Fitter, rfl, rfl, rfl, rfl⟩
theorem fp_Fitter_45 : qm_FP qr_Fitter 45 0 3 .int := ⟨_, _, _, qy_Fitter, jc_0, by decide, qm_good (List.mem_of_getElem? (i := 283) (by decide +kernel)) rfl, qn_Fitter, qv_Fitter, rfl, rfl, rfl, rfl⟩
theorem fp_Fitter_48 : qm_FP qr_Fitter 48 0 5 .int := ⟨_, _, _, qy_Fitter, jc_0, by decide, qm_good (List.mem_of_getElem? (i := 285) (by decide +kernel)) rfl, qn_Fitter, qv_Fitter, rfl, rfl, rfl, rfl⟩
theorem fp_Fitter_99 : qm_FP qr_Fitter 99 0 6 .int := ⟨_, _, _, qy_Fitter, jc_0, by decide, qm_good (List.mem_of_getElem? (i := 286) (by decide +kernel)) rfl, qn_Fitter, qv_Fitter, rfl, rfl, rfl, rfl⟩
theorem fp_Fitter_102 : qm_FP qr_Fitter 102 0 7 .int := ⟨_, _, _, qy_Fitter, jc_0, by decide, qm_good (List.mem_of_getElem? (i := 287) (by decide +kernel)) rfl, qn_Fitter, qv_Fitter, rfl, rfl, rfl, rfl⟩
theorem fp_Flow_65 : qm_FP qr_Flow 65 1 0 .int := ⟨_, _, _, qy_Flow, jc_1, by decide, qm_good (List.mem_of_getElem? (i := 175) (by decide +kernel)) rfl, qn_Flow, qv_Flow, rfl, rfl, rfl, rfl⟩
theorem fp_Flow_69 : qm_FP qr_Flow 69 1 1 .int := ⟨_, _, _, qy_Flow, jc_1, by decide, qm_good (List.mem_of_getElem? (i := 177) (by decide +kernel)) rfl, qn_Flow, qv_Flow, rfl, rfl, rfl, rfl⟩
theorem fp_Flow_72 : qm_FP qr_Flow 72 1 2 .int := ⟨_, _, _, qy_Flow, jc_1, by decide, qm_good (List.mem_of_getElem? (i := 180) (by decide +kernel)) rfl, qn_Flow, qv_Flow, rfl, rfl, rfl, rfl⟩
theorem fp_Past_18 : qm_FP qr_Past 18 2 1 .int := ⟨_, _, _, qy_Past, jc_2, by decide, qm_good (List.mem_of_getElem? (i := 153) (by decide +kernel)) rfl, qn_Past, qv_Past, rfl, rfl, rfl, rfl⟩
theorem fp_Past_26 : qm_FP qr_Past 26 2 2 .int := ⟨_, _, _, qy_Past, jc_2, by decide, qm_good (List.mem_of_getElem? (i := 154) (by decide +kernel)) rfl, qn_Past, qv_Past, rfl, rfl, rfl, rfl⟩
theorem fp_Press_51 : qm_FP qr_Press 51 3 9 .int := ⟨_, _, _, qy_Press, jc_3, by decide, qm_good (List.mem_of_getElem? (i := 329) (by decide +kernel)) rfl, qn_Press, qv_Press, rfl, rfl, rfl, rfl⟩
theorem fp_Press_64 : qm_FP qr_Press 64 3 4 .int := ⟨_, _, _, qy_Press, jc_3, by decide, qm_good (List.mem_of_getElem? (i := 323) (by decide +kernel)) rfl, qn_Press, qv_Press, rfl, rfl, rfl, rfl⟩
theorem fp_Press_67 : qm_FP qr_Press 67 3 5 .int := ⟨_, _, _, qy_Press, jc_3, by decide, qm_good (List.mem_of_getElem? (i := 325) (by decide +kernel)) rfl, qn_Press, qv_Press, rfl, rfl, rfl, rfl⟩
theorem fp_Press_76 : qm_FP qr_Press 76 3 6 .int := ⟨_, _, _, qy_Press, jc_3, by decide, qm_good (List.mem_of_getElem? (i := 326) (by decide +kernel)) rfl, qn_Press, qv_Press, rfl, rfl, rfl, rfl⟩
theorem fp_Press_79 : qm_FP qr_Press 79 3 10 .int := ⟨_, _, _, qy_Press, jc_3, by decide, qm_good (List.mem_of_getElem? (i := 331) (by decide +kernel)) rfl, qn_Press, qv_Press, rfl, rfl, rfl, rfl⟩
theorem fp_Press_92 : qm_FP qr_Press 92 3 7 .int := ⟨_, _, _, qy_Press, jc_3, by decide, qm_good (List.mem_of_getElem? (i := 327) (by decide +kernel)) rfl, qn_Press, qv_Press, rfl, rfl, rfl, rfl⟩
theorem fp_Press_95 : qm_FP qr_Press 95 3 8 .int := ⟨_, _, _, qy_Press, jc_3, by decide, qm_good (List.mem_of_getElem? (i := 328) (by decide +kernel)) rfl, qn_Press, qv_Press, rfl, rfl, rfl, rfl⟩
theorem fp_Run_27 : qm_FP qr_Run 27 4 0 .int := ⟨_, _, _, qy_Run, jc_4, by decide, qm_good (List.mem_of_getElem? (i := 80) (by decide +kernel)) rfl, qn_Run, qv_Run, rfl, rfl, rfl, rfl⟩
theorem fp_Tape_15 : qm_FP qr_Tape 15 5 1 .int := ⟨_, _, _, qy_Tape, jc_5, by decide, qm_good (List.mem_of_getElem? (i := 102) (by decide +kernel)) rfl, qn_Tape, qv_Tape, rfl, rfl, rfl, rfl⟩
theorem fp_Teller_38 : qm_FP qr_Teller 38 6 5 .int := ⟨_, _, _, qy_Teller, jc_6, by decide, qm_good (List.mem_of_getElem? (i := 123) (by decide +kernel)) rfl, qn_Teller, qv_Teller, rfl, rfl, rfl, rfl⟩
theorem fp_Teller_42 : qm_FP qr_Teller 42 6 6 .int := ⟨_, _, _, qy_Teller, jc_6, by decide, qm_good (List.mem_of_getElem? (i := 124) (by decide +kernel)) rfl, qn_Teller, qv_Teller, rfl, rfl, rfl, rfl⟩
theorem fp_Teller_45 : qm_FP qr_Teller 45 6 7 .int := ⟨_, _, _, qy_Teller, jc_6, by decide, qm_good (List.mem_of_getElem? (i := 125) (by decide +kernel)) rfl, qn_Teller, qv_Teller, rfl, rfl, rfl, rfl⟩
theorem cy_Top_asks {own : String} {idx : Nat} (h : Cond.methodLink own idx jy_Top_asks ∈ qm_tb) : qm_CV own idx jy_Top_asks prog_1_method_41_code 3 (some .boolean) 2 := ⟨h, qm_good (List.mem_of_getElem? (i := 847) (by decide +kernel)) rfl, qm_good (List.mem_of_getElem? (i := 34) (by decide +kernel)) rfl, qm_good (List.mem_of_getElem? (i := 37) (by decide +kernel)) rfl, qm_good (List.mem_of_getElem? (i := 848) (by decide +kernel)) rfl, ⟨by decide +kernel, by decide +kernel, by decide +kernel⟩⟩
theorem cyn_Top_at {own : String} {idx : Nat} (h : Cond.methodLinkNest own idx jy_Top_at "ColumnsLevelled" ∈ qm_nw) : qm_CN own idx jy_Top_at "ColumnsLevelled" prog_1_method_36_code 2 (some .int) 2 := ⟨h, qm_good (List.mem_of_getElem? (i := 429) (by decide +kernel)) rfl, qm_good (List.mem_of_getElem? (i := 37) (by decide +kernel)) rfl, qm_good (List.mem_of_getElem? (i := 430) (by decide +kernel)) rfl, ⟨by decide +kernel, by decide +kernel, by decide +kernel⟩⟩
theorem cys_Top_at {own : String} {idx : Nat} (h : Cond.methodLink own idx jy_Top_at ∈ qm_tb) : qm_CS own idx jy_Top_at prog_1_method_36_code 2 (some .int) 2 := ⟨h, qm_good (List.mem_of_getElem? (i := 429) (by decide +kernel)) rfl, qm_good (List.mem_of_getElem? (i := 37) (by decide +kernel)) rfl, qm_good (List.mem_of_getElem? (i := 430) (by decide +kernel)) rfl, ⟨by decide +kernel, by decide +kernel, by decide +kernel⟩⟩
theorem cy_Top_beginAct {own : String} {idx : Nat} (h : Cond.methodLink own idx jy_Top_beginAct ∈ qm_tb) : qm_CV own idx jy_Top_beginAct prog_1_method_37_code 1 none 0 := ⟨h, qm_good (List.mem_of_getElem? (i := 602) (by decide +kernel)) rfl, qm_good (List.mem_of_getElem? (i := 16) (by decide +kernel)) rfl, qm_good (List.mem_of_getElem? (i := 37) (by decide +kernel)) rfl, qm_good (List.mem_of_getElem? (i := 603) (by decide +kernel)) rfl, ⟨by decide +kernel, by decide +kernel, by decide +kernel⟩⟩
theorem cy_Top_changed {own : String} {idx : Nat} (h : Cond.methodLink own idx jy_Top_changed ∈ qm_tb) : qm_CV own idx jy_Top_changed prog_1_method_38_code 1 none 0 := ⟨h, qm_good (List.mem_of_getElem? (i := 591) (by decide +kernel)) rfl, qm_good (List.mem_of_getElem? (i := 15) (by decide +kernel)) rfl, qm_good (List.mem_of_getElem? (i := 37) (by decide +kernel)) rfl, qm_good (List.mem_of_getElem? (i := 592) (by decide +kernel)) rfl, ⟨by decide +kernel, by decide +kernel, by decide +kernel⟩⟩
theorem cy_Top_laidOut {own : String} {idx : Nat} (h : Cond.methodLink own idx jy_Top_laidOut ∈ qm_tb) : qm_CV own idx jy_Top_laidOut prog_1_method_39_code 1 (some (.object "ColumnsLevelled$Press")) 0 := ⟨h, qm_good (List.mem_of_getElem? (i := 683) (by decide +kernel)) rfl, qm_good (List.mem_of_getElem? (i := 18) (by decide +kernel)) rfl, qm_good (List.mem_of_getElem? (i := 37) (by decide +kernel)) rfl, qm_good (List.mem_of_getElem? (i := 684) (by decide +kernel)) rfl, ⟨by decide +kernel, by decide +kernel, by decide +kernel⟩⟩
theorem cy_Top_pouredNow {own : String} {idx : Nat} (h : Cond.methodLink own idx jy_Top_pouredNow ∈ qm_tb) : qm_CV own idx jy_Top_pouredNow prog_1_method_40_code 2 (some (.object "ColumnsLevelled$Press")) 0 := ⟨h, qm_good (List.mem_of_getElem? (i := 728) (by decide +kernel)) rfl, qm_good (List.mem_of_getElem? (i := 23) (by decide +kernel)) rfl, qm_good (List.mem_of_getElem? (i := 37) (by decide +kernel)) rfl, qm_good (List.mem_of_getElem? (i := 729) (by decide +kernel)) rfl, ⟨by decide +kernel, by decide +kernel, by decide +kernel⟩⟩
theorem cy_Fitter_bearsAt {own : String} {idx : Nat} (h : Cond.methodLink own idx jy_Fitter_bearsAt ∈ qm_tb) : qm_CV own idx jy_Fitter_bearsAt prog_2_method_6_code 3 (some .int) 2 := ⟨h, qm_good (List.mem_of_getElem? (i := 772) (by decide +kernel)) rfl, qm_good (List.mem_of_getElem? (i := 773) (by decide +kernel)) rfl, qm_good (List.mem_of_getElem? (i := 44) (by decide +kernel)) rfl, qm_good (List.mem_of_getElem? (i := 774) (by decide +kernel)) rfl, ⟨by decide +kernel, by decide +kernel, by decide +kernel⟩⟩
theorem cy_Fitter_bearsFrom {own : String} {idx : Nat} (h : Cond.methodLink own idx jy_Fitter_bearsFrom ∈ qm_tb) : qm_CV own idx jy_Fitter_bearsFrom prog_2_method_11_code 11 (some .int) 3 := ⟨h, qm_good (List.mem_of_getElem? (i := 769) (by decide +kernel)) rfl, qm_good (List.mem_of_getElem? (i := 29) (by decide +kernel)) rfl, qm_good (List.mem_of_getElem? (i := 44) (by decide +kernel)) rfl, qm_good (List.mem_of_getElem? (i := 770) (by decide +kernel)) rfl, ⟨by decide +kernel, by decide +kernel, by decide +kernel⟩⟩
theorem cy_Fitter_forget {own : String} {idx : Nat} (h : Cond.methodLink own idx jy_Fitter_forget ∈ qm_tb) : qm_CV own idx jy_Fitter_forget prog_2_method_2_code 2 none 0 := ⟨h, qm_good (List.mem_of_getElem? (i := 273) (by decide +kernel)) rfl, qm_good (List.mem_of_getElem? (i := 274) (by decide +kernel)) rfl, qm_good (List.mem_of_getElem? (i := 44) (by decide +kernel)) rfl, qm_good (List.mem_of_getElem? (i := 275) (by decide +kernel)) rfl, ⟨by decide +kernel, by decide +kernel, by decide +kernel⟩⟩
theorem cy_Fitter_latest {own : String} {idx : Nat} (h : Cond.methodLink own idx jy_Fitter_latest ∈ qm_tb) : qm_CV own idx jy_Fitter_latest prog_2_method_12_code 8 (some .int) 5 := ⟨h, qm_good (List.mem_of_getElem? (i := 781) (by decide +kernel)) rfl, qm_good (List.mem_of_getElem? (i := 782) (by decide +kernel)) rfl, qm_good (List.mem_of_getElem? (i := 44) (by decide +kernel)) rfl, qm_good (List.mem_of_getElem? (i := 783) (by decide +kernel)) rfl, ⟨by decide +kernel, by decide +kernel, by decide +kernel⟩⟩
theorem cy_Fitter_leastFrom {own : String} {idx : Nat} (h : Cond.methodLink own idx jy_Fitter_leastFrom ∈ qm_tb) : qm_CV own idx jy_Fitter_leastFrom prog_2_method_8_code 11 (some .int) 4 := ⟨h, qm_good (List.mem_of_getElem? (i := 753) (by decide +kernel)) rfl, qm_good (List.mem_of_getElem? (i := 754) (by decide +kernel)) rfl, qm_good (List.mem_of_getElem? (i := 44) (by decide +kernel)) rfl, qm_good (List.mem_of_getElem? (i := 755) (by decide +kernel)) rfl, ⟨by decide +kernel, by decide +kernel, by decide +kernel⟩⟩
theorem cy_Fitter_leastOf {own : String} {idx : Nat} (h : Cond.methodLink own idx jy_Fitter_leastOf ∈ qm_tb) : qm_CV own idx jy_Fitter_leastOf prog_2_method_7_code 2 (some .int) 1 := ⟨h, qm_good (List.mem_of_getElem? (i := 850) (by decide +kernel)) rfl, qm_good (List.mem_of_getElem? (i := 851) (by decide +kernel)) rfl, qm_good (List.mem_of_getElem? (i := 44) (by decide +kernel)) rfl, qm_good (List.mem_of_getElem? (i := 852) (by decide +kernel)) rfl, ⟨by decide +kernel, by decide +kernel, by decide +kernel⟩⟩
theorem cy_Fitter_leftOver {own : String} {idx : Nat} (h : Cond.methodLink own idx jy_Fitter_leftOver ∈ qm_tb) : qm_CV own idx jy_Fitter_leftOver prog_2_method_3_code 9 (some .int) 4 := ⟨h, qm_good (List.mem_of_getElem? (i := 789) (by decide +kernel)) rfl, qm_good (List.mem_of_getElem? (i := 790) (by decide +kernel)) rfl, qm_good (List.mem_of_getElem? (i := 44) (by decide +kernel)) rfl, qm_good (List.mem_of_getElem? (i := 791) (by decide +kernel)) rfl, ⟨by decide +kernel, by decide +kernel, by decide +kernel⟩⟩
theorem cy_Fitter_linesIn {own : String} {idx : Nat} (h : Cond.methodLink own idx jy_Fitter_linesIn ∈ qm_tb) : qm_CV own idx jy_Fitter_linesIn prog_2_method_4_code 2 (some .int) 1 := ⟨h, qm_good (List.mem_of_getElem? (i := 802) (by decide +kernel)) rfl, qm_good (List.mem_of_getElem? (i := 31) (by decide +kernel)) rfl, qm_good (List.mem_of_getElem? (i := 44) (by decide +kernel)) rfl, qm_good (List.mem_of_getElem? (i := 803) (by decide +kernel)) rfl, ⟨by decide +kernel, by decide +kernel, by decide +kernel⟩⟩
theorem cy_Fitter_measure {own : String} {idx : Nat} (h : Cond.methodLink own idx jy_Fitter_measure ∈ qm_tb) : qm_CV own idx jy_Fitter_measure prog_2_method_10_code 9 none 3 := ⟨h, qm_good (List.mem_of_getElem? (i := 762) (by decide +kernel)) rfl, qm_good (List.mem_of_getElem? (i := 763) (by decide +kernel)) rfl, qm_good (List.mem_of_getElem? (i := 44) (by decide +kernel)) rfl, qm_good (List.mem_of_getElem? (i := 764) (by decide +kernel)) rfl, ⟨by decide +kernel, by decide +kernel, by decide +kernel⟩⟩
theorem cy_Fitter_slotOf {own : String} {idx : Nat} (h : Cond.methodLink own idx jy_Fitter_slotOf ∈ qm_tb) : qm_CV own idx jy_Fitter_slotOf prog_2_method_9_code 5 (some .int) 3 := ⟨h, qm_good (List.mem_of_getElem? (i := 758) (by decide +kernel)) rfl, qm_good (List.mem_of_getElem? (i := 28) (by decide +kernel)) rfl, qm_good (List.mem_of_getElem? (i := 44) (by decide +kernel)) rfl, qm_good (List.mem_of_getElem? (i := 759) (by decide +kernel)) rfl, ⟨by decide +kernel, by decide +kernel, by decide +kernel⟩⟩
theorem cy_Flow_endsBehind {own : String} {idx : Nat} (h : Cond.methodLink own idx jy_Flow_endsBehind ∈ qm_tb) : qm_CV own idx jy_Flow_endsBehind prog_3_method_7_code 6 (some .boolean) 2 := ⟨h, qm_good (List.mem_of_getElem? (i := 709) (by decide +kernel)) rfl, qm_good (List.mem_of_getElem? (i := 21) (by decide +kernel)) rfl, qm_good (List.mem_of_getElem? (i := 43) (by decide +kernel)) rfl, qm_good (List.mem_of_getElem? (i := 710) (by decide +kernel)) rfl, ⟨by decide +kernel, by decide +kernel, by decide +kernel⟩⟩
theorem cy_Flow_endsIn {own : String} {idx : Nat} (h : Cond.methodLink own idx jy_Flow_endsIn ∈ qm_tb) : qm_CV own idx jy_Flow_endsIn prog_3_method_10_code 5 (some .int) 2 := ⟨h, qm_good (List.mem_of_getElem? (i := 1274) (by decide +kernel)) rfl, qm_good (List.mem_of_getElem? (i := 1275) (by decide +kernel)) rfl, qm_good (List.mem_of_getElem? (i := 43) (by decide +kernel)) rfl, qm_good (List.mem_of_getElem? (i := 1276) (by decide +kernel)) rfl, ⟨by decide +kernel, by decide +kernel, by decide +kernel⟩⟩
theorem cy_Flow_lastLinesAhead {own : String} {idx : Nat} (h : Cond.methodLink own idx jy_Flow_lastLinesAhead ∈ qm_tb) : qm_CV own idx jy_Flow_lastLinesAhead prog_3_method_13_code 2 (some .int) 1 := ⟨h, qm_good (List.mem_of_getElem? (i := 805) (by decide +kernel)) rfl, qm_good (List.mem_of_getElem? (i := 806) (by decide +kernel)) rfl, qm_good (List.mem_of_getElem? (i := 43) (by decide +kernel)) rfl, qm_good (List.mem_of_getElem? (i := 807) (by decide +kernel)) rfl, ⟨by decide +kernel, by decide +kernel, by decide +kernel⟩⟩
theorem cy_Flow_lay {own : String} {idx : Nat} (h : Cond.methodLink own idx jy_Flow_lay ∈ qm_tb) : qm_CV own idx jy_Flow_lay prog_3_method_2_code 2 none 0 := ⟨h, qm_good (List.mem_of_getElem? (i := 690) (by decide +kernel)) rfl, qm_good (List.mem_of_getElem? (i := 691) (by decide +kernel)) rfl, qm_good (List.mem_of_getElem? (i := 43) (by decide +kernel)) rfl, qm_good (List.mem_of_getElem? (i := 692) (by decide +kernel)) rfl, ⟨by decide +kernel, by decide +kernel, by decide +kernel⟩⟩
theorem cy_Flow_layPieces {own : String} {idx : Nat} (h : Cond.methodLink own idx jy_Flow_layPieces ∈ qm_tb) : qm_CV own idx jy_Flow_layPieces prog_3_method_4_code 8 none 1 := ⟨h, qm_good (List.mem_of_getElem? (i := 700) (by decide +kernel)) rfl, qm_good (List.mem_of_getElem? (i := 20) (by decide +kernel)) rfl, qm_good (List.mem_of_getElem? (i := 43) (by decide +kernel)) rfl, qm_good (List.mem_of_getElem? (i := 701) (by decide +kernel)) rfl, ⟨by decide +kernel, by decide +kernel, by decide +kernel⟩⟩
theorem cy_Flow_markEnd {own : String} {idx : Nat} (h : Cond.methodLink own idx jy_Flow_markEnd ∈ qm_tb) : qm_CV own idx jy_Flow_markEnd prog_3_method_6_code 2 none 1 := ⟨h, qm_good (List.mem_of_getElem? (i := 714) (by decide +kernel)) rfl, qm_good (List.mem_of_getElem? (i := 22) (by decide +kernel)) rfl, qm_good (List.mem_of_getElem? (i := 43) (by decide +kernel)) rfl, qm_good (List.mem_of_getElem? (i := 715) (by decide +kernel)) rfl, ⟨by decide +kernel, by decide +kernel, by decide +kernel⟩⟩
theorem cy_Flow_markEnds {own : String} {idx : Nat} (h : Cond.methodLink own idx jy_Flow_markEnds ∈ qm_tb) : qm_CV own idx jy_Flow_markEnds prog_3_method_5_code 2 none 0 := ⟨h, qm_good (List.mem_of_getElem? (i := 704) (by decide +kernel)) rfl, qm_good (List.mem_of_getElem? (i := 705) (by decide +kernel)) rfl, qm_good (List.mem_of_getElem? (i := 43) (by decide +kernel)) rfl, qm_good (List.mem_of_getElem? (i := 706) (by decide +kernel)) rfl, ⟨by decide +kernel, by decide +kernel, by decide +kernel⟩⟩
theorem cy_Flow_mayEnd {own : String} {idx : Nat} (h : Cond.methodLink own idx jy_Flow_mayEnd ∈ qm_tb) : qm_CV own idx jy_Flow_mayEnd prog_3_method_9_code 2 (some .boolean) 1 := ⟨h, qm_good (List.mem_of_getElem? (i := 785) (by decide +kernel)) rfl, qm_good (List.mem_of_getElem? (i := 786) (by decide +kernel)) rfl, qm_good (List.mem_of_getElem? (i := 43) (by decide +kernel)) rfl, qm_good (List.mem_of_getElem? (i := 787) (by decide +kernel)) rfl, ⟨by decide +kernel, by decide +kernel, by decide +kernel⟩⟩
theorem cy_Flow_openSection {own : String} {idx : Nat} (h : Cond.methodLink own idx jy_Flow_openSection ∈ qm_tb) : qm_CV own idx jy_Flow_openSection prog_3_method_3_code 2 none 1 := ⟨h, qm_good (List.mem_of_getElem? (i := 695) (by decide +kernel)) rfl, qm_good (List.mem_of_getElem? (i := 19) (by decide +kernel)) rfl, qm_good (List.mem_of_getElem? (i := 43) (by decide +kernel)) rfl, qm_good (List.mem_of_getElem? (i := 696) (by decide +kernel)) rfl, ⟨by decide +kernel, by decide +kernel, by decide +kernel⟩⟩
theorem cy_Flow_ownLines {own : String} {idx : Nat} (h : Cond.methodLink own idx jy_Flow_ownLines ∈ qm_tb) : qm_CV own idx jy_Flow_ownLines prog_3_method_12_code 3 (some .int) 2 := ⟨h, qm_good (List.mem_of_getElem? (i := 797) (by decide +kernel)) rfl, qm_good (List.mem_of_getElem? (i := 798) (by decide +kernel)) rfl, qm_good (List.mem_of_getElem? (i := 43) (by decide +kernel)) rfl, qm_good (List.mem_of_getElem? (i := 799) (by decide +kernel)) rfl, ⟨by decide +kernel, by decide +kernel, by decide +kernel⟩⟩
theorem cy_Flow_spans {own : String} {idx : Nat} (h : Cond.methodLink own idx jy_Flow_spans ∈ qm_tb) : qm_CV own idx jy_Flow_spans prog_3_method_8_code 1 (some .int) 0 := ⟨h, qm_good (List.mem_of_getElem? (i := 718) (by decide +kernel)) rfl, qm_good (List.mem_of_getElem? (i := 719) (by decide +kernel)) rfl, qm_good (List.mem_of_getElem? (i := 43) (by decide +kernel)) rfl, qm_good (List.mem_of_getElem? (i := 720) (by decide +kernel)) rfl, ⟨by decide +kernel, by decide +kernel, by decide +kernel⟩⟩
theorem cy_Flow_text {own : String} {idx : Nat} (h : Cond.methodLink own idx jy_Flow_text ∈ qm_tb) : qm_CV own idx jy_Flow_text prog_3_method_14_code 3 (some .int) 2 := ⟨h, qm_good (List.mem_of_getElem? (i := 793) (by decide +kernel)) rfl, qm_good (List.mem_of_getElem? (i := 794) (by decide +kernel)) rfl, qm_good (List.mem_of_getElem? (i := 43) (by decide +kernel)) rfl, qm_good (List.mem_of_getElem? (i := 795) (by decide +kernel)) rfl, ⟨by decide +kernel, by decide +kernel, by decide +kernel⟩⟩
theorem cy_Past_pop {own : String} {idx : Nat} (h : Cond.methodLink own idx jy_Past_pop ∈ qm_tb) : qm_CV own idx jy_Past_pop prog_4_method_3_code 2 none 1 := ⟨h, qm_good (List.mem_of_getElem? (i := 665) (by decide +kernel)) rfl, qm_good (List.mem_of_getElem? (i := 666) (by decide +kernel)) rfl, qm_good (List.mem_of_getElem? (i := 41) (by decide +kernel)) rfl, qm_good (List.mem_of_getElem? (i := 667) (by decide +kernel)) rfl, ⟨by decide +kernel, by decide +kernel, by decide +kernel⟩⟩
theorem cy_Past_push {own : String} {idx : Nat} (h : Cond.methodLink own idx jy_Past_push ∈ qm_tb) : qm_CV own idx jy_Past_push prog_4_method_2_code 2 none 1 := ⟨h, qm_good (List.mem_of_getElem? (i := 605) (by decide +kernel)) rfl, qm_good (List.mem_of_getElem? (i := 606) (by decide +kernel)) rfl, qm_good (List.mem_of_getElem? (i := 41) (by decide +kernel)) rfl, qm_good (List.mem_of_getElem? (i := 607) (by decide +kernel)) rfl, ⟨by decide +kernel, by decide +kernel, by decide +kernel⟩⟩
theorem cy_Press_answer {own : String} {idx : Nat} (h : Cond.methodLink own idx jy_Press_answer ∈ qm_tb) : qm_CV own idx jy_Press_answer prog_5_method_5_code 1 (some .int) 0 := ⟨h, qm_good (List.mem_of_getElem? (i := 820) (by decide +kernel)) rfl, qm_good (List.mem_of_getElem? (i := 821) (by decide +kernel)) rfl, qm_good (List.mem_of_getElem? (i := 42) (by decide +kernel)) rfl, qm_good (List.mem_of_getElem? (i := 822) (by decide +kernel)) rfl, ⟨by decide +kernel, by decide +kernel, by decide +kernel⟩⟩
theorem cy_Press_cell {own : String} {idx : Nat} (h : Cond.methodLink own idx jy_Press_cell ∈ qm_tb) : qm_CV own idx jy_Press_cell prog_5_method_13_code 3 (some .int) 2 := ⟨h, qm_good (List.mem_of_getElem? (i := 829) (by decide +kernel)) rfl, qm_good (List.mem_of_getElem? (i := 830) (by decide +kernel)) rfl, qm_good (List.mem_of_getElem? (i := 42) (by decide +kernel)) rfl, qm_good (List.mem_of_getElem? (i := 831) (by decide +kernel)) rfl, ⟨by decide +kernel, by decide +kernel, by decide +kernel⟩⟩
theorem cy_Press_columnOf {own : String} {idx : Nat} (h : Cond.methodLink own idx jy_Press_columnOf ∈ qm_tb) : qm_CV own idx jy_Press_columnOf prog_5_method_17_code 3 (some .int) 1 := ⟨h, qm_good (List.mem_of_getElem? (i := 1292) (by decide +kernel)) rfl, qm_good (List.mem_of_getElem? (i := 1293) (by decide +kernel)) rfl, qm_good (List.mem_of_getElem? (i := 42) (by decide +kernel)) rfl, qm_good (List.mem_of_getElem? (i := 1294) (by decide +kernel)) rfl, ⟨by decide +kernel, by decide +kernel, by decide +kernel⟩⟩
theorem cy_Press_columnsOfNote {own : String} {idx : Nat} (h : Cond.methodLink own idx jy_Press_columnsOfNote ∈ qm_tb) : qm_CV own idx jy_Press_columnsOfNote prog_5_method_20_code 6 (some .int) 1 := ⟨h, qm_good (List.mem_of_getElem? (i := 1300) (by decide +kernel)) rfl, qm_good (List.mem_of_getElem? (i := 1301) (by decide +kernel)) rfl, qm_good (List.mem_of_getElem? (i := 42) (by decide +kernel)) rfl, qm_good (List.mem_of_getElem? (i := 1302) (by decide +kernel)) rfl, ⟨by decide +kernel, by decide +kernel, by decide +kernel⟩⟩
theorem cy_Press_fill {own : String} {idx : Nat} (h : Cond.methodLink own idx jy_Press_fill ∈ qm_tb) : qm_CV own idx jy_Press_fill prog_5_method_11_code 9 (some .boolean) 1 := ⟨h, qm_good (List.mem_of_getElem? (i := 817) (by decide +kernel)) rfl, qm_good (List.mem_of_getElem? (i := 33) (by decide +kernel)) rfl, qm_good (List.mem_of_getElem? (i := 42) (by decide +kernel)) rfl, qm_good (List.mem_of_getElem? (i := 818) (by decide +kernel)) rfl, ⟨by decide +kernel, by decide +kernel, by decide +kernel⟩⟩
theorem cy_Press_lay {own : String} {idx : Nat} (h : Cond.methodLink own idx jy_Press_lay ∈ qm_tb) : qm_CV own idx jy_Press_lay prog_5_method_2_code 1 none 0 := ⟨h, qm_good (List.mem_of_getElem? (i := 686) (by decide +kernel)) rfl, qm_good (List.mem_of_getElem? (i := 687) (by decide +kernel)) rfl, qm_good (List.mem_of_getElem? (i := 42) (by decide +kernel)) rfl, qm_good (List.mem_of_getElem? (i := 688) (by decide +kernel)) rfl, ⟨by decide +kernel, by decide +kernel, by decide +kernel⟩⟩
theorem cy_Press_leftOfNote {own : String} {idx : Nat} (h : Cond.methodLink own idx jy_Press_leftOfNote ∈ qm_tb) : qm_CV own idx jy_Press_leftOfNote prog_5_method_18_code 4 (some .int) 2 := ⟨h, qm_good (List.mem_of_getElem? (i := 1297) (by decide +kernel)) rfl, qm_good (List.mem_of_getElem? (i := 35) (by decide +kernel)) rfl, qm_good (List.mem_of_getElem? (i := 42) (by decide +kernel)) rfl, qm_good (List.mem_of_getElem? (i := 1298) (by decide +kernel)) rfl, ⟨by decide +kernel, by decide +kernel, by decide +kernel⟩⟩
theorem cy_Press_level {own : String} {idx : Nat} (h : Cond.methodLink own idx jy_Press_level ∈ qm_tb) : qm_CV own idx jy_Press_level prog_5_method_10_code 6 none 2 := ⟨h, qm_good (List.mem_of_getElem? (i := 777) (by decide +kernel)) rfl, qm_good (List.mem_of_getElem? (i := 30) (by decide +kernel)) rfl, qm_good (List.mem_of_getElem? (i := 42) (by decide +kernel)) rfl, qm_good (List.mem_of_getElem? (i := 778) (by decide +kernel)) rfl, ⟨by decide +kernel, by decide +kernel, by decide +kernel⟩⟩
theorem cy_Press_linesByMark {own : String} {idx : Nat} (h : Cond.methodLink own idx jy_Press_linesByMark ∈ qm_tb) : qm_CV own idx jy_Press_linesByMark prog_5_method_19_code 3 (some .int) 1 := ⟨h, qm_good (List.mem_of_getElem? (i := 1288) (by decide +kernel)) rfl, qm_good (List.mem_of_getElem? (i := 1289) (by decide +kernel)) rfl, qm_good (List.mem_of_getElem? (i := 42) (by decide +kernel)) rfl, qm_good (List.mem_of_getElem? (i := 1290) (by decide +kernel)) rfl, ⟨by decide +kernel, by decide +kernel, by decide +kernel⟩⟩
theorem cy_Press_pageIsFree {own : String} {idx : Nat} (h : Cond.methodLink own idx jy_Press_pageIsFree ∈ qm_tb) : qm_CV own idx jy_Press_pageIsFree prog_5_method_7_code 1 (some .boolean) 0 := ⟨h, qm_good (List.mem_of_getElem? (i := 742) (by decide +kernel)) rfl, qm_good (List.mem_of_getElem? (i := 25) (by decide +kernel)) rfl, qm_good (List.mem_of_getElem? (i := 42) (by decide +kernel)) rfl, qm_good (List.mem_of_getElem? (i := 743) (by decide +kernel)) rfl, ⟨by decide +kernel, by decide +kernel, by decide +kernel⟩⟩
theorem cy_Press_pourAll {own : String} {idx : Nat} (h : Cond.methodLink own idx jy_Press_pourAll ∈ qm_tb) : qm_CV own idx jy_Press_pourAll prog_5_method_4_code 2 (some .int) 0 := ⟨h, qm_good (List.mem_of_getElem? (i := 731) (by decide +kernel)) rfl, qm_good (List.mem_of_getElem? (i := 732) (by decide +kernel)) rfl, qm_good (List.mem_of_getElem? (i := 42) (by decide +kernel)) rfl, qm_good (List.mem_of_getElem? (i := 733) (by decide +kernel)) rfl, ⟨by decide +kernel, by decide +kernel, by decide +kernel⟩⟩
theorem cy_Press_pourSection {own : String} {idx : Nat} (h : Cond.methodLink own idx jy_Press_pourSection ∈ qm_tb) : qm_CV own idx jy_Press_pourSection prog_5_method_9_code 5 none 1 := ⟨h, qm_good (List.mem_of_getElem? (i := 750) (by decide +kernel)) rfl, qm_good (List.mem_of_getElem? (i := 27) (by decide +kernel)) rfl, qm_good (List.mem_of_getElem? (i := 42) (by decide +kernel)) rfl, qm_good (List.mem_of_getElem? (i := 751) (by decide +kernel)) rfl, ⟨by decide +kernel, by decide +kernel, by decide +kernel⟩⟩
theorem cy_Press_putColumn {own : String} {idx : Nat} (h : Cond.methodLink own idx jy_Press_putColumn ∈ qm_tb) : qm_CV own idx jy_Press_putColumn prog_5_method_12_code 11 (some .boolean) 5 := ⟨h, qm_good (List.mem_of_getElem? (i := 810) (by decide +kernel)) rfl, qm_good (List.mem_of_getElem? (i := 32) (by decide +kernel)) rfl, qm_good (List.mem_of_getElem? (i := 42) (by decide +kernel)) rfl, qm_good (List.mem_of_getElem? (i := 811) (by decide +kernel)) rfl, ⟨by decide +kernel, by decide +kernel, by decide +kernel⟩⟩
theorem cy_Press_putSpan {own : String} {idx : Nat} (h : Cond.methodLink own idx jy_Press_putSpan ∈ qm_tb) : qm_CV own idx jy_Press_putSpan prog_5_method_8_code 4 none 1 := ⟨h, qm_good (List.mem_of_getElem? (i := 738) (by decide +kernel)) rfl, qm_good (List.mem_of_getElem? (i := 24) (by decide +kernel)) rfl, qm_good (List.mem_of_getElem? (i := 42) (by decide +kernel)) rfl, qm_good (List.mem_of_getElem? (i := 739) (by decide +kernel)) rfl, ⟨by decide +kernel, by decide +kernel, by decide +kernel⟩⟩
theorem cy_Press_turnPage {own : String} {idx : Nat} (h : Cond.methodLink own idx jy_Press_turnPage ∈ qm_tb) : qm_CV own idx jy_Press_turnPage prog_5_method_6_code 1 none 0 := ⟨h, qm_good (List.mem_of_getElem? (i := 746) (by decide +kernel)) rfl, qm_good (List.mem_of_getElem? (i := 26) (by decide +kernel)) rfl, qm_good (List.mem_of_getElem? (i := 42) (by decide +kernel)) rfl, qm_good (List.mem_of_getElem? (i := 747) (by decide +kernel)) rfl, ⟨by decide +kernel, by decide +kernel, by decide +kernel⟩⟩
theorem cy_Press_used {own : String} {idx : Nat} (h : Cond.methodLink own idx jy_Press_used ∈ qm_tb) : qm_CV own idx jy_Press_used prog_5_method_14_code 4 (some .int) 1 := ⟨h, qm_good (List.mem_of_getElem? (i := 837) (by decide +kernel)) rfl, qm_good (List.mem_of_getElem? (i := 838) (by decide +kernel)) rfl, qm_good (List.mem_of_getElem? (i := 42) (by decide +kernel)) rfl, qm_good (List.mem_of_getElem? (i := 839) (by decide +kernel)) rfl, ⟨by decide +kernel, by decide +kernel, by decide +kernel⟩⟩
theorem cy_Run_add {own : String} {idx : Nat} (h : Cond.methodLink own idx jy_Run_add ∈ qm_tb) : qm_CV own idx jy_Run_add prog_6_method_12_code 4 (some .int) 1 := ⟨h, qm_good (List.mem_of_getElem? (i := 557) (by decide +kernel)) rfl, qm_good (List.mem_of_getElem? (i := 558) (by decide +kernel)) rfl, qm_good (List.mem_of_getElem? (i := 38) (by decide +kernel)) rfl, qm_good (List.mem_of_getElem? (i := 559) (by decide +kernel)) rfl, ⟨by decide +kernel, by decide +kernel, by decide +kernel⟩⟩
theorem cy_Run_addMark {own : String} {idx : Nat} (h : Cond.methodLink own idx jy_Run_addMark ∈ qm_tb) : qm_CV own idx jy_Run_addMark prog_6_method_18_code 5 none 3 := ⟨h, qm_good (List.mem_of_getElem? (i := 582) (by decide +kernel)) rfl, qm_good (List.mem_of_getElem? (i := 583) (by decide +kernel)) rfl, qm_good (List.mem_of_getElem? (i := 38) (by decide +kernel)) rfl, qm_good (List.mem_of_getElem? (i := 584) (by decide +kernel)) rfl, ⟨by decide +kernel, by decide +kernel, by decide +kernel⟩⟩
theorem cy_Run_allPieces {own : String} {idx : Nat} (h : Cond.methodLink own idx jy_Run_allPieces ∈ qm_tb) : qm_CV own idx jy_Run_allPieces prog_6_method_11_code 3 (some .int) 0 := ⟨h, qm_good (List.mem_of_getElem? (i := 549) (by decide +kernel)) rfl, qm_good (List.mem_of_getElem? (i := 550) (by decide +kernel)) rfl, qm_good (List.mem_of_getElem? (i := 38) (by decide +kernel)) rfl, qm_good (List.mem_of_getElem? (i := 551) (by decide +kernel)) rfl, ⟨by decide +kernel, by decide +kernel, by decide +kernel⟩⟩
theorem cy_Run_cell {own : String} {idx : Nat} (h : Cond.methodLink own idx jy_Run_cell ∈ qm_tb) : qm_CV own idx jy_Run_cell prog_6_method_9_code 3 (some .int) 2 := ⟨h, qm_good (List.mem_of_getElem? (i := 553) (by decide +kernel)) rfl, qm_good (List.mem_of_getElem? (i := 554) (by decide +kernel)) rfl, qm_good (List.mem_of_getElem? (i := 38) (by decide +kernel)) rfl, qm_good (List.mem_of_getElem? (i := 555) (by decide +kernel)) rfl, ⟨by decide +kernel, by decide +kernel, by decide +kernel⟩⟩
theorem cy_Run_copyCells {own : String} {idx : Nat} (h : Cond.methodLink own idx jy_Run_copyCells ∈ qm_tb) : qm_CV own idx jy_Run_copyCells prog_6_method_16_code 4 none 2 := ⟨h, qm_good (List.mem_of_getElem? (i := 650) (by decide +kernel)) rfl, qm_good (List.mem_of_getElem? (i := 17) (by decide +kernel)) rfl, qm_good (List.mem_of_getElem? (i := 38) (by decide +kernel)) rfl, qm_good (List.mem_of_getElem? (i := 651) (by decide +kernel)) rfl, ⟨by decide +kernel, by decide +kernel, by decide +kernel⟩⟩
theorem cy_Run_copyFrom {own : String} {idx : Nat} (h : Cond.methodLink own idx jy_Run_copyFrom ∈ qm_tb) : qm_CV own idx jy_Run_copyFrom prog_6_method_4_code 3 none 1 := ⟨h, qm_good (List.mem_of_getElem? (i := 586) (by decide +kernel)) rfl, qm_good (List.mem_of_getElem? (i := 587) (by decide +kernel)) rfl, qm_good (List.mem_of_getElem? (i := 38) (by decide +kernel)) rfl, qm_good (List.mem_of_getElem? (i := 588) (by decide +kernel)) rfl, ⟨by decide +kernel, by decide +kernel, by decide +kernel⟩⟩
theorem cy_Run_exchange {own : String} {idx : Nat} (h : Cond.methodLink own idx jy_Run_exchange ∈ qm_tb) : qm_CV own idx jy_Run_exchange prog_6_method_13_code 5 none 2 := ⟨h, qm_good (List.mem_of_getElem? (i := 635) (by decide +kernel)) rfl, qm_good (List.mem_of_getElem? (i := 636) (by decide +kernel)) rfl, qm_good (List.mem_of_getElem? (i := 38) (by decide +kernel)) rfl, qm_good (List.mem_of_getElem? (i := 637) (by decide +kernel)) rfl, ⟨by decide +kernel, by decide +kernel, by decide +kernel⟩⟩
theorem cy_Run_has {own : String} {idx : Nat} (h : Cond.methodLink own idx jy_Run_has ∈ qm_tb) : qm_CV own idx jy_Run_has prog_6_method_7_code 2 (some .boolean) 1 := ⟨h, qm_good (List.mem_of_getElem? (i := 620) (by decide +kernel)) rfl, qm_good (List.mem_of_getElem? (i := 621) (by decide +kernel)) rfl, qm_good (List.mem_of_getElem? (i := 38) (by decide +kernel)) rfl, qm_good (List.mem_of_getElem? (i := 622) (by decide +kernel)) rfl, ⟨by decide +kernel, by decide +kernel, by decide +kernel⟩⟩
theorem cy_Run_hasPieces {own : String} {idx : Nat} (h : Cond.methodLink own idx jy_Run_hasPieces ∈ qm_tb) : qm_CV own idx jy_Run_hasPieces prog_6_method_8_code 2 (some .boolean) 1 := ⟨h, qm_good (List.mem_of_getElem? (i := 616) (by decide +kernel)) rfl, qm_good (List.mem_of_getElem? (i := 617) (by decide +kernel)) rfl, qm_good (List.mem_of_getElem? (i := 38) (by decide +kernel)) rfl, qm_good (List.mem_of_getElem? (i := 618) (by decide +kernel)) rfl, ⟨by decide +kernel, by decide +kernel, by decide +kernel⟩⟩
theorem cy_Run_noteAt {own : String} {idx : Nat} (h : Cond.methodLink own idx jy_Run_noteAt ∈ qm_tb) : qm_CV own idx jy_Run_noteAt prog_6_method_17_code 5 (some .int) 2 := ⟨h, qm_good (List.mem_of_getElem? (i := 578) (by decide +kernel)) rfl, qm_good (List.mem_of_getElem? (i := 579) (by decide +kernel)) rfl, qm_good (List.mem_of_getElem? (i := 38) (by decide +kernel)) rfl, qm_good (List.mem_of_getElem? (i := 580) (by decide +kernel)) rfl, ⟨by decide +kernel, by decide +kernel, by decide +kernel⟩⟩
theorem cy_Run_put {own : String} {idx : Nat} (h : Cond.methodLink own idx jy_Run_put ∈ qm_tb) : qm_CV own idx jy_Run_put prog_6_method_6_code 3 none 2 := ⟨h, qm_good (List.mem_of_getElem? (i := 536) (by decide +kernel)) rfl, qm_good (List.mem_of_getElem? (i := 537) (by decide +kernel)) rfl, qm_good (List.mem_of_getElem? (i := 38) (by decide +kernel)) rfl, qm_good (List.mem_of_getElem? (i := 538) (by decide +kernel)) rfl, ⟨by decide +kernel, by decide +kernel, by decide +kernel⟩⟩
theorem cy_Run_putCell {own : String} {idx : Nat} (h : Cond.methodLink own idx jy_Run_putCell ∈ qm_tb) : qm_CV own idx jy_Run_putCell prog_6_method_10_code 4 none 3 := ⟨h, qm_good (List.mem_of_getElem? (i := 561) (by decide +kernel)) rfl, qm_good (List.mem_of_getElem? (i := 562) (by decide +kernel)) rfl, qm_good (List.mem_of_getElem? (i := 38) (by decide +kernel)) rfl, qm_good (List.mem_of_getElem? (i := 563) (by decide +kernel)) rfl, ⟨by decide +kernel, by decide +kernel, by decide +kernel⟩⟩
theorem cy_Run_remove {own : String} {idx : Nat} (h : Cond.methodLink own idx jy_Run_remove ∈ qm_tb) : qm_CV own idx jy_Run_remove prog_6_method_15_code 3 none 1 := ⟨h, qm_good (List.mem_of_getElem? (i := 657) (by decide +kernel)) rfl, qm_good (List.mem_of_getElem? (i := 658) (by decide +kernel)) rfl, qm_good (List.mem_of_getElem? (i := 38) (by decide +kernel)) rfl, qm_good (List.mem_of_getElem? (i := 659) (by decide +kernel)) rfl, ⟨by decide +kernel, by decide +kernel, by decide +kernel⟩⟩
theorem cy_Run_repeat {own : String} {idx : Nat} (h : Cond.methodLink own idx jy_Run_repeat ∈ qm_tb) : qm_CV own idx jy_Run_repeat prog_6_method_14_code 3 none 1 := ⟨h, qm_good (List.mem_of_getElem? (i := 644) (by decide +kernel)) rfl, qm_good (List.mem_of_getElem? (i := 645) (by decide +kernel)) rfl, qm_good (List.mem_of_getElem? (i := 38) (by decide +kernel)) rfl, qm_good (List.mem_of_getElem? (i := 646) (by decide +kernel)) rfl, ⟨by decide +kernel, by decide +kernel, by decide +kernel⟩⟩
theorem cy_Run_setting {own : String} {idx : Nat} (h : Cond.methodLink own idx jy_Run_setting ∈ qm_tb) : qm_CV own idx jy_Run_setting prog_6_method_5_code 2 (some .int) 1 := ⟨h, qm_good (List.mem_of_getElem? (i := 277) (by decide +kernel)) rfl, qm_good (List.mem_of_getElem? (i := 278) (by decide +kernel)) rfl, qm_good (List.mem_of_getElem? (i := 38) (by decide +kernel)) rfl, qm_good (List.mem_of_getElem? (i := 279) (by decide +kernel)) rfl, ⟨by decide +kernel, by decide +kernel, by decide +kernel⟩⟩
theorem cys_Run_takes {own : String} {idx : Nat} (h : Cond.methodLink own idx jy_Run_takes ∈ qm_tb) : qm_CS own idx jy_Run_takes prog_6_method_2_code 2 (some .boolean) 2 := ⟨h, qm_good (List.mem_of_getElem? (i := 540) (by decide +kernel)) rfl, qm_good (List.mem_of_getElem? (i := 38) (by decide +kernel)) rfl, qm_good (List.mem_of_getElem? (i := 541) (by decide +kernel)) rfl, ⟨by decide +kernel, by decide +kernel, by decide +kernel⟩⟩
theorem cy_Tape_append {own : String} {idx : Nat} (h : Cond.methodLink own idx jy_Tape_append ∈ qm_tb) : qm_CV own idx jy_Tape_append prog_7_method_2_code 3 none 1 := ⟨h, qm_good (List.mem_of_getElem? (i := 1195) (by decide +kernel)) rfl, qm_good (List.mem_of_getElem? (i := 1196) (by decide +kernel)) rfl, qm_good (List.mem_of_getElem? (i := 39) (by decide +kernel)) rfl, qm_good (List.mem_of_getElem? (i := 1197) (by decide +kernel)) rfl, ⟨by decide +kernel, by decide +kernel, by decide +kernel⟩⟩
theorem cys_Teller_mostHigh {own : String} {idx : Nat} (h : Cond.methodLink own idx jy_Teller_mostHigh ∈ qm_tb) : qm_CS own idx jy_Teller_mostHigh prog_8_method_11_code 1 (some .int) 1 := ⟨h, qm_good (List.mem_of_getElem? (i := 566) (by decide +kernel)) rfl, qm_good (List.mem_of_getElem? (i := 40) (by decide +kernel)) rfl, qm_good (List.mem_of_getElem? (i := 567) (by decide +kernel)) rfl, ⟨by decide +kernel, by decide +kernel, by decide +kernel⟩⟩
theorem cy_Teller_place {own : String} {idx : Nat} (h : Cond.methodLink own idx jy_Teller_place ∈ qm_tb) : qm_CV own idx jy_Teller_place prog_8_method_19_code 1 (some .int) 0 := ⟨h, qm_good (List.mem_of_getElem? (i := 509) (by decide +kernel)) rfl, qm_good (List.mem_of_getElem? (i := 6) (by decide +kernel)) rfl, qm_good (List.mem_of_getElem? (i := 40) (by decide +kernel)) rfl, qm_good (List.mem_of_getElem? (i := 510) (by decide +kernel)) rfl, ⟨by decide +kernel, by decide +kernel, by decide +kernel⟩⟩
theorem cy_Teller_readBlock {own : String} {idx : Nat} (h : Cond.methodLink own idx jy_Teller_readBlock ∈ qm_tb) : qm_CV own idx jy_Teller_readBlock prog_8_method_10_code 8 none 2 := ⟨h, qm_good (List.mem_of_getElem? (i := 546) (by decide +kernel)) rfl, qm_good (List.mem_of_getElem? (i := 12) (by decide +kernel)) rfl, qm_good (List.mem_of_getElem? (i := 40) (by decide +kernel)) rfl, qm_good (List.mem_of_getElem? (i := 547) (by decide +kernel)) rfl, ⟨by decide +kernel, by decide +kernel, by decide +kernel⟩⟩
theorem cy_Teller_readMark {own : String} {idx : Nat} (h : Cond.methodLink own idx jy_Teller_readMark ∈ qm_tb) : qm_CV own idx jy_Teller_readMark prog_8_method_13_code 6 none 2 := ⟨h, qm_good (List.mem_of_getElem? (i := 574) (by decide +kernel)) rfl, qm_good (List.mem_of_getElem? (i := 14) (by decide +kernel)) rfl, qm_good (List.mem_of_getElem? (i := 40) (by decide +kernel)) rfl, qm_good (List.mem_of_getElem? (i := 575) (by decide +kernel)) rfl, ⟨by decide +kernel, by decide +kernel, by decide +kernel⟩⟩
theorem cy_Teller_readNumber {own : String} {idx : Nat} (h : Cond.methodLink own idx jy_Teller_readNumber ∈ qm_tb) : qm_CV own idx jy_Teller_readNumber prog_8_method_16_code 4 (some .int) 2 := ⟨h, qm_good (List.mem_of_getElem? (i := 533) (by decide +kernel)) rfl, qm_good (List.mem_of_getElem? (i := 11) (by decide +kernel)) rfl, qm_good (List.mem_of_getElem? (i := 40) (by decide +kernel)) rfl, qm_good (List.mem_of_getElem? (i := 534) (by decide +kernel)) rfl, ⟨by decide +kernel, by decide +kernel, by decide +kernel⟩⟩
theorem cy_Teller_readSetting {own : String} {idx : Nat} (h : Cond.methodLink own idx jy_Teller_readSetting ∈ qm_tb) : qm_CV own idx jy_Teller_readSetting prog_8_method_9_code 4 none 2 := ⟨h, qm_good (List.mem_of_getElem? (i := 521) (by decide +kernel)) rfl, qm_good (List.mem_of_getElem? (i := 9) (by decide +kernel)) rfl, qm_good (List.mem_of_getElem? (i := 40) (by decide +kernel)) rfl, qm_good (List.mem_of_getElem? (i := 522) (by decide +kernel)) rfl, ⟨by decide +kernel, by decide +kernel, by decide +kernel⟩⟩
theorem cy_Teller_readWord {own : String} {idx : Nat} (h : Cond.methodLink own idx jy_Teller_readWord ∈ qm_tb) : qm_CV own idx jy_Teller_readWord prog_8_method_15_code 2 (some .int) 0 := ⟨h, qm_good (List.mem_of_getElem? (i := 513) (by decide +kernel)) rfl, qm_good (List.mem_of_getElem? (i := 7) (by decide +kernel)) rfl, qm_good (List.mem_of_getElem? (i := 40) (by decide +kernel)) rfl, qm_good (List.mem_of_getElem? (i := 514) (by decide +kernel)) rfl, ⟨by decide +kernel, by decide +kernel, by decide +kernel⟩⟩
theorem cy_Teller_readWords {own : String} {idx : Nat} (h : Cond.methodLink own idx jy_Teller_readWords ∈ qm_tb) : qm_CV own idx jy_Teller_readWords prog_8_method_12_code 6 none 2 := ⟨h, qm_good (List.mem_of_getElem? (i := 570) (by decide +kernel)) rfl, qm_good (List.mem_of_getElem? (i := 13) (by decide +kernel)) rfl, qm_good (List.mem_of_getElem? (i := 40) (by decide +kernel)) rfl, qm_good (List.mem_of_getElem? (i := 571) (by decide +kernel)) rfl, ⟨by decide +kernel, by decide +kernel, by decide +kernel⟩⟩
theorem cy_Teller_sign {own : String} {idx : Nat} (h : Cond.methodLink own idx jy_Teller_sign ∈ qm_tb) : qm_CV own idx jy_Teller_sign prog_8_method_18_code 1 (some .int) 0 := ⟨h, qm_good (List.mem_of_getElem? (i := 501) (by decide +kernel)) rfl, qm_good (List.mem_of_getElem? (i := 4) (by decide +kernel)) rfl, qm_good (List.mem_of_getElem? (i := 40) (by decide +kernel)) rfl, qm_good (List.mem_of_getElem? (i := 502) (by decide +kernel)) rfl, ⟨by decide +kernel, by decide +kernel, by decide +kernel⟩⟩
theorem cy_Teller_tellOnce {own : String} {idx : Nat} (h : Cond.methodLink own idx jy_Teller_tellOnce ∈ qm_tb) : qm_CV own idx jy_Teller_tellOnce prog_8_method_14_code 3 none 2 := ⟨h, qm_good (List.mem_of_getElem? (i := 525) (by decide +kernel)) rfl, qm_good (List.mem_of_getElem? (i := 10) (by decide +kernel)) rfl, qm_good (List.mem_of_getElem? (i := 40) (by decide +kernel)) rfl, qm_good (List.mem_of_getElem? (i := 526) (by decide +kernel)) rfl, ⟨by decide +kernel, by decide +kernel, by decide +kernel⟩⟩
theorem cy_Teller_wrong {own : String} {idx : Nat} (h : Cond.methodLink own idx jy_Teller_wrong ∈ qm_tb) : qm_CV own idx jy_Teller_wrong prog_8_method_17_code 3 none 2 := ⟨h, qm_good (List.mem_of_getElem? (i := 517) (by decide +kernel)) rfl, qm_good (List.mem_of_getElem? (i := 8) (by decide +kernel)) rfl, qm_good (List.mem_of_getElem? (i := 40) (by decide +kernel)) rfl, qm_good (List.mem_of_getElem? (i := 518) (by decide +kernel)) rfl, ⟨by decide +kernel, by decide +kernel, by decide +kernel⟩⟩
theorem cys_Math_max {own : String} {idx : Nat} (h : Cond.methodLink own idx jy_Math_max ∈ qm_tb) : qm_CS own idx jy_Math_max prog_18_method_65_code 2 (some .int) 2 := ⟨h, qm_good (List.mem_of_getElem? (i := 312) (by decide +kernel)) rfl, qm_good (List.mem_of_getElem? (i := 45) (by decide +kernel)) rfl, qm_good (List.mem_of_getElem? (i := 313) (by decide +kernel)) rfl, ⟨by decide +kernel, by decide +kernel, by decide +kernel⟩⟩
theorem cys_Math_min {own : String} {idx : Nat} (h : Cond.methodLink own idx jy_Math_min ∈ qm_tb) : qm_CS own idx jy_Math_min prog_18_method_69_code 2 (some .int) 2 := ⟨h, qm_good (List.mem_of_getElem? (i := 497) (by decide +kernel)) rfl, qm_good (List.mem_of_getElem? (i := 45) (by decide +kernel)) rfl, qm_good (List.mem_of_getElem? (i := 498) (by decide +kernel)) rfl, ⟨by decide +kernel, by decide +kernel, by decide +kernel⟩⟩
theorem cv_Top_68 : qm_CV qr_Top 68 jy_Tape_append prog_7_method_2_code 3 none 1 := cy_Tape_append (qm_good (List.mem_of_getElem? (i := 1194) (by decide +kernel)) rfl)
theorem cv_Top_79 : qm_CV qr_Top 79 jy_Run_copyFrom prog_6_method_4_code 3 none 1 := cy_Run_copyFrom (qm_good (List.mem_of_getElem? (i := 585) (by decide +kernel)) rfl)
theorem cv_Top_86 : qm_CV qr_Top 86 jy_Top_changed prog_1_method_38_code 1 none 0 := cy_Top_changed (qm_good (List.mem_of_getElem? (i := 589) (by decide +kernel)) rfl)
theorem cv_Top_89 : qm_CS qr_Top 89 jy_Run_takes prog_6_method_2_code 2 (some .boolean) 2 := cys_Run_takes (qm_good (List.mem_of_getElem? (i := 598) (by decide +kernel)) rfl)
theorem cv_Top_93 : qm_CV qr_Top 93 jy_Run_setting prog_6_method_5_code 2 (some .int) 1 := cy_Run_setting (qm_good (List.mem_of_getElem? (i := 599) (by decide +kernel)) rfl)
theorem cv_Top_97 : qm_CV qr_Top 97 jy_Top_beginAct prog_1_method_37_code 1 none 0 := cy_Top_beginAct (qm_good (List.mem_of_getElem? (i := 600) (by decide +kernel)) rfl)
theorem cv_Top_100 : qm_CV qr_Top 100 jy_Run_put prog_6_method_6_code 3 none 2 := cy_Run_put (qm_good (List.mem_of_getElem? (i := 610) (by decide +kernel)) rfl)
theorem cv_Top_104 : qm_CV qr_Top 104 jy_Run_hasPieces prog_6_method_8_code 2 (some .boolean) 1 := cy_Run_hasPieces (qm_good (List.mem_of_getElem? (i := 615) (by decide +kernel)) rfl)
theorem cv_Top_108 : qm_CV qr_Top 108 jy_Run_cell prog_6_method_9_code 3 (some .int) 2 := cy_Run_cell (qm_good (List.mem_of_getElem? (i := 623) (by decide +kernel)) rfl)
theorem cv_Top_112 : qm_CV qr_Top 112 jy_Run_putCell prog_6_method_10_code 4 none 3 := cy_Run_putCell (qm_good (List.mem_of_getElem? (i := 624) (by decide +kernel)) rfl)
theorem cv_Top_116 : qm_CV qr_Top 116 jy_Run_has prog_6_method_7_code 2 (some .boolean) 1 := cy_Run_has (qm_good (List.mem_of_getElem? (i := 633) (by decide +kernel)) rfl)
theorem cv_Top_119 : qm_CV qr_Top 119 jy_Run_exchange prog_6_method_13_code 5 none 2 := cy_Run_exchange (qm_good (List.mem_of_getElem? (i := 634) (by decide +kernel)) rfl)
theorem cv_Top_125 : qm_CV qr_Top 125 jy_Run_allPieces prog_6_method_11_code 3 (some .int) 0 := cy_Run_allPieces (qm_good (List.mem_of_getElem? (i := 642) (by decide +kernel)) rfl)
theorem cv_Top_128 : qm_CV qr_Top 128 jy_Run_repeat prog_6_method_14_code 3 none 1 := cy_Run_repeat (qm_good (List.mem_of_getElem? (i := 643) (by decide +kernel)) rfl)
theorem cv_Top_131 : qm_CV qr_Top 131 jy_Run_remove prog_6_method_15_code 3 none 1 := cy_Run_remove (qm_good (List.mem_of_getElem? (i := 656) (by decide +kernel)) rfl)
theorem cv_Top_134 : qm_CV qr_Top 134 jy_Past_pop prog_4_method_3_code 2 none 1 := cy_Past_pop (qm_good (List.mem_of_getElem? (i := 664) (by decide +kernel)) rfl)
theorem cv_Top_140 : qm_CV qr_Top 140 jy_Top_laidOut prog_1_method_39_code 1 (some (.object "ColumnsLevelled$Press")) 0 := cy_Top_laidOut (qm_good (List.mem_of_getElem? (i := 681) (by decide +kernel)) rfl)
theorem cv_Top_154 : qm_CS qr_Top 154 jy_Top_at prog_1_method_36_code 2 (some .int) 2 := cys_Top_at (qm_good (List.mem_of_getElem? (i := 1259) (by decide +kernel)) rfl)
theorem cv_Top_176 : qm_CV qr_Top 176 jy_Flow_mayEnd prog_3_method_9_code 2 (some .boolean) 1 := cy_Flow_mayEnd (qm_good (List.mem_of_getElem? (i := 1264) (by decide +kernel)) rfl)
theorem cv_Top_194 : qm_CV qr_Top 194 jy_Flow_endsIn prog_3_method_10_code 5 (some .int) 2 := cy_Flow_endsIn (qm_good (List.mem_of_getElem? (i := 1273) (by decide +kernel)) rfl)
theorem cv_Top_197 : qm_CV qr_Top 197 jy_Flow_ownLines prog_3_method_12_code 3 (some .int) 2 := cy_Flow_ownLines (qm_good (List.mem_of_getElem? (i := 1278) (by decide +kernel)) rfl)
theorem cv_Top_203 : qm_CV qr_Top 203 jy_Flow_spans prog_3_method_8_code 1 (some .int) 0 := cy_Flow_spans (qm_good (List.mem_of_getElem? (i := 717) (by decide +kernel)) rfl)
theorem cv_Top_206 : qm_CV qr_Top 206 jy_Top_pouredNow prog_1_method_40_code 2 (some (.object "ColumnsLevelled$Press")) 0 := cy_Top_pouredNow (qm_good (List.mem_of_getElem? (i := 726) (by decide +kernel)) rfl)
theorem cv_Top_209 : qm_CV qr_Top 209 jy_Press_answer prog_5_method_5_code 1 (some .int) 0 := cy_Press_answer (qm_good (List.mem_of_getElem? (i := 823) (by decide +kernel)) rfl)
theorem cv_Top_215 : qm_CV qr_Top 215 jy_Press_cell prog_5_method_13_code 3 (some .int) 2 := cy_Press_cell (qm_good (List.mem_of_getElem? (i := 828) (by decide +kernel)) rfl)
theorem cv_Top_225 : qm_CV qr_Top 225 jy_Press_linesByMark prog_5_method_19_code 3 (some .int) 1 := cy_Press_linesByMark (qm_good (List.mem_of_getElem? (i := 1287) (by decide +kernel)) rfl)
theorem cv_Top_228 : qm_CV qr_Top 228 jy_Press_columnsOfNote prog_5_method_20_code 6 (some .int) 1 := cy_Press_columnsOfNote (qm_good (List.mem_of_getElem? (i := 1299) (by decide +kernel)) rfl)
theorem cv_Top_243 : qm_CV qr_Top 243 jy_Press_used prog_5_method_14_code 4 (some .int) 1 := cy_Press_used (qm_good (List.mem_of_getElem? (i := 836) (by decide +kernel)) rfl)
theorem cv_Top_264 : qm_CV qr_Top 264 jy_Top_asks prog_1_method_41_code 3 (some .boolean) 2 := cy_Top_asks (qm_good (List.mem_of_getElem? (i := 845) (by decide +kernel)) rfl)
theorem cv_Top_277 : qm_CV qr_Top 277 jy_Fitter_leastOf prog_2_method_7_code 2 (some .int) 1 := cy_Fitter_leastOf (qm_good (List.mem_of_getElem? (i := 849) (by decide +kernel)) rfl)
theorem cv_Top_288 : qm_CV qr_Top 288 jy_Press_lay prog_5_method_2_code 1 none 0 := cy_Press_lay (qm_good (List.mem_of_getElem? (i := 685) (by decide +kernel)) rfl)
theorem cv_Top_315 : qm_CV qr_Top 315 jy_Press_pourAll prog_5_method_4_code 2 (some .int) 0 := cy_Press_pourAll (qm_good (List.mem_of_getElem? (i := 730) (by decide +kernel)) rfl)
theorem cv_Top_327 : qm_CV qr_Top 327 jy_Past_push prog_4_method_2_code 2 none 1 := cy_Past_push (qm_good (List.mem_of_getElem? (i := 604) (by decide +kernel)) rfl)
theorem cv_Fitter_35 : qm_CV qr_Fitter 35 jy_Run_setting prog_6_method_5_code 2 (some .int) 1 := cy_Run_setting (qm_good (List.mem_of_getElem? (i := 276) (by decide +kernel)) rfl)
theorem cv_Fitter_51 : qm_CV qr_Fitter 51 jy_Flow_text prog_3_method_14_code 3 (some .int) 2 := cy_Flow_text (qm_good (List.mem_of_getElem? (i := 792) (by decide +kernel)) rfl)
theorem cv_Fitter_57 : qm_CV qr_Fitter 57 jy_Flow_ownLines prog_3_method_12_code 3 (some .int) 2 := cy_Flow_ownLines (qm_good (List.mem_of_getElem? (i := 796) (by decide +kernel)) rfl)
theorem cv_Fitter_60 : qm_CV qr_Fitter 60 jy_Fitter_linesIn prog_2_method_4_code 2 (some .int) 1 := cy_Fitter_linesIn (qm_good (List.mem_of_getElem? (i := 800) (by decide +kernel)) rfl)
theorem cv_Fitter_63 : qm_CV qr_Fitter 63 jy_Flow_lastLinesAhead prog_3_method_13_code 2 (some .int) 1 := cy_Flow_lastLinesAhead (qm_good (List.mem_of_getElem? (i := 804) (by decide +kernel)) rfl)
theorem cv_Fitter_66 : qm_CS qr_Fitter 66 jy_Math_max prog_18_method_65_code 2 (some .int) 2 := cys_Math_max (qm_good (List.mem_of_getElem? (i := 765) (by decide +kernel)) rfl)
theorem cv_Fitter_71 : qm_CV qr_Fitter 71 jy_Fitter_measure prog_2_method_10_code 9 none 3 := cy_Fitter_measure (qm_good (List.mem_of_getElem? (i := 761) (by decide +kernel)) rfl)
theorem cv_Fitter_78 : qm_CN qr_Fitter 78 jy_Top_at "ColumnsLevelled" prog_1_method_36_code 2 (some .int) 2 := cyn_Top_at (by decide +kernel)
theorem cv_Fitter_82 : qm_CV qr_Fitter 82 jy_Fitter_bearsAt prog_2_method_6_code 3 (some .int) 2 := cy_Fitter_bearsAt (qm_good (List.mem_of_getElem? (i := 771) (by decide +kernel)) rfl)
theorem cv_Fitter_85 : qm_CV qr_Fitter 85 jy_Fitter_leastFrom prog_2_method_8_code 11 (some .int) 4 := cy_Fitter_leastFrom (qm_good (List.mem_of_getElem? (i := 853) (by decide +kernel)) rfl)
theorem cv_Fitter_89 : qm_CV qr_Fitter 89 jy_Fitter_slotOf prog_2_method_9_code 5 (some .int) 3 := cy_Fitter_slotOf (qm_good (List.mem_of_getElem? (i := 756) (by decide +kernel)) rfl)
theorem cv_Fitter_96 : qm_CS qr_Fitter 96 jy_Math_min prog_18_method_69_code 2 (some .int) 2 := cys_Math_min (qm_good (List.mem_of_getElem? (i := 766) (by decide +kernel)) rfl)
theorem cv_Fitter_109 : qm_CV qr_Fitter 109 jy_Fitter_bearsFrom prog_2_method_11_code 11 (some .int) 3 := cy_Fitter_bearsFrom (qm_good (List.mem_of_getElem? (i := 767) (by decide +kernel)) rfl)
theorem cv_Fitter_128 : qm_CV qr_Fitter 128 jy_Flow_mayEnd prog_3_method_9_code 2 (some .boolean) 1 := cy_Flow_mayEnd (qm_good (List.mem_of_getElem? (i := 784) (by decide +kernel)) rfl)
theorem cv_Fitter_132 : qm_CV qr_Fitter 132 jy_Fitter_leftOver prog_2_method_3_code 9 (some .int) 4 := cy_Fitter_leftOver (qm_good (List.mem_of_getElem? (i := 788) (by decide +kernel)) rfl)
theorem cv_Flow_80 : qm_CV qr_Flow 80 jy_Flow_openSection prog_3_method_3_code 2 none 1 := cy_Flow_openSection (qm_good (List.mem_of_getElem? (i := 693) (by decide +kernel)) rfl)
theorem cv_Flow_84 : qm_CV qr_Flow 84 jy_Run_cell prog_6_method_9_code 3 (some .int) 2 := cy_Run_cell (qm_good (List.mem_of_getElem? (i := 697) (by decide +kernel)) rfl)
theorem cv_Flow_88 : qm_CV qr_Flow 88 jy_Flow_layPieces prog_3_method_4_code 8 none 1 := cy_Flow_layPieces (qm_good (List.mem_of_getElem? (i := 698) (by decide +kernel)) rfl)
theorem cv_Flow_91 : qm_CV qr_Flow 91 jy_Flow_markEnds prog_3_method_5_code 2 none 0 := cy_Flow_markEnds (qm_good (List.mem_of_getElem? (i := 703) (by decide +kernel)) rfl)
theorem cv_Flow_94 : qm_CV qr_Flow 94 jy_Run_noteAt prog_6_method_17_code 5 (some .int) 2 := cy_Run_noteAt (qm_good (List.mem_of_getElem? (i := 702) (by decide +kernel)) rfl)
theorem cv_Flow_97 : qm_CV qr_Flow 97 jy_Flow_endsBehind prog_3_method_7_code 6 (some .boolean) 2 := cy_Flow_endsBehind (qm_good (List.mem_of_getElem? (i := 707) (by decide +kernel)) rfl)
theorem cv_Flow_101 : qm_CV qr_Flow 101 jy_Flow_markEnd prog_3_method_6_code 2 none 1 := cy_Flow_markEnd (qm_good (List.mem_of_getElem? (i := 712) (by decide +kernel)) rfl)
theorem cv_Flow_104 : qm_CV qr_Flow 104 jy_Run_setting prog_6_method_5_code 2 (some .int) 1 := cy_Run_setting (qm_good (List.mem_of_getElem? (i := 711) (by decide +kernel)) rfl)
theorem cv_Flow_108 : qm_CS qr_Flow 108 jy_Math_max prog_18_method_65_code 2 (some .int) 2 := cys_Math_max (qm_good (List.mem_of_getElem? (i := 721) (by decide +kernel)) rfl)
theorem cv_Flow_113 : qm_CV qr_Flow 113 jy_Flow_mayEnd prog_3_method_9_code 2 (some .boolean) 1 := cy_Flow_mayEnd (qm_good (List.mem_of_getElem? (i := 1277) (by decide +kernel)) rfl)
theorem cv_Past_22 : qm_CV qr_Past 22 jy_Run_copyFrom prog_6_method_4_code 3 none 1 := cy_Run_copyFrom (qm_good (List.mem_of_getElem? (i := 608) (by decide +kernel)) rfl)
theorem cv_Past_29 : qm_CS qr_Past 29 jy_Math_min prog_18_method_69_code 2 (some .int) 2 := cys_Math_min (qm_good (List.mem_of_getElem? (i := 609) (by decide +kernel)) rfl)
theorem cv_Past_35 : qm_CS qr_Past 35 jy_Math_max prog_18_method_65_code 2 (some .int) 2 := cys_Math_max (qm_good (List.mem_of_getElem? (i := 668) (by decide +kernel)) rfl)
theorem cv_Press_33 : qm_CS qr_Press 33 jy_Math_max prog_18_method_65_code 2 (some .int) 2 := cys_Math_max (qm_good (List.mem_of_getElem? (i := 311) (by decide +kernel)) rfl)
theorem cv_Press_55 : qm_CV qr_Press 55 jy_Flow_lay prog_3_method_2_code 2 none 0 := cy_Flow_lay (qm_good (List.mem_of_getElem? (i := 689) (by decide +kernel)) rfl)
theorem cv_Press_58 : qm_CV qr_Press 58 jy_Fitter_forget prog_2_method_2_code 2 none 0 := cy_Fitter_forget (qm_good (List.mem_of_getElem? (i := 716) (by decide +kernel)) rfl)
theorem cv_Press_70 : qm_CV qr_Press 70 jy_Run_setting prog_6_method_5_code 2 (some .int) 1 := cy_Run_setting (qm_good (List.mem_of_getElem? (i := 734) (by decide +kernel)) rfl)
theorem cv_Press_88 : qm_CN qr_Press 88 jy_Top_at "ColumnsLevelled" prog_1_method_36_code 2 (some .int) 2 := cyn_Top_at (by decide +kernel)
theorem cv_Press_98 : qm_CV qr_Press 98 jy_Press_putSpan prog_5_method_8_code 4 none 1 := cy_Press_putSpan (qm_good (List.mem_of_getElem? (i := 736) (by decide +kernel)) rfl)
theorem cv_Press_105 : qm_CV qr_Press 105 jy_Press_pourSection prog_5_method_9_code 5 none 1 := cy_Press_pourSection (qm_good (List.mem_of_getElem? (i := 748) (by decide +kernel)) rfl)
theorem cv_Press_108 : qm_CV qr_Press 108 jy_Press_answer prog_5_method_5_code 1 (some .int) 0 := cy_Press_answer (qm_good (List.mem_of_getElem? (i := 819) (by decide +kernel)) rfl)
theorem cv_Press_115 : qm_CV qr_Press 115 jy_Press_pageIsFree prog_5_method_7_code 1 (some .boolean) 0 := cy_Press_pageIsFree (qm_good (List.mem_of_getElem? (i := 740) (by decide +kernel)) rfl)
theorem cv_Press_119 : qm_CV qr_Press 119 jy_Press_turnPage prog_5_method_6_code 1 none 0 := cy_Press_turnPage (qm_good (List.mem_of_getElem? (i := 744) (by decide +kernel)) rfl)
theorem cv_Press_122 : qm_CV qr_Press 122 jy_Fitter_leastFrom prog_2_method_8_code 11 (some .int) 4 := cy_Fitter_leastFrom (qm_good (List.mem_of_getElem? (i := 752) (by decide +kernel)) rfl)
theorem cv_Press_126 : qm_CV qr_Press 126 jy_Press_level prog_5_method_10_code 6 none 2 := cy_Press_level (qm_good (List.mem_of_getElem? (i := 775) (by decide +kernel)) rfl)
theorem cv_Press_130 : qm_CV qr_Press 130 jy_Press_fill prog_5_method_11_code 9 (some .boolean) 1 := cy_Press_fill (qm_good (List.mem_of_getElem? (i := 815) (by decide +kernel)) rfl)
theorem cv_Press_134 : qm_CV qr_Press 134 jy_Fitter_measure prog_2_method_10_code 9 none 3 := cy_Fitter_measure (qm_good (List.mem_of_getElem? (i := 779) (by decide +kernel)) rfl)
theorem cv_Press_138 : qm_CV qr_Press 138 jy_Fitter_latest prog_2_method_12_code 8 (some .int) 5 := cy_Fitter_latest (qm_good (List.mem_of_getElem? (i := 780) (by decide +kernel)) rfl)
theorem cv_Press_142 : qm_CV qr_Press 142 jy_Press_putColumn prog_5_method_12_code 11 (some .boolean) 5 := cy_Press_putColumn (qm_good (List.mem_of_getElem? (i := 808) (by decide +kernel)) rfl)
theorem cv_Press_146 : qm_CV qr_Press 146 jy_Flow_ownLines prog_3_method_12_code 3 (some .int) 2 := cy_Flow_ownLines (qm_good (List.mem_of_getElem? (i := 812) (by decide +kernel)) rfl)
theorem cv_Press_149 : qm_CV qr_Press 149 jy_Fitter_leftOver prog_2_method_3_code 9 (some .int) 4 := cy_Fitter_leftOver (qm_good (List.mem_of_getElem? (i := 813) (by decide +kernel)) rfl)
theorem cv_Press_152 : qm_CV qr_Press 152 jy_Flow_text prog_3_method_14_code 3 (some .int) 2 := cy_Flow_text (qm_good (List.mem_of_getElem? (i := 814) (by decide +kernel)) rfl)
theorem cv_Press_155 : qm_CV qr_Press 155 jy_Press_cell prog_5_method_13_code 3 (some .int) 2 := cy_Press_cell (qm_good (List.mem_of_getElem? (i := 840) (by decide +kernel)) rfl)
theorem cv_Press_164 : qm_CV qr_Press 164 jy_Press_columnOf prog_5_method_17_code 3 (some .int) 1 := cy_Press_columnOf (qm_good (List.mem_of_getElem? (i := 1291) (by decide +kernel)) rfl)
theorem cv_Press_170 : qm_CV qr_Press 170 jy_Press_leftOfNote prog_5_method_18_code 4 (some .int) 2 := cy_Press_leftOfNote (qm_good (List.mem_of_getElem? (i := 1295) (by decide +kernel)) rfl)
theorem cv_Run_34 : qm_CS qr_Run 34 jy_Run_takes prog_6_method_2_code 2 (some .boolean) 2 := cys_Run_takes (qm_good (List.mem_of_getElem? (i := 539) (by decide +kernel)) rfl)
theorem cv_Run_38 : qm_CV qr_Run 38 jy_Run_has prog_6_method_7_code 2 (some .boolean) 1 := cy_Run_has (qm_good (List.mem_of_getElem? (i := 619) (by decide +kernel)) rfl)
theorem cv_Run_42 : qm_CV qr_Run 42 jy_Run_cell prog_6_method_9_code 3 (some .int) 2 := cy_Run_cell (qm_good (List.mem_of_getElem? (i := 552) (by decide +kernel)) rfl)
theorem cv_Run_46 : qm_CV qr_Run 46 jy_Run_putCell prog_6_method_10_code 4 none 3 := cy_Run_putCell (qm_good (List.mem_of_getElem? (i := 560) (by decide +kernel)) rfl)
theorem cv_Run_50 : qm_CV qr_Run 50 jy_Run_add prog_6_method_12_code 4 (some .int) 1 := cy_Run_add (qm_good (List.mem_of_getElem? (i := 647) (by decide +kernel)) rfl)
theorem cv_Run_54 : qm_CV qr_Run 54 jy_Run_copyCells prog_6_method_16_code 4 none 2 := cy_Run_copyCells (qm_good (List.mem_of_getElem? (i := 648) (by decide +kernel)) rfl)
theorem cv_Teller_48 : qm_CV qr_Teller 48 jy_Teller_sign prog_8_method_18_code 1 (some .int) 0 := cy_Teller_sign (qm_good (List.mem_of_getElem? (i := 499) (by decide +kernel)) rfl)
theorem cv_Teller_55 : qm_CV qr_Teller 55 jy_Teller_place prog_8_method_19_code 1 (some .int) 0 := cy_Teller_place (qm_good (List.mem_of_getElem? (i := 507) (by decide +kernel)) rfl)
theorem cv_Teller_58 : qm_CV qr_Teller 58 jy_Teller_wrong prog_8_method_17_code 3 none 2 := cy_Teller_wrong (qm_good (List.mem_of_getElem? (i := 515) (by decide +kernel)) rfl)
theorem cv_Teller_62 : qm_CV qr_Teller 62 jy_Run_allPieces prog_6_method_11_code 3 (some .int) 0 := cy_Run_allPieces (qm_good (List.mem_of_getElem? (i := 548) (by decide +kernel)) rfl)
theorem cv_Teller_73 : qm_CN qr_Teller 73 jy_Top_at "ColumnsLevelled" prog_1_method_36_code 2 (some .int) 2 := cyn_Top_at (by decide +kernel)
theorem cv_Teller_89 : qm_CS qr_Teller 89 jy_Math_min prog_18_method_69_code 2 (some .int) 2 := cys_Math_min (qm_good (List.mem_of_getElem? (i := 496) (by decide +kernel)) rfl)
theorem cv_Teller_108 : qm_CV qr_Teller 108 jy_Teller_readWord prog_8_method_15_code 2 (some .int) 0 := cy_Teller_readWord (qm_good (List.mem_of_getElem? (i := 511) (by decide +kernel)) rfl)
theorem cv_Teller_111 : qm_CV qr_Teller 111 jy_Teller_readSetting prog_8_method_9_code 4 none 2 := cy_Teller_readSetting (qm_good (List.mem_of_getElem? (i := 519) (by decide +kernel)) rfl)
theorem cv_Teller_114 : qm_CV qr_Teller 114 jy_Teller_readBlock prog_8_method_10_code 8 none 2 := cy_Teller_readBlock (qm_good (List.mem_of_getElem? (i := 544) (by decide +kernel)) rfl)
theorem cv_Teller_117 : qm_CV qr_Teller 117 jy_Teller_tellOnce prog_8_method_14_code 3 none 2 := cy_Teller_tellOnce (qm_good (List.mem_of_getElem? (i := 523) (by decide +kernel)) rfl)
theorem cv_Teller_126 : qm_CV qr_Teller 126 jy_Teller_readNumber prog_8_method_16_code 4 (some .int) 2 := cy_Teller_readNumber (qm_good (List.mem_of_getElem? (i := 531) (by decide +kernel)) rfl)
theorem cv_Teller_129 : qm_CV qr_Teller 129 jy_Run_put prog_6_method_6_code 3 none 2 := cy_Run_put (qm_good (List.mem_of_getElem? (i := 535) (by decide +kernel)) rfl)
theorem cv_Teller_135 : qm_CV qr_Teller 135 jy_Run_add prog_6_method_12_code 4 (some .int) 1 := cy_Run_add (qm_good (List.mem_of_getElem? (i := 556) (by decide +kernel)) rfl)
theorem cv_Teller_138 : qm_CV qr_Teller 138 jy_Run_putCell prog_6_method_10_code 4 none 3 := cy_Run_putCell (qm_good (List.mem_of_getElem? (i := 564) (by decide +kernel)) rfl)
theorem cv_Teller_142 : qm_CS qr_Teller 142 jy_Teller_mostHigh prog_8_method_11_code 1 (some .int) 1 := cys_Teller_mostHigh (qm_good (List.mem_of_getElem? (i := 565) (by decide +kernel)) rfl)
theorem cv_Teller_145 : qm_CV qr_Teller 145 jy_Teller_readWords prog_8_method_12_code 6 none 2 := cy_Teller_readWords (qm_good (List.mem_of_getElem? (i := 568) (by decide +kernel)) rfl)
theorem cv_Teller_148 : qm_CV qr_Teller 148 jy_Teller_readMark prog_8_method_13_code 6 none 2 := cy_Teller_readMark (qm_good (List.mem_of_getElem? (i := 572) (by decide +kernel)) rfl)
theorem cv_Teller_151 : qm_CV qr_Teller 151 jy_Run_cell prog_6_method_9_code 3 (some .int) 2 := cy_Run_cell (qm_good (List.mem_of_getElem? (i := 576) (by decide +kernel)) rfl)
theorem cv_Teller_154 : qm_CV qr_Teller 154 jy_Run_noteAt prog_6_method_17_code 5 (some .int) 2 := cy_Run_noteAt (qm_good (List.mem_of_getElem? (i := 577) (by decide +kernel)) rfl)
theorem cv_Teller_157 : qm_CV qr_Teller 157 jy_Run_addMark prog_6_method_18_code 5 none 3 := cy_Run_addMark (qm_good (List.mem_of_getElem? (i := 581) (by decide +kernel)) rfl)
theorem kc_Teller_88 : Cond.constant qr_Teller 88 100000 ∈ qm_tb := qm_good (List.mem_of_getElem? (i := 495) (by decide +kernel)) rfl
theorem kf_Fitter_0 {a : Nat} (h : (qm_kd a).1 = 10) : (qm_kd (qm_rf a 0)).1 = 14 := qm_kfl (t := 10) (by decide) (by decide +kernel) a h
theorem kf_Fitter_1 {a : Nat} (h : (qm_kd a).1 = 10) : (qm_kd (qm_rf a 1)).1 = 11 := qm_kfl (t := 10) (by decide) (by decide +kernel) a h
theorem kf_Fitter_4 {a : Nat} (h : (qm_kd a).1 = 10) : (qm_kd (qm_rf a 4)).1 = 4 := qm_kfl (t := 10) (by decide) (by decide +kernel) a h
theorem kf_Fitter_8 {a : Nat} (h : (qm_kd a).1 = 10) : (qm_kd (qm_rf a 8)).1 = 1 := qm_kfl (t := 10) (by decide) (by decide +kernel) a h
theorem kf_Flow_10 {a : Nat} (h : (qm_kd a).1 = 11) : (qm_kd (qm_rf a 10)).1 = 1 := qm_kfl (t := 11) (by decide) (by decide +kernel) a h
theorem kf_Flow_11 {a : Nat} (h : (qm_kd a).1 = 11) : (qm_kd (qm_rf a 11)).1 = 1 := qm_kfl (t := 11) (by decide) (by decide +kernel) a h
theorem kf_Flow_12 {a : Nat} (h : (qm_kd a).1 = 11) : (qm_kd (qm_rf a 12)).1 = 1 := qm_kfl (t := 11) (by decide) (by decide +kernel) a h
theorem kf_Flow_13 {a : Nat} (h : (qm_kd a).1 = 11) : (qm_kd (qm_rf a 13)).1 = 1 := qm_kfl (t := 11) (by decide) (by decide +kernel) a h
theorem kf_Flow_14 {a : Nat} (h : (qm_kd a).1 = 11) : (qm_kd (qm_rf a 14)).1 = 1 := qm_kfl (t := 11) (by decide) (by decide +kernel) a h
theorem kf_Flow_15 {a : Nat} (h : (qm_kd a).1 = 11) : (qm_kd (qm_rf a 15)).1 = 2 := qm_kfl (t := 11) (by decide) (by decide +kernel) a h
theorem kf_Flow_16 {a : Nat} (h : (qm_kd a).1 = 11) : (qm_kd (qm_rf a 16)).1 = 1 := qm_kfl (t := 11) (by decide) (by decide +kernel) a h
theorem kf_Flow_17 {a : Nat} (h : (qm_kd a).1 = 11) : (qm_kd (qm_rf a 17)).1 = 1 := qm_kfl (t := 11) (by decide) (by decide +kernel) a h
theorem kf_Flow_18 {a : Nat} (h : (qm_kd a).1 = 11) : (qm_kd (qm_rf a 18)).1 = 1 := qm_kfl (t := 11) (by decide) (by decide +kernel) a h
theorem kf_Flow_19 {a : Nat} (h : (qm_kd a).1 = 11) : (qm_kd (qm_rf a 19)).1 = 1 := qm_kfl (t := 11) (by decide) (by decide +kernel) a h
theorem kf_Flow_3 {a : Nat} (h : (qm_kd a).1 = 11) : (qm_kd (qm_rf a 3)).1 = 14 := qm_kfl (t := 11) (by decide) (by decide +kernel) a h
theorem kf_Flow_4 {a : Nat} (h : (qm_kd a).1 = 11) : (qm_kd (qm_rf a 4)).1 = 1 := qm_kfl (t := 11) (by decide) (by decide +kernel) a h
theorem kf_Flow_5 {a : Nat} (h : (qm_kd a).1 = 11) : (qm_kd (qm_rf a 5)).1 = 1 := qm_kfl (t := 11) (by decide) (by decide +kernel) a h
theorem kf_Flow_6 {a : Nat} (h : (qm_kd a).1 = 11) : (qm_kd (qm_rf a 6)).1 = 1 := qm_kfl (t := 11) (by decide) (by decide +kernel) a h
theorem kf_Flow_7 {a : Nat} (h : (qm_kd a).1 = 11) : (qm_kd (qm_rf a 7)).1 = 1 := qm_kfl (t := 11) (by decide) (by decide +kernel) a h
theorem kf_Flow_8 {a : Nat} (h : (qm_kd a).1 = 11) : (qm_kd (qm_rf a 8)).1 = 1 := qm_kfl (t := 11) (by decide) (by decide +kernel) a h
theorem kf_Flow_9 {a : Nat} (h : (qm_kd a).1 = 11) : (qm_kd (qm_rf a 9)).1 = 1 := qm_kfl (t := 11) (by decide) (by decide +kernel) a h
theorem kf_Past_0 {a : Nat} (h : (qm_kd a).1 = 12) : (qm_kd (qm_rf a 0)).1 = 5 := qm_kfl (t := 12) (by decide) (by decide +kernel) a h
theorem kf_Press_0 {a : Nat} (h : (qm_kd a).1 = 13) : (qm_kd (qm_rf a 0)).1 = 14 := qm_kfl (t := 13) (by decide) (by decide +kernel) a h
theorem kf_Press_1 {a : Nat} (h : (qm_kd a).1 = 13) : (qm_kd (qm_rf a 1)).1 = 11 := qm_kfl (t := 13) (by decide) (by decide +kernel) a h
theorem kf_Press_11 {a : Nat} (h : (qm_kd a).1 = 13) : (qm_kd (qm_rf a 11)).1 = 1 := qm_kfl (t := 13) (by decide) (by decide +kernel) a h
theorem kf_Press_12 {a : Nat} (h : (qm_kd a).1 = 13) : (qm_kd (qm_rf a 12)).1 = 1 := qm_kfl (t := 13) (by decide) (by decide +kernel) a h
theorem kf_Press_2 {a : Nat} (h : (qm_kd a).1 = 13) : (qm_kd (qm_rf a 2)).1 = 10 := qm_kfl (t := 13) (by decide) (by decide +kernel) a h
theorem kf_Press_3 {a : Nat} (h : (qm_kd a).1 = 13) : (qm_kd (qm_rf a 3)).1 = 4 := qm_kfl (t := 13) (by decide) (by decide +kernel) a h
theorem kf_Run_1 {a : Nat} (h : (qm_kd a).1 = 14) : (qm_kd (qm_rf a 1)).1 = 1 := qm_kfl (t := 14) (by decide) (by decide +kernel) a h
theorem kf_Run_2 {a : Nat} (h : (qm_kd a).1 = 14) : (qm_kd (qm_rf a 2)).1 = 1 := qm_kfl (t := 14) (by decide) (by decide +kernel) a h
theorem kf_Tape_0 {a : Nat} (h : (qm_kd a).1 = 15) : (qm_kd (qm_rf a 0)).1 = 1 := qm_kfl (t := 15) (by decide) (by decide +kernel) a h
theorem kf_Teller_0 {a : Nat} (h : (qm_kd a).1 = 16) : (qm_kd (qm_rf a 0)).1 = 15 := qm_kfl (t := 16) (by decide) (by decide +kernel) a h
theorem kf_Teller_1 {a : Nat} (h : (qm_kd a).1 = 16) : (qm_kd (qm_rf a 1)).1 = 14 := qm_kfl (t := 16) (by decide) (by decide +kernel) a h
theorem kf_Teller_2 {a : Nat} (h : (qm_kd a).1 = 16) : (qm_kd (qm_rf a 2)).1 = 1 := qm_kfl (t := 16) (by decide) (by decide +kernel) a h
theorem kf_Teller_3 {a : Nat} (h : (qm_kd a).1 = 16) : (qm_kd (qm_rf a 3)).1 = 1 := qm_kfl (t := 16) (by decide) (by decide +kernel) a h
theorem kf_Teller_4 {a : Nat} (h : (qm_kd a).1 = 16) : (qm_kd (qm_rf a 4)).1 = 1 := qm_kfl (t := 16) (by decide) (by decide +kernel) a h
theorem kf_Top_0 {a : Nat} (h : (qm_kd a).1 = 18) : (qm_kd (qm_rf a 0)).1 = 14 := qm_kfl (t := 18) (by decide) (by decide +kernel) a h
theorem kf_Top_1 {a : Nat} (h : (qm_kd a).1 = 18) : (qm_kd (qm_rf a 1)).1 = 15 := qm_kfl (t := 18) (by decide) (by decide +kernel) a h
theorem kf_Top_3 {a : Nat} (h : (qm_kd a).1 = 18) : (qm_kd (qm_rf a 3)).1 = 12 := qm_kfl (t := 18) (by decide) (by decide +kernel) a h
theorem kf_Top_4 {a : Nat} (h : (qm_kd a).1 = 18) : (qm_kd (qm_rf a 4)).1 = 5 := qm_kfl (t := 18) (by decide) (by decide +kernel) a h
theorem kf_Top_6 {a : Nat} (h : (qm_kd a).1 = 18) : (qm_kd (qm_rf a 6)).1 = 13 := qm_kfl (t := 18) (by decide) (by decide +kernel) a h
