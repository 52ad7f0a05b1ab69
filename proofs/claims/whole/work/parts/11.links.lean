def jy_Fitter_init : MethodName := ⟨qr_Fitter, "<init>", "(LColumnsLevelled$Run;LColumnsLevelled$Flow;)V"⟩
def jy_Fitter_forget : MethodName := ⟨qr_Fitter, "forget", "()V"⟩
def jy_Fitter_leftOver : MethodName := ⟨qr_Fitter, "leftOver", "(IIII)I"⟩
def jy_Fitter_linesIn : MethodName := ⟨qr_Fitter, "linesIn", "(I)I"⟩
def jy_Fitter_fitsAll : MethodName := ⟨qr_Fitter, "fitsAll", "(III)Z"⟩
def jy_Fitter_bearsAt : MethodName := ⟨qr_Fitter, "bearsAt", "(II)I"⟩
def jy_Fitter_leastOf : MethodName := ⟨qr_Fitter, "leastOf", "(I)I"⟩
def jy_Fitter_leastFrom : MethodName := ⟨qr_Fitter, "leastFrom", "(IIII)I"⟩
def jy_Fitter_slotOf : MethodName := ⟨qr_Fitter, "slotOf", "(III)I"⟩
def jy_Fitter_measure : MethodName := ⟨qr_Fitter, "measure", "(III)V"⟩
def jy_Fitter_bearsFrom : MethodName := ⟨qr_Fitter, "bearsFrom", "(II[I)I"⟩
def jy_Fitter_latest : MethodName := ⟨qr_Fitter, "latest", "(IIIII)I"⟩
def jy_Flow_init : MethodName := ⟨qr_Flow, "<init>", "(LColumnsLevelled$Run;)V"⟩
def jy_Flow_lay : MethodName := ⟨qr_Flow, "lay", "()V"⟩
def jy_Flow_openSection : MethodName := ⟨qr_Flow, "openSection", "(I)V"⟩
def jy_Flow_layPieces : MethodName := ⟨qr_Flow, "layPieces", "(I)V"⟩
def jy_Flow_markEnds : MethodName := ⟨qr_Flow, "markEnds", "()V"⟩
def jy_Flow_markEnd : MethodName := ⟨qr_Flow, "markEnd", "(I)V"⟩
def jy_Flow_endsBehind : MethodName := ⟨qr_Flow, "endsBehind", "(II)Z"⟩
def jy_Flow_spans : MethodName := ⟨qr_Flow, "spans", "()I"⟩
def jy_Flow_mayEnd : MethodName := ⟨qr_Flow, "mayEnd", "(I)Z"⟩
def jy_Flow_endsIn : MethodName := ⟨qr_Flow, "endsIn", "(II)I"⟩
def jy_Flow_allHeights : MethodName := ⟨qr_Flow, "allHeights", "()I"⟩
def jy_Flow_ownLines : MethodName := ⟨qr_Flow, "ownLines", "(II)I"⟩
def jy_Flow_lastLinesAhead : MethodName := ⟨qr_Flow, "lastLinesAhead", "(I)I"⟩
def jy_Flow_text : MethodName := ⟨qr_Flow, "text", "(II)I"⟩
def jy_Flow_above : MethodName := ⟨qr_Flow, "above", "(II)I"⟩
def jy_Flow_tiesIn : MethodName := ⟨qr_Flow, "tiesIn", "(I)I"⟩
def jy_Past_init : MethodName := ⟨qr_Past, "<init>", "()V"⟩
def jy_Past_push : MethodName := ⟨qr_Past, "push", "(LColumnsLevelled$Run;)V"⟩
def jy_Past_pop : MethodName := ⟨qr_Past, "pop", "(LColumnsLevelled$Run;)V"⟩
def jy_Press_init : MethodName := ⟨qr_Press, "<init>", "(LColumnsLevelled$Run;I)V"⟩
def jy_Press_lay : MethodName := ⟨qr_Press, "lay", "()V"⟩
def jy_Press_mark : MethodName := ⟨qr_Press, "mark", "()V"⟩
def jy_Press_pourAll : MethodName := ⟨qr_Press, "pourAll", "()I"⟩
def jy_Press_answer : MethodName := ⟨qr_Press, "answer", "()I"⟩
def jy_Press_turnPage : MethodName := ⟨qr_Press, "turnPage", "()V"⟩
def jy_Press_pageIsFree : MethodName := ⟨qr_Press, "pageIsFree", "()Z"⟩
def jy_Press_putSpan : MethodName := ⟨qr_Press, "putSpan", "(I)V"⟩
def jy_Press_pourSection : MethodName := ⟨qr_Press, "pourSection", "(I)V"⟩
def jy_Press_level : MethodName := ⟨qr_Press, "level", "(II)V"⟩
def jy_Press_fill : MethodName := ⟨qr_Press, "fill", "(I)Z"⟩
def jy_Press_putColumn : MethodName := ⟨qr_Press, "putColumn", "(IIIIZ)Z"⟩
def jy_Press_cell : MethodName := ⟨qr_Press, "cell", "(II)I"⟩
def jy_Press_used : MethodName := ⟨qr_Press, "used", "(I)I"⟩
def jy_Press_levelAlone : MethodName := ⟨qr_Press, "levelAlone", "(II)V"⟩
def jy_Press_difference : MethodName := ⟨qr_Press, "difference", "()I"⟩
def jy_Press_columnOf : MethodName := ⟨qr_Press, "columnOf", "(I)I"⟩
def jy_Press_leftOfNote : MethodName := ⟨qr_Press, "leftOfNote", "(II)I"⟩
def jy_Press_linesByMark : MethodName := ⟨qr_Press, "linesByMark", "(I)I"⟩
def jy_Press_columnsOfNote : MethodName := ⟨qr_Press, "columnsOfNote", "(I)I"⟩
def jy_Press_columnsOn : MethodName := ⟨qr_Press, "columnsOn", "(I)I"⟩
def jy_Press_piecesOn : MethodName := ⟨qr_Press, "piecesOn", "(I)I"⟩
def jy_Press_spansOn : MethodName := ⟨qr_Press, "spansOn", "(I)I"⟩
def jy_Press_noteLinesOn : MethodName := ⟨qr_Press, "noteLinesOn", "(I)I"⟩
def jy_Press_sectionsOn : MethodName := ⟨qr_Press, "sectionsOn", "(I)I"⟩
def jy_Run_init : MethodName := ⟨qr_Run, "<init>", "()V"⟩
def jy_Run_takes : MethodName := ⟨qr_Run, "takes", "(II)Z"⟩
def jy_Run_clear : MethodName := ⟨qr_Run, "clear", "()V"⟩
def jy_Run_copyFrom : MethodName := ⟨qr_Run, "copyFrom", "(LColumnsLevelled$Run;)V"⟩
def jy_Run_setting : MethodName := ⟨qr_Run, "setting", "(I)I"⟩
def jy_Run_put : MethodName := ⟨qr_Run, "put", "(II)V"⟩
def jy_Run_has : MethodName := ⟨qr_Run, "has", "(I)Z"⟩
def jy_Run_hasPieces : MethodName := ⟨qr_Run, "hasPieces", "(I)Z"⟩
def jy_Run_cell : MethodName := ⟨qr_Run, "cell", "(II)I"⟩
def jy_Run_putCell : MethodName := ⟨qr_Run, "putCell", "(III)V"⟩
def jy_Run_allPieces : MethodName := ⟨qr_Run, "allPieces", "()I"⟩
def jy_Run_add : MethodName := ⟨qr_Run, "add", "(I)I"⟩
def jy_Run_exchange : MethodName := ⟨qr_Run, "exchange", "(II)V"⟩
def jy_Run_repeat : MethodName := ⟨qr_Run, "repeat", "(I)V"⟩
def jy_Run_remove : MethodName := ⟨qr_Run, "remove", "(I)V"⟩
def jy_Run_copyCells : MethodName := ⟨qr_Run, "copyCells", "(II)V"⟩
def jy_Run_noteAt : MethodName := ⟨qr_Run, "noteAt", "(II)I"⟩
def jy_Run_addMark : MethodName := ⟨qr_Run, "addMark", "(III)V"⟩
def jy_Run_withoutLaw : MethodName := ⟨qr_Run, "withoutLaw", "(I)V"⟩
def jy_Run_clearCells : MethodName := ⟨qr_Run, "clearCells", "(I)V"⟩
def jy_Tape_init : MethodName := ⟨qr_Tape, "<init>", "()V"⟩
def jy_Tape_append : MethodName := ⟨qr_Tape, "append", "(I)V"⟩
def jy_Teller_init : MethodName := ⟨qr_Teller, "<init>", "(LColumnsLevelled$Tape;)V"⟩
def jy_Teller_read : MethodName := ⟨qr_Teller, "read", "()I"⟩
def jy_Teller_split : MethodName := ⟨qr_Teller, "split", "()V"⟩
def jy_Teller_signOf : MethodName := ⟨qr_Teller, "signOf", "(I)I"⟩
def jy_Teller_numberOf : MethodName := ⟨qr_Teller, "numberOf", "(II)I"⟩
def jy_Teller_wordOf : MethodName := ⟨qr_Teller, "wordOf", "(II)I"⟩
def jy_Teller_isWord : MethodName := ⟨qr_Teller, "isWord", "(III)Z"⟩
def jy_Teller_readPart : MethodName := ⟨qr_Teller, "readPart", "()V"⟩
def jy_Teller_readSetting : MethodName := ⟨qr_Teller, "readSetting", "(II)V"⟩
def jy_Teller_readBlock : MethodName := ⟨qr_Teller, "readBlock", "(II)V"⟩
def jy_Teller_mostHigh : MethodName := ⟨qr_Teller, "mostHigh", "(I)I"⟩
def jy_Teller_readWords : MethodName := ⟨qr_Teller, "readWords", "(II)V"⟩
def jy_Teller_readMark : MethodName := ⟨qr_Teller, "readMark", "(II)V"⟩
def jy_Teller_tellOnce : MethodName := ⟨qr_Teller, "tellOnce", "(II)V"⟩
def jy_Teller_readWord : MethodName := ⟨qr_Teller, "readWord", "()I"⟩
def jy_Teller_readNumber : MethodName := ⟨qr_Teller, "readNumber", "(II)I"⟩
def jy_Teller_wrong : MethodName := ⟨qr_Teller, "wrong", "(II)V"⟩
def jy_Teller_sign : MethodName := ⟨qr_Teller, "sign", "()I"⟩
def jy_Teller_place : MethodName := ⟨qr_Teller, "place", "()I"⟩
def jy_Walker_init : MethodName := ⟨qr_Walker, "<init>", "(LColumnsLevelled$Press;)V"⟩
def jy_Walker_farthest : MethodName := ⟨qr_Walker, "farthest", "(III)I"⟩
def jy_Walker_stepFarther : MethodName := ⟨qr_Walker, "stepFarther", "(IIII[I)V"⟩
def jy_Walker_rowsOfEnds : MethodName := ⟨qr_Walker, "rowsOfEnds", "(III)I"⟩
def jy_Walker_stepWays : MethodName := ⟨qr_Walker, "stepWays", "(IIII[I)V"⟩
def jy_Walker_fillRow : MethodName := ⟨qr_Walker, "fillRow", "([II)V"⟩
def jy_Top_init : MethodName := ⟨qr_Top, "<init>", "()V"⟩
def jy_Top_feed : MethodName := ⟨qr_Top, "feed", "(IIIII)I"⟩
def jy_Top_end : MethodName := ⟨qr_Top, "end", "(I)I"⟩
def jy_Top_tell : MethodName := ⟨qr_Top, "tell", "()I"⟩
def jy_Top_set : MethodName := ⟨qr_Top, "set", "(II)I"⟩
def jy_Top_tie : MethodName := ⟨qr_Top, "tie", "(IZ)I"⟩
def jy_Top_space : MethodName := ⟨qr_Top, "space", "(II)I"⟩
def jy_Top_swap : MethodName := ⟨qr_Top, "swap", "(II)I"⟩
def jy_Top_again : MethodName := ⟨qr_Top, "again", "(I)I"⟩
def jy_Top_drop : MethodName := ⟨qr_Top, "drop", "(I)I"⟩
def jy_Top_undo : MethodName := ⟨qr_Top, "undo", "()I"⟩
def jy_Top_keep : MethodName := ⟨qr_Top, "keep", "(I)I"⟩
def jy_Top_back : MethodName := ⟨qr_Top, "back", "(I)I"⟩
def jy_Top_block : MethodName := ⟨qr_Top, "block", "(II)I"⟩
def jy_Top_piece : MethodName := ⟨qr_Top, "piece", "(II)I"⟩
def jy_Top_section : MethodName := ⟨qr_Top, "section", "(II)I"⟩
def jy_Top_count : MethodName := ⟨qr_Top, "count", "(I)I"⟩
def jy_Top_pour : MethodName := ⟨qr_Top, "pour", "()I"⟩
def jy_Top_column : MethodName := ⟨qr_Top, "column", "(II)I"⟩
def jy_Top_where : MethodName := ⟨qr_Top, "where", "(II)I"⟩
def jy_Top_note : MethodName := ⟨qr_Top, "note", "(II)I"⟩
def jy_Top_span : MethodName := ⟨qr_Top, "span", "(II)I"⟩
def jy_Top_loose : MethodName := ⟨qr_Top, "loose", "(I)I"⟩
def jy_Top_page : MethodName := ⟨qr_Top, "page", "(II)I"⟩
def jy_Top_fits : MethodName := ⟨qr_Top, "fits", "(II)I"⟩
def jy_Top_least : MethodName := ⟨qr_Top, "least", "(I)I"⟩
def jy_Top_reach : MethodName := ⟨qr_Top, "reach", "(III)I"⟩
def jy_Top_ways : MethodName := ⟨qr_Top, "ways", "(II)I"⟩
def jy_Top_narrow : MethodName := ⟨qr_Top, "narrow", "(II)I"⟩
def jy_Top_even : MethodName := ⟨qr_Top, "even", "(I)I"⟩
def jy_Top_costs : MethodName := ⟨qr_Top, "costs", "(II)I"⟩
def jy_Top_untie : MethodName := ⟨qr_Top, "untie", "(II)I"⟩
def jy_Top_trial : MethodName := ⟨qr_Top, "trial", "(II)I"⟩
def jy_Top_tall : MethodName := ⟨qr_Top, "tall", "(I)I"⟩
def jy_Top_order : MethodName := ⟨qr_Top, "order", "(I)I"⟩
def jy_Top_at : MethodName := ⟨qr_Top, "at", "([II)I"⟩
def jy_Top_beginAct : MethodName := ⟨qr_Top, "beginAct", "()V"⟩
def jy_Top_changed : MethodName := ⟨qr_Top, "changed", "()V"⟩
def jy_Top_laidOut : MethodName := ⟨qr_Top, "laidOut", "()LColumnsLevelled$Press;"⟩
def jy_Top_pouredNow : MethodName := ⟨qr_Top, "pouredNow", "()LColumnsLevelled$Press;"⟩
def jy_Top_asks : MethodName := ⟨qr_Top, "asks", "(II)Z"⟩
def jy_Top_untiedBy : MethodName := ⟨qr_Top, "untiedBy", "(IIII)I"⟩
def jy_Top_fitsUntied : MethodName := ⟨qr_Top, "fitsUntied", "(III)Z"⟩
def jy_Model_init : MethodName := ⟨qr_Model, "<init>", "()V"⟩
def jy_Model_begins : MethodName := ⟨qr_Model, "begins", "([I)V"⟩
def jy_Model_in : MethodName := ⟨qr_Model, "in", "(JJJ)Z"⟩
def jy_Model_lowOf : MethodName := ⟨qr_Model, "lowOf", "(I)I"⟩
def jy_Model_highOf : MethodName := ⟨qr_Model, "highOf", "(I)I"⟩
def jy_Model_isSetting : MethodName := ⟨qr_Model, "isSetting", "(II)Z"⟩
def jy_Model_blocks : MethodName := ⟨qr_Model, "blocks", "()I"⟩
def jy_Model_of : MethodName := ⟨qr_Model, "of", "(II)I"⟩
def jy_Model_isBlock : MethodName := ⟨qr_Model, "isBlock", "(I)Z"⟩
def jy_Model_noteOf : MethodName := ⟨qr_Model, "noteOf", "(II)I"⟩
def jy_Model_laysPiece : MethodName := ⟨qr_Model, "laysPiece", "(II)V"⟩
def jy_Model_lays : MethodName := ⟨qr_Model, "lays", "()V"⟩
def jy_Model_mayEnd : MethodName := ⟨qr_Model, "mayEnd", "(I)Z"⟩
def jy_Model_laysSums : MethodName := ⟨qr_Model, "laysSums", "()V"⟩
def jy_Model_endOf : MethodName := ⟨qr_Model, "endOf", "(I)I"⟩
def jy_Model_isEnd : MethodName := ⟨qr_Model, "isEnd", "(II)Z"⟩
def jy_Model_textOf : MethodName := ⟨qr_Model, "textOf", "(II)I"⟩
def jy_Model_ownOf : MethodName := ⟨qr_Model, "ownOf", "(II)I"⟩
def jy_Model_roomOf : MethodName := ⟨qr_Model, "roomOf", "(III)I"⟩
def jy_Model_canEnd : MethodName := ⟨qr_Model, "canEnd", "(IIII)Z"⟩
def jy_Model_standsOf : MethodName := ⟨qr_Model, "standsOf", "(IIII)I"⟩
def jy_Model_mostInto : MethodName := ⟨qr_Model, "mostInto", "(IIII)I"⟩
def jy_Model_laysMay : MethodName := ⟨qr_Model, "laysMay", "(III)V"⟩
def jy_Model_fitsFrom : MethodName := ⟨qr_Model, "fitsFrom", "(IIII)Z"⟩
def jy_Model_leastFrom : MethodName := ⟨qr_Model, "leastFrom", "(IIII)I"⟩
def jy_Model_puts : MethodName := ⟨qr_Model, "puts", "(IIIIZ)V"⟩
def jy_Model_turnsPage : MethodName := ⟨qr_Model, "turnsPage", "(I)Z"⟩
def jy_Model_poursSpan : MethodName := ⟨qr_Model, "poursSpan", "(I)Z"⟩
def jy_Model_levels : MethodName := ⟨qr_Model, "levels", "(I)V"⟩
def jy_Model_levelsBy : MethodName := ⟨qr_Model, "levelsBy", "(II)V"⟩
def jy_Model_isGood : MethodName := ⟨qr_Model, "isGood", "(IIII)Z"⟩
def jy_Model_fills : MethodName := ⟨qr_Model, "fills", "(I)I"⟩
def jy_Model_poursSection : MethodName := ⟨qr_Model, "poursSection", "(I)Z"⟩
def jy_Model_pours : MethodName := ⟨qr_Model, "pours", "()I"⟩
def jy_Model_pour : MethodName := ⟨qr_Model, "pour", "()I"⟩
def jy_Model_isNoted : MethodName := ⟨qr_Model, "isNoted", "(I)Z"⟩
def jy_Model_linesIn : MethodName := ⟨qr_Model, "linesIn", "(I)I"⟩
def jy_Model_column : MethodName := ⟨qr_Model, "column", "(II)I"⟩
def jy_Model_columnOf : MethodName := ⟨qr_Model, "columnOf", "(I)I"⟩
def jy_Model_where : MethodName := ⟨qr_Model, "where", "(II)I"⟩
def jy_Model_notes : MethodName := ⟨qr_Model, "notes", "()I"⟩
def jy_Model_noteAt : MethodName := ⟨qr_Model, "noteAt", "(I)I"⟩
def jy_Model_linesAt : MethodName := ⟨qr_Model, "linesAt", "(II)I"⟩
def jy_Model_columnsOf : MethodName := ⟨qr_Model, "columnsOf", "(II)I"⟩
def jy_Model_note : MethodName := ⟨qr_Model, "note", "(II)I"⟩
def jy_Model_span : MethodName := ⟨qr_Model, "span", "(II)I"⟩
def jy_Model_block : MethodName := ⟨qr_Model, "block", "(II)I"⟩
def jy_Model_piece : MethodName := ⟨qr_Model, "piece", "(II)I"⟩
def jy_Model_isSection : MethodName := ⟨qr_Model, "isSection", "(I)Z"⟩
def jy_Model_endsOf : MethodName := ⟨qr_Model, "endsOf", "(I)I"⟩
def jy_Model_section : MethodName := ⟨qr_Model, "section", "(II)I"⟩
def jy_Model_fits : MethodName := ⟨qr_Model, "fits", "(II)I"⟩
def jy_Model_leastOf : MethodName := ⟨qr_Model, "leastOf", "(I)I"⟩
def jy_Model_least : MethodName := ⟨qr_Model, "least", "(I)I"⟩
def jy_Model_reach : MethodName := ⟨qr_Model, "reach", "(III)I"⟩
def jy_Model_goesOn : MethodName := ⟨qr_Model, "goesOn", "(III)V"⟩
def jy_Model_keepsAside : MethodName := ⟨qr_Model, "keepsAside", "()V"⟩
def jy_Model_putsBack : MethodName := ⟨qr_Model, "putsBack", "()V"⟩
def jy_Model_trial : MethodName := ⟨qr_Model, "trial", "(II)I"⟩
def jy_Model_loosens : MethodName := ⟨qr_Model, "loosens", "(I)V"⟩
def jy_Model_costs : MethodName := ⟨qr_Model, "costs", "(II)I"⟩
def jy_Model_tall : MethodName := ⟨qr_Model, "tall", "(I)I"⟩
def jy_Model_looseOf : MethodName := ⟨qr_Model, "looseOf", "(I)I"⟩
def jy_Model_loose : MethodName := ⟨qr_Model, "loose", "(I)I"⟩
def jy_Model_sectionsOn : MethodName := ⟨qr_Model, "sectionsOn", "(I)I"⟩
def jy_Model_bits : MethodName := ⟨qr_Model, "bits", "(I)I"⟩
def jy_Model_spansOn : MethodName := ⟨qr_Model, "spansOn", "(I)I"⟩
def jy_Model_page : MethodName := ⟨qr_Model, "page", "(II)I"⟩
def jy_Model_goesBy : MethodName := ⟨qr_Model, "goesBy", "(IIII)V"⟩
def jy_Model_ways : MethodName := ⟨qr_Model, "ways", "(II)I"⟩
def jy_Model_isIn : MethodName := ⟨qr_Model, "isIn", "(II)Z"⟩
def jy_Model_tiedOf : MethodName := ⟨qr_Model, "tiedOf", "(I)I"⟩
def jy_Model_fitsWithout : MethodName := ⟨qr_Model, "fitsWithout", "(III)Z"⟩
def jy_Model_untie : MethodName := ⟨qr_Model, "untie", "(II)I"⟩
def jy_Model_narrow : MethodName := ⟨qr_Model, "narrow", "(II)I"⟩
def jy_Model_even : MethodName := ⟨qr_Model, "even", "(I)I"⟩
def jy_Model_order : MethodName := ⟨qr_Model, "order", "(I)I"⟩
def jy_Model_trades : MethodName := ⟨qr_Model, "trades", "(II)V"⟩
def jy_Model_feed : MethodName := ⟨qr_Model, "feed", "(IIIII)I"⟩
def jy_Model_end : MethodName := ⟨qr_Model, "end", "(I)I"⟩
def jy_Model_byteAt : MethodName := ⟨qr_Model, "byteAt", "(I)I"⟩
def jy_Model_nextByte : MethodName := ⟨qr_Model, "nextByte", "()I"⟩
def jy_Model_fails : MethodName := ⟨qr_Model, "fails", "(II)Z"⟩
def jy_Model_isWord : MethodName := ⟨qr_Model, "isWord", "(Ljava/lang/String;)Z"⟩
def jy_Model_readsNumber : MethodName := ⟨qr_Model, "readsNumber", "(II)Z"⟩
def jy_Model_settingWord : MethodName := ⟨qr_Model, "settingWord", "(I)Ljava/lang/String;"⟩
def jy_Model_readsSetting : MethodName := ⟨qr_Model, "readsSetting", "(I)Z"⟩
def jy_Model_kindWord : MethodName := ⟨qr_Model, "kindWord", "(I)Ljava/lang/String;"⟩
def jy_Model_highest : MethodName := ⟨qr_Model, "highest", "(I)I"⟩
def jy_Model_readsMany : MethodName := ⟨qr_Model, "readsMany", "(I)Z"⟩
def jy_Model_readsHigh : MethodName := ⟨qr_Model, "readsHigh", "(II)Z"⟩
def jy_Model_readsTop : MethodName := ⟨qr_Model, "readsTop", "(I)Z"⟩
def jy_Model_readsSizes : MethodName := ⟨qr_Model, "readsSizes", "(II)Z"⟩
def jy_Model_readsMark : MethodName := ⟨qr_Model, "readsMark", "(I)Z"⟩
def jy_Model_readsOnce : MethodName := ⟨qr_Model, "readsOnce", "(IILjava/lang/String;)Z"⟩
def jy_Model_has : MethodName := ⟨qr_Model, "has", "(II)Z"⟩
def jy_Model_readsWords : MethodName := ⟨qr_Model, "readsWords", "(II)Z"⟩
def jy_Model_readsBlock : MethodName := ⟨qr_Model, "readsBlock", "(I)Z"⟩
def jy_Model_readsPart : MethodName := ⟨qr_Model, "readsPart", "()Z"⟩
def jy_Model_readsAll : MethodName := ⟨qr_Model, "readsAll", "()Z"⟩
def jy_Model_tell : MethodName := ⟨qr_Model, "tell", "()I"⟩
def jy_Model_keepsAct : MethodName := ⟨qr_Model, "keepsAct", "()V"⟩
def jy_Model_set : MethodName := ⟨qr_Model, "set", "(II)I"⟩
def jy_Model_isPlain : MethodName := ⟨qr_Model, "isPlain", "(I)Z"⟩
def jy_Model_tie : MethodName := ⟨qr_Model, "tie", "(IZ)I"⟩
def jy_Model_space : MethodName := ⟨qr_Model, "space", "(II)I"⟩
def jy_Model_swap : MethodName := ⟨qr_Model, "swap", "(II)I"⟩
def jy_Model_again : MethodName := ⟨qr_Model, "again", "(I)I"⟩
def jy_Model_drop : MethodName := ⟨qr_Model, "drop", "(I)I"⟩
def jy_Model_undo : MethodName := ⟨qr_Model, "undo", "()I"⟩
def jy_Model_keep : MethodName := ⟨qr_Model, "keep", "(I)I"⟩
def jy_Model_back : MethodName := ⟨qr_Model, "back", "(I)I"⟩
def jy_Model_count : MethodName := ⟨qr_Model, "count", "(I)I"⟩
def jy_Integer_bitCount : MethodName := ⟨"java/lang/Integer", "bitCount", "(I)I"⟩
def jy_Math_max : MethodName := ⟨"java/lang/Math", "max", "(II)I"⟩
def jy_Math_min : MethodName := ⟨"java/lang/Math", "min", "(II)I"⟩
def jy_String_length : MethodName := ⟨"java/lang/String", "length", "()I"⟩
def jy_String_charAt : MethodName := ⟨"java/lang/String", "charAt", "(I)C"⟩
def jy_String_coder : MethodName := ⟨"java/lang/String", "coder", "()B"⟩
def jy_String_isLatin1 : MethodName := ⟨"java/lang/String", "isLatin1", "()Z"⟩
def jy_String_checkIndex : MethodName := ⟨"java/lang/String", "checkIndex", "(II)V"⟩
theorem jc_0 : qm_cls 0 qr_Fitter qt_Fitter 10 := ⟨rfl, fun w hw => (fun h => qm_good h.1 h.2) ((by decide +kernel : ∀ w ∈ u_ws qr_Fitter qt_Fitter 10, w ∈ lw_tbl ∧ goodWord w = true) w hw)⟩
def qy_Fitter : Nat → FieldType := fun k => match k with
  | 0 => .object "ColumnsLevelled$Run"
  | 1 => .object "ColumnsLevelled$Flow"
  | 2 => .int
  | 3 => .int
  | 4 => .array (.array (.int))
  | 5 => .int
  | 6 => .int
  | 7 => .int
  | 8 => .array (.int)
  | _ => .boolean
theorem qn_Fitter : ∀ k, k < 10 → parseFieldDescriptor (qt_Fitter k).2.2.1 = some (qy_Fitter k) := by decide +kernel
theorem qv_Fitter : ∀ a, a < 10 → ∀ b, b < 10 → a ≠ b → (qt_Fitter a).2.1 ≠ (qt_Fitter b).2.1 := by decide +kernel
theorem jc_1 : qm_cls 1 qr_Flow qt_Flow 20 := ⟨rfl, fun w hw => (fun h => qm_good h.1 h.2) ((by decide +kernel : ∀ w ∈ u_ws qr_Flow qt_Flow 20, w ∈ lw_tbl ∧ goodWord w = true) w hw)⟩
def qy_Flow : Nat → FieldType := fun k => match k with
  | 0 => .int
  | 1 => .int
  | 2 => .int
  | 3 => .object "ColumnsLevelled$Run"
  | 4 => .array (.int)
  | 5 => .array (.int)
  | 6 => .array (.int)
  | 7 => .array (.int)
  | 8 => .array (.int)
  | 9 => .array (.int)
  | 10 => .array (.int)
  | 11 => .array (.int)
  | 12 => .array (.int)
  | 13 => .array (.int)
  | 14 => .array (.int)
  | 15 => .array (.boolean)
  | 16 => .array (.int)
  | 17 => .array (.int)
  | 18 => .array (.int)
  | _ => .array (.int)
theorem qn_Flow : ∀ k, k < 20 → parseFieldDescriptor (qt_Flow k).2.2.1 = some (qy_Flow k) := by decide +kernel
theorem qv_Flow : ∀ a, a < 20 → ∀ b, b < 20 → a ≠ b → (qt_Flow a).2.1 ≠ (qt_Flow b).2.1 := by decide +kernel
theorem jc_2 : qm_cls 2 qr_Past qt_Past 3 := ⟨rfl, fun w hw => (fun h => qm_good h.1 h.2) ((by decide +kernel : ∀ w ∈ u_ws qr_Past qt_Past 3, w ∈ lw_tbl ∧ goodWord w = true) w hw)⟩
def qy_Past : Nat → FieldType := fun k => match k with
  | 0 => .array (.object "ColumnsLevelled$Run")
  | 1 => .int
  | _ => .int
theorem qn_Past : ∀ k, k < 3 → parseFieldDescriptor (qt_Past k).2.2.1 = some (qy_Past k) := by decide +kernel
theorem qv_Past : ∀ a, a < 3 → ∀ b, b < 3 → a ≠ b → (qt_Past a).2.1 ≠ (qt_Past b).2.1 := by decide +kernel
theorem jc_3 : qm_cls 3 qr_Press qt_Press 13 := ⟨rfl, fun w hw => (fun h => qm_good h.1 h.2) ((by decide +kernel : ∀ w ∈ u_ws qr_Press qt_Press 13, w ∈ lw_tbl ∧ goodWord w = true) w hw)⟩
def qy_Press : Nat → FieldType := fun k => match k with
  | 0 => .object "ColumnsLevelled$Run"
  | 1 => .object "ColumnsLevelled$Flow"
  | 2 => .object "ColumnsLevelled$Fitter"
  | 3 => .array (.array (.int))
  | 4 => .int
  | 5 => .int
  | 6 => .int
  | 7 => .int
  | 8 => .int
  | 9 => .int
  | 10 => .int
  | 11 => .array (.int)
  | _ => .array (.int)
theorem qn_Press : ∀ k, k < 13 → parseFieldDescriptor (qt_Press k).2.2.1 = some (qy_Press k) := by decide +kernel
theorem qv_Press : ∀ a, a < 13 → ∀ b, b < 13 → a ≠ b → (qt_Press a).2.1 ≠ (qt_Press b).2.1 := by decide +kernel
theorem jc_4 : qm_cls 4 qr_Run qt_Run 3 := ⟨rfl, fun w hw => (fun h => qm_good h.1 h.2) ((by decide +kernel : ∀ w ∈ u_ws qr_Run qt_Run 3, w ∈ lw_tbl ∧ goodWord w = true) w hw)⟩
def qy_Run : Nat → FieldType := fun k => match k with
  | 0 => .int
  | 1 => .array (.int)
  | _ => .array (.int)
theorem qn_Run : ∀ k, k < 3 → parseFieldDescriptor (qt_Run k).2.2.1 = some (qy_Run k) := by decide +kernel
theorem qv_Run : ∀ a, a < 3 → ∀ b, b < 3 → a ≠ b → (qt_Run a).2.1 ≠ (qt_Run b).2.1 := by decide +kernel
theorem jc_5 : qm_cls 5 qr_Tape qt_Tape 2 := ⟨rfl, fun w hw => (fun h => qm_good h.1 h.2) ((by decide +kernel : ∀ w ∈ u_ws qr_Tape qt_Tape 2, w ∈ lw_tbl ∧ goodWord w = true) w hw)⟩
def qy_Tape : Nat → FieldType := fun k => match k with
  | 0 => .array (.int)
  | _ => .int
theorem qn_Tape : ∀ k, k < 2 → parseFieldDescriptor (qt_Tape k).2.2.1 = some (qy_Tape k) := by decide +kernel
theorem qv_Tape : ∀ a, a < 2 → ∀ b, b < 2 → a ≠ b → (qt_Tape a).2.1 ≠ (qt_Tape b).2.1 := by decide +kernel
theorem jc_6 : qm_cls 6 qr_Teller qt_Teller 8 := ⟨rfl, fun w hw => (fun h => qm_good h.1 h.2) ((by decide +kernel : ∀ w ∈ u_ws qr_Teller qt_Teller 8, w ∈ lw_tbl ∧ goodWord w = true) w hw)⟩
def qy_Teller : Nat → FieldType := fun k => match k with
  | 0 => .object "ColumnsLevelled$Tape"
  | 1 => .object "ColumnsLevelled$Run"
  | 2 => .array (.int)
  | 3 => .array (.int)
  | 4 => .array (.int)
  | 5 => .int
  | 6 => .int
  | _ => .int
theorem qn_Teller : ∀ k, k < 8 → parseFieldDescriptor (qt_Teller k).2.2.1 = some (qy_Teller k) := by decide +kernel
theorem qv_Teller : ∀ a, a < 8 → ∀ b, b < 8 → a ≠ b → (qt_Teller a).2.1 ≠ (qt_Teller b).2.1 := by decide +kernel
theorem jc_7 : qm_cls 7 qr_Walker qt_Walker 4 := ⟨rfl, fun w hw => (fun h => qm_good h.1 h.2) ((by decide +kernel : ∀ w ∈ u_ws qr_Walker qt_Walker 4, w ∈ lw_tbl ∧ goodWord w = true) w hw)⟩
def qy_Walker : Nat → FieldType := fun k => match k with
  | 0 => .object "ColumnsLevelled$Flow"
  | 1 => .object "ColumnsLevelled$Fitter"
  | 2 => .array (.array (.int))
  | _ => .array (.array (.int))
theorem qn_Walker : ∀ k, k < 4 → parseFieldDescriptor (qt_Walker k).2.2.1 = some (qy_Walker k) := by decide +kernel
theorem qv_Walker : ∀ a, a < 4 → ∀ b, b < 4 → a ≠ b → (qt_Walker a).2.1 ≠ (qt_Walker b).2.1 := by decide +kernel
theorem jc_8 : qm_cls 8 qr_Top qt_Top 11 := ⟨rfl, fun w hw => (fun h => qm_good h.1 h.2) ((by decide +kernel : ∀ w ∈ u_ws qr_Top qt_Top 11, w ∈ lw_tbl ∧ goodWord w = true) w hw)⟩
def qy_Top : Nat → FieldType := fun k => match k with
  | 0 => .object "ColumnsLevelled$Run"
  | 1 => .object "ColumnsLevelled$Tape"
  | 2 => .object "ColumnsLevelled$Teller"
  | 3 => .object "ColumnsLevelled$Past"
  | 4 => .array (.object "ColumnsLevelled$Run")
  | 5 => .int
  | 6 => .object "ColumnsLevelled$Press"
  | 7 => .object "ColumnsLevelled$Press"
  | 8 => .object "ColumnsLevelled$Walker"
  | 9 => .boolean
  | _ => .boolean
theorem qn_Top : ∀ k, k < 11 → parseFieldDescriptor (qt_Top k).2.2.1 = some (qy_Top k) := by decide +kernel
theorem qv_Top : ∀ a, a < 11 → ∀ b, b < 11 → a ≠ b → (qt_Top a).2.1 ≠ (qt_Top b).2.1 := by decide +kernel
theorem jc_9 : qm_cls 9 qr_Model qt_Model 54 := ⟨rfl, fun w hw => (fun h => qm_good h.1 h.2) ((by decide +kernel : ∀ w ∈ u_ws qr_Model qt_Model 54, w ∈ lw_tbl ∧ goodWord w = true) w hw)⟩
def qy_Model : Nat → FieldType := fun k => match k with
  | 0 => .array (.int)
  | 1 => .array (.int)
  | 2 => .int
  | 3 => .array (.int)
  | 4 => .array (.boolean)
  | 5 => .array (.int)
  | 6 => .array (.int)
  | 7 => .array (.int)
  | 8 => .array (.int)
  | 9 => .array (.int)
  | 10 => .array (.int)
  | 11 => .array (.int)
  | 12 => .array (.boolean)
  | 13 => .int
  | 14 => .array (.int)
  | 15 => .array (.int)
  | 16 => .int
  | 17 => .array (.int)
  | 18 => .array (.int)
  | 19 => .array (.int)
  | 20 => .array (.int)
  | 21 => .array (.int)
  | 22 => .array (.int)
  | 23 => .array (.int)
  | 24 => .array (.int)
  | 25 => .array (.int)
  | 26 => .array (.int)
  | 27 => .array (.int)
  | 28 => .array (.int)
  | 29 => .array (.int)
  | 30 => .array (.int)
  | 31 => .array (.boolean)
  | 32 => .int
  | 33 => .int
  | 34 => .int
  | 35 => .int
  | 36 => .int
  | 37 => .int
  | 38 => .array (.int)
  | 39 => .array (.int)
  | 40 => .array (.int)
  | 41 => .array (.int)
  | 42 => .array (.int)
  | 43 => .array (.int)
  | 44 => .array (.byte)
  | 45 => .int
  | 46 => .int
  | 47 => .int
  | 48 => .int
  | 49 => .int
  | 50 => .array (.int)
  | 51 => .int
  | 52 => .int
  | _ => .int
theorem qn_Model : ∀ k, k < 54 → parseFieldDescriptor (qt_Model k).2.2.1 = some (qy_Model k) := by decide +kernel
theorem qv_Model : ∀ a, a < 54 → ∀ b, b < 54 → a ≠ b → (qt_Model a).2.1 ≠ (qt_Model b).2.1 := by decide +kernel
theorem fl_Top_12 : qm_FL qr_Top 12 8 0 := ⟨_, _, _, jc_8, by decide, qm_good (List.mem_of_getElem? (i := 455) (by decide +kernel)) rfl⟩
theorem fl_Top_19 : qm_FL qr_Top 19 8 1 := ⟨_, _, _, jc_8, by decide, qm_good (List.mem_of_getElem? (i := 456) (by decide +kernel)) rfl⟩
theorem fl_Top_35 : qm_FL qr_Top 35 8 3 := ⟨_, _, _, jc_8, by decide, qm_good (List.mem_of_getElem? (i := 458) (by decide +kernel)) rfl⟩
theorem fl_Top_39 : qm_FL qr_Top 39 8 4 := ⟨_, _, _, jc_8, by decide, qm_good (List.mem_of_getElem? (i := 459) (by decide +kernel)) rfl⟩
theorem fl_Top_48 : qm_FL qr_Top 48 8 6 := ⟨_, _, _, jc_8, by decide, qm_good (List.mem_of_getElem? (i := 461) (by decide +kernel)) rfl⟩
theorem fl_Top_52 : qm_FL qr_Top 52 8 7 := ⟨_, _, _, jc_8, by decide, qm_good (List.mem_of_getElem? (i := 462) (by decide +kernel)) rfl⟩
theorem fl_Top_60 : qm_FL qr_Top 60 8 8 := ⟨_, _, _, jc_8, by decide, qm_good (List.mem_of_getElem? (i := 463) (by decide +kernel)) rfl⟩
theorem fl_Top_64 : qm_FL qr_Top 64 5 1 := ⟨_, _, _, jc_5, by decide, qm_good (List.mem_of_getElem? (i := 168) (by decide +kernel)) rfl⟩
theorem fl_Top_83 : qm_FL qr_Top 83 2 2 := ⟨_, _, _, jc_2, by decide, qm_good (List.mem_of_getElem? (i := 222) (by decide +kernel)) rfl⟩
theorem fl_Top_122 : qm_FL qr_Top 122 4 0 := ⟨_, _, _, jc_4, by decide, qm_good (List.mem_of_getElem? (i := 148) (by decide +kernel)) rfl⟩
theorem fl_Top_137 : qm_FL qr_Top 137 8 5 := ⟨_, _, _, jc_8, by decide, qm_good (List.mem_of_getElem? (i := 460) (by decide +kernel)) rfl⟩
theorem fl_Top_144 : qm_FL qr_Top 144 3 1 := ⟨_, _, _, jc_3, by decide, qm_good (List.mem_of_getElem? (i := 388) (by decide +kernel)) rfl⟩
theorem fl_Top_148 : qm_FL qr_Top 148 1 4 := ⟨_, _, _, jc_1, by decide, qm_good (List.mem_of_getElem? (i := 251) (by decide +kernel)) rfl⟩
theorem fl_Top_158 : qm_FL qr_Top 158 1 0 := ⟨_, _, _, jc_1, by decide, qm_good (List.mem_of_getElem? (i := 243) (by decide +kernel)) rfl⟩
theorem fl_Top_161 : qm_FL qr_Top 161 1 5 := ⟨_, _, _, jc_1, by decide, qm_good (List.mem_of_getElem? (i := 253) (by decide +kernel)) rfl⟩
theorem fl_Top_164 : qm_FL qr_Top 164 1 6 := ⟨_, _, _, jc_1, by decide, qm_good (List.mem_of_getElem? (i := 255) (by decide +kernel)) rfl⟩
theorem fl_Top_167 : qm_FL qr_Top 167 1 7 := ⟨_, _, _, jc_1, by decide, qm_good (List.mem_of_getElem? (i := 257) (by decide +kernel)) rfl⟩
theorem fl_Top_170 : qm_FL qr_Top 170 1 8 := ⟨_, _, _, jc_1, by decide, qm_good (List.mem_of_getElem? (i := 260) (by decide +kernel)) rfl⟩
theorem fl_Top_173 : qm_FL qr_Top 173 1 9 := ⟨_, _, _, jc_1, by decide, qm_good (List.mem_of_getElem? (i := 262) (by decide +kernel)) rfl⟩
theorem fl_Top_179 : qm_FL qr_Top 179 1 10 := ⟨_, _, _, jc_1, by decide, qm_good (List.mem_of_getElem? (i := 265) (by decide +kernel)) rfl⟩
theorem fl_Top_182 : qm_FL qr_Top 182 1 1 := ⟨_, _, _, jc_1, by decide, qm_good (List.mem_of_getElem? (i := 246) (by decide +kernel)) rfl⟩
theorem fl_Top_185 : qm_FL qr_Top 185 1 16 := ⟨_, _, _, jc_1, by decide, qm_good (List.mem_of_getElem? (i := 280) (by decide +kernel)) rfl⟩
theorem fl_Top_188 : qm_FL qr_Top 188 1 17 := ⟨_, _, _, jc_1, by decide, qm_good (List.mem_of_getElem? (i := 285) (by decide +kernel)) rfl⟩
theorem fl_Top_191 : qm_FL qr_Top 191 1 18 := ⟨_, _, _, jc_1, by decide, qm_good (List.mem_of_getElem? (i := 288) (by decide +kernel)) rfl⟩
theorem fl_Top_200 : qm_FL qr_Top 200 1 2 := ⟨_, _, _, jc_1, by decide, qm_good (List.mem_of_getElem? (i := 248) (by decide +kernel)) rfl⟩
theorem fl_Top_212 : qm_FL qr_Top 212 3 4 := ⟨_, _, _, jc_3, by decide, qm_good (List.mem_of_getElem? (i := 394) (by decide +kernel)) rfl⟩
theorem fl_Top_222 : qm_FL qr_Top 222 1 19 := ⟨_, _, _, jc_1, by decide, qm_good (List.mem_of_getElem? (i := 290) (by decide +kernel)) rfl⟩
theorem fl_Top_231 : qm_FL qr_Top 231 3 10 := ⟨_, _, _, jc_3, by decide, qm_good (List.mem_of_getElem? (i := 403) (by decide +kernel)) rfl⟩
theorem fl_Top_234 : qm_FL qr_Top 234 3 11 := ⟨_, _, _, jc_3, by decide, qm_good (List.mem_of_getElem? (i := 405) (by decide +kernel)) rfl⟩
theorem fl_Top_237 : qm_FL qr_Top 237 3 12 := ⟨_, _, _, jc_3, by decide, qm_good (List.mem_of_getElem? (i := 407) (by decide +kernel)) rfl⟩
theorem fl_Top_240 : qm_FL qr_Top 240 3 9 := ⟨_, _, _, jc_3, by decide, qm_good (List.mem_of_getElem? (i := 401) (by decide +kernel)) rfl⟩
theorem fl_Top_246 : qm_FL qr_Top 246 3 5 := ⟨_, _, _, jc_3, by decide, qm_good (List.mem_of_getElem? (i := 396) (by decide +kernel)) rfl⟩
theorem fl_Top_267 : qm_FL qr_Top 267 3 2 := ⟨_, _, _, jc_3, by decide, qm_good (List.mem_of_getElem? (i := 391) (by decide +kernel)) rfl⟩
theorem fl_Top_287 : qm_FL qr_Top 287 3 0 := ⟨_, _, _, jc_3, by decide, qm_good (List.mem_of_getElem? (i := 385) (by decide +kernel)) rfl⟩
theorem fl_Top_330 : qm_FL qr_Top 330 8 9 := ⟨_, _, _, jc_8, by decide, qm_good (List.mem_of_getElem? (i := 464) (by decide +kernel)) rfl⟩
theorem fl_Top_334 : qm_FL qr_Top 334 8 10 := ⟨_, _, _, jc_8, by decide, qm_good (List.mem_of_getElem? (i := 465) (by decide +kernel)) rfl⟩
theorem fl_Fitter_9 : qm_FL qr_Fitter 9 0 0 := ⟨_, _, _, jc_0, by decide, qm_good (List.mem_of_getElem? (i := 349) (by decide +kernel)) rfl⟩
theorem fl_Fitter_15 : qm_FL qr_Fitter 15 0 1 := ⟨_, _, _, jc_0, by decide, qm_good (List.mem_of_getElem? (i := 350) (by decide +kernel)) rfl⟩
theorem fl_Fitter_21 : qm_FL qr_Fitter 21 0 4 := ⟨_, _, _, jc_0, by decide, qm_good (List.mem_of_getElem? (i := 353) (by decide +kernel)) rfl⟩
theorem fl_Fitter_24 : qm_FL qr_Fitter 24 0 8 := ⟨_, _, _, jc_0, by decide, qm_good (List.mem_of_getElem? (i := 357) (by decide +kernel)) rfl⟩
theorem fl_Fitter_28 : qm_FL qr_Fitter 28 0 9 := ⟨_, _, _, jc_0, by decide, qm_good (List.mem_of_getElem? (i := 358) (by decide +kernel)) rfl⟩
theorem fl_Fitter_41 : qm_FL qr_Fitter 41 0 2 := ⟨_, _, _, jc_0, by decide, qm_good (List.mem_of_getElem? (i := 351) (by decide +kernel)) rfl⟩
theorem fl_Fitter_45 : qm_FL qr_Fitter 45 0 3 := ⟨_, _, _, jc_0, by decide, qm_good (List.mem_of_getElem? (i := 352) (by decide +kernel)) rfl⟩
theorem fl_Fitter_48 : qm_FL qr_Fitter 48 0 5 := ⟨_, _, _, jc_0, by decide, qm_good (List.mem_of_getElem? (i := 354) (by decide +kernel)) rfl⟩
theorem fl_Fitter_75 : qm_FL qr_Fitter 75 1 16 := ⟨_, _, _, jc_1, by decide, qm_good (List.mem_of_getElem? (i := 279) (by decide +kernel)) rfl⟩
theorem fl_Fitter_93 : qm_FL qr_Fitter 93 1 17 := ⟨_, _, _, jc_1, by decide, qm_good (List.mem_of_getElem? (i := 284) (by decide +kernel)) rfl⟩
theorem fl_Fitter_99 : qm_FL qr_Fitter 99 0 6 := ⟨_, _, _, jc_0, by decide, qm_good (List.mem_of_getElem? (i := 355) (by decide +kernel)) rfl⟩
theorem fl_Fitter_102 : qm_FL qr_Fitter 102 0 7 := ⟨_, _, _, jc_0, by decide, qm_good (List.mem_of_getElem? (i := 356) (by decide +kernel)) rfl⟩
theorem fl_Fitter_105 : qm_FL qr_Fitter 105 1 15 := ⟨_, _, _, jc_1, by decide, qm_good (List.mem_of_getElem? (i := 275) (by decide +kernel)) rfl⟩
theorem fl_Fitter_113 : qm_FL qr_Fitter 113 1 12 := ⟨_, _, _, jc_1, by decide, qm_good (List.mem_of_getElem? (i := 269) (by decide +kernel)) rfl⟩
theorem fl_Fitter_116 : qm_FL qr_Fitter 116 1 8 := ⟨_, _, _, jc_1, by decide, qm_good (List.mem_of_getElem? (i := 259) (by decide +kernel)) rfl⟩
theorem fl_Fitter_119 : qm_FL qr_Fitter 119 1 11 := ⟨_, _, _, jc_1, by decide, qm_good (List.mem_of_getElem? (i := 267) (by decide +kernel)) rfl⟩
theorem fl_Fitter_122 : qm_FL qr_Fitter 122 1 13 := ⟨_, _, _, jc_1, by decide, qm_good (List.mem_of_getElem? (i := 271) (by decide +kernel)) rfl⟩
theorem fl_Fitter_125 : qm_FL qr_Fitter 125 1 14 := ⟨_, _, _, jc_1, by decide, qm_good (List.mem_of_getElem? (i := 273) (by decide +kernel)) rfl⟩
theorem fl_Flow_9 : qm_FL qr_Flow 9 1 3 := ⟨_, _, _, jc_1, by decide, qm_good (List.mem_of_getElem? (i := 249) (by decide +kernel)) rfl⟩
theorem fl_Flow_15 : qm_FL qr_Flow 15 1 4 := ⟨_, _, _, jc_1, by decide, qm_good (List.mem_of_getElem? (i := 250) (by decide +kernel)) rfl⟩
theorem fl_Flow_19 : qm_FL qr_Flow 19 1 5 := ⟨_, _, _, jc_1, by decide, qm_good (List.mem_of_getElem? (i := 252) (by decide +kernel)) rfl⟩
theorem fl_Flow_22 : qm_FL qr_Flow 22 1 6 := ⟨_, _, _, jc_1, by decide, qm_good (List.mem_of_getElem? (i := 254) (by decide +kernel)) rfl⟩
theorem fl_Flow_25 : qm_FL qr_Flow 25 1 7 := ⟨_, _, _, jc_1, by decide, qm_good (List.mem_of_getElem? (i := 256) (by decide +kernel)) rfl⟩
theorem fl_Flow_28 : qm_FL qr_Flow 28 1 8 := ⟨_, _, _, jc_1, by decide, qm_good (List.mem_of_getElem? (i := 258) (by decide +kernel)) rfl⟩
theorem fl_Flow_31 : qm_FL qr_Flow 31 1 9 := ⟨_, _, _, jc_1, by decide, qm_good (List.mem_of_getElem? (i := 261) (by decide +kernel)) rfl⟩
theorem fl_Flow_34 : qm_FL qr_Flow 34 1 10 := ⟨_, _, _, jc_1, by decide, qm_good (List.mem_of_getElem? (i := 264) (by decide +kernel)) rfl⟩
theorem fl_Flow_37 : qm_FL qr_Flow 37 1 11 := ⟨_, _, _, jc_1, by decide, qm_good (List.mem_of_getElem? (i := 266) (by decide +kernel)) rfl⟩
theorem fl_Flow_40 : qm_FL qr_Flow 40 1 12 := ⟨_, _, _, jc_1, by decide, qm_good (List.mem_of_getElem? (i := 268) (by decide +kernel)) rfl⟩
theorem fl_Flow_43 : qm_FL qr_Flow 43 1 13 := ⟨_, _, _, jc_1, by decide, qm_good (List.mem_of_getElem? (i := 270) (by decide +kernel)) rfl⟩
theorem fl_Flow_46 : qm_FL qr_Flow 46 1 14 := ⟨_, _, _, jc_1, by decide, qm_good (List.mem_of_getElem? (i := 272) (by decide +kernel)) rfl⟩
theorem fl_Flow_49 : qm_FL qr_Flow 49 1 15 := ⟨_, _, _, jc_1, by decide, qm_good (List.mem_of_getElem? (i := 274) (by decide +kernel)) rfl⟩
theorem fl_Flow_53 : qm_FL qr_Flow 53 1 16 := ⟨_, _, _, jc_1, by decide, qm_good (List.mem_of_getElem? (i := 276) (by decide +kernel)) rfl⟩
theorem fl_Flow_56 : qm_FL qr_Flow 56 1 17 := ⟨_, _, _, jc_1, by decide, qm_good (List.mem_of_getElem? (i := 281) (by decide +kernel)) rfl⟩
theorem fl_Flow_59 : qm_FL qr_Flow 59 1 18 := ⟨_, _, _, jc_1, by decide, qm_good (List.mem_of_getElem? (i := 286) (by decide +kernel)) rfl⟩
theorem fl_Flow_62 : qm_FL qr_Flow 62 1 19 := ⟨_, _, _, jc_1, by decide, qm_good (List.mem_of_getElem? (i := 289) (by decide +kernel)) rfl⟩
theorem fl_Flow_65 : qm_FL qr_Flow 65 1 0 := ⟨_, _, _, jc_1, by decide, qm_good (List.mem_of_getElem? (i := 242) (by decide +kernel)) rfl⟩
theorem fl_Flow_69 : qm_FL qr_Flow 69 1 1 := ⟨_, _, _, jc_1, by decide, qm_good (List.mem_of_getElem? (i := 244) (by decide +kernel)) rfl⟩
theorem fl_Flow_72 : qm_FL qr_Flow 72 1 2 := ⟨_, _, _, jc_1, by decide, qm_good (List.mem_of_getElem? (i := 247) (by decide +kernel)) rfl⟩
theorem fl_Flow_75 : qm_FL qr_Flow 75 4 0 := ⟨_, _, _, jc_4, by decide, qm_good (List.mem_of_getElem? (i := 146) (by decide +kernel)) rfl⟩
theorem fl_Past_11 : qm_FL qr_Past 11 2 0 := ⟨_, _, _, jc_2, by decide, qm_good (List.mem_of_getElem? (i := 219) (by decide +kernel)) rfl⟩
theorem fl_Past_18 : qm_FL qr_Past 18 2 1 := ⟨_, _, _, jc_2, by decide, qm_good (List.mem_of_getElem? (i := 220) (by decide +kernel)) rfl⟩
theorem fl_Past_26 : qm_FL qr_Past 26 2 2 := ⟨_, _, _, jc_2, by decide, qm_good (List.mem_of_getElem? (i := 221) (by decide +kernel)) rfl⟩
theorem fl_Press_9 : qm_FL qr_Press 9 3 0 := ⟨_, _, _, jc_3, by decide, qm_good (List.mem_of_getElem? (i := 384) (by decide +kernel)) rfl⟩
theorem fl_Press_20 : qm_FL qr_Press 20 3 1 := ⟨_, _, _, jc_3, by decide, qm_good (List.mem_of_getElem? (i := 387) (by decide +kernel)) rfl⟩
theorem fl_Press_29 : qm_FL qr_Press 29 3 2 := ⟨_, _, _, jc_3, by decide, qm_good (List.mem_of_getElem? (i := 390) (by decide +kernel)) rfl⟩
theorem fl_Press_41 : qm_FL qr_Press 41 3 3 := ⟨_, _, _, jc_3, by decide, qm_good (List.mem_of_getElem? (i := 392) (by decide +kernel)) rfl⟩
theorem fl_Press_44 : qm_FL qr_Press 44 3 11 := ⟨_, _, _, jc_3, by decide, qm_good (List.mem_of_getElem? (i := 404) (by decide +kernel)) rfl⟩
theorem fl_Press_48 : qm_FL qr_Press 48 3 12 := ⟨_, _, _, jc_3, by decide, qm_good (List.mem_of_getElem? (i := 406) (by decide +kernel)) rfl⟩
theorem fl_Press_51 : qm_FL qr_Press 51 3 9 := ⟨_, _, _, jc_3, by decide, qm_good (List.mem_of_getElem? (i := 400) (by decide +kernel)) rfl⟩
theorem fl_Press_64 : qm_FL qr_Press 64 3 4 := ⟨_, _, _, jc_3, by decide, qm_good (List.mem_of_getElem? (i := 393) (by decide +kernel)) rfl⟩
theorem fl_Press_67 : qm_FL qr_Press 67 3 5 := ⟨_, _, _, jc_3, by decide, qm_good (List.mem_of_getElem? (i := 395) (by decide +kernel)) rfl⟩
theorem fl_Press_76 : qm_FL qr_Press 76 3 6 := ⟨_, _, _, jc_3, by decide, qm_good (List.mem_of_getElem? (i := 397) (by decide +kernel)) rfl⟩
theorem fl_Press_79 : qm_FL qr_Press 79 3 10 := ⟨_, _, _, jc_3, by decide, qm_good (List.mem_of_getElem? (i := 402) (by decide +kernel)) rfl⟩
theorem fl_Press_82 : qm_FL qr_Press 82 1 1 := ⟨_, _, _, jc_1, by decide, qm_good (List.mem_of_getElem? (i := 245) (by decide +kernel)) rfl⟩
theorem fl_Press_85 : qm_FL qr_Press 85 1 16 := ⟨_, _, _, jc_1, by decide, qm_good (List.mem_of_getElem? (i := 278) (by decide +kernel)) rfl⟩
theorem fl_Press_92 : qm_FL qr_Press 92 3 7 := ⟨_, _, _, jc_3, by decide, qm_good (List.mem_of_getElem? (i := 398) (by decide +kernel)) rfl⟩
theorem fl_Press_95 : qm_FL qr_Press 95 3 8 := ⟨_, _, _, jc_3, by decide, qm_good (List.mem_of_getElem? (i := 399) (by decide +kernel)) rfl⟩
theorem fl_Press_102 : qm_FL qr_Press 102 1 17 := ⟨_, _, _, jc_1, by decide, qm_good (List.mem_of_getElem? (i := 283) (by decide +kernel)) rfl⟩
theorem fl_Press_112 : qm_FL qr_Press 112 1 18 := ⟨_, _, _, jc_1, by decide, qm_good (List.mem_of_getElem? (i := 287) (by decide +kernel)) rfl⟩
theorem fl_Press_167 : qm_FL qr_Press 167 1 9 := ⟨_, _, _, jc_1, by decide, qm_good (List.mem_of_getElem? (i := 263) (by decide +kernel)) rfl⟩
theorem fl_Run_11 : qm_FL qr_Run 11 4 1 := ⟨_, _, _, jc_4, by decide, qm_good (List.mem_of_getElem? (i := 150) (by decide +kernel)) rfl⟩
theorem fl_Run_15 : qm_FL qr_Run 15 4 2 := ⟨_, _, _, jc_4, by decide, qm_good (List.mem_of_getElem? (i := 151) (by decide +kernel)) rfl⟩
theorem fl_Run_27 : qm_FL qr_Run 27 4 0 := ⟨_, _, _, jc_4, by decide, qm_good (List.mem_of_getElem? (i := 147) (by decide +kernel)) rfl⟩
theorem fl_Tape_9 : qm_FL qr_Tape 9 5 0 := ⟨_, _, _, jc_5, by decide, qm_good (List.mem_of_getElem? (i := 166) (by decide +kernel)) rfl⟩
theorem fl_Tape_15 : qm_FL qr_Tape 15 5 1 := ⟨_, _, _, jc_5, by decide, qm_good (List.mem_of_getElem? (i := 169) (by decide +kernel)) rfl⟩
theorem fl_Teller_11 : qm_FL qr_Teller 11 6 0 := ⟨_, _, _, jc_6, by decide, qm_good (List.mem_of_getElem? (i := 184) (by decide +kernel)) rfl⟩
theorem fl_Teller_18 : qm_FL qr_Teller 18 6 1 := ⟨_, _, _, jc_6, by decide, qm_good (List.mem_of_getElem? (i := 185) (by decide +kernel)) rfl⟩
theorem fl_Teller_22 : qm_FL qr_Teller 22 6 2 := ⟨_, _, _, jc_6, by decide, qm_good (List.mem_of_getElem? (i := 187) (by decide +kernel)) rfl⟩
theorem fl_Teller_26 : qm_FL qr_Teller 26 6 3 := ⟨_, _, _, jc_6, by decide, qm_good (List.mem_of_getElem? (i := 188) (by decide +kernel)) rfl⟩
theorem fl_Teller_29 : qm_FL qr_Teller 29 6 4 := ⟨_, _, _, jc_6, by decide, qm_good (List.mem_of_getElem? (i := 189) (by decide +kernel)) rfl⟩
theorem fl_Teller_38 : qm_FL qr_Teller 38 6 5 := ⟨_, _, _, jc_6, by decide, qm_good (List.mem_of_getElem? (i := 190) (by decide +kernel)) rfl⟩
theorem fl_Teller_42 : qm_FL qr_Teller 42 6 6 := ⟨_, _, _, jc_6, by decide, qm_good (List.mem_of_getElem? (i := 191) (by decide +kernel)) rfl⟩
theorem fl_Teller_45 : qm_FL qr_Teller 45 6 7 := ⟨_, _, _, jc_6, by decide, qm_good (List.mem_of_getElem? (i := 192) (by decide +kernel)) rfl⟩
theorem fl_Teller_65 : qm_FL qr_Teller 65 5 1 := ⟨_, _, _, jc_5, by decide, qm_good (List.mem_of_getElem? (i := 170) (by decide +kernel)) rfl⟩
theorem fl_Teller_70 : qm_FL qr_Teller 70 5 0 := ⟨_, _, _, jc_5, by decide, qm_good (List.mem_of_getElem? (i := 167) (by decide +kernel)) rfl⟩
theorem fl_Teller_132 : qm_FL qr_Teller 132 4 0 := ⟨_, _, _, jc_4, by decide, qm_good (List.mem_of_getElem? (i := 149) (by decide +kernel)) rfl⟩
theorem fl_Walker_15 : qm_FL qr_Walker 15 7 0 := ⟨_, _, _, jc_7, by decide, qm_good (List.mem_of_getElem? (i := 442) (by decide +kernel)) rfl⟩
theorem fl_Walker_22 : qm_FL qr_Walker 22 7 1 := ⟨_, _, _, jc_7, by decide, qm_good (List.mem_of_getElem? (i := 443) (by decide +kernel)) rfl⟩
theorem fl_Walker_25 : qm_FL qr_Walker 25 7 2 := ⟨_, _, _, jc_7, by decide, qm_good (List.mem_of_getElem? (i := 444) (by decide +kernel)) rfl⟩
theorem fl_Walker_28 : qm_FL qr_Walker 28 7 3 := ⟨_, _, _, jc_7, by decide, qm_good (List.mem_of_getElem? (i := 445) (by decide +kernel)) rfl⟩
theorem fl_Walker_31 : qm_FL qr_Walker 31 1 16 := ⟨_, _, _, jc_1, by decide, qm_good (List.mem_of_getElem? (i := 277) (by decide +kernel)) rfl⟩
theorem fl_Walker_47 : qm_FL qr_Walker 47 1 17 := ⟨_, _, _, jc_1, by decide, qm_good (List.mem_of_getElem? (i := 282) (by decide +kernel)) rfl⟩
theorem fl_Model_7 : qm_FL qr_Model 7 9 0 := ⟨_, _, _, jc_9, by decide, qm_good (List.mem_of_getElem? (i := 1146) (by decide +kernel)) rfl⟩
theorem fl_Model_13 : qm_FL qr_Model 13 9 1 := ⟨_, _, _, jc_9, by decide, qm_good (List.mem_of_getElem? (i := 1147) (by decide +kernel)) rfl⟩
theorem fl_Model_16 : qm_FL qr_Model 16 9 3 := ⟨_, _, _, jc_9, by decide, qm_good (List.mem_of_getElem? (i := 1149) (by decide +kernel)) rfl⟩
theorem fl_Model_19 : qm_FL qr_Model 19 9 4 := ⟨_, _, _, jc_9, by decide, qm_good (List.mem_of_getElem? (i := 1150) (by decide +kernel)) rfl⟩
theorem fl_Model_23 : qm_FL qr_Model 23 9 5 := ⟨_, _, _, jc_9, by decide, qm_good (List.mem_of_getElem? (i := 1151) (by decide +kernel)) rfl⟩
theorem fl_Model_26 : qm_FL qr_Model 26 9 6 := ⟨_, _, _, jc_9, by decide, qm_good (List.mem_of_getElem? (i := 1152) (by decide +kernel)) rfl⟩
theorem fl_Model_29 : qm_FL qr_Model 29 9 7 := ⟨_, _, _, jc_9, by decide, qm_good (List.mem_of_getElem? (i := 1153) (by decide +kernel)) rfl⟩
theorem fl_Model_32 : qm_FL qr_Model 32 9 8 := ⟨_, _, _, jc_9, by decide, qm_good (List.mem_of_getElem? (i := 1154) (by decide +kernel)) rfl⟩
theorem fl_Model_35 : qm_FL qr_Model 35 9 9 := ⟨_, _, _, jc_9, by decide, qm_good (List.mem_of_getElem? (i := 1155) (by decide +kernel)) rfl⟩
theorem fl_Model_38 : qm_FL qr_Model 38 9 10 := ⟨_, _, _, jc_9, by decide, qm_good (List.mem_of_getElem? (i := 1156) (by decide +kernel)) rfl⟩
theorem fl_Model_41 : qm_FL qr_Model 41 9 11 := ⟨_, _, _, jc_9, by decide, qm_good (List.mem_of_getElem? (i := 1157) (by decide +kernel)) rfl⟩
theorem fl_Model_44 : qm_FL qr_Model 44 9 12 := ⟨_, _, _, jc_9, by decide, qm_good (List.mem_of_getElem? (i := 1158) (by decide +kernel)) rfl⟩
theorem fl_Model_47 : qm_FL qr_Model 47 9 14 := ⟨_, _, _, jc_9, by decide, qm_good (List.mem_of_getElem? (i := 1160) (by decide +kernel)) rfl⟩
theorem fl_Model_50 : qm_FL qr_Model 50 9 15 := ⟨_, _, _, jc_9, by decide, qm_good (List.mem_of_getElem? (i := 1161) (by decide +kernel)) rfl⟩
theorem fl_Model_53 : qm_FL qr_Model 53 9 17 := ⟨_, _, _, jc_9, by decide, qm_good (List.mem_of_getElem? (i := 1163) (by decide +kernel)) rfl⟩
theorem fl_Model_56 : qm_FL qr_Model 56 9 18 := ⟨_, _, _, jc_9, by decide, qm_good (List.mem_of_getElem? (i := 1164) (by decide +kernel)) rfl⟩
theorem fl_Model_59 : qm_FL qr_Model 59 9 19 := ⟨_, _, _, jc_9, by decide, qm_good (List.mem_of_getElem? (i := 1165) (by decide +kernel)) rfl⟩
theorem fl_Model_62 : qm_FL qr_Model 62 9 20 := ⟨_, _, _, jc_9, by decide, qm_good (List.mem_of_getElem? (i := 1166) (by decide +kernel)) rfl⟩
theorem fl_Model_65 : qm_FL qr_Model 65 9 21 := ⟨_, _, _, jc_9, by decide, qm_good (List.mem_of_getElem? (i := 1167) (by decide +kernel)) rfl⟩
theorem fl_Model_68 : qm_FL qr_Model 68 9 22 := ⟨_, _, _, jc_9, by decide, qm_good (List.mem_of_getElem? (i := 1168) (by decide +kernel)) rfl⟩
theorem fl_Model_71 : qm_FL qr_Model 71 9 23 := ⟨_, _, _, jc_9, by decide, qm_good (List.mem_of_getElem? (i := 1169) (by decide +kernel)) rfl⟩
theorem fl_Model_74 : qm_FL qr_Model 74 9 24 := ⟨_, _, _, jc_9, by decide, qm_good (List.mem_of_getElem? (i := 1170) (by decide +kernel)) rfl⟩
theorem fl_Model_77 : qm_FL qr_Model 77 9 25 := ⟨_, _, _, jc_9, by decide, qm_good (List.mem_of_getElem? (i := 1171) (by decide +kernel)) rfl⟩
theorem fl_Model_80 : qm_FL qr_Model 80 9 26 := ⟨_, _, _, jc_9, by decide, qm_good (List.mem_of_getElem? (i := 1172) (by decide +kernel)) rfl⟩
theorem fl_Model_83 : qm_FL qr_Model 83 9 27 := ⟨_, _, _, jc_9, by decide, qm_good (List.mem_of_getElem? (i := 1173) (by decide +kernel)) rfl⟩
theorem fl_Model_86 : qm_FL qr_Model 86 9 28 := ⟨_, _, _, jc_9, by decide, qm_good (List.mem_of_getElem? (i := 1174) (by decide +kernel)) rfl⟩
theorem fl_Model_89 : qm_FL qr_Model 89 9 29 := ⟨_, _, _, jc_9, by decide, qm_good (List.mem_of_getElem? (i := 1175) (by decide +kernel)) rfl⟩
theorem fl_Model_92 : qm_FL qr_Model 92 9 30 := ⟨_, _, _, jc_9, by decide, qm_good (List.mem_of_getElem? (i := 1176) (by decide +kernel)) rfl⟩
theorem fl_Model_95 : qm_FL qr_Model 95 9 31 := ⟨_, _, _, jc_9, by decide, qm_good (List.mem_of_getElem? (i := 1177) (by decide +kernel)) rfl⟩
theorem fl_Model_98 : qm_FL qr_Model 98 9 38 := ⟨_, _, _, jc_9, by decide, qm_good (List.mem_of_getElem? (i := 1184) (by decide +kernel)) rfl⟩
theorem fl_Model_101 : qm_FL qr_Model 101 9 39 := ⟨_, _, _, jc_9, by decide, qm_good (List.mem_of_getElem? (i := 1185) (by decide +kernel)) rfl⟩
theorem fl_Model_104 : qm_FL qr_Model 104 9 40 := ⟨_, _, _, jc_9, by decide, qm_good (List.mem_of_getElem? (i := 1186) (by decide +kernel)) rfl⟩
theorem fl_Model_107 : qm_FL qr_Model 107 9 41 := ⟨_, _, _, jc_9, by decide, qm_good (List.mem_of_getElem? (i := 1187) (by decide +kernel)) rfl⟩
theorem fl_Model_110 : qm_FL qr_Model 110 9 42 := ⟨_, _, _, jc_9, by decide, qm_good (List.mem_of_getElem? (i := 1188) (by decide +kernel)) rfl⟩
theorem fl_Model_113 : qm_FL qr_Model 113 9 43 := ⟨_, _, _, jc_9, by decide, qm_good (List.mem_of_getElem? (i := 1189) (by decide +kernel)) rfl⟩
theorem fl_Model_116 : qm_FL qr_Model 116 9 44 := ⟨_, _, _, jc_9, by decide, qm_good (List.mem_of_getElem? (i := 1190) (by decide +kernel)) rfl⟩
theorem fl_Model_120 : qm_FL qr_Model 120 9 50 := ⟨_, _, _, jc_9, by decide, qm_good (List.mem_of_getElem? (i := 1196) (by decide +kernel)) rfl⟩
theorem fl_Model_148 : qm_FL qr_Model 148 9 13 := ⟨_, _, _, jc_9, by decide, qm_good (List.mem_of_getElem? (i := 1159) (by decide +kernel)) rfl⟩
theorem fl_Model_155 : qm_FL qr_Model 155 9 16 := ⟨_, _, _, jc_9, by decide, qm_good (List.mem_of_getElem? (i := 1162) (by decide +kernel)) rfl⟩
theorem fl_Model_198 : qm_FL qr_Model 198 9 32 := ⟨_, _, _, jc_9, by decide, qm_good (List.mem_of_getElem? (i := 1178) (by decide +kernel)) rfl⟩
theorem fl_Model_201 : qm_FL qr_Model 201 9 33 := ⟨_, _, _, jc_9, by decide, qm_good (List.mem_of_getElem? (i := 1179) (by decide +kernel)) rfl⟩
theorem fl_Model_204 : qm_FL qr_Model 204 9 36 := ⟨_, _, _, jc_9, by decide, qm_good (List.mem_of_getElem? (i := 1182) (by decide +kernel)) rfl⟩
theorem fl_Model_207 : qm_FL qr_Model 207 9 37 := ⟨_, _, _, jc_9, by decide, qm_good (List.mem_of_getElem? (i := 1183) (by decide +kernel)) rfl⟩
theorem fl_Model_210 : qm_FL qr_Model 210 9 34 := ⟨_, _, _, jc_9, by decide, qm_good (List.mem_of_getElem? (i := 1180) (by decide +kernel)) rfl⟩
theorem fl_Model_216 : qm_FL qr_Model 216 9 35 := ⟨_, _, _, jc_9, by decide, qm_good (List.mem_of_getElem? (i := 1181) (by decide +kernel)) rfl⟩
theorem fl_Model_352 : qm_FL qr_Model 352 9 45 := ⟨_, _, _, jc_9, by decide, qm_good (List.mem_of_getElem? (i := 1191) (by decide +kernel)) rfl⟩
theorem fl_Model_355 : qm_FL qr_Model 355 9 46 := ⟨_, _, _, jc_9, by decide, qm_good (List.mem_of_getElem? (i := 1192) (by decide +kernel)) rfl⟩
theorem fl_Model_387 : qm_FL qr_Model 387 9 49 := ⟨_, _, _, jc_9, by decide, qm_good (List.mem_of_getElem? (i := 1195) (by decide +kernel)) rfl⟩
theorem fl_Model_390 : qm_FL qr_Model 390 9 48 := ⟨_, _, _, jc_9, by decide, qm_good (List.mem_of_getElem? (i := 1194) (by decide +kernel)) rfl⟩
theorem fl_Model_428 : qm_FL qr_Model 428 9 51 := ⟨_, _, _, jc_9, by decide, qm_good (List.mem_of_getElem? (i := 1197) (by decide +kernel)) rfl⟩
theorem fl_Model_487 : qm_FL qr_Model 487 9 2 := ⟨_, _, _, jc_9, by decide, qm_good (List.mem_of_getElem? (i := 1148) (by decide +kernel)) rfl⟩
theorem fp_Top_64 : qm_FP qr_Top 64 5 1 .int := ⟨_, _, _, qy_Tape, jc_5, by decide, qm_good (List.mem_of_getElem? (i := 168) (by decide +kernel)) rfl, qn_Tape, qv_Tape, rfl, rfl, rfl, rfl⟩
theorem fp_Top_83 : qm_FP qr_Top 83 2 2 .int := ⟨_, _, _, qy_Past, jc_2, by decide, qm_good (List.mem_of_getElem? (i := 222) (by decide +kernel)) rfl, qn_Past, qv_Past, rfl, rfl, rfl, rfl⟩
theorem fp_Top_137 : qm_FP qr_Top 137 8 5 .int := ⟨_, _, _, qy_Top, jc_8, by decide, qm_good (List.mem_of_getElem? (i := 460) (by decide +kernel)) rfl, qn_Top, qv_Top, rfl, rfl, rfl, rfl⟩
theorem fp_Top_330 : qm_FP qr_Top 330 8 9 .boolean := ⟨_, _, _, qy_Top, jc_8, by decide, qm_good (List.mem_of_getElem? (i := 464) (by decide +kernel)) rfl, qn_Top, qv_Top, rfl, rfl, rfl, rfl⟩
theorem fp_Top_334 : qm_FP qr_Top 334 8 10 .boolean := ⟨_, _, _, qy_Top, jc_8, by decide, qm_good (List.mem_of_getElem? (i := 465) (by decide +kernel)) rfl, qn_Top, qv_Top, rfl, rfl, rfl, rfl⟩
theorem fp_Fitter_28 : qm_FP qr_Fitter 28 0 9 .boolean := ⟨_, _, _, qy_Fitter, jc_0, by decide, qm_good (List.mem_of_getElem? (i := 358) (by decide +kernel)) rfl, qn_Fitter, qv_Fitter, rfl, rfl, rfl, rfl⟩
theorem fp_Fitter_41 : qm_FP qr_Fitter 41 0 2 .int := ⟨_, _, _, qy_Fitter, jc_0, by decide, qm_good (List.mem_of_getElem? (i := 351) (by decide +kernel)) rfl, qn_Fitter, qv_Fitter, rfl, rfl, rfl, rfl⟩
theorem fp_Fitter_45 : qm_FP qr_Fitter 45 0 3 .int := ⟨_, _, _, qy_Fitter, jc_0, by decide, qm_good (List.mem_of_getElem? (i := 352) (by decide +kernel)) rfl, qn_Fitter, qv_Fitter, rfl, rfl, rfl, rfl⟩
theorem fp_Fitter_48 : qm_FP qr_Fitter 48 0 5 .int := ⟨_, _, _, qy_Fitter, jc_0, by decide, qm_good (List.mem_of_getElem? (i := 354) (by decide +kernel)) rfl, qn_Fitter, qv_Fitter, rfl, rfl, rfl, rfl⟩
theorem fp_Fitter_99 : qm_FP qr_Fitter 99 0 6 .int := ⟨_, _, _, qy_Fitter, jc_0, by decide, qm_good (List.mem_of_getElem? (i := 355) (by decide +kernel)) rfl, qn_Fitter, qv_Fitter, rfl, rfl, rfl, rfl⟩
theorem fp_Fitter_102 : qm_FP qr_Fitter 102 0 7 .int := ⟨_, _, _, qy_Fitter, jc_0, by decide, qm_good (List.mem_of_getElem? (i := 356) (by decide +kernel)) rfl, qn_Fitter, qv_Fitter, rfl, rfl, rfl, rfl⟩
theorem fp_Flow_65 : qm_FP qr_Flow 65 1 0 .int := ⟨_, _, _, qy_Flow, jc_1, by decide, qm_good (List.mem_of_getElem? (i := 242) (by decide +kernel)) rfl, qn_Flow, qv_Flow, rfl, rfl, rfl, rfl⟩
theorem fp_Flow_69 : qm_FP qr_Flow 69 1 1 .int := ⟨_, _, _, qy_Flow, jc_1, by decide, qm_good (List.mem_of_getElem? (i := 244) (by decide +kernel)) rfl, qn_Flow, qv_Flow, rfl, rfl, rfl, rfl⟩
theorem fp_Flow_72 : qm_FP qr_Flow 72 1 2 .int := ⟨_, _, _, qy_Flow, jc_1, by decide, qm_good (List.mem_of_getElem? (i := 247) (by decide +kernel)) rfl, qn_Flow, qv_Flow, rfl, rfl, rfl, rfl⟩
theorem fp_Past_18 : qm_FP qr_Past 18 2 1 .int := ⟨_, _, _, qy_Past, jc_2, by decide, qm_good (List.mem_of_getElem? (i := 220) (by decide +kernel)) rfl, qn_Past, qv_Past, rfl, rfl, rfl, rfl⟩
theorem fp_Past_26 : qm_FP qr_Past 26 2 2 .int := ⟨_, _, _, qy_Past, jc_2, by decide, qm_good (List.mem_of_getElem? (i := 221) (by decide +kernel)) rfl, qn_Past, qv_Past, rfl, rfl, rfl, rfl⟩
theorem fp_Press_51 : qm_FP qr_Press 51 3 9 .int := ⟨_, _, _, qy_Press, jc_3, by decide, qm_good (List.mem_of_getElem? (i := 400) (by decide +kernel)) rfl, qn_Press, qv_Press, rfl, rfl, rfl, rfl⟩
theorem fp_Press_64 : qm_FP qr_Press 64 3 4 .int := ⟨_, _, _, qy_Press, jc_3, by decide, qm_good (List.mem_of_getElem? (i := 393) (by decide +kernel)) rfl, qn_Press, qv_Press, rfl, rfl, rfl, rfl⟩
theorem fp_Press_67 : qm_FP qr_Press 67 3 5 .int := ⟨_, _, _, qy_Press, jc_3, by decide, qm_good (List.mem_of_getElem? (i := 395) (by decide +kernel)) rfl, qn_Press, qv_Press, rfl, rfl, rfl, rfl⟩
theorem fp_Press_76 : qm_FP qr_Press 76 3 6 .int := ⟨_, _, _, qy_Press, jc_3, by decide, qm_good (List.mem_of_getElem? (i := 397) (by decide +kernel)) rfl, qn_Press, qv_Press, rfl, rfl, rfl, rfl⟩
theorem fp_Press_79 : qm_FP qr_Press 79 3 10 .int := ⟨_, _, _, qy_Press, jc_3, by decide, qm_good (List.mem_of_getElem? (i := 402) (by decide +kernel)) rfl, qn_Press, qv_Press, rfl, rfl, rfl, rfl⟩
theorem fp_Press_92 : qm_FP qr_Press 92 3 7 .int := ⟨_, _, _, qy_Press, jc_3, by decide, qm_good (List.mem_of_getElem? (i := 398) (by decide +kernel)) rfl, qn_Press, qv_Press, rfl, rfl, rfl, rfl⟩
theorem fp_Press_95 : qm_FP qr_Press 95 3 8 .int := ⟨_, _, _, qy_Press, jc_3, by decide, qm_good (List.mem_of_getElem? (i := 399) (by decide +kernel)) rfl, qn_Press, qv_Press, rfl, rfl, rfl, rfl⟩
theorem fp_Run_27 : qm_FP qr_Run 27 4 0 .int := ⟨_, _, _, qy_Run, jc_4, by decide, qm_good (List.mem_of_getElem? (i := 147) (by decide +kernel)) rfl, qn_Run, qv_Run, rfl, rfl, rfl, rfl⟩
theorem fp_Tape_15 : qm_FP qr_Tape 15 5 1 .int := ⟨_, _, _, qy_Tape, jc_5, by decide, qm_good (List.mem_of_getElem? (i := 169) (by decide +kernel)) rfl, qn_Tape, qv_Tape, rfl, rfl, rfl, rfl⟩
theorem fp_Teller_38 : qm_FP qr_Teller 38 6 5 .int := ⟨_, _, _, qy_Teller, jc_6, by decide, qm_good (List.mem_of_getElem? (i := 190) (by decide +kernel)) rfl, qn_Teller, qv_Teller, rfl, rfl, rfl, rfl⟩
theorem fp_Teller_42 : qm_FP qr_Teller 42 6 6 .int := ⟨_, _, _, qy_Teller, jc_6, by decide, qm_good (List.mem_of_getElem? (i := 191) (by decide +kernel)) rfl, qn_Teller, qv_Teller, rfl, rfl, rfl, rfl⟩
theorem fp_Teller_45 : qm_FP qr_Teller 45 6 7 .int := ⟨_, _, _, qy_Teller, jc_6, by decide, qm_good (List.mem_of_getElem? (i := 192) (by decide +kernel)) rfl, qn_Teller, qv_Teller, rfl, rfl, rfl, rfl⟩
theorem fp_Model_148 : qm_FP qr_Model 148 9 13 .int := ⟨_, _, _, qy_Model, jc_9, by decide, qm_good (List.mem_of_getElem? (i := 1159) (by decide +kernel)) rfl, qn_Model, qv_Model, rfl, rfl, rfl, rfl⟩
theorem fp_Model_155 : qm_FP qr_Model 155 9 16 .int := ⟨_, _, _, qy_Model, jc_9, by decide, qm_good (List.mem_of_getElem? (i := 1162) (by decide +kernel)) rfl, qn_Model, qv_Model, rfl, rfl, rfl, rfl⟩
theorem fp_Model_198 : qm_FP qr_Model 198 9 32 .int := ⟨_, _, _, qy_Model, jc_9, by decide, qm_good (List.mem_of_getElem? (i := 1178) (by decide +kernel)) rfl, qn_Model, qv_Model, rfl, rfl, rfl, rfl⟩
theorem fp_Model_201 : qm_FP qr_Model 201 9 33 .int := ⟨_, _, _, qy_Model, jc_9, by decide, qm_good (List.mem_of_getElem? (i := 1179) (by decide +kernel)) rfl, qn_Model, qv_Model, rfl, rfl, rfl, rfl⟩
theorem fp_Model_204 : qm_FP qr_Model 204 9 36 .int := ⟨_, _, _, qy_Model, jc_9, by decide, qm_good (List.mem_of_getElem? (i := 1182) (by decide +kernel)) rfl, qn_Model, qv_Model, rfl, rfl, rfl, rfl⟩
theorem fp_Model_207 : qm_FP qr_Model 207 9 37 .int := ⟨_, _, _, qy_Model, jc_9, by decide, qm_good (List.mem_of_getElem? (i := 1183) (by decide +kernel)) rfl, qn_Model, qv_Model, rfl, rfl, rfl, rfl⟩
theorem fp_Model_210 : qm_FP qr_Model 210 9 34 .int := ⟨_, _, _, qy_Model, jc_9, by decide, qm_good (List.mem_of_getElem? (i := 1180) (by decide +kernel)) rfl, qn_Model, qv_Model, rfl, rfl, rfl, rfl⟩
theorem fp_Model_216 : qm_FP qr_Model 216 9 35 .int := ⟨_, _, _, qy_Model, jc_9, by decide, qm_good (List.mem_of_getElem? (i := 1181) (by decide +kernel)) rfl, qn_Model, qv_Model, rfl, rfl, rfl, rfl⟩
theorem fp_Model_352 : qm_FP qr_Model 352 9 45 .int := ⟨_, _, _, qy_Model, jc_9, by decide, qm_good (List.mem_of_getElem? (i := 1191) (by decide +kernel)) rfl, qn_Model, qv_Model, rfl, rfl, rfl, rfl⟩
theorem fp_Model_355 : qm_FP qr_Model 355 9 46 .int := ⟨_, _, _, qy_Model, jc_9, by decide, qm_good (List.mem_of_getElem? (i := 1192) (by decide +kernel)) rfl, qn_Model, qv_Model, rfl, rfl, rfl, rfl⟩
theorem fp_Model_361 : qm_FP qr_Model 361 9 47 .int := ⟨_, _, _, qy_Model, jc_9, by decide, qm_good (List.mem_of_getElem? (i := 1193) (by decide +kernel)) rfl, qn_Model, qv_Model, rfl, rfl, rfl, rfl⟩
theorem fp_Model_387 : qm_FP qr_Model 387 9 49 .int := ⟨_, _, _, qy_Model, jc_9, by decide, qm_good (List.mem_of_getElem? (i := 1195) (by decide +kernel)) rfl, qn_Model, qv_Model, rfl, rfl, rfl, rfl⟩
theorem fp_Model_390 : qm_FP qr_Model 390 9 48 .int := ⟨_, _, _, qy_Model, jc_9, by decide, qm_good (List.mem_of_getElem? (i := 1194) (by decide +kernel)) rfl, qn_Model, qv_Model, rfl, rfl, rfl, rfl⟩
theorem fp_Model_487 : qm_FP qr_Model 487 9 2 .int := ⟨_, _, _, qy_Model, jc_9, by decide, qm_good (List.mem_of_getElem? (i := 1148) (by decide +kernel)) rfl, qn_Model, qv_Model, rfl, rfl, rfl, rfl⟩
theorem cy_Top_asks {own : String} {idx : Nat} (h : Cond.methodLink own idx jy_Top_asks ∈ qm_tb) : qm_CV own idx jy_Top_asks prog_1_method_41_code 3 (some .boolean) 2 := ⟨h, qm_good (List.mem_of_getElem? (i := 1012) (by decide +kernel)) rfl, qm_good (List.mem_of_getElem? (i := 35) (by decide +kernel)) rfl, qm_good (List.mem_of_getElem? (i := 110) (by decide +kernel)) rfl, qm_good (List.mem_of_getElem? (i := 1013) (by decide +kernel)) rfl, ⟨by decide +kernel, by decide +kernel, by decide +kernel⟩⟩
theorem cyn_Top_at {own : String} {idx : Nat} (h : Cond.methodLinkNest own idx jy_Top_at "ColumnsLevelled" ∈ qm_nw) : qm_CN own idx jy_Top_at "ColumnsLevelled" prog_1_method_36_code 2 (some .int) 2 := ⟨h, qm_good (List.mem_of_getElem? (i := 515) (by decide +kernel)) rfl, qm_good (List.mem_of_getElem? (i := 110) (by decide +kernel)) rfl, qm_good (List.mem_of_getElem? (i := 516) (by decide +kernel)) rfl, ⟨by decide +kernel, by decide +kernel, by decide +kernel⟩⟩
theorem cys_Top_at {own : String} {idx : Nat} (h : Cond.methodLink own idx jy_Top_at ∈ qm_tb) : qm_CS own idx jy_Top_at prog_1_method_36_code 2 (some .int) 2 := ⟨h, qm_good (List.mem_of_getElem? (i := 515) (by decide +kernel)) rfl, qm_good (List.mem_of_getElem? (i := 110) (by decide +kernel)) rfl, qm_good (List.mem_of_getElem? (i := 516) (by decide +kernel)) rfl, ⟨by decide +kernel, by decide +kernel, by decide +kernel⟩⟩
theorem cy_Top_beginAct {own : String} {idx : Nat} (h : Cond.methodLink own idx jy_Top_beginAct ∈ qm_tb) : qm_CV own idx jy_Top_beginAct prog_1_method_37_code 1 none 0 := ⟨h, qm_good (List.mem_of_getElem? (i := 688) (by decide +kernel)) rfl, qm_good (List.mem_of_getElem? (i := 16) (by decide +kernel)) rfl, qm_good (List.mem_of_getElem? (i := 110) (by decide +kernel)) rfl, qm_good (List.mem_of_getElem? (i := 689) (by decide +kernel)) rfl, ⟨by decide +kernel, by decide +kernel, by decide +kernel⟩⟩
theorem cy_Top_changed {own : String} {idx : Nat} (h : Cond.methodLink own idx jy_Top_changed ∈ qm_tb) : qm_CV own idx jy_Top_changed prog_1_method_38_code 1 none 0 := ⟨h, qm_good (List.mem_of_getElem? (i := 677) (by decide +kernel)) rfl, qm_good (List.mem_of_getElem? (i := 15) (by decide +kernel)) rfl, qm_good (List.mem_of_getElem? (i := 110) (by decide +kernel)) rfl, qm_good (List.mem_of_getElem? (i := 678) (by decide +kernel)) rfl, ⟨by decide +kernel, by decide +kernel, by decide +kernel⟩⟩
theorem cy_Top_fitsUntied {own : String} {idx : Nat} (h : Cond.methodLink own idx jy_Top_fitsUntied ∈ qm_tb) : qm_CV own idx jy_Top_fitsUntied prog_1_method_43_code 6 (some .boolean) 3 := ⟨h, qm_good (List.mem_of_getElem? (i := 1107) (by decide +kernel)) rfl, qm_good (List.mem_of_getElem? (i := 39) (by decide +kernel)) rfl, qm_good (List.mem_of_getElem? (i := 110) (by decide +kernel)) rfl, qm_good (List.mem_of_getElem? (i := 1108) (by decide +kernel)) rfl, ⟨by decide +kernel, by decide +kernel, by decide +kernel⟩⟩
theorem cy_Top_laidOut {own : String} {idx : Nat} (h : Cond.methodLink own idx jy_Top_laidOut ∈ qm_tb) : qm_CV own idx jy_Top_laidOut prog_1_method_39_code 1 (some (.object "ColumnsLevelled$Press")) 0 := ⟨h, qm_good (List.mem_of_getElem? (i := 769) (by decide +kernel)) rfl, qm_good (List.mem_of_getElem? (i := 18) (by decide +kernel)) rfl, qm_good (List.mem_of_getElem? (i := 110) (by decide +kernel)) rfl, qm_good (List.mem_of_getElem? (i := 770) (by decide +kernel)) rfl, ⟨by decide +kernel, by decide +kernel, by decide +kernel⟩⟩
theorem cy_Top_pouredNow {own : String} {idx : Nat} (h : Cond.methodLink own idx jy_Top_pouredNow ∈ qm_tb) : qm_CV own idx jy_Top_pouredNow prog_1_method_40_code 2 (some (.object "ColumnsLevelled$Press")) 0 := ⟨h, qm_good (List.mem_of_getElem? (i := 840) (by decide +kernel)) rfl, qm_good (List.mem_of_getElem? (i := 23) (by decide +kernel)) rfl, qm_good (List.mem_of_getElem? (i := 110) (by decide +kernel)) rfl, qm_good (List.mem_of_getElem? (i := 841) (by decide +kernel)) rfl, ⟨by decide +kernel, by decide +kernel, by decide +kernel⟩⟩
theorem cy_Top_untiedBy {own : String} {idx : Nat} (h : Cond.methodLink own idx jy_Top_untiedBy ∈ qm_tb) : qm_CV own idx jy_Top_untiedBy prog_1_method_42_code 7 (some .int) 4 := ⟨h, qm_good (List.mem_of_getElem? (i := 1117) (by decide +kernel)) rfl, qm_good (List.mem_of_getElem? (i := 40) (by decide +kernel)) rfl, qm_good (List.mem_of_getElem? (i := 110) (by decide +kernel)) rfl, qm_good (List.mem_of_getElem? (i := 1118) (by decide +kernel)) rfl, ⟨by decide +kernel, by decide +kernel, by decide +kernel⟩⟩
theorem cy_Fitter_bearsAt {own : String} {idx : Nat} (h : Cond.methodLink own idx jy_Fitter_bearsAt ∈ qm_tb) : qm_CV own idx jy_Fitter_bearsAt prog_2_method_6_code 3 (some .int) 2 := ⟨h, qm_good (List.mem_of_getElem? (i := 884) (by decide +kernel)) rfl, qm_good (List.mem_of_getElem? (i := 885) (by decide +kernel)) rfl, qm_good (List.mem_of_getElem? (i := 117) (by decide +kernel)) rfl, qm_good (List.mem_of_getElem? (i := 886) (by decide +kernel)) rfl, ⟨by decide +kernel, by decide +kernel, by decide +kernel⟩⟩
theorem cy_Fitter_bearsFrom {own : String} {idx : Nat} (h : Cond.methodLink own idx jy_Fitter_bearsFrom ∈ qm_tb) : qm_CV own idx jy_Fitter_bearsFrom prog_2_method_11_code 11 (some .int) 3 := ⟨h, qm_good (List.mem_of_getElem? (i := 881) (by decide +kernel)) rfl, qm_good (List.mem_of_getElem? (i := 29) (by decide +kernel)) rfl, qm_good (List.mem_of_getElem? (i := 117) (by decide +kernel)) rfl, qm_good (List.mem_of_getElem? (i := 882) (by decide +kernel)) rfl, ⟨by decide +kernel, by decide +kernel, by decide +kernel⟩⟩
theorem cy_Fitter_fitsAll {own : String} {idx : Nat} (h : Cond.methodLink own idx jy_Fitter_fitsAll ∈ qm_tb) : qm_CV own idx jy_Fitter_fitsAll prog_2_method_5_code 4 (some .boolean) 3 := ⟨h, qm_good (List.mem_of_getElem? (i := 1015) (by decide +kernel)) rfl, qm_good (List.mem_of_getElem? (i := 1016) (by decide +kernel)) rfl, qm_good (List.mem_of_getElem? (i := 117) (by decide +kernel)) rfl, qm_good (List.mem_of_getElem? (i := 1017) (by decide +kernel)) rfl, ⟨by decide +kernel, by decide +kernel, by decide +kernel⟩⟩
theorem cy_Fitter_forget {own : String} {idx : Nat} (h : Cond.methodLink own idx jy_Fitter_forget ∈ qm_tb) : qm_CV own idx jy_Fitter_forget prog_2_method_2_code 2 none 0 := ⟨h, qm_good (List.mem_of_getElem? (i := 342) (by decide +kernel)) rfl, qm_good (List.mem_of_getElem? (i := 343) (by decide +kernel)) rfl, qm_good (List.mem_of_getElem? (i := 117) (by decide +kernel)) rfl, qm_good (List.mem_of_getElem? (i := 344) (by decide +kernel)) rfl, ⟨by decide +kernel, by decide +kernel, by decide +kernel⟩⟩
theorem cy_Fitter_latest {own : String} {idx : Nat} (h : Cond.methodLink own idx jy_Fitter_latest ∈ qm_tb) : qm_CV own idx jy_Fitter_latest prog_2_method_12_code 8 (some .int) 5 := ⟨h, qm_good (List.mem_of_getElem? (i := 893) (by decide +kernel)) rfl, qm_good (List.mem_of_getElem? (i := 894) (by decide +kernel)) rfl, qm_good (List.mem_of_getElem? (i := 117) (by decide +kernel)) rfl, qm_good (List.mem_of_getElem? (i := 895) (by decide +kernel)) rfl, ⟨by decide +kernel, by decide +kernel, by decide +kernel⟩⟩
theorem cy_Fitter_leastFrom {own : String} {idx : Nat} (h : Cond.methodLink own idx jy_Fitter_leastFrom ∈ qm_tb) : qm_CV own idx jy_Fitter_leastFrom prog_2_method_8_code 11 (some .int) 4 := ⟨h, qm_good (List.mem_of_getElem? (i := 865) (by decide +kernel)) rfl, qm_good (List.mem_of_getElem? (i := 866) (by decide +kernel)) rfl, qm_good (List.mem_of_getElem? (i := 117) (by decide +kernel)) rfl, qm_good (List.mem_of_getElem? (i := 867) (by decide +kernel)) rfl, ⟨by decide +kernel, by decide +kernel, by decide +kernel⟩⟩
theorem cy_Fitter_leastOf {own : String} {idx : Nat} (h : Cond.methodLink own idx jy_Fitter_leastOf ∈ qm_tb) : qm_CV own idx jy_Fitter_leastOf prog_2_method_7_code 2 (some .int) 1 := ⟨h, qm_good (List.mem_of_getElem? (i := 1023) (by decide +kernel)) rfl, qm_good (List.mem_of_getElem? (i := 1024) (by decide +kernel)) rfl, qm_good (List.mem_of_getElem? (i := 117) (by decide +kernel)) rfl, qm_good (List.mem_of_getElem? (i := 1025) (by decide +kernel)) rfl, ⟨by decide +kernel, by decide +kernel, by decide +kernel⟩⟩
theorem cy_Fitter_leftOver {own : String} {idx : Nat} (h : Cond.methodLink own idx jy_Fitter_leftOver ∈ qm_tb) : qm_CV own idx jy_Fitter_leftOver prog_2_method_3_code 9 (some .int) 4 := ⟨h, qm_good (List.mem_of_getElem? (i := 898) (by decide +kernel)) rfl, qm_good (List.mem_of_getElem? (i := 899) (by decide +kernel)) rfl, qm_good (List.mem_of_getElem? (i := 117) (by decide +kernel)) rfl, qm_good (List.mem_of_getElem? (i := 900) (by decide +kernel)) rfl, ⟨by decide +kernel, by decide +kernel, by decide +kernel⟩⟩
theorem cy_Fitter_linesIn {own : String} {idx : Nat} (h : Cond.methodLink own idx jy_Fitter_linesIn ∈ qm_tb) : qm_CV own idx jy_Fitter_linesIn prog_2_method_4_code 2 (some .int) 1 := ⟨h, qm_good (List.mem_of_getElem? (i := 908) (by decide +kernel)) rfl, qm_good (List.mem_of_getElem? (i := 31) (by decide +kernel)) rfl, qm_good (List.mem_of_getElem? (i := 117) (by decide +kernel)) rfl, qm_good (List.mem_of_getElem? (i := 909) (by decide +kernel)) rfl, ⟨by decide +kernel, by decide +kernel, by decide +kernel⟩⟩
theorem cy_Fitter_measure {own : String} {idx : Nat} (h : Cond.methodLink own idx jy_Fitter_measure ∈ qm_tb) : qm_CV own idx jy_Fitter_measure prog_2_method_10_code 9 none 3 := ⟨h, qm_good (List.mem_of_getElem? (i := 874) (by decide +kernel)) rfl, qm_good (List.mem_of_getElem? (i := 875) (by decide +kernel)) rfl, qm_good (List.mem_of_getElem? (i := 117) (by decide +kernel)) rfl, qm_good (List.mem_of_getElem? (i := 876) (by decide +kernel)) rfl, ⟨by decide +kernel, by decide +kernel, by decide +kernel⟩⟩
theorem cy_Fitter_slotOf {own : String} {idx : Nat} (h : Cond.methodLink own idx jy_Fitter_slotOf ∈ qm_tb) : qm_CV own idx jy_Fitter_slotOf prog_2_method_9_code 5 (some .int) 3 := ⟨h, qm_good (List.mem_of_getElem? (i := 870) (by decide +kernel)) rfl, qm_good (List.mem_of_getElem? (i := 28) (by decide +kernel)) rfl, qm_good (List.mem_of_getElem? (i := 117) (by decide +kernel)) rfl, qm_good (List.mem_of_getElem? (i := 871) (by decide +kernel)) rfl, ⟨by decide +kernel, by decide +kernel, by decide +kernel⟩⟩
theorem cy_Flow_above {own : String} {idx : Nat} (h : Cond.methodLink own idx jy_Flow_above ∈ qm_tb) : qm_CV own idx jy_Flow_above prog_3_method_15_code 3 (some .int) 2 := ⟨h, qm_good (List.mem_of_getElem? (i := 948) (by decide +kernel)) rfl, qm_good (List.mem_of_getElem? (i := 949) (by decide +kernel)) rfl, qm_good (List.mem_of_getElem? (i := 116) (by decide +kernel)) rfl, qm_good (List.mem_of_getElem? (i := 950) (by decide +kernel)) rfl, ⟨by decide +kernel, by decide +kernel, by decide +kernel⟩⟩
theorem cy_Flow_allHeights {own : String} {idx : Nat} (h : Cond.methodLink own idx jy_Flow_allHeights ∈ qm_tb) : qm_CV own idx jy_Flow_allHeights prog_3_method_11_code 3 (some .int) 0 := ⟨h, qm_good (List.mem_of_getElem? (i := 1129) (by decide +kernel)) rfl, qm_good (List.mem_of_getElem? (i := 1130) (by decide +kernel)) rfl, qm_good (List.mem_of_getElem? (i := 116) (by decide +kernel)) rfl, qm_good (List.mem_of_getElem? (i := 1131) (by decide +kernel)) rfl, ⟨by decide +kernel, by decide +kernel, by decide +kernel⟩⟩
theorem cy_Flow_endsBehind {own : String} {idx : Nat} (h : Cond.methodLink own idx jy_Flow_endsBehind ∈ qm_tb) : qm_CV own idx jy_Flow_endsBehind prog_3_method_7_code 6 (some .boolean) 2 := ⟨h, qm_good (List.mem_of_getElem? (i := 795) (by decide +kernel)) rfl, qm_good (List.mem_of_getElem? (i := 21) (by decide +kernel)) rfl, qm_good (List.mem_of_getElem? (i := 116) (by decide +kernel)) rfl, qm_good (List.mem_of_getElem? (i := 796) (by decide +kernel)) rfl, ⟨by decide +kernel, by decide +kernel, by decide +kernel⟩⟩
theorem cy_Flow_endsIn {own : String} {idx : Nat} (h : Cond.methodLink own idx jy_Flow_endsIn ∈ qm_tb) : qm_CV own idx jy_Flow_endsIn prog_3_method_10_code 5 (some .int) 2 := ⟨h, qm_good (List.mem_of_getElem? (i := 817) (by decide +kernel)) rfl, qm_good (List.mem_of_getElem? (i := 818) (by decide +kernel)) rfl, qm_good (List.mem_of_getElem? (i := 116) (by decide +kernel)) rfl, qm_good (List.mem_of_getElem? (i := 819) (by decide +kernel)) rfl, ⟨by decide +kernel, by decide +kernel, by decide +kernel⟩⟩
theorem cy_Flow_lastLinesAhead {own : String} {idx : Nat} (h : Cond.methodLink own idx jy_Flow_lastLinesAhead ∈ qm_tb) : qm_CV own idx jy_Flow_lastLinesAhead prog_3_method_13_code 2 (some .int) 1 := ⟨h, qm_good (List.mem_of_getElem? (i := 911) (by decide +kernel)) rfl, qm_good (List.mem_of_getElem? (i := 912) (by decide +kernel)) rfl, qm_good (List.mem_of_getElem? (i := 116) (by decide +kernel)) rfl, qm_good (List.mem_of_getElem? (i := 913) (by decide +kernel)) rfl, ⟨by decide +kernel, by decide +kernel, by decide +kernel⟩⟩
theorem cy_Flow_lay {own : String} {idx : Nat} (h : Cond.methodLink own idx jy_Flow_lay ∈ qm_tb) : qm_CV own idx jy_Flow_lay prog_3_method_2_code 2 none 0 := ⟨h, qm_good (List.mem_of_getElem? (i := 776) (by decide +kernel)) rfl, qm_good (List.mem_of_getElem? (i := 777) (by decide +kernel)) rfl, qm_good (List.mem_of_getElem? (i := 116) (by decide +kernel)) rfl, qm_good (List.mem_of_getElem? (i := 778) (by decide +kernel)) rfl, ⟨by decide +kernel, by decide +kernel, by decide +kernel⟩⟩
theorem cy_Flow_layPieces {own : String} {idx : Nat} (h : Cond.methodLink own idx jy_Flow_layPieces ∈ qm_tb) : qm_CV own idx jy_Flow_layPieces prog_3_method_4_code 8 none 1 := ⟨h, qm_good (List.mem_of_getElem? (i := 786) (by decide +kernel)) rfl, qm_good (List.mem_of_getElem? (i := 20) (by decide +kernel)) rfl, qm_good (List.mem_of_getElem? (i := 116) (by decide +kernel)) rfl, qm_good (List.mem_of_getElem? (i := 787) (by decide +kernel)) rfl, ⟨by decide +kernel, by decide +kernel, by decide +kernel⟩⟩
theorem cy_Flow_markEnd {own : String} {idx : Nat} (h : Cond.methodLink own idx jy_Flow_markEnd ∈ qm_tb) : qm_CV own idx jy_Flow_markEnd prog_3_method_6_code 2 none 1 := ⟨h, qm_good (List.mem_of_getElem? (i := 800) (by decide +kernel)) rfl, qm_good (List.mem_of_getElem? (i := 22) (by decide +kernel)) rfl, qm_good (List.mem_of_getElem? (i := 116) (by decide +kernel)) rfl, qm_good (List.mem_of_getElem? (i := 801) (by decide +kernel)) rfl, ⟨by decide +kernel, by decide +kernel, by decide +kernel⟩⟩
theorem cy_Flow_markEnds {own : String} {idx : Nat} (h : Cond.methodLink own idx jy_Flow_markEnds ∈ qm_tb) : qm_CV own idx jy_Flow_markEnds prog_3_method_5_code 2 none 0 := ⟨h, qm_good (List.mem_of_getElem? (i := 790) (by decide +kernel)) rfl, qm_good (List.mem_of_getElem? (i := 791) (by decide +kernel)) rfl, qm_good (List.mem_of_getElem? (i := 116) (by decide +kernel)) rfl, qm_good (List.mem_of_getElem? (i := 792) (by decide +kernel)) rfl, ⟨by decide +kernel, by decide +kernel, by decide +kernel⟩⟩
theorem cy_Flow_mayEnd {own : String} {idx : Nat} (h : Cond.methodLink own idx jy_Flow_mayEnd ∈ qm_tb) : qm_CV own idx jy_Flow_mayEnd prog_3_method_9_code 2 (some .boolean) 1 := ⟨h, qm_good (List.mem_of_getElem? (i := 809) (by decide +kernel)) rfl, qm_good (List.mem_of_getElem? (i := 810) (by decide +kernel)) rfl, qm_good (List.mem_of_getElem? (i := 116) (by decide +kernel)) rfl, qm_good (List.mem_of_getElem? (i := 811) (by decide +kernel)) rfl, ⟨by decide +kernel, by decide +kernel, by decide +kernel⟩⟩
theorem cy_Flow_openSection {own : String} {idx : Nat} (h : Cond.methodLink own idx jy_Flow_openSection ∈ qm_tb) : qm_CV own idx jy_Flow_openSection prog_3_method_3_code 2 none 1 := ⟨h, qm_good (List.mem_of_getElem? (i := 781) (by decide +kernel)) rfl, qm_good (List.mem_of_getElem? (i := 19) (by decide +kernel)) rfl, qm_good (List.mem_of_getElem? (i := 116) (by decide +kernel)) rfl, qm_good (List.mem_of_getElem? (i := 782) (by decide +kernel)) rfl, ⟨by decide +kernel, by decide +kernel, by decide +kernel⟩⟩
theorem cy_Flow_ownLines {own : String} {idx : Nat} (h : Cond.methodLink own idx jy_Flow_ownLines ∈ qm_tb) : qm_CV own idx jy_Flow_ownLines prog_3_method_12_code 3 (some .int) 2 := ⟨h, qm_good (List.mem_of_getElem? (i := 822) (by decide +kernel)) rfl, qm_good (List.mem_of_getElem? (i := 823) (by decide +kernel)) rfl, qm_good (List.mem_of_getElem? (i := 116) (by decide +kernel)) rfl, qm_good (List.mem_of_getElem? (i := 824) (by decide +kernel)) rfl, ⟨by decide +kernel, by decide +kernel, by decide +kernel⟩⟩
theorem cy_Flow_spans {own : String} {idx : Nat} (h : Cond.methodLink own idx jy_Flow_spans ∈ qm_tb) : qm_CV own idx jy_Flow_spans prog_3_method_8_code 1 (some .int) 0 := ⟨h, qm_good (List.mem_of_getElem? (i := 830) (by decide +kernel)) rfl, qm_good (List.mem_of_getElem? (i := 831) (by decide +kernel)) rfl, qm_good (List.mem_of_getElem? (i := 116) (by decide +kernel)) rfl, qm_good (List.mem_of_getElem? (i := 832) (by decide +kernel)) rfl, ⟨by decide +kernel, by decide +kernel, by decide +kernel⟩⟩
theorem cy_Flow_text {own : String} {idx : Nat} (h : Cond.methodLink own idx jy_Flow_text ∈ qm_tb) : qm_CV own idx jy_Flow_text prog_3_method_14_code 3 (some .int) 2 := ⟨h, qm_good (List.mem_of_getElem? (i := 902) (by decide +kernel)) rfl, qm_good (List.mem_of_getElem? (i := 903) (by decide +kernel)) rfl, qm_good (List.mem_of_getElem? (i := 116) (by decide +kernel)) rfl, qm_good (List.mem_of_getElem? (i := 904) (by decide +kernel)) rfl, ⟨by decide +kernel, by decide +kernel, by decide +kernel⟩⟩
theorem cy_Flow_tiesIn {own : String} {idx : Nat} (h : Cond.methodLink own idx jy_Flow_tiesIn ∈ qm_tb) : qm_CV own idx jy_Flow_tiesIn prog_3_method_16_code 6 (some .int) 1 := ⟨h, qm_good (List.mem_of_getElem? (i := 1096) (by decide +kernel)) rfl, qm_good (List.mem_of_getElem? (i := 1097) (by decide +kernel)) rfl, qm_good (List.mem_of_getElem? (i := 116) (by decide +kernel)) rfl, qm_good (List.mem_of_getElem? (i := 1098) (by decide +kernel)) rfl, ⟨by decide +kernel, by decide +kernel, by decide +kernel⟩⟩
theorem cy_Past_pop {own : String} {idx : Nat} (h : Cond.methodLink own idx jy_Past_pop ∈ qm_tb) : qm_CV own idx jy_Past_pop prog_4_method_3_code 2 none 1 := ⟨h, qm_good (List.mem_of_getElem? (i := 751) (by decide +kernel)) rfl, qm_good (List.mem_of_getElem? (i := 752) (by decide +kernel)) rfl, qm_good (List.mem_of_getElem? (i := 114) (by decide +kernel)) rfl, qm_good (List.mem_of_getElem? (i := 753) (by decide +kernel)) rfl, ⟨by decide +kernel, by decide +kernel, by decide +kernel⟩⟩
theorem cy_Past_push {own : String} {idx : Nat} (h : Cond.methodLink own idx jy_Past_push ∈ qm_tb) : qm_CV own idx jy_Past_push prog_4_method_2_code 2 none 1 := ⟨h, qm_good (List.mem_of_getElem? (i := 691) (by decide +kernel)) rfl, qm_good (List.mem_of_getElem? (i := 692) (by decide +kernel)) rfl, qm_good (List.mem_of_getElem? (i := 114) (by decide +kernel)) rfl, qm_good (List.mem_of_getElem? (i := 693) (by decide +kernel)) rfl, ⟨by decide +kernel, by decide +kernel, by decide +kernel⟩⟩
theorem cy_Press_answer {own : String} {idx : Nat} (h : Cond.methodLink own idx jy_Press_answer ∈ qm_tb) : qm_CV own idx jy_Press_answer prog_5_method_5_code 1 (some .int) 0 := ⟨h, qm_good (List.mem_of_getElem? (i := 926) (by decide +kernel)) rfl, qm_good (List.mem_of_getElem? (i := 927) (by decide +kernel)) rfl, qm_good (List.mem_of_getElem? (i := 115) (by decide +kernel)) rfl, qm_good (List.mem_of_getElem? (i := 928) (by decide +kernel)) rfl, ⟨by decide +kernel, by decide +kernel, by decide +kernel⟩⟩
theorem cy_Press_cell {own : String} {idx : Nat} (h : Cond.methodLink own idx jy_Press_cell ∈ qm_tb) : qm_CV own idx jy_Press_cell prog_5_method_13_code 3 (some .int) 2 := ⟨h, qm_good (List.mem_of_getElem? (i := 935) (by decide +kernel)) rfl, qm_good (List.mem_of_getElem? (i := 936) (by decide +kernel)) rfl, qm_good (List.mem_of_getElem? (i := 115) (by decide +kernel)) rfl, qm_good (List.mem_of_getElem? (i := 937) (by decide +kernel)) rfl, ⟨by decide +kernel, by decide +kernel, by decide +kernel⟩⟩
theorem cy_Press_columnOf {own : String} {idx : Nat} (h : Cond.methodLink own idx jy_Press_columnOf ∈ qm_tb) : qm_CV own idx jy_Press_columnOf prog_5_method_17_code 3 (some .int) 1 := ⟨h, qm_good (List.mem_of_getElem? (i := 943) (by decide +kernel)) rfl, qm_good (List.mem_of_getElem? (i := 944) (by decide +kernel)) rfl, qm_good (List.mem_of_getElem? (i := 115) (by decide +kernel)) rfl, qm_good (List.mem_of_getElem? (i := 945) (by decide +kernel)) rfl, ⟨by decide +kernel, by decide +kernel, by decide +kernel⟩⟩
theorem cy_Press_columnsOfNote {own : String} {idx : Nat} (h : Cond.methodLink own idx jy_Press_columnsOfNote ∈ qm_tb) : qm_CV own idx jy_Press_columnsOfNote prog_5_method_20_code 6 (some .int) 1 := ⟨h, qm_good (List.mem_of_getElem? (i := 967) (by decide +kernel)) rfl, qm_good (List.mem_of_getElem? (i := 968) (by decide +kernel)) rfl, qm_good (List.mem_of_getElem? (i := 115) (by decide +kernel)) rfl, qm_good (List.mem_of_getElem? (i := 969) (by decide +kernel)) rfl, ⟨by decide +kernel, by decide +kernel, by decide +kernel⟩⟩
theorem cy_Press_columnsOn {own : String} {idx : Nat} (h : Cond.methodLink own idx jy_Press_columnsOn ∈ qm_tb) : qm_CV own idx jy_Press_columnsOn prog_5_method_21_code 4 (some .int) 1 := ⟨h, qm_good (List.mem_of_getElem? (i := 987) (by decide +kernel)) rfl, qm_good (List.mem_of_getElem? (i := 988) (by decide +kernel)) rfl, qm_good (List.mem_of_getElem? (i := 115) (by decide +kernel)) rfl, qm_good (List.mem_of_getElem? (i := 989) (by decide +kernel)) rfl, ⟨by decide +kernel, by decide +kernel, by decide +kernel⟩⟩
theorem cy_Press_difference {own : String} {idx : Nat} (h : Cond.methodLink own idx jy_Press_difference ∈ qm_tb) : qm_CV own idx jy_Press_difference prog_5_method_16_code 4 (some .int) 0 := ⟨h, qm_good (List.mem_of_getElem? (i := 1073) (by decide +kernel)) rfl, qm_good (List.mem_of_getElem? (i := 1074) (by decide +kernel)) rfl, qm_good (List.mem_of_getElem? (i := 115) (by decide +kernel)) rfl, qm_good (List.mem_of_getElem? (i := 1075) (by decide +kernel)) rfl, ⟨by decide +kernel, by decide +kernel, by decide +kernel⟩⟩
theorem cy_Press_fill {own : String} {idx : Nat} (h : Cond.methodLink own idx jy_Press_fill ∈ qm_tb) : qm_CV own idx jy_Press_fill prog_5_method_11_code 9 (some .boolean) 1 := ⟨h, qm_good (List.mem_of_getElem? (i := 923) (by decide +kernel)) rfl, qm_good (List.mem_of_getElem? (i := 33) (by decide +kernel)) rfl, qm_good (List.mem_of_getElem? (i := 115) (by decide +kernel)) rfl, qm_good (List.mem_of_getElem? (i := 924) (by decide +kernel)) rfl, ⟨by decide +kernel, by decide +kernel, by decide +kernel⟩⟩
theorem cy_Press_lay {own : String} {idx : Nat} (h : Cond.methodLink own idx jy_Press_lay ∈ qm_tb) : qm_CV own idx jy_Press_lay prog_5_method_2_code 1 none 0 := ⟨h, qm_good (List.mem_of_getElem? (i := 772) (by decide +kernel)) rfl, qm_good (List.mem_of_getElem? (i := 773) (by decide +kernel)) rfl, qm_good (List.mem_of_getElem? (i := 115) (by decide +kernel)) rfl, qm_good (List.mem_of_getElem? (i := 774) (by decide +kernel)) rfl, ⟨by decide +kernel, by decide +kernel, by decide +kernel⟩⟩
theorem cy_Press_leftOfNote {own : String} {idx : Nat} (h : Cond.methodLink own idx jy_Press_leftOfNote ∈ qm_tb) : qm_CV own idx jy_Press_leftOfNote prog_5_method_18_code 4 (some .int) 2 := ⟨h, qm_good (List.mem_of_getElem? (i := 964) (by decide +kernel)) rfl, qm_good (List.mem_of_getElem? (i := 34) (by decide +kernel)) rfl, qm_good (List.mem_of_getElem? (i := 115) (by decide +kernel)) rfl, qm_good (List.mem_of_getElem? (i := 965) (by decide +kernel)) rfl, ⟨by decide +kernel, by decide +kernel, by decide +kernel⟩⟩
theorem cy_Press_level {own : String} {idx : Nat} (h : Cond.methodLink own idx jy_Press_level ∈ qm_tb) : qm_CV own idx jy_Press_level prog_5_method_10_code 6 none 2 := ⟨h, qm_good (List.mem_of_getElem? (i := 889) (by decide +kernel)) rfl, qm_good (List.mem_of_getElem? (i := 30) (by decide +kernel)) rfl, qm_good (List.mem_of_getElem? (i := 115) (by decide +kernel)) rfl, qm_good (List.mem_of_getElem? (i := 890) (by decide +kernel)) rfl, ⟨by decide +kernel, by decide +kernel, by decide +kernel⟩⟩
theorem cy_Press_levelAlone {own : String} {idx : Nat} (h : Cond.methodLink own idx jy_Press_levelAlone ∈ qm_tb) : qm_CV own idx jy_Press_levelAlone prog_5_method_15_code 3 none 2 := ⟨h, qm_good (List.mem_of_getElem? (i := 1069) (by decide +kernel)) rfl, qm_good (List.mem_of_getElem? (i := 1070) (by decide +kernel)) rfl, qm_good (List.mem_of_getElem? (i := 115) (by decide +kernel)) rfl, qm_good (List.mem_of_getElem? (i := 1071) (by decide +kernel)) rfl, ⟨by decide +kernel, by decide +kernel, by decide +kernel⟩⟩
theorem cy_Press_linesByMark {own : String} {idx : Nat} (h : Cond.methodLink own idx jy_Press_linesByMark ∈ qm_tb) : qm_CV own idx jy_Press_linesByMark prog_5_method_19_code 3 (some .int) 1 := ⟨h, qm_good (List.mem_of_getElem? (i := 958) (by decide +kernel)) rfl, qm_good (List.mem_of_getElem? (i := 959) (by decide +kernel)) rfl, qm_good (List.mem_of_getElem? (i := 115) (by decide +kernel)) rfl, qm_good (List.mem_of_getElem? (i := 960) (by decide +kernel)) rfl, ⟨by decide +kernel, by decide +kernel, by decide +kernel⟩⟩
theorem cy_Press_mark {own : String} {idx : Nat} (h : Cond.methodLink own idx jy_Press_mark ∈ qm_tb) : qm_CV own idx jy_Press_mark prog_5_method_3_code 1 none 0 := ⟨h, qm_good (List.mem_of_getElem? (i := 1110) (by decide +kernel)) rfl, qm_good (List.mem_of_getElem? (i := 1111) (by decide +kernel)) rfl, qm_good (List.mem_of_getElem? (i := 115) (by decide +kernel)) rfl, qm_good (List.mem_of_getElem? (i := 1112) (by decide +kernel)) rfl, ⟨by decide +kernel, by decide +kernel, by decide +kernel⟩⟩
theorem cy_Press_noteLinesOn {own : String} {idx : Nat} (h : Cond.methodLink own idx jy_Press_noteLinesOn ∈ qm_tb) : qm_CV own idx jy_Press_noteLinesOn prog_5_method_24_code 4 (some .int) 1 := ⟨h, qm_good (List.mem_of_getElem? (i := 999) (by decide +kernel)) rfl, qm_good (List.mem_of_getElem? (i := 1000) (by decide +kernel)) rfl, qm_good (List.mem_of_getElem? (i := 115) (by decide +kernel)) rfl, qm_good (List.mem_of_getElem? (i := 1001) (by decide +kernel)) rfl, ⟨by decide +kernel, by decide +kernel, by decide +kernel⟩⟩
theorem cy_Press_pageIsFree {own : String} {idx : Nat} (h : Cond.methodLink own idx jy_Press_pageIsFree ∈ qm_tb) : qm_CV own idx jy_Press_pageIsFree prog_5_method_7_code 1 (some .boolean) 0 := ⟨h, qm_good (List.mem_of_getElem? (i := 854) (by decide +kernel)) rfl, qm_good (List.mem_of_getElem? (i := 25) (by decide +kernel)) rfl, qm_good (List.mem_of_getElem? (i := 115) (by decide +kernel)) rfl, qm_good (List.mem_of_getElem? (i := 855) (by decide +kernel)) rfl, ⟨by decide +kernel, by decide +kernel, by decide +kernel⟩⟩
theorem cy_Press_piecesOn {own : String} {idx : Nat} (h : Cond.methodLink own idx jy_Press_piecesOn ∈ qm_tb) : qm_CV own idx jy_Press_piecesOn prog_5_method_22_code 4 (some .int) 1 := ⟨h, qm_good (List.mem_of_getElem? (i := 991) (by decide +kernel)) rfl, qm_good (List.mem_of_getElem? (i := 992) (by decide +kernel)) rfl, qm_good (List.mem_of_getElem? (i := 115) (by decide +kernel)) rfl, qm_good (List.mem_of_getElem? (i := 993) (by decide +kernel)) rfl, ⟨by decide +kernel, by decide +kernel, by decide +kernel⟩⟩
theorem cy_Press_pourAll {own : String} {idx : Nat} (h : Cond.methodLink own idx jy_Press_pourAll ∈ qm_tb) : qm_CV own idx jy_Press_pourAll prog_5_method_4_code 2 (some .int) 0 := ⟨h, qm_good (List.mem_of_getElem? (i := 843) (by decide +kernel)) rfl, qm_good (List.mem_of_getElem? (i := 844) (by decide +kernel)) rfl, qm_good (List.mem_of_getElem? (i := 115) (by decide +kernel)) rfl, qm_good (List.mem_of_getElem? (i := 845) (by decide +kernel)) rfl, ⟨by decide +kernel, by decide +kernel, by decide +kernel⟩⟩
theorem cy_Press_pourSection {own : String} {idx : Nat} (h : Cond.methodLink own idx jy_Press_pourSection ∈ qm_tb) : qm_CV own idx jy_Press_pourSection prog_5_method_9_code 5 none 1 := ⟨h, qm_good (List.mem_of_getElem? (i := 862) (by decide +kernel)) rfl, qm_good (List.mem_of_getElem? (i := 27) (by decide +kernel)) rfl, qm_good (List.mem_of_getElem? (i := 115) (by decide +kernel)) rfl, qm_good (List.mem_of_getElem? (i := 863) (by decide +kernel)) rfl, ⟨by decide +kernel, by decide +kernel, by decide +kernel⟩⟩
theorem cy_Press_putColumn {own : String} {idx : Nat} (h : Cond.methodLink own idx jy_Press_putColumn ∈ qm_tb) : qm_CV own idx jy_Press_putColumn prog_5_method_12_code 11 (some .boolean) 5 := ⟨h, qm_good (List.mem_of_getElem? (i := 916) (by decide +kernel)) rfl, qm_good (List.mem_of_getElem? (i := 32) (by decide +kernel)) rfl, qm_good (List.mem_of_getElem? (i := 115) (by decide +kernel)) rfl, qm_good (List.mem_of_getElem? (i := 917) (by decide +kernel)) rfl, ⟨by decide +kernel, by decide +kernel, by decide +kernel⟩⟩
theorem cy_Press_putSpan {own : String} {idx : Nat} (h : Cond.methodLink own idx jy_Press_putSpan ∈ qm_tb) : qm_CV own idx jy_Press_putSpan prog_5_method_8_code 4 none 1 := ⟨h, qm_good (List.mem_of_getElem? (i := 850) (by decide +kernel)) rfl, qm_good (List.mem_of_getElem? (i := 24) (by decide +kernel)) rfl, qm_good (List.mem_of_getElem? (i := 115) (by decide +kernel)) rfl, qm_good (List.mem_of_getElem? (i := 851) (by decide +kernel)) rfl, ⟨by decide +kernel, by decide +kernel, by decide +kernel⟩⟩
theorem cy_Press_sectionsOn {own : String} {idx : Nat} (h : Cond.methodLink own idx jy_Press_sectionsOn ∈ qm_tb) : qm_CV own idx jy_Press_sectionsOn prog_5_method_25_code 4 (some .int) 1 := ⟨h, qm_good (List.mem_of_getElem? (i := 1003) (by decide +kernel)) rfl, qm_good (List.mem_of_getElem? (i := 1004) (by decide +kernel)) rfl, qm_good (List.mem_of_getElem? (i := 115) (by decide +kernel)) rfl, qm_good (List.mem_of_getElem? (i := 1005) (by decide +kernel)) rfl, ⟨by decide +kernel, by decide +kernel, by decide +kernel⟩⟩
theorem cy_Press_spansOn {own : String} {idx : Nat} (h : Cond.methodLink own idx jy_Press_spansOn ∈ qm_tb) : qm_CV own idx jy_Press_spansOn prog_5_method_23_code 4 (some .int) 1 := ⟨h, qm_good (List.mem_of_getElem? (i := 995) (by decide +kernel)) rfl, qm_good (List.mem_of_getElem? (i := 996) (by decide +kernel)) rfl, qm_good (List.mem_of_getElem? (i := 115) (by decide +kernel)) rfl, qm_good (List.mem_of_getElem? (i := 997) (by decide +kernel)) rfl, ⟨by decide +kernel, by decide +kernel, by decide +kernel⟩⟩
theorem cy_Press_turnPage {own : String} {idx : Nat} (h : Cond.methodLink own idx jy_Press_turnPage ∈ qm_tb) : qm_CV own idx jy_Press_turnPage prog_5_method_6_code 1 none 0 := ⟨h, qm_good (List.mem_of_getElem? (i := 858) (by decide +kernel)) rfl, qm_good (List.mem_of_getElem? (i := 26) (by decide +kernel)) rfl, qm_good (List.mem_of_getElem? (i := 115) (by decide +kernel)) rfl, qm_good (List.mem_of_getElem? (i := 859) (by decide +kernel)) rfl, ⟨by decide +kernel, by decide +kernel, by decide +kernel⟩⟩
theorem cy_Press_used {own : String} {idx : Nat} (h : Cond.methodLink own idx jy_Press_used ∈ qm_tb) : qm_CV own idx jy_Press_used prog_5_method_14_code 4 (some .int) 1 := ⟨h, qm_good (List.mem_of_getElem? (i := 979) (by decide +kernel)) rfl, qm_good (List.mem_of_getElem? (i := 980) (by decide +kernel)) rfl, qm_good (List.mem_of_getElem? (i := 115) (by decide +kernel)) rfl, qm_good (List.mem_of_getElem? (i := 981) (by decide +kernel)) rfl, ⟨by decide +kernel, by decide +kernel, by decide +kernel⟩⟩
theorem cy_Run_add {own : String} {idx : Nat} (h : Cond.methodLink own idx jy_Run_add ∈ qm_tb) : qm_CV own idx jy_Run_add prog_6_method_12_code 4 (some .int) 1 := ⟨h, qm_good (List.mem_of_getElem? (i := 643) (by decide +kernel)) rfl, qm_good (List.mem_of_getElem? (i := 644) (by decide +kernel)) rfl, qm_good (List.mem_of_getElem? (i := 111) (by decide +kernel)) rfl, qm_good (List.mem_of_getElem? (i := 645) (by decide +kernel)) rfl, ⟨by decide +kernel, by decide +kernel, by decide +kernel⟩⟩
theorem cy_Run_addMark {own : String} {idx : Nat} (h : Cond.methodLink own idx jy_Run_addMark ∈ qm_tb) : qm_CV own idx jy_Run_addMark prog_6_method_18_code 5 none 3 := ⟨h, qm_good (List.mem_of_getElem? (i := 668) (by decide +kernel)) rfl, qm_good (List.mem_of_getElem? (i := 669) (by decide +kernel)) rfl, qm_good (List.mem_of_getElem? (i := 111) (by decide +kernel)) rfl, qm_good (List.mem_of_getElem? (i := 670) (by decide +kernel)) rfl, ⟨by decide +kernel, by decide +kernel, by decide +kernel⟩⟩
theorem cy_Run_allPieces {own : String} {idx : Nat} (h : Cond.methodLink own idx jy_Run_allPieces ∈ qm_tb) : qm_CV own idx jy_Run_allPieces prog_6_method_11_code 3 (some .int) 0 := ⟨h, qm_good (List.mem_of_getElem? (i := 635) (by decide +kernel)) rfl, qm_good (List.mem_of_getElem? (i := 636) (by decide +kernel)) rfl, qm_good (List.mem_of_getElem? (i := 111) (by decide +kernel)) rfl, qm_good (List.mem_of_getElem? (i := 637) (by decide +kernel)) rfl, ⟨by decide +kernel, by decide +kernel, by decide +kernel⟩⟩
theorem cy_Run_cell {own : String} {idx : Nat} (h : Cond.methodLink own idx jy_Run_cell ∈ qm_tb) : qm_CV own idx jy_Run_cell prog_6_method_9_code 3 (some .int) 2 := ⟨h, qm_good (List.mem_of_getElem? (i := 639) (by decide +kernel)) rfl, qm_good (List.mem_of_getElem? (i := 640) (by decide +kernel)) rfl, qm_good (List.mem_of_getElem? (i := 111) (by decide +kernel)) rfl, qm_good (List.mem_of_getElem? (i := 641) (by decide +kernel)) rfl, ⟨by decide +kernel, by decide +kernel, by decide +kernel⟩⟩
theorem cy_Run_clearCells {own : String} {idx : Nat} (h : Cond.methodLink own idx jy_Run_clearCells ∈ qm_tb) : qm_CV own idx jy_Run_clearCells prog_6_method_20_code 3 none 1 := ⟨h, qm_good (List.mem_of_getElem? (i := 1089) (by decide +kernel)) rfl, qm_good (List.mem_of_getElem? (i := 38) (by decide +kernel)) rfl, qm_good (List.mem_of_getElem? (i := 111) (by decide +kernel)) rfl, qm_good (List.mem_of_getElem? (i := 1090) (by decide +kernel)) rfl, ⟨by decide +kernel, by decide +kernel, by decide +kernel⟩⟩
theorem cy_Run_copyCells {own : String} {idx : Nat} (h : Cond.methodLink own idx jy_Run_copyCells ∈ qm_tb) : qm_CV own idx jy_Run_copyCells prog_6_method_16_code 4 none 2 := ⟨h, qm_good (List.mem_of_getElem? (i := 736) (by decide +kernel)) rfl, qm_good (List.mem_of_getElem? (i := 17) (by decide +kernel)) rfl, qm_good (List.mem_of_getElem? (i := 111) (by decide +kernel)) rfl, qm_good (List.mem_of_getElem? (i := 737) (by decide +kernel)) rfl, ⟨by decide +kernel, by decide +kernel, by decide +kernel⟩⟩
theorem cy_Run_copyFrom {own : String} {idx : Nat} (h : Cond.methodLink own idx jy_Run_copyFrom ∈ qm_tb) : qm_CV own idx jy_Run_copyFrom prog_6_method_4_code 3 none 1 := ⟨h, qm_good (List.mem_of_getElem? (i := 672) (by decide +kernel)) rfl, qm_good (List.mem_of_getElem? (i := 673) (by decide +kernel)) rfl, qm_good (List.mem_of_getElem? (i := 111) (by decide +kernel)) rfl, qm_good (List.mem_of_getElem? (i := 674) (by decide +kernel)) rfl, ⟨by decide +kernel, by decide +kernel, by decide +kernel⟩⟩
theorem cy_Run_exchange {own : String} {idx : Nat} (h : Cond.methodLink own idx jy_Run_exchange ∈ qm_tb) : qm_CV own idx jy_Run_exchange prog_6_method_13_code 5 none 2 := ⟨h, qm_good (List.mem_of_getElem? (i := 721) (by decide +kernel)) rfl, qm_good (List.mem_of_getElem? (i := 722) (by decide +kernel)) rfl, qm_good (List.mem_of_getElem? (i := 111) (by decide +kernel)) rfl, qm_good (List.mem_of_getElem? (i := 723) (by decide +kernel)) rfl, ⟨by decide +kernel, by decide +kernel, by decide +kernel⟩⟩
theorem cy_Run_has {own : String} {idx : Nat} (h : Cond.methodLink own idx jy_Run_has ∈ qm_tb) : qm_CV own idx jy_Run_has prog_6_method_7_code 2 (some .boolean) 1 := ⟨h, qm_good (List.mem_of_getElem? (i := 706) (by decide +kernel)) rfl, qm_good (List.mem_of_getElem? (i := 707) (by decide +kernel)) rfl, qm_good (List.mem_of_getElem? (i := 111) (by decide +kernel)) rfl, qm_good (List.mem_of_getElem? (i := 708) (by decide +kernel)) rfl, ⟨by decide +kernel, by decide +kernel, by decide +kernel⟩⟩
theorem cy_Run_hasPieces {own : String} {idx : Nat} (h : Cond.methodLink own idx jy_Run_hasPieces ∈ qm_tb) : qm_CV own idx jy_Run_hasPieces prog_6_method_8_code 2 (some .boolean) 1 := ⟨h, qm_good (List.mem_of_getElem? (i := 702) (by decide +kernel)) rfl, qm_good (List.mem_of_getElem? (i := 703) (by decide +kernel)) rfl, qm_good (List.mem_of_getElem? (i := 111) (by decide +kernel)) rfl, qm_good (List.mem_of_getElem? (i := 704) (by decide +kernel)) rfl, ⟨by decide +kernel, by decide +kernel, by decide +kernel⟩⟩
theorem cy_Run_noteAt {own : String} {idx : Nat} (h : Cond.methodLink own idx jy_Run_noteAt ∈ qm_tb) : qm_CV own idx jy_Run_noteAt prog_6_method_17_code 5 (some .int) 2 := ⟨h, qm_good (List.mem_of_getElem? (i := 664) (by decide +kernel)) rfl, qm_good (List.mem_of_getElem? (i := 665) (by decide +kernel)) rfl, qm_good (List.mem_of_getElem? (i := 111) (by decide +kernel)) rfl, qm_good (List.mem_of_getElem? (i := 666) (by decide +kernel)) rfl, ⟨by decide +kernel, by decide +kernel, by decide +kernel⟩⟩
theorem cy_Run_put {own : String} {idx : Nat} (h : Cond.methodLink own idx jy_Run_put ∈ qm_tb) : qm_CV own idx jy_Run_put prog_6_method_6_code 3 none 2 := ⟨h, qm_good (List.mem_of_getElem? (i := 622) (by decide +kernel)) rfl, qm_good (List.mem_of_getElem? (i := 623) (by decide +kernel)) rfl, qm_good (List.mem_of_getElem? (i := 111) (by decide +kernel)) rfl, qm_good (List.mem_of_getElem? (i := 624) (by decide +kernel)) rfl, ⟨by decide +kernel, by decide +kernel, by decide +kernel⟩⟩
theorem cy_Run_putCell {own : String} {idx : Nat} (h : Cond.methodLink own idx jy_Run_putCell ∈ qm_tb) : qm_CV own idx jy_Run_putCell prog_6_method_10_code 4 none 3 := ⟨h, qm_good (List.mem_of_getElem? (i := 647) (by decide +kernel)) rfl, qm_good (List.mem_of_getElem? (i := 648) (by decide +kernel)) rfl, qm_good (List.mem_of_getElem? (i := 111) (by decide +kernel)) rfl, qm_good (List.mem_of_getElem? (i := 649) (by decide +kernel)) rfl, ⟨by decide +kernel, by decide +kernel, by decide +kernel⟩⟩
theorem cy_Run_remove {own : String} {idx : Nat} (h : Cond.methodLink own idx jy_Run_remove ∈ qm_tb) : qm_CV own idx jy_Run_remove prog_6_method_15_code 3 none 1 := ⟨h, qm_good (List.mem_of_getElem? (i := 743) (by decide +kernel)) rfl, qm_good (List.mem_of_getElem? (i := 744) (by decide +kernel)) rfl, qm_good (List.mem_of_getElem? (i := 111) (by decide +kernel)) rfl, qm_good (List.mem_of_getElem? (i := 745) (by decide +kernel)) rfl, ⟨by decide +kernel, by decide +kernel, by decide +kernel⟩⟩
theorem cy_Run_repeat {own : String} {idx : Nat} (h : Cond.methodLink own idx jy_Run_repeat ∈ qm_tb) : qm_CV own idx jy_Run_repeat prog_6_method_14_code 3 none 1 := ⟨h, qm_good (List.mem_of_getElem? (i := 730) (by decide +kernel)) rfl, qm_good (List.mem_of_getElem? (i := 731) (by decide +kernel)) rfl, qm_good (List.mem_of_getElem? (i := 111) (by decide +kernel)) rfl, qm_good (List.mem_of_getElem? (i := 732) (by decide +kernel)) rfl, ⟨by decide +kernel, by decide +kernel, by decide +kernel⟩⟩
theorem cy_Run_setting {own : String} {idx : Nat} (h : Cond.methodLink own idx jy_Run_setting ∈ qm_tb) : qm_CV own idx jy_Run_setting prog_6_method_5_code 2 (some .int) 1 := ⟨h, qm_good (List.mem_of_getElem? (i := 346) (by decide +kernel)) rfl, qm_good (List.mem_of_getElem? (i := 347) (by decide +kernel)) rfl, qm_good (List.mem_of_getElem? (i := 111) (by decide +kernel)) rfl, qm_good (List.mem_of_getElem? (i := 348) (by decide +kernel)) rfl, ⟨by decide +kernel, by decide +kernel, by decide +kernel⟩⟩
theorem cys_Run_takes {own : String} {idx : Nat} (h : Cond.methodLink own idx jy_Run_takes ∈ qm_tb) : qm_CS own idx jy_Run_takes prog_6_method_2_code 2 (some .boolean) 2 := ⟨h, qm_good (List.mem_of_getElem? (i := 626) (by decide +kernel)) rfl, qm_good (List.mem_of_getElem? (i := 111) (by decide +kernel)) rfl, qm_good (List.mem_of_getElem? (i := 627) (by decide +kernel)) rfl, ⟨by decide +kernel, by decide +kernel, by decide +kernel⟩⟩
theorem cy_Run_withoutLaw {own : String} {idx : Nat} (h : Cond.methodLink own idx jy_Run_withoutLaw ∈ qm_tb) : qm_CV own idx jy_Run_withoutLaw prog_6_method_19_code 2 none 1 := ⟨h, qm_good (List.mem_of_getElem? (i := 1083) (by decide +kernel)) rfl, qm_good (List.mem_of_getElem? (i := 1084) (by decide +kernel)) rfl, qm_good (List.mem_of_getElem? (i := 111) (by decide +kernel)) rfl, qm_good (List.mem_of_getElem? (i := 1085) (by decide +kernel)) rfl, ⟨by decide +kernel, by decide +kernel, by decide +kernel⟩⟩
theorem cy_Tape_append {own : String} {idx : Nat} (h : Cond.methodLink own idx jy_Tape_append ∈ qm_tb) : qm_CV own idx jy_Tape_append prog_7_method_2_code 3 none 1 := ⟨h, qm_good (List.mem_of_getElem? (i := 494) (by decide +kernel)) rfl, qm_good (List.mem_of_getElem? (i := 495) (by decide +kernel)) rfl, qm_good (List.mem_of_getElem? (i := 112) (by decide +kernel)) rfl, qm_good (List.mem_of_getElem? (i := 496) (by decide +kernel)) rfl, ⟨by decide +kernel, by decide +kernel, by decide +kernel⟩⟩
theorem cys_Teller_mostHigh {own : String} {idx : Nat} (h : Cond.methodLink own idx jy_Teller_mostHigh ∈ qm_tb) : qm_CS own idx jy_Teller_mostHigh prog_8_method_11_code 1 (some .int) 1 := ⟨h, qm_good (List.mem_of_getElem? (i := 652) (by decide +kernel)) rfl, qm_good (List.mem_of_getElem? (i := 113) (by decide +kernel)) rfl, qm_good (List.mem_of_getElem? (i := 653) (by decide +kernel)) rfl, ⟨by decide +kernel, by decide +kernel, by decide +kernel⟩⟩
theorem cy_Teller_place {own : String} {idx : Nat} (h : Cond.methodLink own idx jy_Teller_place ∈ qm_tb) : qm_CV own idx jy_Teller_place prog_8_method_19_code 1 (some .int) 0 := ⟨h, qm_good (List.mem_of_getElem? (i := 595) (by decide +kernel)) rfl, qm_good (List.mem_of_getElem? (i := 6) (by decide +kernel)) rfl, qm_good (List.mem_of_getElem? (i := 113) (by decide +kernel)) rfl, qm_good (List.mem_of_getElem? (i := 596) (by decide +kernel)) rfl, ⟨by decide +kernel, by decide +kernel, by decide +kernel⟩⟩
theorem cy_Teller_readBlock {own : String} {idx : Nat} (h : Cond.methodLink own idx jy_Teller_readBlock ∈ qm_tb) : qm_CV own idx jy_Teller_readBlock prog_8_method_10_code 8 none 2 := ⟨h, qm_good (List.mem_of_getElem? (i := 632) (by decide +kernel)) rfl, qm_good (List.mem_of_getElem? (i := 12) (by decide +kernel)) rfl, qm_good (List.mem_of_getElem? (i := 113) (by decide +kernel)) rfl, qm_good (List.mem_of_getElem? (i := 633) (by decide +kernel)) rfl, ⟨by decide +kernel, by decide +kernel, by decide +kernel⟩⟩
theorem cy_Teller_readMark {own : String} {idx : Nat} (h : Cond.methodLink own idx jy_Teller_readMark ∈ qm_tb) : qm_CV own idx jy_Teller_readMark prog_8_method_13_code 6 none 2 := ⟨h, qm_good (List.mem_of_getElem? (i := 660) (by decide +kernel)) rfl, qm_good (List.mem_of_getElem? (i := 14) (by decide +kernel)) rfl, qm_good (List.mem_of_getElem? (i := 113) (by decide +kernel)) rfl, qm_good (List.mem_of_getElem? (i := 661) (by decide +kernel)) rfl, ⟨by decide +kernel, by decide +kernel, by decide +kernel⟩⟩
theorem cy_Teller_readNumber {own : String} {idx : Nat} (h : Cond.methodLink own idx jy_Teller_readNumber ∈ qm_tb) : qm_CV own idx jy_Teller_readNumber prog_8_method_16_code 4 (some .int) 2 := ⟨h, qm_good (List.mem_of_getElem? (i := 619) (by decide +kernel)) rfl, qm_good (List.mem_of_getElem? (i := 11) (by decide +kernel)) rfl, qm_good (List.mem_of_getElem? (i := 113) (by decide +kernel)) rfl, qm_good (List.mem_of_getElem? (i := 620) (by decide +kernel)) rfl, ⟨by decide +kernel, by decide +kernel, by decide +kernel⟩⟩
theorem cy_Teller_readSetting {own : String} {idx : Nat} (h : Cond.methodLink own idx jy_Teller_readSetting ∈ qm_tb) : qm_CV own idx jy_Teller_readSetting prog_8_method_9_code 4 none 2 := ⟨h, qm_good (List.mem_of_getElem? (i := 607) (by decide +kernel)) rfl, qm_good (List.mem_of_getElem? (i := 9) (by decide +kernel)) rfl, qm_good (List.mem_of_getElem? (i := 113) (by decide +kernel)) rfl, qm_good (List.mem_of_getElem? (i := 608) (by decide +kernel)) rfl, ⟨by decide +kernel, by decide +kernel, by decide +kernel⟩⟩
theorem cy_Teller_readWord {own : String} {idx : Nat} (h : Cond.methodLink own idx jy_Teller_readWord ∈ qm_tb) : qm_CV own idx jy_Teller_readWord prog_8_method_15_code 2 (some .int) 0 := ⟨h, qm_good (List.mem_of_getElem? (i := 599) (by decide +kernel)) rfl, qm_good (List.mem_of_getElem? (i := 7) (by decide +kernel)) rfl, qm_good (List.mem_of_getElem? (i := 113) (by decide +kernel)) rfl, qm_good (List.mem_of_getElem? (i := 600) (by decide +kernel)) rfl, ⟨by decide +kernel, by decide +kernel, by decide +kernel⟩⟩
theorem cy_Teller_readWords {own : String} {idx : Nat} (h : Cond.methodLink own idx jy_Teller_readWords ∈ qm_tb) : qm_CV own idx jy_Teller_readWords prog_8_method_12_code 6 none 2 := ⟨h, qm_good (List.mem_of_getElem? (i := 656) (by decide +kernel)) rfl, qm_good (List.mem_of_getElem? (i := 13) (by decide +kernel)) rfl, qm_good (List.mem_of_getElem? (i := 113) (by decide +kernel)) rfl, qm_good (List.mem_of_getElem? (i := 657) (by decide +kernel)) rfl, ⟨by decide +kernel, by decide +kernel, by decide +kernel⟩⟩
theorem cy_Teller_sign {own : String} {idx : Nat} (h : Cond.methodLink own idx jy_Teller_sign ∈ qm_tb) : qm_CV own idx jy_Teller_sign prog_8_method_18_code 1 (some .int) 0 := ⟨h, qm_good (List.mem_of_getElem? (i := 587) (by decide +kernel)) rfl, qm_good (List.mem_of_getElem? (i := 4) (by decide +kernel)) rfl, qm_good (List.mem_of_getElem? (i := 113) (by decide +kernel)) rfl, qm_good (List.mem_of_getElem? (i := 588) (by decide +kernel)) rfl, ⟨by decide +kernel, by decide +kernel, by decide +kernel⟩⟩
theorem cy_Teller_tellOnce {own : String} {idx : Nat} (h : Cond.methodLink own idx jy_Teller_tellOnce ∈ qm_tb) : qm_CV own idx jy_Teller_tellOnce prog_8_method_14_code 3 none 2 := ⟨h, qm_good (List.mem_of_getElem? (i := 611) (by decide +kernel)) rfl, qm_good (List.mem_of_getElem? (i := 10) (by decide +kernel)) rfl, qm_good (List.mem_of_getElem? (i := 113) (by decide +kernel)) rfl, qm_good (List.mem_of_getElem? (i := 612) (by decide +kernel)) rfl, ⟨by decide +kernel, by decide +kernel, by decide +kernel⟩⟩
theorem cy_Teller_wrong {own : String} {idx : Nat} (h : Cond.methodLink own idx jy_Teller_wrong ∈ qm_tb) : qm_CV own idx jy_Teller_wrong prog_8_method_17_code 3 none 2 := ⟨h, qm_good (List.mem_of_getElem? (i := 603) (by decide +kernel)) rfl, qm_good (List.mem_of_getElem? (i := 8) (by decide +kernel)) rfl, qm_good (List.mem_of_getElem? (i := 113) (by decide +kernel)) rfl, qm_good (List.mem_of_getElem? (i := 604) (by decide +kernel)) rfl, ⟨by decide +kernel, by decide +kernel, by decide +kernel⟩⟩
theorem cy_Walker_farthest {own : String} {idx : Nat} (h : Cond.methodLink own idx jy_Walker_farthest ∈ qm_tb) : qm_CV own idx jy_Walker_farthest prog_9_method_2_code 10 (some .int) 3 := ⟨h, qm_good (List.mem_of_getElem? (i := 1032) (by decide +kernel)) rfl, qm_good (List.mem_of_getElem? (i := 1033) (by decide +kernel)) rfl, qm_good (List.mem_of_getElem? (i := 119) (by decide +kernel)) rfl, qm_good (List.mem_of_getElem? (i := 1034) (by decide +kernel)) rfl, ⟨by decide +kernel, by decide +kernel, by decide +kernel⟩⟩
theorem cys_Walker_fillRow {own : String} {idx : Nat} (h : Cond.methodLink own idx jy_Walker_fillRow ∈ qm_tb) : qm_CS own idx jy_Walker_fillRow prog_9_method_6_code 3 none 2 := ⟨h, qm_good (List.mem_of_getElem? (i := 1039) (by decide +kernel)) rfl, qm_good (List.mem_of_getElem? (i := 119) (by decide +kernel)) rfl, qm_good (List.mem_of_getElem? (i := 1040) (by decide +kernel)) rfl, ⟨by decide +kernel, by decide +kernel, by decide +kernel⟩⟩
theorem cy_Walker_rowsOfEnds {own : String} {idx : Nat} (h : Cond.methodLink own idx jy_Walker_rowsOfEnds ∈ qm_tb) : qm_CV own idx jy_Walker_rowsOfEnds prog_9_method_4_code 10 (some .int) 3 := ⟨h, qm_good (List.mem_of_getElem? (i := 1053) (by decide +kernel)) rfl, qm_good (List.mem_of_getElem? (i := 1054) (by decide +kernel)) rfl, qm_good (List.mem_of_getElem? (i := 119) (by decide +kernel)) rfl, qm_good (List.mem_of_getElem? (i := 1055) (by decide +kernel)) rfl, ⟨by decide +kernel, by decide +kernel, by decide +kernel⟩⟩
theorem cy_Walker_stepFarther {own : String} {idx : Nat} (h : Cond.methodLink own idx jy_Walker_stepFarther ∈ qm_tb) : qm_CV own idx jy_Walker_stepFarther prog_9_method_3_code 8 none 5 := ⟨h, qm_good (List.mem_of_getElem? (i := 1043) (by decide +kernel)) rfl, qm_good (List.mem_of_getElem? (i := 36) (by decide +kernel)) rfl, qm_good (List.mem_of_getElem? (i := 119) (by decide +kernel)) rfl, qm_good (List.mem_of_getElem? (i := 1044) (by decide +kernel)) rfl, ⟨by decide +kernel, by decide +kernel, by decide +kernel⟩⟩
theorem cy_Walker_stepWays {own : String} {idx : Nat} (h : Cond.methodLink own idx jy_Walker_stepWays ∈ qm_tb) : qm_CV own idx jy_Walker_stepWays prog_9_method_5_code 11 none 5 := ⟨h, qm_good (List.mem_of_getElem? (i := 1058) (by decide +kernel)) rfl, qm_good (List.mem_of_getElem? (i := 37) (by decide +kernel)) rfl, qm_good (List.mem_of_getElem? (i := 119) (by decide +kernel)) rfl, qm_good (List.mem_of_getElem? (i := 1059) (by decide +kernel)) rfl, ⟨by decide +kernel, by decide +kernel, by decide +kernel⟩⟩
theorem cys_Model_bits {own : String} {idx : Nat} (h : Cond.methodLink own idx jy_Model_bits ∈ qm_tb) : qm_CS own idx jy_Model_bits prog_11_method_66_code 3 (some .int) 1 := ⟨h, qm_good (List.mem_of_getElem? (i := 1575) (by decide +kernel)) rfl, qm_good (List.mem_of_getElem? (i := 120) (by decide +kernel)) rfl, qm_good (List.mem_of_getElem? (i := 1576) (by decide +kernel)) rfl, ⟨by decide +kernel, by decide +kernel, by decide +kernel⟩⟩
theorem cy_Model_blocks {own : String} {idx : Nat} (h : Cond.methodLink own idx jy_Model_blocks ∈ qm_tb) : qm_CV own idx jy_Model_blocks prog_11_method_7_code 1 (some .int) 0 := ⟨h, qm_good (List.mem_of_getElem? (i := 1323) (by decide +kernel)) rfl, qm_good (List.mem_of_getElem? (i := 43) (by decide +kernel)) rfl, qm_good (List.mem_of_getElem? (i := 120) (by decide +kernel)) rfl, qm_good (List.mem_of_getElem? (i := 1324) (by decide +kernel)) rfl, ⟨by decide +kernel, by decide +kernel, by decide +kernel⟩⟩
theorem cy_Model_byteAt {own : String} {idx : Nat} (h : Cond.methodLink own idx jy_Model_byteAt ∈ qm_tb) : qm_CV own idx jy_Model_byteAt prog_11_method_81_code 2 (some .int) 1 := ⟨h, qm_good (List.mem_of_getElem? (i := 1642) (by decide +kernel)) rfl, qm_good (List.mem_of_getElem? (i := 93) (by decide +kernel)) rfl, qm_good (List.mem_of_getElem? (i := 120) (by decide +kernel)) rfl, qm_good (List.mem_of_getElem? (i := 1643) (by decide +kernel)) rfl, ⟨by decide +kernel, by decide +kernel, by decide +kernel⟩⟩
theorem cy_Model_canEnd {own : String} {idx : Nat} (h : Cond.methodLink own idx jy_Model_canEnd ∈ qm_tb) : qm_CV own idx jy_Model_canEnd prog_11_method_20_code 7 (some .boolean) 4 := ⟨h, qm_good (List.mem_of_getElem? (i := 1395) (by decide +kernel)) rfl, qm_good (List.mem_of_getElem? (i := 61) (by decide +kernel)) rfl, qm_good (List.mem_of_getElem? (i := 120) (by decide +kernel)) rfl, qm_good (List.mem_of_getElem? (i := 1396) (by decide +kernel)) rfl, ⟨by decide +kernel, by decide +kernel, by decide +kernel⟩⟩
theorem cy_Model_columnOf {own : String} {idx : Nat} (h : Cond.methodLink own idx jy_Model_columnOf ∈ qm_tb) : qm_CV own idx jy_Model_columnOf prog_11_method_39_code 3 (some .int) 1 := ⟨h, qm_good (List.mem_of_getElem? (i := 1439) (by decide +kernel)) rfl, qm_good (List.mem_of_getElem? (i := 69) (by decide +kernel)) rfl, qm_good (List.mem_of_getElem? (i := 120) (by decide +kernel)) rfl, qm_good (List.mem_of_getElem? (i := 1440) (by decide +kernel)) rfl, ⟨by decide +kernel, by decide +kernel, by decide +kernel⟩⟩
theorem cy_Model_columnsOf {own : String} {idx : Nat} (h : Cond.methodLink own idx jy_Model_columnsOf ∈ qm_tb) : qm_CV own idx jy_Model_columnsOf prog_11_method_44_code 7 (some .int) 2 := ⟨h, qm_good (List.mem_of_getElem? (i := 1460) (by decide +kernel)) rfl, qm_good (List.mem_of_getElem? (i := 73) (by decide +kernel)) rfl, qm_good (List.mem_of_getElem? (i := 120) (by decide +kernel)) rfl, qm_good (List.mem_of_getElem? (i := 1461) (by decide +kernel)) rfl, ⟨by decide +kernel, by decide +kernel, by decide +kernel⟩⟩
theorem cy_Model_endOf {own : String} {idx : Nat} (h : Cond.methodLink own idx jy_Model_endOf ∈ qm_tb) : qm_CV own idx jy_Model_endOf prog_11_method_15_code 2 (some .int) 1 := ⟨h, qm_good (List.mem_of_getElem? (i := 1359) (by decide +kernel)) rfl, qm_good (List.mem_of_getElem? (i := 52) (by decide +kernel)) rfl, qm_good (List.mem_of_getElem? (i := 120) (by decide +kernel)) rfl, qm_good (List.mem_of_getElem? (i := 1360) (by decide +kernel)) rfl, ⟨by decide +kernel, by decide +kernel, by decide +kernel⟩⟩
theorem cy_Model_endsOf {own : String} {idx : Nat} (h : Cond.methodLink own idx jy_Model_endsOf ∈ qm_tb) : qm_CV own idx jy_Model_endsOf prog_11_method_50_code 4 (some .int) 1 := ⟨h, qm_good (List.mem_of_getElem? (i := 1489) (by decide +kernel)) rfl, qm_good (List.mem_of_getElem? (i := 76) (by decide +kernel)) rfl, qm_good (List.mem_of_getElem? (i := 120) (by decide +kernel)) rfl, qm_good (List.mem_of_getElem? (i := 1490) (by decide +kernel)) rfl, ⟨by decide +kernel, by decide +kernel, by decide +kernel⟩⟩
theorem cy_Model_fails {own : String} {idx : Nat} (h : Cond.methodLink own idx jy_Model_fails ∈ qm_tb) : qm_CV own idx jy_Model_fails prog_11_method_83_code 3 (some .boolean) 2 := ⟨h, qm_good (List.mem_of_getElem? (i := 1673) (by decide +kernel)) rfl, qm_good (List.mem_of_getElem? (i := 97) (by decide +kernel)) rfl, qm_good (List.mem_of_getElem? (i := 120) (by decide +kernel)) rfl, qm_good (List.mem_of_getElem? (i := 1674) (by decide +kernel)) rfl, ⟨by decide +kernel, by decide +kernel, by decide +kernel⟩⟩
theorem cy_Model_fills {own : String} {idx : Nat} (h : Cond.methodLink own idx jy_Model_fills ∈ qm_tb) : qm_CV own idx jy_Model_fills prog_11_method_32_code 5 (some .int) 1 := ⟨h, qm_good (List.mem_of_getElem? (i := 1391) (by decide +kernel)) rfl, qm_good (List.mem_of_getElem? (i := 60) (by decide +kernel)) rfl, qm_good (List.mem_of_getElem? (i := 120) (by decide +kernel)) rfl, qm_good (List.mem_of_getElem? (i := 1392) (by decide +kernel)) rfl, ⟨by decide +kernel, by decide +kernel, by decide +kernel⟩⟩
theorem cy_Model_fitsFrom {own : String} {idx : Nat} (h : Cond.methodLink own idx jy_Model_fitsFrom ∈ qm_tb) : qm_CV own idx jy_Model_fitsFrom prog_11_method_24_code 5 (some .boolean) 4 := ⟨h, qm_good (List.mem_of_getElem? (i := 1363) (by decide +kernel)) rfl, qm_good (List.mem_of_getElem? (i := 53) (by decide +kernel)) rfl, qm_good (List.mem_of_getElem? (i := 120) (by decide +kernel)) rfl, qm_good (List.mem_of_getElem? (i := 1364) (by decide +kernel)) rfl, ⟨by decide +kernel, by decide +kernel, by decide +kernel⟩⟩
theorem cy_Model_fitsWithout {own : String} {idx : Nat} (h : Cond.methodLink own idx jy_Model_fitsWithout ∈ qm_tb) : qm_CV own idx jy_Model_fitsWithout prog_11_method_73_code 5 (some .boolean) 3 := ⟨h, qm_good (List.mem_of_getElem? (i := 1599) (by decide +kernel)) rfl, qm_good (List.mem_of_getElem? (i := 89) (by decide +kernel)) rfl, qm_good (List.mem_of_getElem? (i := 120) (by decide +kernel)) rfl, qm_good (List.mem_of_getElem? (i := 1600) (by decide +kernel)) rfl, ⟨by decide +kernel, by decide +kernel, by decide +kernel⟩⟩
theorem cy_Model_goesBy {own : String} {idx : Nat} (h : Cond.methodLink own idx jy_Model_goesBy ∈ qm_tb) : qm_CV own idx jy_Model_goesBy prog_11_method_69_code 6 none 4 := ⟨h, qm_good (List.mem_of_getElem? (i := 1583) (by decide +kernel)) rfl, qm_good (List.mem_of_getElem? (i := 86) (by decide +kernel)) rfl, qm_good (List.mem_of_getElem? (i := 120) (by decide +kernel)) rfl, qm_good (List.mem_of_getElem? (i := 1584) (by decide +kernel)) rfl, ⟨by decide +kernel, by decide +kernel, by decide +kernel⟩⟩
theorem cy_Model_goesOn {own : String} {idx : Nat} (h : Cond.methodLink own idx jy_Model_goesOn ∈ qm_tb) : qm_CV own idx jy_Model_goesOn prog_11_method_56_code 6 none 3 := ⟨h, qm_good (List.mem_of_getElem? (i := 1512) (by decide +kernel)) rfl, qm_good (List.mem_of_getElem? (i := 78) (by decide +kernel)) rfl, qm_good (List.mem_of_getElem? (i := 120) (by decide +kernel)) rfl, qm_good (List.mem_of_getElem? (i := 1513) (by decide +kernel)) rfl, ⟨by decide +kernel, by decide +kernel, by decide +kernel⟩⟩
theorem cys_Model_has {own : String} {idx : Nat} (h : Cond.methodLink own idx jy_Model_has ∈ qm_tb) : qm_CS own idx jy_Model_has prog_11_method_96_code 2 (some .boolean) 2 := ⟨h, qm_good (List.mem_of_getElem? (i := 1602) (by decide +kernel)) rfl, qm_good (List.mem_of_getElem? (i := 120) (by decide +kernel)) rfl, qm_good (List.mem_of_getElem? (i := 1603) (by decide +kernel)) rfl, ⟨by decide +kernel, by decide +kernel, by decide +kernel⟩⟩
theorem cys_Model_highOf {own : String} {idx : Nat} (h : Cond.methodLink own idx jy_Model_highOf ∈ qm_tb) : qm_CS own idx jy_Model_highOf prog_11_method_5_code 1 (some .int) 1 := ⟨h, qm_good (List.mem_of_getElem? (i := 1526) (by decide +kernel)) rfl, qm_good (List.mem_of_getElem? (i := 120) (by decide +kernel)) rfl, qm_good (List.mem_of_getElem? (i := 1527) (by decide +kernel)) rfl, ⟨by decide +kernel, by decide +kernel, by decide +kernel⟩⟩
theorem cys_Model_highest {own : String} {idx : Nat} (h : Cond.methodLink own idx jy_Model_highest ∈ qm_tb) : qm_CS own idx jy_Model_highest prog_11_method_89_code 1 (some .int) 1 := ⟨h, qm_good (List.mem_of_getElem? (i := 1710) (by decide +kernel)) rfl, qm_good (List.mem_of_getElem? (i := 120) (by decide +kernel)) rfl, qm_good (List.mem_of_getElem? (i := 1711) (by decide +kernel)) rfl, ⟨by decide +kernel, by decide +kernel, by decide +kernel⟩⟩
theorem cys_Model_in {own : String} {idx : Nat} (h : Cond.methodLink own idx jy_Model_in ∈ qm_tb) : qm_CS own idx jy_Model_in prog_11_method_3_code 6 (some .boolean) 3 := ⟨h, qm_good (List.mem_of_getElem? (i := 1426) (by decide +kernel)) rfl, qm_good (List.mem_of_getElem? (i := 120) (by decide +kernel)) rfl, qm_good (List.mem_of_getElem? (i := 1427) (by decide +kernel)) rfl, ⟨by decide +kernel, by decide +kernel, by decide +kernel⟩⟩
theorem cy_Model_isBlock {own : String} {idx : Nat} (h : Cond.methodLink own idx jy_Model_isBlock ∈ qm_tb) : qm_CV own idx jy_Model_isBlock prog_11_method_9_code 2 (some .boolean) 1 := ⟨h, qm_good (List.mem_of_getElem? (i := 1472) (by decide +kernel)) rfl, qm_good (List.mem_of_getElem? (i := 74) (by decide +kernel)) rfl, qm_good (List.mem_of_getElem? (i := 120) (by decide +kernel)) rfl, qm_good (List.mem_of_getElem? (i := 1473) (by decide +kernel)) rfl, ⟨by decide +kernel, by decide +kernel, by decide +kernel⟩⟩
theorem cy_Model_isEnd {own : String} {idx : Nat} (h : Cond.methodLink own idx jy_Model_isEnd ∈ qm_tb) : qm_CV own idx jy_Model_isEnd prog_11_method_16_code 3 (some .boolean) 2 := ⟨h, qm_good (List.mem_of_getElem? (i := 1371) (by decide +kernel)) rfl, qm_good (List.mem_of_getElem? (i := 55) (by decide +kernel)) rfl, qm_good (List.mem_of_getElem? (i := 120) (by decide +kernel)) rfl, qm_good (List.mem_of_getElem? (i := 1372) (by decide +kernel)) rfl, ⟨by decide +kernel, by decide +kernel, by decide +kernel⟩⟩
theorem cy_Model_isGood {own : String} {idx : Nat} (h : Cond.methodLink own idx jy_Model_isGood ∈ qm_tb) : qm_CV own idx jy_Model_isGood prog_11_method_31_code 5 (some .boolean) 4 := ⟨h, qm_good (List.mem_of_getElem? (i := 1419) (by decide +kernel)) rfl, qm_good (List.mem_of_getElem? (i := 67) (by decide +kernel)) rfl, qm_good (List.mem_of_getElem? (i := 120) (by decide +kernel)) rfl, qm_good (List.mem_of_getElem? (i := 1420) (by decide +kernel)) rfl, ⟨by decide +kernel, by decide +kernel, by decide +kernel⟩⟩
theorem cy_Model_isIn {own : String} {idx : Nat} (h : Cond.methodLink own idx jy_Model_isIn ∈ qm_tb) : qm_CV own idx jy_Model_isIn prog_11_method_71_code 3 (some .boolean) 2 := ⟨h, qm_good (List.mem_of_getElem? (i := 1595) (by decide +kernel)) rfl, qm_good (List.mem_of_getElem? (i := 88) (by decide +kernel)) rfl, qm_good (List.mem_of_getElem? (i := 120) (by decide +kernel)) rfl, qm_good (List.mem_of_getElem? (i := 1596) (by decide +kernel)) rfl, ⟨by decide +kernel, by decide +kernel, by decide +kernel⟩⟩
theorem cy_Model_isNoted {own : String} {idx : Nat} (h : Cond.methodLink own idx jy_Model_isNoted ∈ qm_tb) : qm_CV own idx jy_Model_isNoted prog_11_method_36_code 2 (some .boolean) 1 := ⟨h, qm_good (List.mem_of_getElem? (i := 1560) (by decide +kernel)) rfl, qm_good (List.mem_of_getElem? (i := 83) (by decide +kernel)) rfl, qm_good (List.mem_of_getElem? (i := 120) (by decide +kernel)) rfl, qm_good (List.mem_of_getElem? (i := 1561) (by decide +kernel)) rfl, ⟨by decide +kernel, by decide +kernel, by decide +kernel⟩⟩
theorem cy_Model_isPlain {own : String} {idx : Nat} (h : Cond.methodLink own idx jy_Model_isPlain ∈ qm_tb) : qm_CV own idx jy_Model_isPlain prog_11_method_104_code 2 (some .boolean) 1 := ⟨h, qm_good (List.mem_of_getElem? (i := 1742) (by decide +kernel)) rfl, qm_good (List.mem_of_getElem? (i := 108) (by decide +kernel)) rfl, qm_good (List.mem_of_getElem? (i := 120) (by decide +kernel)) rfl, qm_good (List.mem_of_getElem? (i := 1743) (by decide +kernel)) rfl, ⟨by decide +kernel, by decide +kernel, by decide +kernel⟩⟩
theorem cy_Model_isSection {own : String} {idx : Nat} (h : Cond.methodLink own idx jy_Model_isSection ∈ qm_tb) : qm_CV own idx jy_Model_isSection prog_11_method_49_code 2 (some .boolean) 1 := ⟨h, qm_good (List.mem_of_getElem? (i := 1485) (by decide +kernel)) rfl, qm_good (List.mem_of_getElem? (i := 75) (by decide +kernel)) rfl, qm_good (List.mem_of_getElem? (i := 120) (by decide +kernel)) rfl, qm_good (List.mem_of_getElem? (i := 1486) (by decide +kernel)) rfl, ⟨by decide +kernel, by decide +kernel, by decide +kernel⟩⟩
theorem cys_Model_isSetting {own : String} {idx : Nat} (h : Cond.methodLink own idx jy_Model_isSetting ∈ qm_tb) : qm_CS own idx jy_Model_isSetting prog_11_method_6_code 2 (some .boolean) 2 := ⟨h, qm_good (List.mem_of_getElem? (i := 1519) (by decide +kernel)) rfl, qm_good (List.mem_of_getElem? (i := 120) (by decide +kernel)) rfl, qm_good (List.mem_of_getElem? (i := 1520) (by decide +kernel)) rfl, ⟨by decide +kernel, by decide +kernel, by decide +kernel⟩⟩
theorem cy_Model_keepsAct {own : String} {idx : Nat} (h : Cond.methodLink own idx jy_Model_keepsAct ∈ qm_tb) : qm_CV own idx jy_Model_keepsAct prog_11_method_102_code 2 none 0 := ⟨h, qm_good (List.mem_of_getElem? (i := 1734) (by decide +kernel)) rfl, qm_good (List.mem_of_getElem? (i := 107) (by decide +kernel)) rfl, qm_good (List.mem_of_getElem? (i := 120) (by decide +kernel)) rfl, qm_good (List.mem_of_getElem? (i := 1735) (by decide +kernel)) rfl, ⟨by decide +kernel, by decide +kernel, by decide +kernel⟩⟩
theorem cy_Model_keepsAside {own : String} {idx : Nat} (h : Cond.methodLink own idx jy_Model_keepsAside ∈ qm_tb) : qm_CV own idx jy_Model_keepsAside prog_11_method_57_code 2 none 0 := ⟨h, qm_good (List.mem_of_getElem? (i := 1530) (by decide +kernel)) rfl, qm_good (List.mem_of_getElem? (i := 79) (by decide +kernel)) rfl, qm_good (List.mem_of_getElem? (i := 120) (by decide +kernel)) rfl, qm_good (List.mem_of_getElem? (i := 1531) (by decide +kernel)) rfl, ⟨by decide +kernel, by decide +kernel, by decide +kernel⟩⟩
theorem cy_Model_lays {own : String} {idx : Nat} (h : Cond.methodLink own idx jy_Model_lays ∈ qm_tb) : qm_CV own idx jy_Model_lays prog_11_method_12_code 3 none 0 := ⟨h, qm_good (List.mem_of_getElem? (i := 1319) (by decide +kernel)) rfl, qm_good (List.mem_of_getElem? (i := 42) (by decide +kernel)) rfl, qm_good (List.mem_of_getElem? (i := 120) (by decide +kernel)) rfl, qm_good (List.mem_of_getElem? (i := 1320) (by decide +kernel)) rfl, ⟨by decide +kernel, by decide +kernel, by decide +kernel⟩⟩
theorem cy_Model_laysMay {own : String} {idx : Nat} (h : Cond.methodLink own idx jy_Model_laysMay ∈ qm_tb) : qm_CV own idx jy_Model_laysMay prog_11_method_23_code 11 none 3 := ⟨h, qm_good (List.mem_of_getElem? (i := 1367) (by decide +kernel)) rfl, qm_good (List.mem_of_getElem? (i := 54) (by decide +kernel)) rfl, qm_good (List.mem_of_getElem? (i := 120) (by decide +kernel)) rfl, qm_good (List.mem_of_getElem? (i := 1368) (by decide +kernel)) rfl, ⟨by decide +kernel, by decide +kernel, by decide +kernel⟩⟩
theorem cy_Model_laysPiece {own : String} {idx : Nat} (h : Cond.methodLink own idx jy_Model_laysPiece ∈ qm_tb) : qm_CV own idx jy_Model_laysPiece prog_11_method_11_code 4 none 2 := ⟨h, qm_good (List.mem_of_getElem? (i := 1331) (by decide +kernel)) rfl, qm_good (List.mem_of_getElem? (i := 45) (by decide +kernel)) rfl, qm_good (List.mem_of_getElem? (i := 120) (by decide +kernel)) rfl, qm_good (List.mem_of_getElem? (i := 1332) (by decide +kernel)) rfl, ⟨by decide +kernel, by decide +kernel, by decide +kernel⟩⟩
theorem cy_Model_laysSums {own : String} {idx : Nat} (h : Cond.methodLink own idx jy_Model_laysSums ∈ qm_tb) : qm_CV own idx jy_Model_laysSums prog_11_method_14_code 2 none 0 := ⟨h, qm_good (List.mem_of_getElem? (i := 1343) (by decide +kernel)) rfl, qm_good (List.mem_of_getElem? (i := 48) (by decide +kernel)) rfl, qm_good (List.mem_of_getElem? (i := 120) (by decide +kernel)) rfl, qm_good (List.mem_of_getElem? (i := 1344) (by decide +kernel)) rfl, ⟨by decide +kernel, by decide +kernel, by decide +kernel⟩⟩
theorem cy_Model_leastFrom {own : String} {idx : Nat} (h : Cond.methodLink own idx jy_Model_leastFrom ∈ qm_tb) : qm_CV own idx jy_Model_leastFrom prog_11_method_25_code 8 (some .int) 4 := ⟨h, qm_good (List.mem_of_getElem? (i := 1411) (by decide +kernel)) rfl, qm_good (List.mem_of_getElem? (i := 65) (by decide +kernel)) rfl, qm_good (List.mem_of_getElem? (i := 120) (by decide +kernel)) rfl, qm_good (List.mem_of_getElem? (i := 1412) (by decide +kernel)) rfl, ⟨by decide +kernel, by decide +kernel, by decide +kernel⟩⟩
theorem cy_Model_leastOf {own : String} {idx : Nat} (h : Cond.methodLink own idx jy_Model_leastOf ∈ qm_tb) : qm_CV own idx jy_Model_leastOf prog_11_method_53_code 3 (some .int) 1 := ⟨h, qm_good (List.mem_of_getElem? (i := 1502) (by decide +kernel)) rfl, qm_good (List.mem_of_getElem? (i := 77) (by decide +kernel)) rfl, qm_good (List.mem_of_getElem? (i := 120) (by decide +kernel)) rfl, qm_good (List.mem_of_getElem? (i := 1503) (by decide +kernel)) rfl, ⟨by decide +kernel, by decide +kernel, by decide +kernel⟩⟩
theorem cy_Model_levels {own : String} {idx : Nat} (h : Cond.methodLink own idx jy_Model_levels ∈ qm_tb) : qm_CV own idx jy_Model_levels prog_11_method_29_code 3 none 1 := ⟨h, qm_good (List.mem_of_getElem? (i := 1407) (by decide +kernel)) rfl, qm_good (List.mem_of_getElem? (i := 64) (by decide +kernel)) rfl, qm_good (List.mem_of_getElem? (i := 120) (by decide +kernel)) rfl, qm_good (List.mem_of_getElem? (i := 1408) (by decide +kernel)) rfl, ⟨by decide +kernel, by decide +kernel, by decide +kernel⟩⟩
theorem cy_Model_levelsBy {own : String} {idx : Nat} (h : Cond.methodLink own idx jy_Model_levelsBy ∈ qm_tb) : qm_CV own idx jy_Model_levelsBy prog_11_method_30_code 6 none 2 := ⟨h, qm_good (List.mem_of_getElem? (i := 1415) (by decide +kernel)) rfl, qm_good (List.mem_of_getElem? (i := 66) (by decide +kernel)) rfl, qm_good (List.mem_of_getElem? (i := 120) (by decide +kernel)) rfl, qm_good (List.mem_of_getElem? (i := 1416) (by decide +kernel)) rfl, ⟨by decide +kernel, by decide +kernel, by decide +kernel⟩⟩
theorem cy_Model_linesAt {own : String} {idx : Nat} (h : Cond.methodLink own idx jy_Model_linesAt ∈ qm_tb) : qm_CV own idx jy_Model_linesAt prog_11_method_43_code 4 (some .int) 2 := ⟨h, qm_good (List.mem_of_getElem? (i := 1456) (by decide +kernel)) rfl, qm_good (List.mem_of_getElem? (i := 72) (by decide +kernel)) rfl, qm_good (List.mem_of_getElem? (i := 120) (by decide +kernel)) rfl, qm_good (List.mem_of_getElem? (i := 1457) (by decide +kernel)) rfl, ⟨by decide +kernel, by decide +kernel, by decide +kernel⟩⟩
theorem cy_Model_linesIn {own : String} {idx : Nat} (h : Cond.methodLink own idx jy_Model_linesIn ∈ qm_tb) : qm_CV own idx jy_Model_linesIn prog_11_method_37_code 2 (some .int) 1 := ⟨h, qm_good (List.mem_of_getElem? (i := 1430) (by decide +kernel)) rfl, qm_good (List.mem_of_getElem? (i := 68) (by decide +kernel)) rfl, qm_good (List.mem_of_getElem? (i := 120) (by decide +kernel)) rfl, qm_good (List.mem_of_getElem? (i := 1431) (by decide +kernel)) rfl, ⟨by decide +kernel, by decide +kernel, by decide +kernel⟩⟩
theorem cy_Model_looseOf {own : String} {idx : Nat} (h : Cond.methodLink own idx jy_Model_looseOf ∈ qm_tb) : qm_CV own idx jy_Model_looseOf prog_11_method_63_code 2 (some .int) 1 := ⟨h, qm_good (List.mem_of_getElem? (i := 1556) (by decide +kernel)) rfl, qm_good (List.mem_of_getElem? (i := 82) (by decide +kernel)) rfl, qm_good (List.mem_of_getElem? (i := 120) (by decide +kernel)) rfl, qm_good (List.mem_of_getElem? (i := 1557) (by decide +kernel)) rfl, ⟨by decide +kernel, by decide +kernel, by decide +kernel⟩⟩
theorem cy_Model_loosens {own : String} {idx : Nat} (h : Cond.methodLink own idx jy_Model_loosens ∈ qm_tb) : qm_CV own idx jy_Model_loosens prog_11_method_60_code 3 none 1 := ⟨h, qm_good (List.mem_of_getElem? (i := 1543) (by decide +kernel)) rfl, qm_good (List.mem_of_getElem? (i := 81) (by decide +kernel)) rfl, qm_good (List.mem_of_getElem? (i := 120) (by decide +kernel)) rfl, qm_good (List.mem_of_getElem? (i := 1544) (by decide +kernel)) rfl, ⟨by decide +kernel, by decide +kernel, by decide +kernel⟩⟩
theorem cys_Model_lowOf {own : String} {idx : Nat} (h : Cond.methodLink own idx jy_Model_lowOf ∈ qm_tb) : qm_CS own idx jy_Model_lowOf prog_11_method_4_code 1 (some .int) 1 := ⟨h, qm_good (List.mem_of_getElem? (i := 1523) (by decide +kernel)) rfl, qm_good (List.mem_of_getElem? (i := 120) (by decide +kernel)) rfl, qm_good (List.mem_of_getElem? (i := 1524) (by decide +kernel)) rfl, ⟨by decide +kernel, by decide +kernel, by decide +kernel⟩⟩
theorem cy_Model_mayEnd {own : String} {idx : Nat} (h : Cond.methodLink own idx jy_Model_mayEnd ∈ qm_tb) : qm_CV own idx jy_Model_mayEnd prog_11_method_13_code 5 (some .boolean) 1 := ⟨h, qm_good (List.mem_of_getElem? (i := 1339) (by decide +kernel)) rfl, qm_good (List.mem_of_getElem? (i := 47) (by decide +kernel)) rfl, qm_good (List.mem_of_getElem? (i := 120) (by decide +kernel)) rfl, qm_good (List.mem_of_getElem? (i := 1340) (by decide +kernel)) rfl, ⟨by decide +kernel, by decide +kernel, by decide +kernel⟩⟩
theorem cy_Model_mostInto {own : String} {idx : Nat} (h : Cond.methodLink own idx jy_Model_mostInto ∈ qm_tb) : qm_CV own idx jy_Model_mostInto prog_11_method_22_code 10 (some .int) 4 := ⟨h, qm_good (List.mem_of_getElem? (i := 1375) (by decide +kernel)) rfl, qm_good (List.mem_of_getElem? (i := 56) (by decide +kernel)) rfl, qm_good (List.mem_of_getElem? (i := 120) (by decide +kernel)) rfl, qm_good (List.mem_of_getElem? (i := 1376) (by decide +kernel)) rfl, ⟨by decide +kernel, by decide +kernel, by decide +kernel⟩⟩
theorem cy_Model_nextByte {own : String} {idx : Nat} (h : Cond.methodLink own idx jy_Model_nextByte ∈ qm_tb) : qm_CV own idx jy_Model_nextByte prog_11_method_82_code 1 (some .int) 0 := ⟨h, qm_good (List.mem_of_getElem? (i := 1638) (by decide +kernel)) rfl, qm_good (List.mem_of_getElem? (i := 92) (by decide +kernel)) rfl, qm_good (List.mem_of_getElem? (i := 120) (by decide +kernel)) rfl, qm_good (List.mem_of_getElem? (i := 1639) (by decide +kernel)) rfl, ⟨by decide +kernel, by decide +kernel, by decide +kernel⟩⟩
theorem cy_Model_noteAt {own : String} {idx : Nat} (h : Cond.methodLink own idx jy_Model_noteAt ∈ qm_tb) : qm_CV own idx jy_Model_noteAt prog_11_method_42_code 4 (some .int) 1 := ⟨h, qm_good (List.mem_of_getElem? (i := 1452) (by decide +kernel)) rfl, qm_good (List.mem_of_getElem? (i := 71) (by decide +kernel)) rfl, qm_good (List.mem_of_getElem? (i := 120) (by decide +kernel)) rfl, qm_good (List.mem_of_getElem? (i := 1453) (by decide +kernel)) rfl, ⟨by decide +kernel, by decide +kernel, by decide +kernel⟩⟩
theorem cy_Model_noteOf {own : String} {idx : Nat} (h : Cond.methodLink own idx jy_Model_noteOf ∈ qm_tb) : qm_CV own idx jy_Model_noteOf prog_11_method_10_code 4 (some .int) 2 := ⟨h, qm_good (List.mem_of_getElem? (i := 1335) (by decide +kernel)) rfl, qm_good (List.mem_of_getElem? (i := 46) (by decide +kernel)) rfl, qm_good (List.mem_of_getElem? (i := 120) (by decide +kernel)) rfl, qm_good (List.mem_of_getElem? (i := 1336) (by decide +kernel)) rfl, ⟨by decide +kernel, by decide +kernel, by decide +kernel⟩⟩
theorem cy_Model_notes {own : String} {idx : Nat} (h : Cond.methodLink own idx jy_Model_notes ∈ qm_tb) : qm_CV own idx jy_Model_notes prog_11_method_41_code 3 (some .int) 0 := ⟨h, qm_good (List.mem_of_getElem? (i := 1447) (by decide +kernel)) rfl, qm_good (List.mem_of_getElem? (i := 70) (by decide +kernel)) rfl, qm_good (List.mem_of_getElem? (i := 120) (by decide +kernel)) rfl, qm_good (List.mem_of_getElem? (i := 1448) (by decide +kernel)) rfl, ⟨by decide +kernel, by decide +kernel, by decide +kernel⟩⟩
theorem cy_Model_of {own : String} {idx : Nat} (h : Cond.methodLink own idx jy_Model_of ∈ qm_tb) : qm_CV own idx jy_Model_of prog_11_method_8_code 3 (some .int) 2 := ⟨h, qm_good (List.mem_of_getElem? (i := 1327) (by decide +kernel)) rfl, qm_good (List.mem_of_getElem? (i := 44) (by decide +kernel)) rfl, qm_good (List.mem_of_getElem? (i := 120) (by decide +kernel)) rfl, qm_good (List.mem_of_getElem? (i := 1328) (by decide +kernel)) rfl, ⟨by decide +kernel, by decide +kernel, by decide +kernel⟩⟩
theorem cy_Model_ownOf {own : String} {idx : Nat} (h : Cond.methodLink own idx jy_Model_ownOf ∈ qm_tb) : qm_CV own idx jy_Model_ownOf prog_11_method_18_code 3 (some .int) 2 := ⟨h, qm_good (List.mem_of_getElem? (i := 1379) (by decide +kernel)) rfl, qm_good (List.mem_of_getElem? (i := 57) (by decide +kernel)) rfl, qm_good (List.mem_of_getElem? (i := 120) (by decide +kernel)) rfl, qm_good (List.mem_of_getElem? (i := 1380) (by decide +kernel)) rfl, ⟨by decide +kernel, by decide +kernel, by decide +kernel⟩⟩
theorem cy_Model_pours {own : String} {idx : Nat} (h : Cond.methodLink own idx jy_Model_pours ∈ qm_tb) : qm_CV own idx jy_Model_pours prog_11_method_34_code 2 (some .int) 0 := ⟨h, qm_good (List.mem_of_getElem? (i := 1315) (by decide +kernel)) rfl, qm_good (List.mem_of_getElem? (i := 41) (by decide +kernel)) rfl, qm_good (List.mem_of_getElem? (i := 120) (by decide +kernel)) rfl, qm_good (List.mem_of_getElem? (i := 1316) (by decide +kernel)) rfl, ⟨by decide +kernel, by decide +kernel, by decide +kernel⟩⟩
theorem cy_Model_poursSection {own : String} {idx : Nat} (h : Cond.methodLink own idx jy_Model_poursSection ∈ qm_tb) : qm_CV own idx jy_Model_poursSection prog_11_method_33_code 7 (some .boolean) 1 := ⟨h, qm_good (List.mem_of_getElem? (i := 1355) (by decide +kernel)) rfl, qm_good (List.mem_of_getElem? (i := 51) (by decide +kernel)) rfl, qm_good (List.mem_of_getElem? (i := 120) (by decide +kernel)) rfl, qm_good (List.mem_of_getElem? (i := 1356) (by decide +kernel)) rfl, ⟨by decide +kernel, by decide +kernel, by decide +kernel⟩⟩
theorem cy_Model_poursSpan {own : String} {idx : Nat} (h : Cond.methodLink own idx jy_Model_poursSpan ∈ qm_tb) : qm_CV own idx jy_Model_poursSpan prog_11_method_28_code 2 (some .boolean) 1 := ⟨h, qm_good (List.mem_of_getElem? (i := 1347) (by decide +kernel)) rfl, qm_good (List.mem_of_getElem? (i := 49) (by decide +kernel)) rfl, qm_good (List.mem_of_getElem? (i := 120) (by decide +kernel)) rfl, qm_good (List.mem_of_getElem? (i := 1348) (by decide +kernel)) rfl, ⟨by decide +kernel, by decide +kernel, by decide +kernel⟩⟩
theorem cy_Model_puts {own : String} {idx : Nat} (h : Cond.methodLink own idx jy_Model_puts ∈ qm_tb) : qm_CV own idx jy_Model_puts prog_11_method_26_code 7 none 5 := ⟨h, qm_good (List.mem_of_getElem? (i := 1403) (by decide +kernel)) rfl, qm_good (List.mem_of_getElem? (i := 63) (by decide +kernel)) rfl, qm_good (List.mem_of_getElem? (i := 120) (by decide +kernel)) rfl, qm_good (List.mem_of_getElem? (i := 1404) (by decide +kernel)) rfl, ⟨by decide +kernel, by decide +kernel, by decide +kernel⟩⟩
theorem cy_Model_putsBack {own : String} {idx : Nat} (h : Cond.methodLink own idx jy_Model_putsBack ∈ qm_tb) : qm_CV own idx jy_Model_putsBack prog_11_method_58_code 2 none 0 := ⟨h, qm_good (List.mem_of_getElem? (i := 1534) (by decide +kernel)) rfl, qm_good (List.mem_of_getElem? (i := 80) (by decide +kernel)) rfl, qm_good (List.mem_of_getElem? (i := 120) (by decide +kernel)) rfl, qm_good (List.mem_of_getElem? (i := 1535) (by decide +kernel)) rfl, ⟨by decide +kernel, by decide +kernel, by decide +kernel⟩⟩
theorem cy_Model_readsHigh {own : String} {idx : Nat} (h : Cond.methodLink own idx jy_Model_readsHigh ∈ qm_tb) : qm_CV own idx jy_Model_readsHigh prog_11_method_91_code 3 (some .boolean) 2 := ⟨h, qm_good (List.mem_of_getElem? (i := 1707) (by decide +kernel)) rfl, qm_good (List.mem_of_getElem? (i := 103) (by decide +kernel)) rfl, qm_good (List.mem_of_getElem? (i := 120) (by decide +kernel)) rfl, qm_good (List.mem_of_getElem? (i := 1708) (by decide +kernel)) rfl, ⟨by decide +kernel, by decide +kernel, by decide +kernel⟩⟩
theorem cy_Model_readsMany {own : String} {idx : Nat} (h : Cond.methodLink own idx jy_Model_readsMany ∈ qm_tb) : qm_CV own idx jy_Model_readsMany prog_11_method_90_code 2 (some .boolean) 1 := ⟨h, qm_good (List.mem_of_getElem? (i := 1699) (by decide +kernel)) rfl, qm_good (List.mem_of_getElem? (i := 101) (by decide +kernel)) rfl, qm_good (List.mem_of_getElem? (i := 120) (by decide +kernel)) rfl, qm_good (List.mem_of_getElem? (i := 1700) (by decide +kernel)) rfl, ⟨by decide +kernel, by decide +kernel, by decide +kernel⟩⟩
theorem cy_Model_readsNumber {own : String} {idx : Nat} (h : Cond.methodLink own idx jy_Model_readsNumber ∈ qm_tb) : qm_CV own idx jy_Model_readsNumber prog_11_method_85_code 3 (some .boolean) 2 := ⟨h, qm_good (List.mem_of_getElem? (i := 1677) (by decide +kernel)) rfl, qm_good (List.mem_of_getElem? (i := 98) (by decide +kernel)) rfl, qm_good (List.mem_of_getElem? (i := 120) (by decide +kernel)) rfl, qm_good (List.mem_of_getElem? (i := 1678) (by decide +kernel)) rfl, ⟨by decide +kernel, by decide +kernel, by decide +kernel⟩⟩
theorem cy_Model_readsTop {own : String} {idx : Nat} (h : Cond.methodLink own idx jy_Model_readsTop ∈ qm_tb) : qm_CV own idx jy_Model_readsTop prog_11_method_92_code 2 (some .boolean) 1 := ⟨h, qm_good (List.mem_of_getElem? (i := 1703) (by decide +kernel)) rfl, qm_good (List.mem_of_getElem? (i := 102) (by decide +kernel)) rfl, qm_good (List.mem_of_getElem? (i := 120) (by decide +kernel)) rfl, qm_good (List.mem_of_getElem? (i := 1704) (by decide +kernel)) rfl, ⟨by decide +kernel, by decide +kernel, by decide +kernel⟩⟩
theorem cy_Model_roomOf {own : String} {idx : Nat} (h : Cond.methodLink own idx jy_Model_roomOf ∈ qm_tb) : qm_CV own idx jy_Model_roomOf prog_11_method_19_code 5 (some .int) 3 := ⟨h, qm_good (List.mem_of_getElem? (i := 1387) (by decide +kernel)) rfl, qm_good (List.mem_of_getElem? (i := 59) (by decide +kernel)) rfl, qm_good (List.mem_of_getElem? (i := 120) (by decide +kernel)) rfl, qm_good (List.mem_of_getElem? (i := 1388) (by decide +kernel)) rfl, ⟨by decide +kernel, by decide +kernel, by decide +kernel⟩⟩
theorem cy_Model_sectionsOn {own : String} {idx : Nat} (h : Cond.methodLink own idx jy_Model_sectionsOn ∈ qm_tb) : qm_CV own idx jy_Model_sectionsOn prog_11_method_65_code 4 (some .int) 1 := ⟨h, qm_good (List.mem_of_getElem? (i := 1572) (by decide +kernel)) rfl, qm_good (List.mem_of_getElem? (i := 85) (by decide +kernel)) rfl, qm_good (List.mem_of_getElem? (i := 120) (by decide +kernel)) rfl, qm_good (List.mem_of_getElem? (i := 1573) (by decide +kernel)) rfl, ⟨by decide +kernel, by decide +kernel, by decide +kernel⟩⟩
theorem cy_Model_spansOn {own : String} {idx : Nat} (h : Cond.methodLink own idx jy_Model_spansOn ∈ qm_tb) : qm_CV own idx jy_Model_spansOn prog_11_method_67_code 4 (some .int) 1 := ⟨h, qm_good (List.mem_of_getElem? (i := 1568) (by decide +kernel)) rfl, qm_good (List.mem_of_getElem? (i := 84) (by decide +kernel)) rfl, qm_good (List.mem_of_getElem? (i := 120) (by decide +kernel)) rfl, qm_good (List.mem_of_getElem? (i := 1569) (by decide +kernel)) rfl, ⟨by decide +kernel, by decide +kernel, by decide +kernel⟩⟩
theorem cy_Model_standsOf {own : String} {idx : Nat} (h : Cond.methodLink own idx jy_Model_standsOf ∈ qm_tb) : qm_CV own idx jy_Model_standsOf prog_11_method_21_code 7 (some .int) 4 := ⟨h, qm_good (List.mem_of_getElem? (i := 1399) (by decide +kernel)) rfl, qm_good (List.mem_of_getElem? (i := 62) (by decide +kernel)) rfl, qm_good (List.mem_of_getElem? (i := 120) (by decide +kernel)) rfl, qm_good (List.mem_of_getElem? (i := 1400) (by decide +kernel)) rfl, ⟨by decide +kernel, by decide +kernel, by decide +kernel⟩⟩
theorem cy_Model_textOf {own : String} {idx : Nat} (h : Cond.methodLink own idx jy_Model_textOf ∈ qm_tb) : qm_CV own idx jy_Model_textOf prog_11_method_17_code 4 (some .int) 2 := ⟨h, qm_good (List.mem_of_getElem? (i := 1383) (by decide +kernel)) rfl, qm_good (List.mem_of_getElem? (i := 58) (by decide +kernel)) rfl, qm_good (List.mem_of_getElem? (i := 120) (by decide +kernel)) rfl, qm_good (List.mem_of_getElem? (i := 1384) (by decide +kernel)) rfl, ⟨by decide +kernel, by decide +kernel, by decide +kernel⟩⟩
theorem cy_Model_tiedOf {own : String} {idx : Nat} (h : Cond.methodLink own idx jy_Model_tiedOf ∈ qm_tb) : qm_CV own idx jy_Model_tiedOf prog_11_method_72_code 4 (some .int) 1 := ⟨h, qm_good (List.mem_of_getElem? (i := 1591) (by decide +kernel)) rfl, qm_good (List.mem_of_getElem? (i := 87) (by decide +kernel)) rfl, qm_good (List.mem_of_getElem? (i := 120) (by decide +kernel)) rfl, qm_good (List.mem_of_getElem? (i := 1592) (by decide +kernel)) rfl, ⟨by decide +kernel, by decide +kernel, by decide +kernel⟩⟩
theorem cy_Model_trades {own : String} {idx : Nat} (h : Cond.methodLink own idx jy_Model_trades ∈ qm_tb) : qm_CV own idx jy_Model_trades prog_11_method_78_code 5 none 2 := ⟨h, qm_good (List.mem_of_getElem? (i := 1618) (by decide +kernel)) rfl, qm_good (List.mem_of_getElem? (i := 90) (by decide +kernel)) rfl, qm_good (List.mem_of_getElem? (i := 120) (by decide +kernel)) rfl, qm_good (List.mem_of_getElem? (i := 1619) (by decide +kernel)) rfl, ⟨by decide +kernel, by decide +kernel, by decide +kernel⟩⟩
theorem cy_Model_turnsPage {own : String} {idx : Nat} (h : Cond.methodLink own idx jy_Model_turnsPage ∈ qm_tb) : qm_CV own idx jy_Model_turnsPage prog_11_method_27_code 2 (some .boolean) 1 := ⟨h, qm_good (List.mem_of_getElem? (i := 1351) (by decide +kernel)) rfl, qm_good (List.mem_of_getElem? (i := 50) (by decide +kernel)) rfl, qm_good (List.mem_of_getElem? (i := 120) (by decide +kernel)) rfl, qm_good (List.mem_of_getElem? (i := 1352) (by decide +kernel)) rfl, ⟨by decide +kernel, by decide +kernel, by decide +kernel⟩⟩
theorem cys_Integer_bitCount {own : String} {idx : Nat} (h : Cond.methodLink own idx jy_Integer_bitCount ∈ qm_tb) : qm_CS own idx jy_Integer_bitCount prog_12_method_49_code 1 (some .int) 1 := ⟨h, qm_good (List.mem_of_getElem? (i := 1100) (by decide +kernel)) rfl, qm_good (List.mem_of_getElem? (i := 125) (by decide +kernel)) rfl, qm_good (List.mem_of_getElem? (i := 1101) (by decide +kernel)) rfl, ⟨by decide +kernel, by decide +kernel, by decide +kernel⟩⟩
theorem cys_Math_max {own : String} {idx : Nat} (h : Cond.methodLink own idx jy_Math_max ∈ qm_tb) : qm_CS own idx jy_Math_max prog_13_method_65_code 2 (some .int) 2 := ⟨h, qm_good (List.mem_of_getElem? (i := 381) (by decide +kernel)) rfl, qm_good (List.mem_of_getElem? (i := 118) (by decide +kernel)) rfl, qm_good (List.mem_of_getElem? (i := 382) (by decide +kernel)) rfl, ⟨by decide +kernel, by decide +kernel, by decide +kernel⟩⟩
theorem cys_Math_min {own : String} {idx : Nat} (h : Cond.methodLink own idx jy_Math_min ∈ qm_tb) : qm_CS own idx jy_Math_min prog_13_method_69_code 2 (some .int) 2 := ⟨h, qm_good (List.mem_of_getElem? (i := 583) (by decide +kernel)) rfl, qm_good (List.mem_of_getElem? (i := 118) (by decide +kernel)) rfl, qm_good (List.mem_of_getElem? (i := 584) (by decide +kernel)) rfl, ⟨by decide +kernel, by decide +kernel, by decide +kernel⟩⟩
theorem cv_Top_68 : qm_CV qr_Top 68 jy_Tape_append prog_7_method_2_code 3 none 1 := cy_Tape_append (qm_good (List.mem_of_getElem? (i := 493) (by decide +kernel)) rfl)
theorem cv_Top_79 : qm_CV qr_Top 79 jy_Run_copyFrom prog_6_method_4_code 3 none 1 := cy_Run_copyFrom (qm_good (List.mem_of_getElem? (i := 671) (by decide +kernel)) rfl)
theorem cv_Top_86 : qm_CV qr_Top 86 jy_Top_changed prog_1_method_38_code 1 none 0 := cy_Top_changed (qm_good (List.mem_of_getElem? (i := 675) (by decide +kernel)) rfl)
theorem cv_Top_89 : qm_CS qr_Top 89 jy_Run_takes prog_6_method_2_code 2 (some .boolean) 2 := cys_Run_takes (qm_good (List.mem_of_getElem? (i := 684) (by decide +kernel)) rfl)
theorem cv_Top_93 : qm_CV qr_Top 93 jy_Run_setting prog_6_method_5_code 2 (some .int) 1 := cy_Run_setting (qm_good (List.mem_of_getElem? (i := 685) (by decide +kernel)) rfl)
theorem cv_Top_97 : qm_CV qr_Top 97 jy_Top_beginAct prog_1_method_37_code 1 none 0 := cy_Top_beginAct (qm_good (List.mem_of_getElem? (i := 686) (by decide +kernel)) rfl)
theorem cv_Top_100 : qm_CV qr_Top 100 jy_Run_put prog_6_method_6_code 3 none 2 := cy_Run_put (qm_good (List.mem_of_getElem? (i := 696) (by decide +kernel)) rfl)
theorem cv_Top_104 : qm_CV qr_Top 104 jy_Run_hasPieces prog_6_method_8_code 2 (some .boolean) 1 := cy_Run_hasPieces (qm_good (List.mem_of_getElem? (i := 701) (by decide +kernel)) rfl)
theorem cv_Top_108 : qm_CV qr_Top 108 jy_Run_cell prog_6_method_9_code 3 (some .int) 2 := cy_Run_cell (qm_good (List.mem_of_getElem? (i := 709) (by decide +kernel)) rfl)
theorem cv_Top_112 : qm_CV qr_Top 112 jy_Run_putCell prog_6_method_10_code 4 none 3 := cy_Run_putCell (qm_good (List.mem_of_getElem? (i := 710) (by decide +kernel)) rfl)
theorem cv_Top_116 : qm_CV qr_Top 116 jy_Run_has prog_6_method_7_code 2 (some .boolean) 1 := cy_Run_has (qm_good (List.mem_of_getElem? (i := 719) (by decide +kernel)) rfl)
theorem cv_Top_119 : qm_CV qr_Top 119 jy_Run_exchange prog_6_method_13_code 5 none 2 := cy_Run_exchange (qm_good (List.mem_of_getElem? (i := 720) (by decide +kernel)) rfl)
theorem cv_Top_125 : qm_CV qr_Top 125 jy_Run_allPieces prog_6_method_11_code 3 (some .int) 0 := cy_Run_allPieces (qm_good (List.mem_of_getElem? (i := 728) (by decide +kernel)) rfl)
theorem cv_Top_128 : qm_CV qr_Top 128 jy_Run_repeat prog_6_method_14_code 3 none 1 := cy_Run_repeat (qm_good (List.mem_of_getElem? (i := 729) (by decide +kernel)) rfl)
theorem cv_Top_131 : qm_CV qr_Top 131 jy_Run_remove prog_6_method_15_code 3 none 1 := cy_Run_remove (qm_good (List.mem_of_getElem? (i := 742) (by decide +kernel)) rfl)
theorem cv_Top_134 : qm_CV qr_Top 134 jy_Past_pop prog_4_method_3_code 2 none 1 := cy_Past_pop (qm_good (List.mem_of_getElem? (i := 750) (by decide +kernel)) rfl)
theorem cv_Top_140 : qm_CV qr_Top 140 jy_Top_laidOut prog_1_method_39_code 1 (some (.object "ColumnsLevelled$Press")) 0 := cy_Top_laidOut (qm_good (List.mem_of_getElem? (i := 767) (by decide +kernel)) rfl)
theorem cv_Top_154 : qm_CS qr_Top 154 jy_Top_at prog_1_method_36_code 2 (some .int) 2 := cys_Top_at (qm_good (List.mem_of_getElem? (i := 803) (by decide +kernel)) rfl)
theorem cv_Top_176 : qm_CV qr_Top 176 jy_Flow_mayEnd prog_3_method_9_code 2 (some .boolean) 1 := cy_Flow_mayEnd (qm_good (List.mem_of_getElem? (i := 808) (by decide +kernel)) rfl)
theorem cv_Top_194 : qm_CV qr_Top 194 jy_Flow_endsIn prog_3_method_10_code 5 (some .int) 2 := cy_Flow_endsIn (qm_good (List.mem_of_getElem? (i := 816) (by decide +kernel)) rfl)
theorem cv_Top_197 : qm_CV qr_Top 197 jy_Flow_ownLines prog_3_method_12_code 3 (some .int) 2 := cy_Flow_ownLines (qm_good (List.mem_of_getElem? (i := 821) (by decide +kernel)) rfl)
theorem cv_Top_203 : qm_CV qr_Top 203 jy_Flow_spans prog_3_method_8_code 1 (some .int) 0 := cy_Flow_spans (qm_good (List.mem_of_getElem? (i := 829) (by decide +kernel)) rfl)
theorem cv_Top_206 : qm_CV qr_Top 206 jy_Top_pouredNow prog_1_method_40_code 2 (some (.object "ColumnsLevelled$Press")) 0 := cy_Top_pouredNow (qm_good (List.mem_of_getElem? (i := 838) (by decide +kernel)) rfl)
theorem cv_Top_209 : qm_CV qr_Top 209 jy_Press_answer prog_5_method_5_code 1 (some .int) 0 := cy_Press_answer (qm_good (List.mem_of_getElem? (i := 929) (by decide +kernel)) rfl)
theorem cv_Top_215 : qm_CV qr_Top 215 jy_Press_cell prog_5_method_13_code 3 (some .int) 2 := cy_Press_cell (qm_good (List.mem_of_getElem? (i := 934) (by decide +kernel)) rfl)
theorem cv_Top_216 : qm_CV qr_Top 216 jy_Press_columnOf prog_5_method_17_code 3 (some .int) 1 := cy_Press_columnOf (qm_good (List.mem_of_getElem? (i := 942) (by decide +kernel)) rfl)
theorem cv_Top_219 : qm_CV qr_Top 219 jy_Flow_above prog_3_method_15_code 3 (some .int) 2 := cy_Flow_above (qm_good (List.mem_of_getElem? (i := 947) (by decide +kernel)) rfl)
theorem cv_Top_225 : qm_CV qr_Top 225 jy_Press_linesByMark prog_5_method_19_code 3 (some .int) 1 := cy_Press_linesByMark (qm_good (List.mem_of_getElem? (i := 957) (by decide +kernel)) rfl)
theorem cv_Top_228 : qm_CV qr_Top 228 jy_Press_columnsOfNote prog_5_method_20_code 6 (some .int) 1 := cy_Press_columnsOfNote (qm_good (List.mem_of_getElem? (i := 966) (by decide +kernel)) rfl)
theorem cv_Top_243 : qm_CV qr_Top 243 jy_Press_used prog_5_method_14_code 4 (some .int) 1 := cy_Press_used (qm_good (List.mem_of_getElem? (i := 978) (by decide +kernel)) rfl)
theorem cv_Top_249 : qm_CV qr_Top 249 jy_Press_columnsOn prog_5_method_21_code 4 (some .int) 1 := cy_Press_columnsOn (qm_good (List.mem_of_getElem? (i := 986) (by decide +kernel)) rfl)
theorem cv_Top_252 : qm_CV qr_Top 252 jy_Press_piecesOn prog_5_method_22_code 4 (some .int) 1 := cy_Press_piecesOn (qm_good (List.mem_of_getElem? (i := 990) (by decide +kernel)) rfl)
theorem cv_Top_255 : qm_CV qr_Top 255 jy_Press_spansOn prog_5_method_23_code 4 (some .int) 1 := cy_Press_spansOn (qm_good (List.mem_of_getElem? (i := 994) (by decide +kernel)) rfl)
theorem cv_Top_258 : qm_CV qr_Top 258 jy_Press_noteLinesOn prog_5_method_24_code 4 (some .int) 1 := cy_Press_noteLinesOn (qm_good (List.mem_of_getElem? (i := 998) (by decide +kernel)) rfl)
theorem cv_Top_261 : qm_CV qr_Top 261 jy_Press_sectionsOn prog_5_method_25_code 4 (some .int) 1 := cy_Press_sectionsOn (qm_good (List.mem_of_getElem? (i := 1002) (by decide +kernel)) rfl)
theorem cv_Top_264 : qm_CV qr_Top 264 jy_Top_asks prog_1_method_41_code 3 (some .boolean) 2 := cy_Top_asks (qm_good (List.mem_of_getElem? (i := 1010) (by decide +kernel)) rfl)
theorem cv_Top_271 : qm_CV qr_Top 271 jy_Fitter_fitsAll prog_2_method_5_code 4 (some .boolean) 3 := cy_Fitter_fitsAll (qm_good (List.mem_of_getElem? (i := 1014) (by decide +kernel)) rfl)
theorem cv_Top_277 : qm_CV qr_Top 277 jy_Fitter_leastOf prog_2_method_7_code 2 (some .int) 1 := cy_Fitter_leastOf (qm_good (List.mem_of_getElem? (i := 1022) (by decide +kernel)) rfl)
theorem cv_Top_280 : qm_CV qr_Top 280 jy_Walker_farthest prog_9_method_2_code 10 (some .int) 3 := cy_Walker_farthest (qm_good (List.mem_of_getElem? (i := 1031) (by decide +kernel)) rfl)
theorem cv_Top_284 : qm_CV qr_Top 284 jy_Walker_rowsOfEnds prog_9_method_4_code 10 (some .int) 3 := cy_Walker_rowsOfEnds (qm_good (List.mem_of_getElem? (i := 1052) (by decide +kernel)) rfl)
theorem cv_Top_288 : qm_CV qr_Top 288 jy_Press_lay prog_5_method_2_code 1 none 0 := cy_Press_lay (qm_good (List.mem_of_getElem? (i := 771) (by decide +kernel)) rfl)
theorem cv_Top_291 : qm_CV qr_Top 291 jy_Press_levelAlone prog_5_method_15_code 3 none 2 := cy_Press_levelAlone (qm_good (List.mem_of_getElem? (i := 1068) (by decide +kernel)) rfl)
theorem cv_Top_294 : qm_CV qr_Top 294 jy_Press_difference prog_5_method_16_code 4 (some .int) 0 := cy_Press_difference (qm_good (List.mem_of_getElem? (i := 1072) (by decide +kernel)) rfl)
theorem cv_Top_297 : qm_CV qr_Top 297 jy_Run_withoutLaw prog_6_method_19_code 2 none 1 := cy_Run_withoutLaw (qm_good (List.mem_of_getElem? (i := 1082) (by decide +kernel)) rfl)
theorem cv_Top_300 : qm_CV qr_Top 300 jy_Flow_tiesIn prog_3_method_16_code 6 (some .int) 1 := cy_Flow_tiesIn (qm_good (List.mem_of_getElem? (i := 1095) (by decide +kernel)) rfl)
theorem cv_Top_303 : qm_CV qr_Top 303 jy_Top_fitsUntied prog_1_method_43_code 6 (some .boolean) 3 := cy_Top_fitsUntied (qm_good (List.mem_of_getElem? (i := 1105) (by decide +kernel)) rfl)
theorem cv_Top_306 : qm_CS qr_Top 306 jy_Integer_bitCount prog_12_method_49_code 1 (some .int) 1 := cys_Integer_bitCount (qm_good (List.mem_of_getElem? (i := 1114) (by decide +kernel)) rfl)
theorem cv_Top_311 : qm_CV qr_Top 311 jy_Top_untiedBy prog_1_method_42_code 7 (some .int) 4 := cy_Top_untiedBy (qm_good (List.mem_of_getElem? (i := 1115) (by decide +kernel)) rfl)
theorem cv_Top_315 : qm_CV qr_Top 315 jy_Press_pourAll prog_5_method_4_code 2 (some .int) 0 := cy_Press_pourAll (qm_good (List.mem_of_getElem? (i := 842) (by decide +kernel)) rfl)
theorem cv_Top_321 : qm_CV qr_Top 321 jy_Flow_allHeights prog_3_method_11_code 3 (some .int) 0 := cy_Flow_allHeights (qm_good (List.mem_of_getElem? (i := 1128) (by decide +kernel)) rfl)
theorem cv_Top_327 : qm_CV qr_Top 327 jy_Past_push prog_4_method_2_code 2 none 1 := cy_Past_push (qm_good (List.mem_of_getElem? (i := 690) (by decide +kernel)) rfl)
theorem cv_Top_337 : qm_CV qr_Top 337 jy_Press_mark prog_5_method_3_code 1 none 0 := cy_Press_mark (qm_good (List.mem_of_getElem? (i := 1109) (by decide +kernel)) rfl)
theorem cv_Fitter_35 : qm_CV qr_Fitter 35 jy_Run_setting prog_6_method_5_code 2 (some .int) 1 := cy_Run_setting (qm_good (List.mem_of_getElem? (i := 345) (by decide +kernel)) rfl)
theorem cv_Fitter_51 : qm_CV qr_Fitter 51 jy_Flow_text prog_3_method_14_code 3 (some .int) 2 := cy_Flow_text (qm_good (List.mem_of_getElem? (i := 901) (by decide +kernel)) rfl)
theorem cv_Fitter_57 : qm_CV qr_Fitter 57 jy_Flow_ownLines prog_3_method_12_code 3 (some .int) 2 := cy_Flow_ownLines (qm_good (List.mem_of_getElem? (i := 905) (by decide +kernel)) rfl)
theorem cv_Fitter_60 : qm_CV qr_Fitter 60 jy_Fitter_linesIn prog_2_method_4_code 2 (some .int) 1 := cy_Fitter_linesIn (qm_good (List.mem_of_getElem? (i := 906) (by decide +kernel)) rfl)
theorem cv_Fitter_63 : qm_CV qr_Fitter 63 jy_Flow_lastLinesAhead prog_3_method_13_code 2 (some .int) 1 := cy_Flow_lastLinesAhead (qm_good (List.mem_of_getElem? (i := 910) (by decide +kernel)) rfl)
theorem cv_Fitter_66 : qm_CS qr_Fitter 66 jy_Math_max prog_13_method_65_code 2 (some .int) 2 := cys_Math_max (qm_good (List.mem_of_getElem? (i := 877) (by decide +kernel)) rfl)
theorem cv_Fitter_71 : qm_CV qr_Fitter 71 jy_Fitter_measure prog_2_method_10_code 9 none 3 := cy_Fitter_measure (qm_good (List.mem_of_getElem? (i := 873) (by decide +kernel)) rfl)
theorem cv_Fitter_78 : qm_CN qr_Fitter 78 jy_Top_at "ColumnsLevelled" prog_1_method_36_code 2 (some .int) 2 := cyn_Top_at (by decide +kernel)
theorem cv_Fitter_82 : qm_CV qr_Fitter 82 jy_Fitter_bearsAt prog_2_method_6_code 3 (some .int) 2 := cy_Fitter_bearsAt (qm_good (List.mem_of_getElem? (i := 883) (by decide +kernel)) rfl)
theorem cv_Fitter_85 : qm_CV qr_Fitter 85 jy_Fitter_leastFrom prog_2_method_8_code 11 (some .int) 4 := cy_Fitter_leastFrom (qm_good (List.mem_of_getElem? (i := 1026) (by decide +kernel)) rfl)
theorem cv_Fitter_89 : qm_CV qr_Fitter 89 jy_Fitter_slotOf prog_2_method_9_code 5 (some .int) 3 := cy_Fitter_slotOf (qm_good (List.mem_of_getElem? (i := 868) (by decide +kernel)) rfl)
theorem cv_Fitter_96 : qm_CS qr_Fitter 96 jy_Math_min prog_13_method_69_code 2 (some .int) 2 := cys_Math_min (qm_good (List.mem_of_getElem? (i := 878) (by decide +kernel)) rfl)
theorem cv_Fitter_109 : qm_CV qr_Fitter 109 jy_Fitter_bearsFrom prog_2_method_11_code 11 (some .int) 3 := cy_Fitter_bearsFrom (qm_good (List.mem_of_getElem? (i := 879) (by decide +kernel)) rfl)
theorem cv_Fitter_128 : qm_CV qr_Fitter 128 jy_Flow_mayEnd prog_3_method_9_code 2 (some .boolean) 1 := cy_Flow_mayEnd (qm_good (List.mem_of_getElem? (i := 896) (by decide +kernel)) rfl)
theorem cv_Fitter_132 : qm_CV qr_Fitter 132 jy_Fitter_leftOver prog_2_method_3_code 9 (some .int) 4 := cy_Fitter_leftOver (qm_good (List.mem_of_getElem? (i := 897) (by decide +kernel)) rfl)
theorem cv_Flow_80 : qm_CV qr_Flow 80 jy_Flow_openSection prog_3_method_3_code 2 none 1 := cy_Flow_openSection (qm_good (List.mem_of_getElem? (i := 779) (by decide +kernel)) rfl)
theorem cv_Flow_84 : qm_CV qr_Flow 84 jy_Run_cell prog_6_method_9_code 3 (some .int) 2 := cy_Run_cell (qm_good (List.mem_of_getElem? (i := 783) (by decide +kernel)) rfl)
theorem cv_Flow_88 : qm_CV qr_Flow 88 jy_Flow_layPieces prog_3_method_4_code 8 none 1 := cy_Flow_layPieces (qm_good (List.mem_of_getElem? (i := 784) (by decide +kernel)) rfl)
theorem cv_Flow_91 : qm_CV qr_Flow 91 jy_Flow_markEnds prog_3_method_5_code 2 none 0 := cy_Flow_markEnds (qm_good (List.mem_of_getElem? (i := 789) (by decide +kernel)) rfl)
theorem cv_Flow_94 : qm_CV qr_Flow 94 jy_Run_noteAt prog_6_method_17_code 5 (some .int) 2 := cy_Run_noteAt (qm_good (List.mem_of_getElem? (i := 788) (by decide +kernel)) rfl)
theorem cv_Flow_97 : qm_CV qr_Flow 97 jy_Flow_endsBehind prog_3_method_7_code 6 (some .boolean) 2 := cy_Flow_endsBehind (qm_good (List.mem_of_getElem? (i := 793) (by decide +kernel)) rfl)
theorem cv_Flow_101 : qm_CV qr_Flow 101 jy_Flow_markEnd prog_3_method_6_code 2 none 1 := cy_Flow_markEnd (qm_good (List.mem_of_getElem? (i := 798) (by decide +kernel)) rfl)
theorem cv_Flow_104 : qm_CV qr_Flow 104 jy_Run_setting prog_6_method_5_code 2 (some .int) 1 := cy_Run_setting (qm_good (List.mem_of_getElem? (i := 797) (by decide +kernel)) rfl)
theorem cv_Flow_108 : qm_CS qr_Flow 108 jy_Math_max prog_13_method_65_code 2 (some .int) 2 := cys_Math_max (qm_good (List.mem_of_getElem? (i := 833) (by decide +kernel)) rfl)
theorem cv_Flow_113 : qm_CV qr_Flow 113 jy_Flow_mayEnd prog_3_method_9_code 2 (some .boolean) 1 := cy_Flow_mayEnd (qm_good (List.mem_of_getElem? (i := 820) (by decide +kernel)) rfl)
theorem cv_Flow_117 : qm_CN qr_Flow 117 jy_Top_at "ColumnsLevelled" prog_1_method_36_code 2 (some .int) 2 := cyn_Top_at (by decide +kernel)
theorem cv_Flow_121 : qm_CV qr_Flow 121 jy_Flow_text prog_3_method_14_code 3 (some .int) 2 := cy_Flow_text (qm_good (List.mem_of_getElem? (i := 952) (by decide +kernel)) rfl)
theorem cv_Flow_124 : qm_CS qr_Flow 124 jy_Integer_bitCount prog_12_method_49_code 1 (some .int) 1 := cys_Integer_bitCount (qm_good (List.mem_of_getElem? (i := 1099) (by decide +kernel)) rfl)
theorem cv_Past_22 : qm_CV qr_Past 22 jy_Run_copyFrom prog_6_method_4_code 3 none 1 := cy_Run_copyFrom (qm_good (List.mem_of_getElem? (i := 694) (by decide +kernel)) rfl)
theorem cv_Past_29 : qm_CS qr_Past 29 jy_Math_min prog_13_method_69_code 2 (some .int) 2 := cys_Math_min (qm_good (List.mem_of_getElem? (i := 695) (by decide +kernel)) rfl)
theorem cv_Past_35 : qm_CS qr_Past 35 jy_Math_max prog_13_method_65_code 2 (some .int) 2 := cys_Math_max (qm_good (List.mem_of_getElem? (i := 754) (by decide +kernel)) rfl)
theorem cv_Press_33 : qm_CS qr_Press 33 jy_Math_max prog_13_method_65_code 2 (some .int) 2 := cys_Math_max (qm_good (List.mem_of_getElem? (i := 380) (by decide +kernel)) rfl)
theorem cv_Press_55 : qm_CV qr_Press 55 jy_Flow_lay prog_3_method_2_code 2 none 0 := cy_Flow_lay (qm_good (List.mem_of_getElem? (i := 775) (by decide +kernel)) rfl)
theorem cv_Press_58 : qm_CV qr_Press 58 jy_Fitter_forget prog_2_method_2_code 2 none 0 := cy_Fitter_forget (qm_good (List.mem_of_getElem? (i := 802) (by decide +kernel)) rfl)
theorem cv_Press_61 : qm_CV qr_Press 61 jy_Flow_markEnds prog_3_method_5_code 2 none 0 := cy_Flow_markEnds (qm_good (List.mem_of_getElem? (i := 1113) (by decide +kernel)) rfl)
theorem cv_Press_70 : qm_CV qr_Press 70 jy_Run_setting prog_6_method_5_code 2 (some .int) 1 := cy_Run_setting (qm_good (List.mem_of_getElem? (i := 846) (by decide +kernel)) rfl)
theorem cv_Press_88 : qm_CN qr_Press 88 jy_Top_at "ColumnsLevelled" prog_1_method_36_code 2 (some .int) 2 := cyn_Top_at (by decide +kernel)
theorem cv_Press_98 : qm_CV qr_Press 98 jy_Press_putSpan prog_5_method_8_code 4 none 1 := cy_Press_putSpan (qm_good (List.mem_of_getElem? (i := 848) (by decide +kernel)) rfl)
theorem cv_Press_105 : qm_CV qr_Press 105 jy_Press_pourSection prog_5_method_9_code 5 none 1 := cy_Press_pourSection (qm_good (List.mem_of_getElem? (i := 860) (by decide +kernel)) rfl)
theorem cv_Press_108 : qm_CV qr_Press 108 jy_Press_answer prog_5_method_5_code 1 (some .int) 0 := cy_Press_answer (qm_good (List.mem_of_getElem? (i := 925) (by decide +kernel)) rfl)
theorem cv_Press_115 : qm_CV qr_Press 115 jy_Press_pageIsFree prog_5_method_7_code 1 (some .boolean) 0 := cy_Press_pageIsFree (qm_good (List.mem_of_getElem? (i := 852) (by decide +kernel)) rfl)
theorem cv_Press_119 : qm_CV qr_Press 119 jy_Press_turnPage prog_5_method_6_code 1 none 0 := cy_Press_turnPage (qm_good (List.mem_of_getElem? (i := 856) (by decide +kernel)) rfl)
theorem cv_Press_122 : qm_CV qr_Press 122 jy_Fitter_leastFrom prog_2_method_8_code 11 (some .int) 4 := cy_Fitter_leastFrom (qm_good (List.mem_of_getElem? (i := 864) (by decide +kernel)) rfl)
theorem cv_Press_126 : qm_CV qr_Press 126 jy_Press_level prog_5_method_10_code 6 none 2 := cy_Press_level (qm_good (List.mem_of_getElem? (i := 887) (by decide +kernel)) rfl)
theorem cv_Press_130 : qm_CV qr_Press 130 jy_Press_fill prog_5_method_11_code 9 (some .boolean) 1 := cy_Press_fill (qm_good (List.mem_of_getElem? (i := 921) (by decide +kernel)) rfl)
theorem cv_Press_134 : qm_CV qr_Press 134 jy_Fitter_measure prog_2_method_10_code 9 none 3 := cy_Fitter_measure (qm_good (List.mem_of_getElem? (i := 891) (by decide +kernel)) rfl)
theorem cv_Press_138 : qm_CV qr_Press 138 jy_Fitter_latest prog_2_method_12_code 8 (some .int) 5 := cy_Fitter_latest (qm_good (List.mem_of_getElem? (i := 892) (by decide +kernel)) rfl)
theorem cv_Press_142 : qm_CV qr_Press 142 jy_Press_putColumn prog_5_method_12_code 11 (some .boolean) 5 := cy_Press_putColumn (qm_good (List.mem_of_getElem? (i := 914) (by decide +kernel)) rfl)
theorem cv_Press_146 : qm_CV qr_Press 146 jy_Flow_ownLines prog_3_method_12_code 3 (some .int) 2 := cy_Flow_ownLines (qm_good (List.mem_of_getElem? (i := 918) (by decide +kernel)) rfl)
theorem cv_Press_149 : qm_CV qr_Press 149 jy_Fitter_leftOver prog_2_method_3_code 9 (some .int) 4 := cy_Fitter_leftOver (qm_good (List.mem_of_getElem? (i := 919) (by decide +kernel)) rfl)
theorem cv_Press_152 : qm_CV qr_Press 152 jy_Flow_text prog_3_method_14_code 3 (some .int) 2 := cy_Flow_text (qm_good (List.mem_of_getElem? (i := 920) (by decide +kernel)) rfl)
theorem cv_Press_155 : qm_CV qr_Press 155 jy_Press_cell prog_5_method_13_code 3 (some .int) 2 := cy_Press_cell (qm_good (List.mem_of_getElem? (i := 946) (by decide +kernel)) rfl)
theorem cv_Press_158 : qm_CV qr_Press 158 jy_Press_used prog_5_method_14_code 4 (some .int) 1 := cy_Press_used (qm_good (List.mem_of_getElem? (i := 1076) (by decide +kernel)) rfl)
theorem cv_Press_161 : qm_CS qr_Press 161 jy_Math_min prog_13_method_69_code 2 (some .int) 2 := cys_Math_min (qm_good (List.mem_of_getElem? (i := 1077) (by decide +kernel)) rfl)
theorem cv_Press_164 : qm_CV qr_Press 164 jy_Press_columnOf prog_5_method_17_code 3 (some .int) 1 := cy_Press_columnOf (qm_good (List.mem_of_getElem? (i := 961) (by decide +kernel)) rfl)
theorem cv_Press_170 : qm_CV qr_Press 170 jy_Press_leftOfNote prog_5_method_18_code 4 (some .int) 2 := cy_Press_leftOfNote (qm_good (List.mem_of_getElem? (i := 962) (by decide +kernel)) rfl)
theorem cv_Run_34 : qm_CS qr_Run 34 jy_Run_takes prog_6_method_2_code 2 (some .boolean) 2 := cys_Run_takes (qm_good (List.mem_of_getElem? (i := 625) (by decide +kernel)) rfl)
theorem cv_Run_38 : qm_CV qr_Run 38 jy_Run_has prog_6_method_7_code 2 (some .boolean) 1 := cy_Run_has (qm_good (List.mem_of_getElem? (i := 705) (by decide +kernel)) rfl)
theorem cv_Run_42 : qm_CV qr_Run 42 jy_Run_cell prog_6_method_9_code 3 (some .int) 2 := cy_Run_cell (qm_good (List.mem_of_getElem? (i := 638) (by decide +kernel)) rfl)
theorem cv_Run_46 : qm_CV qr_Run 46 jy_Run_putCell prog_6_method_10_code 4 none 3 := cy_Run_putCell (qm_good (List.mem_of_getElem? (i := 646) (by decide +kernel)) rfl)
theorem cv_Run_50 : qm_CV qr_Run 50 jy_Run_add prog_6_method_12_code 4 (some .int) 1 := cy_Run_add (qm_good (List.mem_of_getElem? (i := 733) (by decide +kernel)) rfl)
theorem cv_Run_54 : qm_CV qr_Run 54 jy_Run_copyCells prog_6_method_16_code 4 none 2 := cy_Run_copyCells (qm_good (List.mem_of_getElem? (i := 734) (by decide +kernel)) rfl)
theorem cv_Run_58 : qm_CV qr_Run 58 jy_Run_put prog_6_method_6_code 3 none 2 := cy_Run_put (qm_good (List.mem_of_getElem? (i := 1086) (by decide +kernel)) rfl)
theorem cv_Run_61 : qm_CV qr_Run 61 jy_Run_clearCells prog_6_method_20_code 3 none 1 := cy_Run_clearCells (qm_good (List.mem_of_getElem? (i := 1087) (by decide +kernel)) rfl)
theorem cv_Teller_48 : qm_CV qr_Teller 48 jy_Teller_sign prog_8_method_18_code 1 (some .int) 0 := cy_Teller_sign (qm_good (List.mem_of_getElem? (i := 585) (by decide +kernel)) rfl)
theorem cv_Teller_55 : qm_CV qr_Teller 55 jy_Teller_place prog_8_method_19_code 1 (some .int) 0 := cy_Teller_place (qm_good (List.mem_of_getElem? (i := 593) (by decide +kernel)) rfl)
theorem cv_Teller_58 : qm_CV qr_Teller 58 jy_Teller_wrong prog_8_method_17_code 3 none 2 := cy_Teller_wrong (qm_good (List.mem_of_getElem? (i := 601) (by decide +kernel)) rfl)
theorem cv_Teller_62 : qm_CV qr_Teller 62 jy_Run_allPieces prog_6_method_11_code 3 (some .int) 0 := cy_Run_allPieces (qm_good (List.mem_of_getElem? (i := 634) (by decide +kernel)) rfl)
theorem cv_Teller_73 : qm_CN qr_Teller 73 jy_Top_at "ColumnsLevelled" prog_1_method_36_code 2 (some .int) 2 := cyn_Top_at (by decide +kernel)
theorem cv_Teller_89 : qm_CS qr_Teller 89 jy_Math_min prog_13_method_69_code 2 (some .int) 2 := cys_Math_min (qm_good (List.mem_of_getElem? (i := 582) (by decide +kernel)) rfl)
theorem cv_Teller_108 : qm_CV qr_Teller 108 jy_Teller_readWord prog_8_method_15_code 2 (some .int) 0 := cy_Teller_readWord (qm_good (List.mem_of_getElem? (i := 597) (by decide +kernel)) rfl)
theorem cv_Teller_111 : qm_CV qr_Teller 111 jy_Teller_readSetting prog_8_method_9_code 4 none 2 := cy_Teller_readSetting (qm_good (List.mem_of_getElem? (i := 605) (by decide +kernel)) rfl)
theorem cv_Teller_114 : qm_CV qr_Teller 114 jy_Teller_readBlock prog_8_method_10_code 8 none 2 := cy_Teller_readBlock (qm_good (List.mem_of_getElem? (i := 630) (by decide +kernel)) rfl)
theorem cv_Teller_117 : qm_CV qr_Teller 117 jy_Teller_tellOnce prog_8_method_14_code 3 none 2 := cy_Teller_tellOnce (qm_good (List.mem_of_getElem? (i := 609) (by decide +kernel)) rfl)
theorem cv_Teller_126 : qm_CV qr_Teller 126 jy_Teller_readNumber prog_8_method_16_code 4 (some .int) 2 := cy_Teller_readNumber (qm_good (List.mem_of_getElem? (i := 617) (by decide +kernel)) rfl)
theorem cv_Teller_129 : qm_CV qr_Teller 129 jy_Run_put prog_6_method_6_code 3 none 2 := cy_Run_put (qm_good (List.mem_of_getElem? (i := 621) (by decide +kernel)) rfl)
theorem cv_Teller_135 : qm_CV qr_Teller 135 jy_Run_add prog_6_method_12_code 4 (some .int) 1 := cy_Run_add (qm_good (List.mem_of_getElem? (i := 642) (by decide +kernel)) rfl)
theorem cv_Teller_138 : qm_CV qr_Teller 138 jy_Run_putCell prog_6_method_10_code 4 none 3 := cy_Run_putCell (qm_good (List.mem_of_getElem? (i := 650) (by decide +kernel)) rfl)
theorem cv_Teller_142 : qm_CS qr_Teller 142 jy_Teller_mostHigh prog_8_method_11_code 1 (some .int) 1 := cys_Teller_mostHigh (qm_good (List.mem_of_getElem? (i := 651) (by decide +kernel)) rfl)
theorem cv_Teller_145 : qm_CV qr_Teller 145 jy_Teller_readWords prog_8_method_12_code 6 none 2 := cy_Teller_readWords (qm_good (List.mem_of_getElem? (i := 654) (by decide +kernel)) rfl)
theorem cv_Teller_148 : qm_CV qr_Teller 148 jy_Teller_readMark prog_8_method_13_code 6 none 2 := cy_Teller_readMark (qm_good (List.mem_of_getElem? (i := 658) (by decide +kernel)) rfl)
theorem cv_Teller_151 : qm_CV qr_Teller 151 jy_Run_cell prog_6_method_9_code 3 (some .int) 2 := cy_Run_cell (qm_good (List.mem_of_getElem? (i := 662) (by decide +kernel)) rfl)
theorem cv_Teller_154 : qm_CV qr_Teller 154 jy_Run_noteAt prog_6_method_17_code 5 (some .int) 2 := cy_Run_noteAt (qm_good (List.mem_of_getElem? (i := 663) (by decide +kernel)) rfl)
theorem cv_Teller_157 : qm_CV qr_Teller 157 jy_Run_addMark prog_6_method_18_code 5 none 3 := cy_Run_addMark (qm_good (List.mem_of_getElem? (i := 667) (by decide +kernel)) rfl)
theorem cv_Walker_37 : qm_CN qr_Walker 37 jy_Top_at "ColumnsLevelled" prog_1_method_36_code 2 (some .int) 2 := cyn_Top_at (by decide +kernel)
theorem cv_Walker_41 : qm_CS qr_Walker 41 jy_Math_max prog_13_method_65_code 2 (some .int) 2 := cys_Math_max (qm_good (List.mem_of_getElem? (i := 1036) (by decide +kernel)) rfl)
theorem cv_Walker_50 : qm_CS qr_Walker 50 jy_Math_min prog_13_method_69_code 2 (some .int) 2 := cys_Math_min (qm_good (List.mem_of_getElem? (i := 1037) (by decide +kernel)) rfl)
theorem cv_Walker_53 : qm_CS qr_Walker 53 jy_Walker_fillRow prog_9_method_6_code 3 none 2 := cys_Walker_fillRow (qm_good (List.mem_of_getElem? (i := 1038) (by decide +kernel)) rfl)
theorem cv_Walker_57 : qm_CV qr_Walker 57 jy_Walker_stepFarther prog_9_method_3_code 8 none 5 := cy_Walker_stepFarther (qm_good (List.mem_of_getElem? (i := 1041) (by decide +kernel)) rfl)
theorem cv_Walker_61 : qm_CV qr_Walker 61 jy_Flow_text prog_3_method_14_code 3 (some .int) 2 := cy_Flow_text (qm_good (List.mem_of_getElem? (i := 1045) (by decide +kernel)) rfl)
theorem cv_Walker_64 : qm_CV qr_Walker 64 jy_Flow_mayEnd prog_3_method_9_code 2 (some .boolean) 1 := cy_Flow_mayEnd (qm_good (List.mem_of_getElem? (i := 1046) (by decide +kernel)) rfl)
theorem cv_Walker_68 : qm_CV qr_Walker 68 jy_Fitter_leftOver prog_2_method_3_code 9 (some .int) 4 := cy_Fitter_leftOver (qm_good (List.mem_of_getElem? (i := 1047) (by decide +kernel)) rfl)
theorem cv_Walker_74 : qm_CV qr_Walker 74 jy_Walker_stepWays prog_9_method_5_code 11 none 5 := cy_Walker_stepWays (qm_good (List.mem_of_getElem? (i := 1056) (by decide +kernel)) rfl)
theorem cv_Model_129 : qm_CS qr_Model 129 jy_Model_in prog_11_method_3_code 6 (some .boolean) 3 := cys_Model_in (qm_good (List.mem_of_getElem? (i := 1425) (by decide +kernel)) rfl)
theorem cv_Model_133 : qm_CS qr_Model 133 jy_Model_lowOf prog_11_method_4_code 1 (some .int) 1 := cys_Model_lowOf (qm_good (List.mem_of_getElem? (i := 1522) (by decide +kernel)) rfl)
theorem cv_Model_137 : qm_CS qr_Model 137 jy_Model_highOf prog_11_method_5_code 1 (some .int) 1 := cys_Model_highOf (qm_good (List.mem_of_getElem? (i := 1525) (by decide +kernel)) rfl)
theorem cv_Model_140 : qm_CV qr_Model 140 jy_Model_blocks prog_11_method_7_code 1 (some .int) 0 := cy_Model_blocks (qm_good (List.mem_of_getElem? (i := 1321) (by decide +kernel)) rfl)
theorem cv_Model_144 : qm_CV qr_Model 144 jy_Model_of prog_11_method_8_code 3 (some .int) 2 := cy_Model_of (qm_good (List.mem_of_getElem? (i := 1325) (by decide +kernel)) rfl)
theorem cv_Model_152 : qm_CV qr_Model 152 jy_Model_noteOf prog_11_method_10_code 4 (some .int) 2 := cy_Model_noteOf (qm_good (List.mem_of_getElem? (i := 1333) (by decide +kernel)) rfl)
theorem cv_Model_158 : qm_CV qr_Model 158 jy_Model_laysPiece prog_11_method_11_code 4 none 2 := cy_Model_laysPiece (qm_good (List.mem_of_getElem? (i := 1329) (by decide +kernel)) rfl)
theorem cv_Model_162 : qm_CV qr_Model 162 jy_Model_mayEnd prog_11_method_13_code 5 (some .boolean) 1 := cy_Model_mayEnd (qm_good (List.mem_of_getElem? (i := 1337) (by decide +kernel)) rfl)
theorem cv_Model_166 : qm_CV qr_Model 166 jy_Model_laysSums prog_11_method_14_code 2 none 0 := cy_Model_laysSums (qm_good (List.mem_of_getElem? (i := 1341) (by decide +kernel)) rfl)
theorem cv_Model_169 : qm_CV qr_Model 169 jy_Model_textOf prog_11_method_17_code 4 (some .int) 2 := cy_Model_textOf (qm_good (List.mem_of_getElem? (i := 1381) (by decide +kernel)) rfl)
theorem cv_Model_172 : qm_CV qr_Model 172 jy_Model_ownOf prog_11_method_18_code 3 (some .int) 2 := cy_Model_ownOf (qm_good (List.mem_of_getElem? (i := 1377) (by decide +kernel)) rfl)
theorem cv_Model_175 : qm_CV qr_Model 175 jy_Model_roomOf prog_11_method_19_code 5 (some .int) 3 := cy_Model_roomOf (qm_good (List.mem_of_getElem? (i := 1385) (by decide +kernel)) rfl)
theorem cv_Model_179 : qm_CV qr_Model 179 jy_Model_endOf prog_11_method_15_code 2 (some .int) 1 := cy_Model_endOf (qm_good (List.mem_of_getElem? (i := 1357) (by decide +kernel)) rfl)
theorem cv_Model_182 : qm_CV qr_Model 182 jy_Model_isEnd prog_11_method_16_code 3 (some .boolean) 2 := cy_Model_isEnd (qm_good (List.mem_of_getElem? (i := 1369) (by decide +kernel)) rfl)
theorem cv_Model_186 : qm_CV qr_Model 186 jy_Model_mostInto prog_11_method_22_code 10 (some .int) 4 := cy_Model_mostInto (qm_good (List.mem_of_getElem? (i := 1373) (by decide +kernel)) rfl)
theorem cv_Model_190 : qm_CV qr_Model 190 jy_Model_laysMay prog_11_method_23_code 11 none 3 := cy_Model_laysMay (qm_good (List.mem_of_getElem? (i := 1365) (by decide +kernel)) rfl)
theorem cv_Model_194 : qm_CV qr_Model 194 jy_Model_fitsFrom prog_11_method_24_code 5 (some .boolean) 4 := cy_Model_fitsFrom (qm_good (List.mem_of_getElem? (i := 1361) (by decide +kernel)) rfl)
theorem cv_Model_213 : qm_CV qr_Model 213 jy_Model_standsOf prog_11_method_21_code 7 (some .int) 4 := cy_Model_standsOf (qm_good (List.mem_of_getElem? (i := 1397) (by decide +kernel)) rfl)
theorem cv_Model_219 : qm_CV qr_Model 219 jy_Model_turnsPage prog_11_method_27_code 2 (some .boolean) 1 := cy_Model_turnsPage (qm_good (List.mem_of_getElem? (i := 1349) (by decide +kernel)) rfl)
theorem cv_Model_222 : qm_CV qr_Model 222 jy_Model_leastFrom prog_11_method_25_code 8 (some .int) 4 := cy_Model_leastFrom (qm_good (List.mem_of_getElem? (i := 1409) (by decide +kernel)) rfl)
theorem cv_Model_225 : qm_CV qr_Model 225 jy_Model_levelsBy prog_11_method_30_code 6 none 2 := cy_Model_levelsBy (qm_good (List.mem_of_getElem? (i := 1413) (by decide +kernel)) rfl)
theorem cv_Model_228 : qm_CV qr_Model 228 jy_Model_isGood prog_11_method_31_code 5 (some .boolean) 4 := cy_Model_isGood (qm_good (List.mem_of_getElem? (i := 1417) (by decide +kernel)) rfl)
theorem cv_Model_231 : qm_CV qr_Model 231 jy_Model_puts prog_11_method_26_code 7 none 5 := cy_Model_puts (qm_good (List.mem_of_getElem? (i := 1401) (by decide +kernel)) rfl)
theorem cv_Model_235 : qm_CV qr_Model 235 jy_Model_canEnd prog_11_method_20_code 7 (some .boolean) 4 := cy_Model_canEnd (qm_good (List.mem_of_getElem? (i := 1393) (by decide +kernel)) rfl)
theorem cv_Model_238 : qm_CV qr_Model 238 jy_Model_fills prog_11_method_32_code 5 (some .int) 1 := cy_Model_fills (qm_good (List.mem_of_getElem? (i := 1389) (by decide +kernel)) rfl)
theorem cv_Model_241 : qm_CV qr_Model 241 jy_Model_levels prog_11_method_29_code 3 none 1 := cy_Model_levels (qm_good (List.mem_of_getElem? (i := 1405) (by decide +kernel)) rfl)
theorem cv_Model_245 : qm_CV qr_Model 245 jy_Model_lays prog_11_method_12_code 3 none 0 := cy_Model_lays (qm_good (List.mem_of_getElem? (i := 1317) (by decide +kernel)) rfl)
theorem cv_Model_248 : qm_CV qr_Model 248 jy_Model_poursSpan prog_11_method_28_code 2 (some .boolean) 1 := cy_Model_poursSpan (qm_good (List.mem_of_getElem? (i := 1345) (by decide +kernel)) rfl)
theorem cv_Model_251 : qm_CV qr_Model 251 jy_Model_poursSection prog_11_method_33_code 7 (some .boolean) 1 := cy_Model_poursSection (qm_good (List.mem_of_getElem? (i := 1353) (by decide +kernel)) rfl)
theorem cv_Model_254 : qm_CV qr_Model 254 jy_Model_pours prog_11_method_34_code 2 (some .int) 0 := cy_Model_pours (qm_good (List.mem_of_getElem? (i := 1313) (by decide +kernel)) rfl)
theorem cv_Model_257 : qm_CV qr_Model 257 jy_Model_linesIn prog_11_method_37_code 2 (some .int) 1 := cy_Model_linesIn (qm_good (List.mem_of_getElem? (i := 1428) (by decide +kernel)) rfl)
theorem cv_Model_262 : qm_CV qr_Model 262 jy_Model_columnOf prog_11_method_39_code 3 (some .int) 1 := cy_Model_columnOf (qm_good (List.mem_of_getElem? (i := 1437) (by decide +kernel)) rfl)
theorem cv_Model_265 : qm_CV qr_Model 265 jy_Model_linesAt prog_11_method_43_code 4 (some .int) 2 := cy_Model_linesAt (qm_good (List.mem_of_getElem? (i := 1454) (by decide +kernel)) rfl)
theorem cv_Model_268 : qm_CV qr_Model 268 jy_Model_notes prog_11_method_41_code 3 (some .int) 0 := cy_Model_notes (qm_good (List.mem_of_getElem? (i := 1445) (by decide +kernel)) rfl)
theorem cv_Model_273 : qm_CV qr_Model 273 jy_Model_noteAt prog_11_method_42_code 4 (some .int) 1 := cy_Model_noteAt (qm_good (List.mem_of_getElem? (i := 1450) (by decide +kernel)) rfl)
theorem cv_Model_276 : qm_CV qr_Model 276 jy_Model_columnsOf prog_11_method_44_code 7 (some .int) 2 := cy_Model_columnsOf (qm_good (List.mem_of_getElem? (i := 1458) (by decide +kernel)) rfl)
theorem cv_Model_279 : qm_CV qr_Model 279 jy_Model_isBlock prog_11_method_9_code 2 (some .boolean) 1 := cy_Model_isBlock (qm_good (List.mem_of_getElem? (i := 1470) (by decide +kernel)) rfl)
theorem cv_Model_284 : qm_CV qr_Model 284 jy_Model_isSection prog_11_method_49_code 2 (some .boolean) 1 := cy_Model_isSection (qm_good (List.mem_of_getElem? (i := 1483) (by decide +kernel)) rfl)
theorem cv_Model_287 : qm_CV qr_Model 287 jy_Model_endsOf prog_11_method_50_code 4 (some .int) 1 := cy_Model_endsOf (qm_good (List.mem_of_getElem? (i := 1487) (by decide +kernel)) rfl)
theorem cv_Model_292 : qm_CV qr_Model 292 jy_Model_leastOf prog_11_method_53_code 3 (some .int) 1 := cy_Model_leastOf (qm_good (List.mem_of_getElem? (i := 1500) (by decide +kernel)) rfl)
theorem cv_Model_298 : qm_CV qr_Model 298 jy_Model_goesOn prog_11_method_56_code 6 none 3 := cy_Model_goesOn (qm_good (List.mem_of_getElem? (i := 1510) (by decide +kernel)) rfl)
theorem cv_Model_301 : qm_CS qr_Model 301 jy_Model_isSetting prog_11_method_6_code 2 (some .boolean) 2 := cys_Model_isSetting (qm_good (List.mem_of_getElem? (i := 1518) (by decide +kernel)) rfl)
theorem cv_Model_304 : qm_CV qr_Model 304 jy_Model_keepsAside prog_11_method_57_code 2 none 0 := cy_Model_keepsAside (qm_good (List.mem_of_getElem? (i := 1528) (by decide +kernel)) rfl)
theorem cv_Model_307 : qm_CV qr_Model 307 jy_Model_putsBack prog_11_method_58_code 2 none 0 := cy_Model_putsBack (qm_good (List.mem_of_getElem? (i := 1532) (by decide +kernel)) rfl)
theorem cv_Model_312 : qm_CV qr_Model 312 jy_Model_loosens prog_11_method_60_code 3 none 1 := cy_Model_loosens (qm_good (List.mem_of_getElem? (i := 1541) (by decide +kernel)) rfl)
theorem cv_Model_317 : qm_CV qr_Model 317 jy_Model_isNoted prog_11_method_36_code 2 (some .boolean) 1 := cy_Model_isNoted (qm_good (List.mem_of_getElem? (i := 1558) (by decide +kernel)) rfl)
theorem cv_Model_320 : qm_CV qr_Model 320 jy_Model_looseOf prog_11_method_63_code 2 (some .int) 1 := cy_Model_looseOf (qm_good (List.mem_of_getElem? (i := 1554) (by decide +kernel)) rfl)
theorem cv_Model_323 : qm_CS qr_Model 323 jy_Model_bits prog_11_method_66_code 3 (some .int) 1 := cys_Model_bits (qm_good (List.mem_of_getElem? (i := 1574) (by decide +kernel)) rfl)
theorem cv_Model_326 : qm_CV qr_Model 326 jy_Model_spansOn prog_11_method_67_code 4 (some .int) 1 := cy_Model_spansOn (qm_good (List.mem_of_getElem? (i := 1566) (by decide +kernel)) rfl)
theorem cv_Model_329 : qm_CV qr_Model 329 jy_Model_sectionsOn prog_11_method_65_code 4 (some .int) 1 := cy_Model_sectionsOn (qm_good (List.mem_of_getElem? (i := 1570) (by decide +kernel)) rfl)
theorem cv_Model_332 : qm_CV qr_Model 332 jy_Model_goesBy prog_11_method_69_code 6 none 4 := cy_Model_goesBy (qm_good (List.mem_of_getElem? (i := 1581) (by decide +kernel)) rfl)
theorem cv_Model_336 : qm_CV qr_Model 336 jy_Model_isIn prog_11_method_71_code 3 (some .boolean) 2 := cy_Model_isIn (qm_good (List.mem_of_getElem? (i := 1593) (by decide +kernel)) rfl)
theorem cv_Model_339 : qm_CS qr_Model 339 jy_Model_has prog_11_method_96_code 2 (some .boolean) 2 := cys_Model_has (qm_good (List.mem_of_getElem? (i := 1601) (by decide +kernel)) rfl)
theorem cv_Model_342 : qm_CV qr_Model 342 jy_Model_tiedOf prog_11_method_72_code 4 (some .int) 1 := cy_Model_tiedOf (qm_good (List.mem_of_getElem? (i := 1589) (by decide +kernel)) rfl)
theorem cv_Model_345 : qm_CV qr_Model 345 jy_Model_fitsWithout prog_11_method_73_code 5 (some .boolean) 3 := cy_Model_fitsWithout (qm_good (List.mem_of_getElem? (i := 1597) (by decide +kernel)) rfl)
theorem cv_Model_349 : qm_CV qr_Model 349 jy_Model_trades prog_11_method_78_code 5 none 2 := cy_Model_trades (qm_good (List.mem_of_getElem? (i := 1616) (by decide +kernel)) rfl)
theorem cv_Model_358 : qm_CV qr_Model 358 jy_Model_byteAt prog_11_method_81_code 2 (some .int) 1 := cy_Model_byteAt (qm_good (List.mem_of_getElem? (i := 1640) (by decide +kernel)) rfl)
theorem cv_Model_364 : qm_CV qr_Model 364 jy_Model_nextByte prog_11_method_82_code 1 (some .int) 0 := cy_Model_nextByte (qm_good (List.mem_of_getElem? (i := 1636) (by decide +kernel)) rfl)
theorem cv_Model_384 : qm_CV qr_Model 384 jy_Model_fails prog_11_method_83_code 3 (some .boolean) 2 := cy_Model_fails (qm_good (List.mem_of_getElem? (i := 1671) (by decide +kernel)) rfl)
theorem cv_Model_415 : qm_CV qr_Model 415 jy_Model_readsNumber prog_11_method_85_code 3 (some .boolean) 2 := cy_Model_readsNumber (qm_good (List.mem_of_getElem? (i := 1675) (by decide +kernel)) rfl)
theorem cv_Model_431 : qm_CS qr_Model 431 jy_Model_highest prog_11_method_89_code 1 (some .int) 1 := cys_Model_highest (qm_good (List.mem_of_getElem? (i := 1709) (by decide +kernel)) rfl)
theorem cv_Model_434 : qm_CV qr_Model 434 jy_Model_readsMany prog_11_method_90_code 2 (some .boolean) 1 := cy_Model_readsMany (qm_good (List.mem_of_getElem? (i := 1697) (by decide +kernel)) rfl)
theorem cv_Model_437 : qm_CV qr_Model 437 jy_Model_readsTop prog_11_method_92_code 2 (some .boolean) 1 := cy_Model_readsTop (qm_good (List.mem_of_getElem? (i := 1701) (by decide +kernel)) rfl)
theorem cv_Model_440 : qm_CV qr_Model 440 jy_Model_readsHigh prog_11_method_91_code 3 (some .boolean) 2 := cy_Model_readsHigh (qm_good (List.mem_of_getElem? (i := 1705) (by decide +kernel)) rfl)
theorem cv_Model_490 : qm_CV qr_Model 490 jy_Model_keepsAct prog_11_method_102_code 2 none 0 := cy_Model_keepsAct (qm_good (List.mem_of_getElem? (i := 1732) (by decide +kernel)) rfl)
theorem cv_Model_493 : qm_CV qr_Model 493 jy_Model_isPlain prog_11_method_104_code 2 (some .boolean) 1 := cy_Model_isPlain (qm_good (List.mem_of_getElem? (i := 1740) (by decide +kernel)) rfl)
theorem gs_Top_318 : Cond.fieldLink qr_Top 318 "ColumnsLevelled" "SETTING_MOST" "[I" ∈ qm_tb := qm_good (List.mem_of_getElem? (i := 1127) (by decide +kernel)) rfl
theorem gs_Top_324 : Cond.fieldLink qr_Top 324 "ColumnsLevelled" "SETTING_LEAST" "[I" ∈ qm_tb := qm_good (List.mem_of_getElem? (i := 1132) (by decide +kernel)) rfl
theorem kc_Teller_88 : Cond.constant qr_Teller 88 100000 ∈ qm_tb := qm_good (List.mem_of_getElem? (i := 581) (by decide +kernel)) rfl
theorem kc_Model_297 : Cond.constant qr_Model 297 100000 ∈ qm_tb := qm_good (List.mem_of_getElem? (i := 1509) (by decide +kernel)) rfl
theorem kc_Integer_265 : Cond.constant "java/lang/Integer" 265 1431655765 ∈ qm_tb := qm_good (List.mem_of_getElem? (i := 1102) (by decide +kernel)) rfl
theorem kc_Integer_266 : Cond.constant "java/lang/Integer" 266 858993459 ∈ qm_tb := qm_good (List.mem_of_getElem? (i := 1103) (by decide +kernel)) rfl
theorem kc_Integer_267 : Cond.constant "java/lang/Integer" 267 252645135 ∈ qm_tb := qm_good (List.mem_of_getElem? (i := 1104) (by decide +kernel)) rfl
theorem kf_Fitter_0 {a : Nat} (h : (qm_kd a).1 = 10) : (qm_kd (qm_rf a 0)).1 = 14 := qm_kfl (t := 10) (by decide) (by decide +kernel) a h
theorem kf_Fitter_1 {a : Nat} (h : (qm_kd a).1 = 10) : (qm_kd (qm_rf a 1)).1 = 11 := qm_kfl (t := 10) (by decide) (by decide +kernel) a h
theorem kf_Fitter_4 {a : Nat} (h : (qm_kd a).1 = 10) : (qm_kd (qm_rf a 4)).1 = 4 := qm_kfl (t := 10) (by decide) (by decide +kernel) a h
theorem kf_Fitter_8 {a : Nat} (h : (qm_kd a).1 = 10) : (qm_kd (qm_rf a 8)).1 = 1 := qm_kfl (t := 10) (by decide) (by decide +kernel) a h
theorem kf_Flow_10 {a : Nat} (h : (qm_kd a).1 = 11) : (qm_kd (qm_rf a 10)).1 = 1 := qm_kfl (t := 11) (by decide) (by decide +kernel) a h
theorem kf_Flow_11 {a : Nat} (h : (qm_kd a).1 = 11) : (qm_kd (qm_rf a 11)).1 = 1 := qm_kfl (t := 11) (by decide) (by decide +kernel) a h
theorem kf_Flow_12 {a : Nat} (h : (qm_kd a).1 = 11) : (qm_kd (qm_rf a 12)).1 = 1 := qm_kfl (t := 11) (by decide) (by decide +kernel) a h
theorem kf_Flow_13 {a : Nat} (h : (qm_kd a).1 = 11) : (qm_kd (qm_rf a 13)).1 = 1 := qm_kfl (t := 11) (by decide) (by decide +kernel) a h
theorem kf_Flow_14 {a : Nat} (h : (qm_kd a).1 = 11) : (qm_kd (qm_rf a 14)).1 = 1 := qm_kfl (t := 11) (by decide) (by decide +kernel) a h
theorem kf_Flow_15 {a : Nat} (h : (qm_kd a).1 = 11) : (qm_kd (qm_rf a 15)).1 = 2 := qm_kfl (t := 11) (by decide) (by decide +kernel) a h
theorem kf_Flow_16 {a : Nat} (h : (qm_kd a).1 = 11) : (qm_kd (qm_rf a 16)).1 = 1 := qm_kfl (t := 11) (by decide) (by decide +kernel) a h
theorem kf_Flow_17 {a : Nat} (h : (qm_kd a).1 = 11) : (qm_kd (qm_rf a 17)).1 = 1 := qm_kfl (t := 11) (by decide) (by decide +kernel) a h
theorem kf_Flow_18 {a : Nat} (h : (qm_kd a).1 = 11) : (qm_kd (qm_rf a 18)).1 = 1 := qm_kfl (t := 11) (by decide) (by decide +kernel) a h
theorem kf_Flow_19 {a : Nat} (h : (qm_kd a).1 = 11) : (qm_kd (qm_rf a 19)).1 = 1 := qm_kfl (t := 11) (by decide) (by decide +kernel) a h
theorem kf_Flow_3 {a : Nat} (h : (qm_kd a).1 = 11) : (qm_kd (qm_rf a 3)).1 = 14 := qm_kfl (t := 11) (by decide) (by decide +kernel) a h
theorem kf_Flow_4 {a : Nat} (h : (qm_kd a).1 = 11) : (qm_kd (qm_rf a 4)).1 = 1 := qm_kfl (t := 11) (by decide) (by decide +kernel) a h
theorem kf_Flow_5 {a : Nat} (h : (qm_kd a).1 = 11) : (qm_kd (qm_rf a 5)).1 = 1 := qm_kfl (t := 11) (by decide) (by decide +kernel) a h
theorem kf_Flow_6 {a : Nat} (h : (qm_kd a).1 = 11) : (qm_kd (qm_rf a 6)).1 = 1 := qm_kfl (t := 11) (by decide) (by decide +kernel) a h
theorem kf_Flow_7 {a : Nat} (h : (qm_kd a).1 = 11) : (qm_kd (qm_rf a 7)).1 = 1 := qm_kfl (t := 11) (by decide) (by decide +kernel) a h
theorem kf_Flow_8 {a : Nat} (h : (qm_kd a).1 = 11) : (qm_kd (qm_rf a 8)).1 = 1 := qm_kfl (t := 11) (by decide) (by decide +kernel) a h
theorem kf_Flow_9 {a : Nat} (h : (qm_kd a).1 = 11) : (qm_kd (qm_rf a 9)).1 = 1 := qm_kfl (t := 11) (by decide) (by decide +kernel) a h
theorem kf_Model_0 {a : Nat} (h : (qm_kd a).1 = 19) : (qm_kd (qm_rf a 0)).1 = 1 := qm_kfl (t := 19) (by decide) (by decide +kernel) a h
theorem kf_Model_1 {a : Nat} (h : (qm_kd a).1 = 19) : (qm_kd (qm_rf a 1)).1 = 1 := qm_kfl (t := 19) (by decide) (by decide +kernel) a h
theorem kf_Model_10 {a : Nat} (h : (qm_kd a).1 = 19) : (qm_kd (qm_rf a 10)).1 = 1 := qm_kfl (t := 19) (by decide) (by decide +kernel) a h
theorem kf_Model_11 {a : Nat} (h : (qm_kd a).1 = 19) : (qm_kd (qm_rf a 11)).1 = 1 := qm_kfl (t := 19) (by decide) (by decide +kernel) a h
theorem kf_Model_12 {a : Nat} (h : (qm_kd a).1 = 19) : (qm_kd (qm_rf a 12)).1 = 2 := qm_kfl (t := 19) (by decide) (by decide +kernel) a h
theorem kf_Model_14 {a : Nat} (h : (qm_kd a).1 = 19) : (qm_kd (qm_rf a 14)).1 = 1 := qm_kfl (t := 19) (by decide) (by decide +kernel) a h
theorem kf_Model_15 {a : Nat} (h : (qm_kd a).1 = 19) : (qm_kd (qm_rf a 15)).1 = 1 := qm_kfl (t := 19) (by decide) (by decide +kernel) a h
theorem kf_Model_17 {a : Nat} (h : (qm_kd a).1 = 19) : (qm_kd (qm_rf a 17)).1 = 1 := qm_kfl (t := 19) (by decide) (by decide +kernel) a h
theorem kf_Model_18 {a : Nat} (h : (qm_kd a).1 = 19) : (qm_kd (qm_rf a 18)).1 = 1 := qm_kfl (t := 19) (by decide) (by decide +kernel) a h
theorem kf_Model_19 {a : Nat} (h : (qm_kd a).1 = 19) : (qm_kd (qm_rf a 19)).1 = 1 := qm_kfl (t := 19) (by decide) (by decide +kernel) a h
theorem kf_Model_20 {a : Nat} (h : (qm_kd a).1 = 19) : (qm_kd (qm_rf a 20)).1 = 1 := qm_kfl (t := 19) (by decide) (by decide +kernel) a h
theorem kf_Model_21 {a : Nat} (h : (qm_kd a).1 = 19) : (qm_kd (qm_rf a 21)).1 = 1 := qm_kfl (t := 19) (by decide) (by decide +kernel) a h
theorem kf_Model_22 {a : Nat} (h : (qm_kd a).1 = 19) : (qm_kd (qm_rf a 22)).1 = 1 := qm_kfl (t := 19) (by decide) (by decide +kernel) a h
theorem kf_Model_23 {a : Nat} (h : (qm_kd a).1 = 19) : (qm_kd (qm_rf a 23)).1 = 1 := qm_kfl (t := 19) (by decide) (by decide +kernel) a h
theorem kf_Model_24 {a : Nat} (h : (qm_kd a).1 = 19) : (qm_kd (qm_rf a 24)).1 = 1 := qm_kfl (t := 19) (by decide) (by decide +kernel) a h
theorem kf_Model_25 {a : Nat} (h : (qm_kd a).1 = 19) : (qm_kd (qm_rf a 25)).1 = 1 := qm_kfl (t := 19) (by decide) (by decide +kernel) a h
theorem kf_Model_26 {a : Nat} (h : (qm_kd a).1 = 19) : (qm_kd (qm_rf a 26)).1 = 1 := qm_kfl (t := 19) (by decide) (by decide +kernel) a h
theorem kf_Model_27 {a : Nat} (h : (qm_kd a).1 = 19) : (qm_kd (qm_rf a 27)).1 = 1 := qm_kfl (t := 19) (by decide) (by decide +kernel) a h
theorem kf_Model_28 {a : Nat} (h : (qm_kd a).1 = 19) : (qm_kd (qm_rf a 28)).1 = 1 := qm_kfl (t := 19) (by decide) (by decide +kernel) a h
theorem kf_Model_29 {a : Nat} (h : (qm_kd a).1 = 19) : (qm_kd (qm_rf a 29)).1 = 1 := qm_kfl (t := 19) (by decide) (by decide +kernel) a h
theorem kf_Model_3 {a : Nat} (h : (qm_kd a).1 = 19) : (qm_kd (qm_rf a 3)).1 = 1 := qm_kfl (t := 19) (by decide) (by decide +kernel) a h
theorem kf_Model_30 {a : Nat} (h : (qm_kd a).1 = 19) : (qm_kd (qm_rf a 30)).1 = 1 := qm_kfl (t := 19) (by decide) (by decide +kernel) a h
theorem kf_Model_31 {a : Nat} (h : (qm_kd a).1 = 19) : (qm_kd (qm_rf a 31)).1 = 2 := qm_kfl (t := 19) (by decide) (by decide +kernel) a h
theorem kf_Model_38 {a : Nat} (h : (qm_kd a).1 = 19) : (qm_kd (qm_rf a 38)).1 = 1 := qm_kfl (t := 19) (by decide) (by decide +kernel) a h
theorem kf_Model_39 {a : Nat} (h : (qm_kd a).1 = 19) : (qm_kd (qm_rf a 39)).1 = 1 := qm_kfl (t := 19) (by decide) (by decide +kernel) a h
theorem kf_Model_4 {a : Nat} (h : (qm_kd a).1 = 19) : (qm_kd (qm_rf a 4)).1 = 2 := qm_kfl (t := 19) (by decide) (by decide +kernel) a h
theorem kf_Model_40 {a : Nat} (h : (qm_kd a).1 = 19) : (qm_kd (qm_rf a 40)).1 = 1 := qm_kfl (t := 19) (by decide) (by decide +kernel) a h
theorem kf_Model_41 {a : Nat} (h : (qm_kd a).1 = 19) : (qm_kd (qm_rf a 41)).1 = 1 := qm_kfl (t := 19) (by decide) (by decide +kernel) a h
theorem kf_Model_42 {a : Nat} (h : (qm_kd a).1 = 19) : (qm_kd (qm_rf a 42)).1 = 1 := qm_kfl (t := 19) (by decide) (by decide +kernel) a h
theorem kf_Model_43 {a : Nat} (h : (qm_kd a).1 = 19) : (qm_kd (qm_rf a 43)).1 = 1 := qm_kfl (t := 19) (by decide) (by decide +kernel) a h
theorem kf_Model_44 {a : Nat} (h : (qm_kd a).1 = 19) : (qm_kd (qm_rf a 44)).1 = 3 := qm_kfl (t := 19) (by decide) (by decide +kernel) a h
theorem kf_Model_5 {a : Nat} (h : (qm_kd a).1 = 19) : (qm_kd (qm_rf a 5)).1 = 1 := qm_kfl (t := 19) (by decide) (by decide +kernel) a h
theorem kf_Model_50 {a : Nat} (h : (qm_kd a).1 = 19) : (qm_kd (qm_rf a 50)).1 = 1 := qm_kfl (t := 19) (by decide) (by decide +kernel) a h
theorem kf_Model_6 {a : Nat} (h : (qm_kd a).1 = 19) : (qm_kd (qm_rf a 6)).1 = 1 := qm_kfl (t := 19) (by decide) (by decide +kernel) a h
theorem kf_Model_7 {a : Nat} (h : (qm_kd a).1 = 19) : (qm_kd (qm_rf a 7)).1 = 1 := qm_kfl (t := 19) (by decide) (by decide +kernel) a h
theorem kf_Model_8 {a : Nat} (h : (qm_kd a).1 = 19) : (qm_kd (qm_rf a 8)).1 = 1 := qm_kfl (t := 19) (by decide) (by decide +kernel) a h
theorem kf_Model_9 {a : Nat} (h : (qm_kd a).1 = 19) : (qm_kd (qm_rf a 9)).1 = 1 := qm_kfl (t := 19) (by decide) (by decide +kernel) a h
theorem kf_Past_0 {a : Nat} (h : (qm_kd a).1 = 12) : (qm_kd (qm_rf a 0)).1 = 5 := qm_kfl (t := 12) (by decide) (by decide +kernel) a h
theorem kf_Press_0 {a : Nat} (h : (qm_kd a).1 = 13) : (qm_kd (qm_rf a 0)).1 = 14 := qm_kfl (t := 13) (by decide) (by decide +kernel) a h
theorem kf_Press_1 {a : Nat} (h : (qm_kd a).1 = 13) : (qm_kd (qm_rf a 1)).1 = 11 := qm_kfl (t := 13) (by decide) (by decide +kernel) a h
theorem kf_Press_11 {a : Nat} (h : (qm_kd a).1 = 13) : (qm_kd (qm_rf a 11)).1 = 1 := qm_kfl (t := 13) (by decide) (by decide +kernel) a h
theorem kf_Press_12 {a : Nat} (h : (qm_kd a).1 = 13) : (qm_kd (qm_rf a 12)).1 = 1 := qm_kfl (t := 13) (by decide) (by decide +kernel) a h
theorem kf_Press_2 {a : Nat} (h : (qm_kd a).1 = 13) : (qm_kd (qm_rf a 2)).1 = 10 := qm_kfl (t := 13) (by decide) (by decide +kernel) a h
theorem kf_Press_3 {a : Nat} (h : (qm_kd a).1 = 13) : (qm_kd (qm_rf a 3)).1 = 4 := qm_kfl (t := 13) (by decide) (by decide +kernel) a h
theorem kf_Run_1 {a : Nat} (h : (qm_kd a).1 = 14) : (qm_kd (qm_rf a 1)).1 = 1 := qm_kfl (t := 14) (by decide) (by decide +kernel) a h
theorem kf_Run_2 {a : Nat} (h : (qm_kd a).1 = 14) : (qm_kd (qm_rf a 2)).1 = 1 := qm_kfl (t := 14) (by decide) (by decide +kernel) a h
theorem kf_Tape_0 {a : Nat} (h : (qm_kd a).1 = 15) : (qm_kd (qm_rf a 0)).1 = 1 := qm_kfl (t := 15) (by decide) (by decide +kernel) a h
theorem kf_Teller_0 {a : Nat} (h : (qm_kd a).1 = 16) : (qm_kd (qm_rf a 0)).1 = 15 := qm_kfl (t := 16) (by decide) (by decide +kernel) a h
theorem kf_Teller_1 {a : Nat} (h : (qm_kd a).1 = 16) : (qm_kd (qm_rf a 1)).1 = 14 := qm_kfl (t := 16) (by decide) (by decide +kernel) a h
theorem kf_Teller_2 {a : Nat} (h : (qm_kd a).1 = 16) : (qm_kd (qm_rf a 2)).1 = 1 := qm_kfl (t := 16) (by decide) (by decide +kernel) a h
theorem kf_Teller_3 {a : Nat} (h : (qm_kd a).1 = 16) : (qm_kd (qm_rf a 3)).1 = 1 := qm_kfl (t := 16) (by decide) (by decide +kernel) a h
theorem kf_Teller_4 {a : Nat} (h : (qm_kd a).1 = 16) : (qm_kd (qm_rf a 4)).1 = 1 := qm_kfl (t := 16) (by decide) (by decide +kernel) a h
theorem kf_Top_0 {a : Nat} (h : (qm_kd a).1 = 18) : (qm_kd (qm_rf a 0)).1 = 14 := qm_kfl (t := 18) (by decide) (by decide +kernel) a h
theorem kf_Top_1 {a : Nat} (h : (qm_kd a).1 = 18) : (qm_kd (qm_rf a 1)).1 = 15 := qm_kfl (t := 18) (by decide) (by decide +kernel) a h
theorem kf_Top_3 {a : Nat} (h : (qm_kd a).1 = 18) : (qm_kd (qm_rf a 3)).1 = 12 := qm_kfl (t := 18) (by decide) (by decide +kernel) a h
theorem kf_Top_4 {a : Nat} (h : (qm_kd a).1 = 18) : (qm_kd (qm_rf a 4)).1 = 5 := qm_kfl (t := 18) (by decide) (by decide +kernel) a h
theorem kf_Top_6 {a : Nat} (h : (qm_kd a).1 = 18) : (qm_kd (qm_rf a 6)).1 = 13 := qm_kfl (t := 18) (by decide) (by decide +kernel) a h
theorem kf_Top_7 {a : Nat} (h : (qm_kd a).1 = 18) : (qm_kd (qm_rf a 7)).1 = 13 := qm_kfl (t := 18) (by decide) (by decide +kernel) a h
theorem kf_Top_8 {a : Nat} (h : (qm_kd a).1 = 18) : (qm_kd (qm_rf a 8)).1 = 17 := qm_kfl (t := 18) (by decide) (by decide +kernel) a h
theorem kf_Walker_0 {a : Nat} (h : (qm_kd a).1 = 17) : (qm_kd (qm_rf a 0)).1 = 11 := qm_kfl (t := 17) (by decide) (by decide +kernel) a h
theorem kf_Walker_1 {a : Nat} (h : (qm_kd a).1 = 17) : (qm_kd (qm_rf a 1)).1 = 10 := qm_kfl (t := 17) (by decide) (by decide +kernel) a h
theorem kf_Walker_2 {a : Nat} (h : (qm_kd a).1 = 17) : (qm_kd (qm_rf a 2)).1 = 4 := qm_kfl (t := 17) (by decide) (by decide +kernel) a h
theorem kf_Walker_3 {a : Nat} (h : (qm_kd a).1 = 17) : (qm_kd (qm_rf a 3)).1 = 4 := qm_kfl (t := 17) (by decide) (by decide +kernel) a h
theorem kl_Model_127 : Cond.constantLong qr_Model 127 7 ∈ qm_tb := qm_good (List.mem_of_getElem? (i := 1521) (by decide +kernel)) rfl
theorem kl_Model_260 : Cond.constantLong qr_Model 260 2 ∈ qm_tb := qm_good (List.mem_of_getElem? (i := 1436) (by decide +kernel)) rfl
theorem kl_Model_271 : Cond.constantLong qr_Model 271 3 ∈ qm_tb := qm_good (List.mem_of_getElem? (i := 1449) (by decide +kernel)) rfl
theorem kl_Model_282 : Cond.constantLong qr_Model 282 8 ∈ qm_tb := qm_good (List.mem_of_getElem? (i := 1474) (by decide +kernel)) rfl
theorem kl_Model_290 : Cond.constantLong qr_Model 290 2000 ∈ qm_tb := qm_good (List.mem_of_getElem? (i := 1495) (by decide +kernel)) rfl
theorem kl_Model_295 : Cond.constantLong qr_Model 295 5 ∈ qm_tb := qm_good (List.mem_of_getElem? (i := 1508) (by decide +kernel)) rfl
theorem kl_Model_310 : Cond.constantLong qr_Model 310 4 ∈ qm_tb := qm_good (List.mem_of_getElem? (i := 1540) (by decide +kernel)) rfl
theorem kl_Model_315 : Cond.constantLong qr_Model 315 40 ∈ qm_tb := qm_good (List.mem_of_getElem? (i := 1549) (by decide +kernel)) rfl
theorem kl_Model_380 : Cond.constantLong qr_Model 380 48 ∈ qm_tb := qm_good (List.mem_of_getElem? (i := 1679) (by decide +kernel)) rfl
theorem kl_Model_382 : Cond.constantLong qr_Model 382 57 ∈ qm_tb := qm_good (List.mem_of_getElem? (i := 1680) (by decide +kernel)) rfl
theorem kl_Model_496 : Cond.constantLong qr_Model 496 30 ∈ qm_tb := qm_good (List.mem_of_getElem? (i := 1748) (by decide +kernel)) rfl
theorem kl_Model_498 : Cond.constantLong qr_Model 498 10 ∈ qm_tb := qm_good (List.mem_of_getElem? (i := 1777) (by decide +kernel)) rfl
theorem kl_Model_500 : Cond.constantLong qr_Model 500 17 ∈ qm_tb := qm_good (List.mem_of_getElem? (i := 1778) (by decide +kernel)) rfl
