theorem PP_no {z : Int32 × Int64 × gSt} {P : Prop} (h : (none : gR) = some z) : P := by cases h
def mtH (l : Launch) (dC : Nat → ClassId) (dI : Nat → Nat → Nat) (ea ev ad : Nat → Nat) (km : Nat → ClassId) (F : gF) (d : Nat) : Prop := mt_House_feed l dC dI ea ev ad km F d ∧
  mt_House_addFour l dC dI ea ev ad km F d ∧
  mt_House_end l dC dI ea ev ad km F d ∧
  mt_House_build l dC dI ea ev ad km F d ∧
  mt_House_fault l dC dI ea ev ad km F d ∧
  mt_House_program l dC dI ea ev ad km F d ∧
  mt_House_start l dC dI ea ev ad km F d ∧
  mt_House_input l dC dI ea ev ad km F d ∧
  mt_House_run l dC dI ea ev ad km F d ∧
  mt_House_state l dC dI ea ev ad km F d ∧
  mt_House_world l dC dI ea ev ad km F d ∧
  mt_House_region l dC dI ea ev ad km F d ∧
  mt_House_printed l dC dI ea ev ad km F d ∧
  mt_Source_scan l dC dI ea ev ad km F d ∧
  mt_Source_kindAt l dC dI ea ev ad km F d ∧
  mt_Source_startOf l dC dI ea ev ad km F d ∧
  mt_Source_nameAt l dC dI ea ev ad km F d ∧
  mt_Source_addNode l dC dI ea ev ad km F d ∧
  mt_Source_bare l dC dI ea ev ad km F d ∧
  mt_Source_bareTerm l dC dI ea ev ad km F d ∧
  mt_Source_isBareParen l dC dI ea ev ad km F d ∧
  mt_Source_lastTail l dC dI ea ev ad km F d ∧
  mt_Source_beginOf l dC dI ea ev ad km F d ∧
  mt_Source_countPeers l dC dI ea ev ad km F d ∧
  mt_Source_countRegions l dC dI ea ev ad km F d ∧
  mt_Items_tokOfPart l dC dI ea ev ad km F d ∧
  mt_Items_typeOfPart l dC dI ea ev ad km F d ∧
  mt_Items_placeOfPart l dC dI ea ev ad km F d ∧
  mt_Items_addPart l dC dI ea ev ad km F d ∧
  mt_Items_setPart l dC dI ea ev ad km F d ∧
  mt_Items_addPair l dC dI ea ev ad km F d ∧
  mt_Items_upperOf l dC dI ea ev ad km F d ∧
  mt_Items_lowerOf l dC dI ea ev ad km F d ∧
  mt_Items_isPart l dC dI ea ev ad km F d ∧
  mt_Items_find l dC dI ea ev ad km F d ∧
  mt_Code_clear l dC dI ea ev ad km F d ∧
  mt_Code_note l dC dI ea ev ad km F d ∧
  mt_Code_isSound l dC dI ea ev ad km F d ∧
  mt_Code_tally l dC dI ea ev ad km F d ∧
  mt_Code_count l dC dI ea ev ad km F d ∧
  mt_Code_emit l dC dI ea ev ad km F d ∧
  mt_Code_aim l dC dI ea ev ad km F d ∧
  mt_Code_has l dC dI ea ev ad km F d ∧
  mt_Code_opAt l dC dI ea ev ad km F d ∧
  mt_Code_firstAt l dC dI ea ev ad km F d ∧
  mt_Code_secondAt l dC dI ea ev ad km F d ∧
  mt_Parser_parse l dC dI ea ev ad km F d ∧
  mt_Parser_advance l dC dI ea ev ad km F d ∧
  mt_Parser_accept l dC dI ea ev ad km F d ∧
  mt_Parser_need l dC dI ea ev ad km F d ∧
  mt_Parser_stop l dC dI ea ev ad km F d ∧
  mt_Parser_parseHead l dC dI ea ev ad km F d ∧
  mt_Parser_parseRegions l dC dI ea ev ad km F d ∧
  mt_Parser_parseFields l dC dI ea ev ad km F d ∧
  mt_Parser_parsePart l dC dI ea ev ad km F d ∧
  mt_Parser_parseFun l dC dI ea ev ad km F d ∧
  mt_Parser_parseParameters l dC dI ea ev ad km F d ∧
  mt_Parser_parseWhere l dC dI ea ev ad km F d ∧
  mt_Parser_parseType l dC dI ea ev ad km F d ∧
  mt_Parser_parseBlock l dC dI ea ev ad km F d ∧
  mt_Parser_parseStep l dC dI ea ev ad km F d ∧
  mt_Parser_parseVar l dC dI ea ev ad km F d ∧
  mt_Parser_parseChoice l dC dI ea ev ad km F d ∧
  mt_Parser_parseRegionStep l dC dI ea ev ad km F d ∧
  mt_Parser_parseTry l dC dI ea ev ad km F d ∧
  mt_Parser_parseWordStep l dC dI ea ev ad km F d ∧
  mt_Parser_parsePlain l dC dI ea ev ad km F d ∧
  mt_Parser_parseExpr l dC dI ea ev ad km F d ∧
  mt_Parser_seesOperator l dC dI ea ev ad km F d ∧
  mt_Parser_parseTerm l dC dI ea ev ad km F d ∧
  mt_Parser_parseTail l dC dI ea ev ad km F d ∧
  mt_Parser_parsePrimary l dC dI ea ev ad km F d ∧
  mt_Parser_parseNew l dC dI ea ev ad km F d ∧
  mt_Parser_parseMaking l dC dI ea ev ad km F d ∧
  mt_Parser_parseArguments l dC dI ea ev ad km F d ∧
  mt_Types_clear l dC dI ea ev ad km F d ∧
  mt_Types_keep l dC dI ea ev ad km F d ∧
  mt_Types_pointer l dC dI ea ev ad km F d ∧
  mt_Types_thing l dC dI ea ev ad km F d ∧
  mt_Types_keyOf l dC dI ea ev ad km F d ∧
  mt_Types_kindOf l dC dI ea ev ad km F d ∧
  mt_Types_regionOf l dC dI ea ev ad km F d ∧
  mt_Types_behind l dC dI ea ev ad km F d ∧
  mt_Types_titleBehind l dC dI ea ev ad km F d ∧
  mt_Types_regionsBehind l dC dI ea ev ad km F d ∧
  mt_Types_isPointed l dC dI ea ev ad km F d ∧
  mt_Types_wordsOf l dC dI ea ev ad km F d ∧
  mt_Types_told l dC dI ea ev ad km F d ∧
  mt_Types_toldAll l dC dI ea ev ad km F d ∧
  mt_Types_toldOne l dC dI ea ev ad km F d ∧
  mt_Scope_enterHead l dC dI ea ev ad km F d ∧
  mt_Scope_enterFun l dC dI ea ev ad km F d ∧
  mt_Scope_findRegion l dC dI ea ev ad km F d ∧
  mt_Scope_openRegion l dC dI ea ev ad km F d ∧
  mt_Scope_leaveRegion l dC dI ea ev ad km F d ∧
  mt_Scope_mayClose l dC dI ea ev ad km F d ∧
  mt_Scope_isLive l dC dI ea ev ad km F d ∧
  mt_Scope_setLive l dC dI ea ev ad km F d ∧
  mt_Scope_outlives l dC dI ea ev ad km F d ∧
  mt_Scope_aboveBit l dC dI ea ev ad km F d ∧
  mt_Scope_varsSeen l dC dI ea ev ad km F d ∧
  mt_Scope_forgetVars l dC dI ea ev ad km F d ∧
  mt_Scope_findVar l dC dI ea ev ad km F d ∧
  mt_Scope_addVar l dC dI ea ev ad km F d ∧
  mt_Scope_typeOf l dC dI ea ev ad km F d ∧
  mt_Scope_slotOf l dC dI ea ev ad km F d ∧
  mt_Scope_isReached l dC dI ea ev ad km F d ∧
  mt_Scope_leave l dC dI ea ev ad km F d ∧
  mt_Scope_isSet l dC dI ea ev ad km F d ∧
  mt_Scope_isKnown l dC dI ea ev ad km F d ∧
  mt_Scope_give l dC dI ea ev ad km F d ∧
  mt_Scope_know l dC dI ea ev ad km F d ∧
  mt_Scope_forgetKnown l dC dI ea ev ad km F d ∧
  mt_Scope_sameLive l dC dI ea ev ad km F d ∧
  mt_Scope_meet l dC dI ea ev ad km F d ∧
  mt_Heads_check l dC dI ea ev ad km F d ∧
  mt_Heads_mainName l dC dI ea ev ad km F d ∧
  mt_Heads_checkHead l dC dI ea ev ad km F d ∧
  mt_Heads_checkParts l dC dI ea ev ad km F d ∧
  mt_Heads_findPart l dC dI ea ev ad km F d ∧
  mt_Heads_readDead l dC dI ea ev ad km F d ∧
  mt_Heads_readWhere l dC dI ea ev ad km F d ∧
  mt_Heads_closed l dC dI ea ev ad km F d ∧
  mt_Heads_ownRegion l dC dI ea ev ad km F d ∧
  mt_Heads_readRegion l dC dI ea ev ad km F d ∧
  mt_Heads_readRegions l dC dI ea ev ad km F d ∧
  mt_Heads_readType l dC dI ea ev ad km F d ∧
  mt_Heads_readTitle l dC dI ea ev ad km F d ∧
  mt_Exprs_check l dC dI ea ev ad km F d ∧
  mt_Exprs_checkFits l dC dI ea ev ad km F d ∧
  mt_Exprs_demandFit l dC dI ea ev ad km F d ∧
  mt_Exprs_demand l dC dI ea ev ad km F d ∧
  mt_Exprs_lackOf l dC dI ea ev ad km F d ∧
  mt_Exprs_checkOperator l dC dI ea ev ad km F d ∧
  mt_Exprs_mayCompare l dC dI ea ev ad km F d ∧
  mt_Exprs_checkComparison l dC dI ea ev ad km F d ∧
  mt_Exprs_instructionOf l dC dI ea ev ad km F d ∧
  mt_Exprs_checkTerm l dC dI ea ev ad km F d ∧
  mt_Exprs_checkPlace l dC dI ea ev ad km F d ∧
  mt_Exprs_checkField l dC dI ea ev ad km F d ∧
  mt_Exprs_emitPointed l dC dI ea ev ad km F d ∧
  mt_Exprs_countNull l dC dI ea ev ad km F d ∧
  mt_Exprs_checkIndex l dC dI ea ev ad km F d ∧
  mt_Exprs_checkCell l dC dI ea ev ad km F d ∧
  mt_Exprs_checkIs l dC dI ea ev ad km F d ∧
  mt_Exprs_checkPrimary l dC dI ea ev ad km F d ∧
  mt_Exprs_checkName l dC dI ea ev ad km F d ∧
  mt_Exprs_solidOf l dC dI ea ev ad km F d ∧
  mt_Exprs_checkCall l dC dI ea ev ad km F d ∧
  mt_Exprs_checkParts l dC dI ea ev ad km F d ∧
  mt_Exprs_checkWhere l dC dI ea ev ad km F d ∧
  mt_Exprs_readLiveRegion l dC dI ea ev ad km F d ∧
  mt_Exprs_checkNew l dC dI ea ev ad km F d ∧
  mt_Exprs_makeUnion l dC dI ea ev ad km F d ∧
  mt_Exprs_makeStruct l dC dI ea ev ad km F d ∧
  mt_Exprs_checkNewCell l dC dI ea ev ad km F d ∧
  mt_Exprs_checkNewRow l dC dI ea ev ad km F d ∧
  mt_Exprs_checkValue l dC dI ea ev ad km F d ∧
  mt_Exprs_checkAddress l dC dI ea ev ad km F d ∧
  mt_Exprs_checkSolid l dC dI ea ev ad km F d ∧
  mt_Exprs_checkSize l dC dI ea ev ad km F d ∧
  mt_Exprs_storePlace l dC dI ea ev ad km F d ∧
  mt_Exprs_storeVar l dC dI ea ev ad km F d ∧
  mt_Exprs_giveVar l dC dI ea ev ad km F d ∧
  mt_Exprs_varAlone l dC dI ea ev ad km F d ∧
  mt_Exprs_varAgainstNull l dC dI ea ev ad km F d ∧
  mt_Exprs_varOfTerm l dC dI ea ev ad km F d ∧
  mt_Steps_check l dC dI ea ev ad km F d ∧
  mt_Steps_checkFun l dC dI ea ev ad km F d ∧
  mt_Steps_checkBlock l dC dI ea ev ad km F d ∧
  mt_Steps_checkStep l dC dI ea ev ad km F d ∧
  mt_Steps_checkNumber l dC dI ea ev ad km F d ∧
  mt_Steps_checkVar l dC dI ea ev ad km F d ∧
  mt_Steps_checkReturn l dC dI ea ev ad km F d ∧
  mt_Steps_checkQuestion l dC dI ea ev ad km F d ∧
  mt_Steps_checkIf l dC dI ea ev ad km F d ∧
  mt_Steps_checkWhile l dC dI ea ev ad km F d ∧
  mt_Steps_checkRegion l dC dI ea ev ad km F d ∧
  mt_Steps_checkClose l dC dI ea ev ad km F d ∧
  mt_Steps_checkTry l dC dI ea ev ad km F d ∧
  mt_Steps_varsGiven l dC dI ea ev ad km F d ∧
  mt_Machine_halt l dC dI ea ev ad km F d ∧
  mt_Machine_begin l dC dI ea ev ad km F d ∧
  mt_Machine_takeInput l dC dI ea ev ad km F d ∧
  mt_Machine_doSteps l dC dI ea ev ad km F d ∧
  mt_Machine_goOn l dC dI ea ev ad km F d ∧
  mt_Machine_push l dC dI ea ev ad km F d ∧
  mt_Machine_pop l dC dI ea ev ad km F d ∧
  mt_Machine_wordAt l dC dI ea ev ad km F d ∧
  mt_Machine_setWord l dC dI ea ev ad km F d ∧
  mt_Machine_frame l dC dI ea ev ad km F d ∧
  mt_Machine_setFrame l dC dI ea ev ad km F d ∧
  mt_Machine_doSimple l dC dI ea ev ad km F d ∧
  mt_Machine_nextInput l dC dI ea ev ad km F d ∧
  mt_Machine_keepPrinted l dC dI ea ev ad km F d ∧
  mt_Machine_doNumeric l dC dI ea ev ad km F d ∧
  mt_Machine_doPointed l dC dI ea ev ad km F d ∧
  mt_Machine_fetch l dC dI ea ev ad km F d ∧
  mt_Machine_store l dC dI ea ev ad km F d ∧
  mt_Machine_doIndexed l dC dI ea ev ad km F d ∧
  mt_Machine_doMaking l dC dI ea ev ad km F d ∧
  mt_Machine_makeRow l dC dI ea ev ad km F d ∧
  mt_Machine_placeFor l dC dI ea ev ad km F d ∧
  mt_Machine_doControl l dC dI ea ev ad km F d ∧
  mt_Machine_pushTry l dC dI ea ev ad km F d ∧
  mt_Machine_raise l dC dI ea ev ad km F d ∧
  mt_Machine_enter l dC dI ea ev ad km F d ∧
  mt_Machine_leave l dC dI ea ev ad km F d ∧
  mt_Machine_placeOfStep l dC dI ea ev ad km F d ∧
  mt_Machine_tell l dC dI ea ev ad km F d ∧
  mt_Machine_printedAt l dC dI ea ev ad km F d ∧
  mt_Memory_begin l dC dI ea ev ad km F d ∧
  mt_Memory_pageWords l dC dI ea ev ad km F d ∧
  mt_Memory_pagesInUse l dC dI ea ev ad km F d ∧
  mt_Memory_regionCount l dC dI ea ev ad km F d ∧
  mt_Memory_objectsMade l dC dI ea ev ad km F d ∧
  mt_Memory_strayTouches l dC dI ea ev ad km F d ∧
  mt_Memory_open l dC dI ea ev ad km F d ∧
  mt_Memory_closeFrom l dC dI ea ev ad km F d ∧
  mt_Memory_make l dC dI ea ev ad km F d ∧
  mt_Memory_freePage l dC dI ea ev ad km F d ∧
  mt_Memory_takePage l dC dI ea ev ad km F d ∧
  mt_Memory_get l dC dI ea ev ad km F d ∧
  mt_Memory_put l dC dI ea ev ad km F d ∧
  mt_Memory_isOwned l dC dI ea ev ad km F d ∧
  mt_Memory_tellRegion l dC dI ea ev ad km F d ∧
  mt_Exprs_nameAlone l dC dI ea ev ad km F d
set_option maxHeartbeats 8000000 in
set_option maxRecDepth 100000 in
theorem PP_ok (l : Launch) (dC : Nat → ClassId) (dI : Nat → Nat → Nat) (ea ev ad : Nat → Nat) (km : Nat → ClassId) (nf : Nat) : ∀ d, mtH l dC dI ea ev ad km (PP nf d) d := by
  intro d
  induction d with
  | zero =>
    exact ⟨fun T p1 p2 p3 p4 p5 r rl T'  h => PP_no h,
    fun T p1 r rl T'  h => PP_no h,
    fun T p1 r rl T'  h => PP_no h,
    fun T  r rl T'  h => PP_no h,
    fun T p1 r rl T'  h => PP_no h,
    fun T p1 r rl T'  h => PP_no h,
    fun T p1 p2 r rl T'  h => PP_no h,
    fun T p1 r rl T'  h => PP_no h,
    fun T p1 r rl T'  h => PP_no h,
    fun T p1 r rl T'  h => PP_no h,
    fun T p1 r rl T'  h => PP_no h,
    fun T p1 p2 r rl T'  h => PP_no h,
    fun T p1 r rl T'  h => PP_no h,
    fun T p2 r rl T'  h => PP_no h,
    fun T p1 r rl T'  h => PP_no h,
    fun T p1 r rl T'  h => PP_no h,
    fun T p1 r rl T'  h => PP_no h,
    fun T p1 p2 r rl T'  h => PP_no h,
    fun T p1 r rl T'  h => PP_no h,
    fun T p1 r rl T'  h => PP_no h,
    fun T p1 r rl T'  h => PP_no h,
    fun T p1 r rl T'  h => PP_no h,
    fun T p1 r rl T'  h => PP_no h,
    fun T p1 r rl T'  h => PP_no h,
    fun T p1 r rl T'  h => PP_no h,
    fun T p1 p2 r rl T'  h => PP_no h,
    fun T p1 p2 r rl T'  h => PP_no h,
    fun T p1 p2 r rl T'  h => PP_no h,
    fun T p1 p2 r rl T'  h => PP_no h,
    fun T p1 p2 p3 p4 r rl T'  h => PP_no h,
    fun T p1 p2 p3 r rl T'  h => PP_no h,
    fun T p1 p2 r rl T'  h => PP_no h,
    fun T p1 p2 r rl T'  h => PP_no h,
    fun T p1 p2 r rl T'  h => PP_no h,
    fun T p1 p2 r rl T'  h => PP_no h,
    fun T  r rl T'  h => PP_no h,
    fun T p1 p2 r rl T'  h => PP_no h,
    fun T  r rl T'  h => PP_no h,
    fun T p1 r rl T'  h => PP_no h,
    fun T  r rl T'  h => PP_no h,
    fun T p1 p2 p3 r rl T'  h => PP_no h,
    fun T p1 r rl T'  h => PP_no h,
    fun T p1 r rl T'  h => PP_no h,
    fun T p1 r rl T'  h => PP_no h,
    fun T p1 r rl T'  h => PP_no h,
    fun T p1 r rl T'  h => PP_no h,
    fun T  r rl T'  h => PP_no h,
    fun T  r rl T'  h => PP_no h,
    fun T p1 r rl T'  h => PP_no h,
    fun T p1 r rl T'  h => PP_no h,
    fun T  r rl T'  h => PP_no h,
    fun T p1 r rl T'  h => PP_no h,
    fun T p1 r rl T'  h => PP_no h,
    fun T p1 r rl T'  h => PP_no h,
    fun T p1 r rl T'  h => PP_no h,
    fun T p1 r rl T'  h => PP_no h,
    fun T p1 r rl T'  h => PP_no h,
    fun T  r rl T'  h => PP_no h,
    fun T p1 p2 r rl T'  h => PP_no h,
    fun T p1 r rl T'  h => PP_no h,
    fun T p1 r rl T'  h => PP_no h,
    fun T p1 r rl T'  h => PP_no h,
    fun T p1 p2 r rl T'  h => PP_no h,
    fun T p1 p2 r rl T'  h => PP_no h,
    fun T p1 r rl T'  h => PP_no h,
    fun T p1 p2 r rl T'  h => PP_no h,
    fun T p1 r rl T'  h => PP_no h,
    fun T p1 r rl T'  h => PP_no h,
    fun T  r rl T'  h => PP_no h,
    fun T p1 r rl T'  h => PP_no h,
    fun T p1 r rl T'  h => PP_no h,
    fun T p1 r rl T'  h => PP_no h,
    fun T p1 p2 r rl T'  h => PP_no h,
    fun T p1 p2 p3 r rl T'  h => PP_no h,
    fun T p1 p2 r rl T'  h => PP_no h,
    fun T  r rl T'  h => PP_no h,
    fun T p1 r rl T'  h => PP_no h,
    fun T p1 p2 p3 r rl T'  h => PP_no h,
    fun T p1 p2 r rl T'  h => PP_no h,
    fun T p1 r rl T'  h => PP_no h,
    fun T p1 r rl T'  h => PP_no h,
    fun T p1 r rl T'  h => PP_no h,
    fun T p1 r rl T'  h => PP_no h,
    fun T p1 r rl T'  h => PP_no h,
    fun T p1 r rl T'  h => PP_no h,
    fun T p1 r rl T'  h => PP_no h,
    fun T p1 r rl T'  h => PP_no h,
    fun T p1 p2 p3 r rl T'  h => PP_no h,
    fun T p1 p2 r rl T'  h => PP_no h,
    fun T p1 p2 r rl T'  h => PP_no h,
    fun T p1 r rl T'  h => PP_no h,
    fun T p1 r rl T'  h => PP_no h,
    fun T p1 r rl T'  h => PP_no h,
    fun T p1 r rl T'  h => PP_no h,
    fun T p1 r rl T'  h => PP_no h,
    fun T p1 r rl T'  h => PP_no h,
    fun T p1 r rl T'  h => PP_no h,
    fun T p1 p2 r rl T'  h => PP_no h,
    fun T p1 p2 r rl T'  h => PP_no h,
    fun T p1 p2 r rl T'  h => PP_no h,
    fun T  r rl T'  h => PP_no h,
    fun T p1 r rl T'  h => PP_no h,
    fun T p1 r rl T'  h => PP_no h,
    fun T p1 p2 r rl T'  h => PP_no h,
    fun T p1 r rl T'  h => PP_no h,
    fun T p1 r rl T'  h => PP_no h,
    fun T  r rl T'  h => PP_no h,
    fun T  r rl T'  h => PP_no h,
    fun T p1 r rl T'  h => PP_no h,
    fun T p1 r rl T'  h => PP_no h,
    fun T p1 p2 r rl T'  h => PP_no h,
    fun T p1 r rl T'  h => PP_no h,
    fun T p1 r rl T'  h => PP_no h,
    fun T p1 p2 r rl T'  h => PP_no h,
    fun T p1 p2 r rl T'  h => PP_no h,
    fun T  r rl T'  h => PP_no h,
    fun T  r rl T'  h => PP_no h,
    fun T p1 r rl T'  h => PP_no h,
    fun T p1 r rl T'  h => PP_no h,
    fun T p1 p2 r rl T'  h => PP_no h,
    fun T p1 r rl T'  h => PP_no h,
    fun T p1 r rl T'  h => PP_no h,
    fun T p1 r rl T'  h => PP_no h,
    fun T p1 r rl T'  h => PP_no h,
    fun T p1 r rl T'  h => PP_no h,
    fun T p1 p2 r rl T'  h => PP_no h,
    fun T p1 p2 r rl T'  h => PP_no h,
    fun T p1 r rl T'  h => PP_no h,
    fun T p1 p2 r rl T'  h => PP_no h,
    fun T p1 p2 p3 r rl T'  h => PP_no h,
    fun T p1 p2 p3 r rl T'  h => PP_no h,
    fun T p1 p2 p3 r rl T'  h => PP_no h,
    fun T p1 p2 r rl T'  h => PP_no h,
    fun T p1 p2 p3 p4 r rl T'  h => PP_no h,
    fun T p1 r rl T'  h => PP_no h,
    fun T p1 p2 p3 p4 r rl T'  h => PP_no h,
    fun T p1 r rl T'  h => PP_no h,
    fun T p1 p2 p3 r rl T'  h => PP_no h,
    fun T p1 p2 p3 p4 p5 r rl T'  h => PP_no h,
    fun T p1 p2 p3 p4 r rl T'  h => PP_no h,
    fun T p1 p2 p3 r rl T'  h => PP_no h,
    fun T p1 r rl T'  h => PP_no h,
    fun T p1 p2 p3 p4 p5 r rl T'  h => PP_no h,
    fun T p1 p2 p3 r rl T'  h => PP_no h,
    fun T p1 p2 p3 r rl T'  h => PP_no h,
    fun T p1 p2 r rl T'  h => PP_no h,
    fun T p1 r rl T'  h => PP_no h,
    fun T p1 r rl T'  h => PP_no h,
    fun T p1 p2 r rl T'  h => PP_no h,
    fun T p1 p2 p3 p4 r rl T'  h => PP_no h,
    fun T p1 p2 p3 r rl T'  h => PP_no h,
    fun T p1 r rl T'  h => PP_no h,
    fun T p1 p2 r rl T'  h => PP_no h,
    fun T p1 p2 p3 p4 r rl T'  h => PP_no h,
    fun T p1 p2 p3 p4 r rl T'  h => PP_no h,
    fun T p1 p2 r rl T'  h => PP_no h,
    fun T p1 p2 r rl T'  h => PP_no h,
    fun T p1 p2 r rl T'  h => PP_no h,
    fun T p1 p2 r rl T'  h => PP_no h,
    fun T p1 p2 r rl T'  h => PP_no h,
    fun T p1 p2 r rl T'  h => PP_no h,
    fun T p1 p2 p3 p4 r rl T'  h => PP_no h,
    fun T p1 p2 p3 r rl T'  h => PP_no h,
    fun T p1 p2 r rl T'  h => PP_no h,
    fun T p1 r rl T'  h => PP_no h,
    fun T p1 r rl T'  h => PP_no h,
    fun T p1 r rl T'  h => PP_no h,
    fun T  r rl T'  h => PP_no h,
    fun T p1 r rl T'  h => PP_no h,
    fun T p1 p2 r rl T'  h => PP_no h,
    fun T p1 p2 r rl T'  h => PP_no h,
    fun T p1 p2 r rl T'  h => PP_no h,
    fun T p1 p2 r rl T'  h => PP_no h,
    fun T p1 p2 r rl T'  h => PP_no h,
    fun T p1 p2 r rl T'  h => PP_no h,
    fun T p1 p2 r rl T'  h => PP_no h,
    fun T p1 p2 r rl T'  h => PP_no h,
    fun T p1 p2 r rl T'  h => PP_no h,
    fun T p1 r rl T'  h => PP_no h,
    fun T p1 p2 r rl T'  h => PP_no h,
    fun T p1 p2 r rl T'  h => PP_no h,
    fun T  r rl T'  h => PP_no h,
    fun T p1 p2 r rl T'  h => PP_no h,
    fun T p1 r rl T'  h => PP_no h,
    fun T p1 r rl T'  h => PP_no h,
    fun T  r rl T'  h => PP_no h,
    fun T p1 r rl T'  h => PP_no h,
    fun T  r rl T'  h => PP_no h,
    fun T p1 r rl T'  h => PP_no h,
    fun T p1 p2 r rl T'  h => PP_no h,
    fun T p1 r rl T'  h => PP_no h,
    fun T p1 p2 r rl T'  h => PP_no h,
    fun T p1 p2 p3 r rl T'  h => PP_no h,
    fun T  r rl T'  h => PP_no h,
    fun T p1 r rl T'  h => PP_no h,
    fun T p1 r rl T'  h => PP_no h,
    fun T p1 p2 p3 r rl T'  h => PP_no h,
    fun T p1 p2 r rl T'  h => PP_no h,
    fun T p1 p2 r rl T'  h => PP_no h,
    fun T p1 p2 r rl T'  h => PP_no h,
    fun T p1 p2 p3 r rl T'  h => PP_no h,
    fun T p1 p2 r rl T'  h => PP_no h,
    fun T p1 p2 p3 r rl T'  h => PP_no h,
    fun T p1 p2 p3 r rl T'  h => PP_no h,
    fun T p1 r rl T'  h => PP_no h,
    fun T p1 r rl T'  h => PP_no h,
    fun T p1 p2 r rl T'  h => PP_no h,
    fun T p1 r rl T'  h => PP_no h,
    fun T  r rl T'  h => PP_no h,
    fun T p1 r rl T'  h => PP_no h,
    fun T p1 r rl T'  h => PP_no h,
    fun T p1 p2 r rl T'  h => PP_no h,
    fun T  r rl T'  h => PP_no h,
    fun T  r rl T'  h => PP_no h,
    fun T  r rl T'  h => PP_no h,
    fun T  r rl T'  h => PP_no h,
    fun T  r rl T'  h => PP_no h,
    fun T  r rl T'  h => PP_no h,
    fun T p1 r rl T'  h => PP_no h,
    fun T p1 p2 r rl T'  h => PP_no h,
    fun T  r rl T'  h => PP_no h,
    fun T p1 p2 r rl T'  h => PP_no h,
    fun T p1 r rl T'  h => PP_no h,
    fun T p1 p2 r rl T'  h => PP_no h,
    fun T p1 r rl T'  h => PP_no h,
    fun T p1 p2 r rl T'  h => PP_no h,
    fun T p1 r rl T'  h => PP_no h⟩
  | succ d ih =>
    obtain ⟨h_House_feed, h_House_addFour, h_House_end, h_House_build, h_House_fault, h_House_program, h_House_start, h_House_input, h_House_run, h_House_state, h_House_world, h_House_region, h_House_printed, h_Source_scan, h_Source_kindAt, h_Source_startOf, h_Source_nameAt, h_Source_addNode, h_Source_bare, h_Source_bareTerm, h_Source_isBareParen, h_Source_lastTail, h_Source_beginOf, h_Source_countPeers, h_Source_countRegions, h_Items_tokOfPart, h_Items_typeOfPart, h_Items_placeOfPart, h_Items_addPart, h_Items_setPart, h_Items_addPair, h_Items_upperOf, h_Items_lowerOf, h_Items_isPart, h_Items_find, h_Code_clear, h_Code_note, h_Code_isSound, h_Code_tally, h_Code_count, h_Code_emit, h_Code_aim, h_Code_has, h_Code_opAt, h_Code_firstAt, h_Code_secondAt, h_Parser_parse, h_Parser_advance, h_Parser_accept, h_Parser_need, h_Parser_stop, h_Parser_parseHead, h_Parser_parseRegions, h_Parser_parseFields, h_Parser_parsePart, h_Parser_parseFun, h_Parser_parseParameters, h_Parser_parseWhere, h_Parser_parseType, h_Parser_parseBlock, h_Parser_parseStep, h_Parser_parseVar, h_Parser_parseChoice, h_Parser_parseRegionStep, h_Parser_parseTry, h_Parser_parseWordStep, h_Parser_parsePlain, h_Parser_parseExpr, h_Parser_seesOperator, h_Parser_parseTerm, h_Parser_parseTail, h_Parser_parsePrimary, h_Parser_parseNew, h_Parser_parseMaking, h_Parser_parseArguments, h_Types_clear, h_Types_keep, h_Types_pointer, h_Types_thing, h_Types_keyOf, h_Types_kindOf, h_Types_regionOf, h_Types_behind, h_Types_titleBehind, h_Types_regionsBehind, h_Types_isPointed, h_Types_wordsOf, h_Types_told, h_Types_toldAll, h_Types_toldOne, h_Scope_enterHead, h_Scope_enterFun, h_Scope_findRegion, h_Scope_openRegion, h_Scope_leaveRegion, h_Scope_mayClose, h_Scope_isLive, h_Scope_setLive, h_Scope_outlives, h_Scope_aboveBit, h_Scope_varsSeen, h_Scope_forgetVars, h_Scope_findVar, h_Scope_addVar, h_Scope_typeOf, h_Scope_slotOf, h_Scope_isReached, h_Scope_leave, h_Scope_isSet, h_Scope_isKnown, h_Scope_give, h_Scope_know, h_Scope_forgetKnown, h_Scope_sameLive, h_Scope_meet, h_Heads_check, h_Heads_mainName, h_Heads_checkHead, h_Heads_checkParts, h_Heads_findPart, h_Heads_readDead, h_Heads_readWhere, h_Heads_closed, h_Heads_ownRegion, h_Heads_readRegion, h_Heads_readRegions, h_Heads_readType, h_Heads_readTitle, h_Exprs_check, h_Exprs_checkFits, h_Exprs_demandFit, h_Exprs_demand, h_Exprs_lackOf, h_Exprs_checkOperator, h_Exprs_mayCompare, h_Exprs_checkComparison, h_Exprs_instructionOf, h_Exprs_checkTerm, h_Exprs_checkPlace, h_Exprs_checkField, h_Exprs_emitPointed, h_Exprs_countNull, h_Exprs_checkIndex, h_Exprs_checkCell, h_Exprs_checkIs, h_Exprs_checkPrimary, h_Exprs_checkName, h_Exprs_solidOf, h_Exprs_checkCall, h_Exprs_checkParts, h_Exprs_checkWhere, h_Exprs_readLiveRegion, h_Exprs_checkNew, h_Exprs_makeUnion, h_Exprs_makeStruct, h_Exprs_checkNewCell, h_Exprs_checkNewRow, h_Exprs_checkValue, h_Exprs_checkAddress, h_Exprs_checkSolid, h_Exprs_checkSize, h_Exprs_storePlace, h_Exprs_storeVar, h_Exprs_giveVar, h_Exprs_varAlone, h_Exprs_varAgainstNull, h_Exprs_varOfTerm, h_Steps_check, h_Steps_checkFun, h_Steps_checkBlock, h_Steps_checkStep, h_Steps_checkNumber, h_Steps_checkVar, h_Steps_checkReturn, h_Steps_checkQuestion, h_Steps_checkIf, h_Steps_checkWhile, h_Steps_checkRegion, h_Steps_checkClose, h_Steps_checkTry, h_Steps_varsGiven, h_Machine_halt, h_Machine_begin, h_Machine_takeInput, h_Machine_doSteps, h_Machine_goOn, h_Machine_push, h_Machine_pop, h_Machine_wordAt, h_Machine_setWord, h_Machine_frame, h_Machine_setFrame, h_Machine_doSimple, h_Machine_nextInput, h_Machine_keepPrinted, h_Machine_doNumeric, h_Machine_doPointed, h_Machine_fetch, h_Machine_store, h_Machine_doIndexed, h_Machine_doMaking, h_Machine_makeRow, h_Machine_placeFor, h_Machine_doControl, h_Machine_pushTry, h_Machine_raise, h_Machine_enter, h_Machine_leave, h_Machine_placeOfStep, h_Machine_tell, h_Machine_printedAt, h_Memory_begin, h_Memory_pageWords, h_Memory_pagesInUse, h_Memory_regionCount, h_Memory_objectsMade, h_Memory_strayTouches, h_Memory_open, h_Memory_closeFrom, h_Memory_make, h_Memory_freePage, h_Memory_takePage, h_Memory_get, h_Memory_put, h_Memory_isOwned, h_Memory_tellRegion, h_Exprs_nameAlone⟩ := ih
    exact ⟨fun T p1 p2 p3 p4 p5 r rl T'  h => sp_House_feed l dC dI ea ev ad km (PP nf d) nf d h_House_addFour T p1 p2 p3 p4 p5 r rl T' h,
    fun T p1 r rl T'  h => sp_House_addFour l dC dI ea ev ad km (PP nf d) nf d T p1 r rl T' h,
    fun T p1 r rl T'  h => sp_House_end l dC dI ea ev ad km (PP nf d) nf d T p1 r rl T' h,
    fun T  r rl T'  h => sp_House_build l dC dI ea ev ad km (PP nf d) nf d h_Machine_halt h_Code_clear h_Source_scan h_Parser_parse h_Code_isSound h_Steps_check h_Heads_check T r rl T' h,
    fun T p1 r rl T'  h => sp_House_fault l dC dI ea ev ad km (PP nf d) nf d T p1 r rl T' h,
    fun T p1 r rl T'  h => sp_House_program l dC dI ea ev ad km (PP nf d) nf d T p1 r rl T' h,
    fun T p1 p2 r rl T'  h => sp_House_start l dC dI ea ev ad km (PP nf d) nf d h_Machine_begin T p1 p2 r rl T' h,
    fun T p1 r rl T'  h => sp_House_input l dC dI ea ev ad km (PP nf d) nf d h_Machine_takeInput T p1 r rl T' h,
    fun T p1 r rl T'  h => sp_House_run l dC dI ea ev ad km (PP nf d) nf d h_Machine_doSteps T p1 r rl T' h,
    fun T p1 r rl T'  h => sp_House_state l dC dI ea ev ad km (PP nf d) nf d h_Machine_placeOfStep T p1 r rl T' h,
    fun T p1 r rl T'  h => sp_House_world l dC dI ea ev ad km (PP nf d) nf d h_Machine_tell T p1 r rl T' h,
    fun T p1 p2 r rl T'  h => sp_House_region l dC dI ea ev ad km (PP nf d) nf d h_Memory_tellRegion T p1 p2 r rl T' h,
    fun T p1 r rl T'  h => sp_House_printed l dC dI ea ev ad km (PP nf d) nf d h_Machine_printedAt T p1 r rl T' h,
    fun T p2 r rl T'  h => (by obtain ⟨hk, h2⟩ := gd_e (show gd (scanOk T p2) (some (0, 0, scanS T p2.toNatClampNeg)) = some (r, rl, T') from h); obtain ⟨-, -, e3⟩ := re_e h2; subst e3; have e := nI_back hk.1.1; have g := lift_scan l dC dI ea ev ad km (d + 1) T p2.toNatClampNeg (by have e2 : p2.toNatClampNeg = p2.toInt.toNat := rfl; omega) hk.2; rw [e] at g; exact g),
    fun T p1 r rl T'  h => sp_Source_kindAt l dC dI ea ev ad km (PP nf d) nf d T p1 r rl T' h,
    fun T p1 r rl T'  h => sp_Source_startOf l dC dI ea ev ad km (PP nf d) nf d T p1 r rl T' h,
    fun T p1 r rl T'  h => sp_Source_nameAt l dC dI ea ev ad km (PP nf d) nf d T p1 r rl T' h,
    fun T p1 p2 r rl T'  h => sp_Source_addNode l dC dI ea ev ad km (PP nf d) nf d T p1 p2 r rl T' h,
    fun T p1 r rl T'  h => sp_Source_bare l dC dI ea ev ad km (PP nf d) nf d h_Source_isBareParen T p1 r rl T' h,
    fun T p1 r rl T'  h => sp_Source_bareTerm l dC dI ea ev ad km (PP nf d) nf d h_Source_isBareParen h_Source_bare T p1 r rl T' h,
    fun T p1 r rl T'  h => sp_Source_isBareParen l dC dI ea ev ad km (PP nf d) nf d T p1 r rl T' h,
    fun T p1 r rl T'  h => sp_Source_lastTail l dC dI ea ev ad km (PP nf d) nf d T p1 r rl T' h,
    fun T p1 r rl T'  h => sp_Source_beginOf l dC dI ea ev ad km (PP nf d) nf d h_Source_startOf T p1 r rl T' h,
    fun T p1 r rl T'  h => sp_Source_countPeers l dC dI ea ev ad km (PP nf d) nf d T p1 r rl T' h,
    fun T p1 r rl T'  h => sp_Source_countRegions l dC dI ea ev ad km (PP nf d) nf d h_Source_kindAt T p1 r rl T' h,
    fun T p1 p2 r rl T'  h => sp_Items_tokOfPart l dC dI ea ev ad km (PP nf d) nf d h_Items_isPart T p1 p2 r rl T' h,
    fun T p1 p2 r rl T'  h => sp_Items_typeOfPart l dC dI ea ev ad km (PP nf d) nf d h_Items_isPart T p1 p2 r rl T' h,
    fun T p1 p2 r rl T'  h => sp_Items_placeOfPart l dC dI ea ev ad km (PP nf d) nf d h_Items_isPart T p1 p2 r rl T' h,
    fun T p1 p2 r rl T'  h => sp_Items_addPart l dC dI ea ev ad km (PP nf d) nf d T p1 p2 r rl T' h,
    fun T p1 p2 p3 p4 r rl T'  h => sp_Items_setPart l dC dI ea ev ad km (PP nf d) nf d h_Items_isPart T p1 p2 p3 p4 r rl T' h,
    fun T p1 p2 p3 r rl T'  h => sp_Items_addPair l dC dI ea ev ad km (PP nf d) nf d T p1 p2 p3 r rl T' h,
    fun T p1 p2 r rl T'  h => sp_Items_upperOf l dC dI ea ev ad km (PP nf d) nf d T p1 p2 r rl T' h,
    fun T p1 p2 r rl T'  h => sp_Items_lowerOf l dC dI ea ev ad km (PP nf d) nf d T p1 p2 r rl T' h,
    fun T p1 p2 r rl T'  h => sp_Items_isPart l dC dI ea ev ad km (PP nf d) nf d T p1 p2 r rl T' h,
    fun T p1 p2 r rl T'  h => sp_Items_find l dC dI ea ev ad km (PP nf d) nf d T p1 p2 r rl T' h,
    fun T  r rl T'  h => sp_Code_clear l dC dI ea ev ad km (PP nf d) nf d T r rl T' h,
    fun T p1 p2 r rl T'  h => sp_Code_note l dC dI ea ev ad km (PP nf d) nf d T p1 p2 r rl T' h,
    fun T  r rl T'  h => sp_Code_isSound l dC dI ea ev ad km (PP nf d) nf d T r rl T' h,
    fun T p1 r rl T'  h => sp_Code_tally l dC dI ea ev ad km (PP nf d) nf d T p1 r rl T' h,
    fun T  r rl T'  h => sp_Code_count l dC dI ea ev ad km (PP nf d) nf d T r rl T' h,
    fun T p1 p2 p3 r rl T'  h => sp_Code_emit l dC dI ea ev ad km (PP nf d) nf d T p1 p2 p3 r rl T' h,
    fun T p1 r rl T'  h => sp_Code_aim l dC dI ea ev ad km (PP nf d) nf d h_Code_has T p1 r rl T' h,
    fun T p1 r rl T'  h => sp_Code_has l dC dI ea ev ad km (PP nf d) nf d T p1 r rl T' h,
    fun T p1 r rl T'  h => sp_Code_opAt l dC dI ea ev ad km (PP nf d) nf d h_Code_has T p1 r rl T' h,
    fun T p1 r rl T'  h => sp_Code_firstAt l dC dI ea ev ad km (PP nf d) nf d h_Code_has T p1 r rl T' h,
    fun T p1 r rl T'  h => sp_Code_secondAt l dC dI ea ev ad km (PP nf d) nf d h_Code_has T p1 r rl T' h,
    fun T  r rl T'  h => sp_Parser_parse l dC dI ea ev ad km (PP nf d) nf d h_Source_kindAt h_Parser_parseHead h_Parser_parseFields h_Parser_parseFun T r rl T' h,
    fun T  r rl T'  h => sp_Parser_advance l dC dI ea ev ad km (PP nf d) nf d h_Source_kindAt T r rl T' h,
    fun T p1 r rl T'  h => sp_Parser_accept l dC dI ea ev ad km (PP nf d) nf d h_Parser_advance T p1 r rl T' h,
    fun T p1 r rl T'  h => sp_Parser_need l dC dI ea ev ad km (PP nf d) nf d h_Parser_stop h_Parser_advance T p1 r rl T' h,
    fun T  r rl T'  h => sp_Parser_stop l dC dI ea ev ad km (PP nf d) nf d h_Source_startOf h_Code_note T r rl T' h,
    fun T p1 r rl T'  h => sp_Parser_parseHead l dC dI ea ev ad km (PP nf d) nf d h_Parser_stop h_Parser_advance h_Source_nameAt h_Parser_need h_Parser_parseRegions T p1 r rl T' h,
    fun T p1 r rl T'  h => sp_Parser_parseRegions l dC dI ea ev ad km (PP nf d) nf d h_Parser_advance T p1 r rl T' h,
    fun T p1 r rl T'  h => sp_Parser_parseFields l dC dI ea ev ad km (PP nf d) nf d h_Parser_need h_Parser_parsePart h_Parser_stop T p1 r rl T' h,
    fun T p1 r rl T'  h => sp_Parser_parsePart l dC dI ea ev ad km (PP nf d) nf d h_Items_addPart h_Parser_need h_Parser_parseType T p1 r rl T' h,
    fun T p1 r rl T'  h => sp_Parser_parseFun l dC dI ea ev ad km (PP nf d) nf d h_Parser_need h_Parser_parseParameters h_Parser_accept h_Parser_parseType h_Parser_parseRegions h_Parser_parseWhere h_Parser_parseBlock T p1 r rl T' h,
    fun T p1 r rl T'  h => sp_Parser_parseParameters l dC dI ea ev ad km (PP nf d) nf d h_Parser_need h_Parser_stop h_Parser_parsePart h_Parser_accept T p1 r rl T' h,
    fun T  r rl T'  h => sp_Parser_parseWhere l dC dI ea ev ad km (PP nf d) nf d h_Parser_stop h_Parser_need h_Parser_accept T r rl T' h,
    fun T p1 p2 r rl T'  h => sp_Parser_parseType l dC dI ea ev ad km (PP nf d) nf d h_Parser_accept h_Parser_parseRegions h_Parser_stop h_Parser_need h_Parser_parseType T p1 p2 r rl T' h,
    fun T p1 r rl T'  h => sp_Parser_parseBlock l dC dI ea ev ad km (PP nf d) nf d h_Parser_need h_Parser_stop h_Parser_parseStep T p1 r rl T' h,
    fun T p1 r rl T'  h => sp_Parser_parseStep l dC dI ea ev ad km (PP nf d) nf d h_Parser_parseVar h_Parser_parseChoice h_Parser_parsePlain h_Parser_parseWordStep h_Parser_parseRegionStep h_Parser_parseTry T p1 r rl T' h,
    fun T p1 r rl T'  h => sp_Parser_parseVar l dC dI ea ev ad km (PP nf d) nf d h_Source_addNode h_Parser_advance h_Parser_stop h_Parser_need h_Parser_parseType h_Parser_accept h_Parser_parseExpr T p1 r rl T' h,
    fun T p1 p2 r rl T'  h => sp_Parser_parseChoice l dC dI ea ev ad km (PP nf d) nf d h_Source_addNode h_Parser_advance h_Parser_parseExpr h_Parser_parseBlock h_Parser_accept T p1 p2 r rl T' h,
    fun T p1 p2 r rl T'  h => sp_Parser_parseRegionStep l dC dI ea ev ad km (PP nf d) nf d h_Parser_stop h_Source_addNode h_Parser_advance h_Parser_need h_Parser_parseBlock T p1 p2 r rl T' h,
    fun T p1 r rl T'  h => sp_Parser_parseTry l dC dI ea ev ad km (PP nf d) nf d h_Source_addNode h_Parser_advance h_Parser_parseBlock h_Parser_need T p1 r rl T' h,
    fun T p1 p2 r rl T'  h => sp_Parser_parseWordStep l dC dI ea ev ad km (PP nf d) nf d h_Source_addNode h_Parser_advance h_Parser_need h_Parser_parseExpr T p1 p2 r rl T' h,
    fun T p1 r rl T'  h => sp_Parser_parsePlain l dC dI ea ev ad km (PP nf d) nf d h_Source_addNode h_Parser_parseExpr h_Parser_accept h_Parser_need T p1 r rl T' h,
    fun T p1 r rl T'  h => sp_Parser_parseExpr l dC dI ea ev ad km (PP nf d) nf d h_Parser_parseTerm h_Parser_seesOperator h_Parser_advance T p1 r rl T' h,
    fun T  r rl T'  h => sp_Parser_seesOperator l dC dI ea ev ad km (PP nf d) nf d T r rl T' h,
    fun T p1 r rl T'  h => sp_Parser_parseTerm l dC dI ea ev ad km (PP nf d) nf d h_Parser_parsePrimary h_Parser_stop h_Parser_parseTail T p1 r rl T' h,
    fun T p1 r rl T'  h => sp_Parser_parseTail l dC dI ea ev ad km (PP nf d) nf d h_Source_addNode h_Parser_advance h_Parser_need h_Parser_parseExpr T p1 r rl T' h,
    fun T p1 r rl T'  h => sp_Parser_parsePrimary l dC dI ea ev ad km (PP nf d) nf d h_Source_addNode h_Parser_advance h_Parser_parseNew h_Parser_need h_Parser_parseMaking h_Parser_parseTerm h_Parser_stop h_Parser_parseRegions h_Parser_parseArguments T p1 r rl T' h,
    fun T p1 p2 r rl T'  h => sp_Parser_parseNew l dC dI ea ev ad km (PP nf d) nf d h_Parser_need h_Parser_parseRegions h_Parser_accept h_Parser_parseArguments h_Parser_parseMaking T p1 p2 r rl T' h,
    fun T p1 p2 p3 r rl T'  h => sp_Parser_parseMaking l dC dI ea ev ad km (PP nf d) nf d h_Parser_need h_Parser_parseExpr T p1 p2 p3 r rl T' h,
    fun T p1 p2 r rl T'  h => sp_Parser_parseArguments l dC dI ea ev ad km (PP nf d) nf d h_Parser_accept h_Parser_parseExpr h_Parser_need h_Parser_stop T p1 p2 r rl T' h,
    fun T  r rl T'  h => sp_Types_clear l dC dI ea ev ad km (PP nf d) nf d T r rl T' h,
    fun T p1 r rl T'  h => sp_Types_keep l dC dI ea ev ad km (PP nf d) nf d T p1 r rl T' h,
    fun T p1 p2 p3 r rl T'  h => sp_Types_pointer l dC dI ea ev ad km (PP nf d) nf d h_Types_keep T p1 p2 p3 r rl T' h,
    fun T p1 p2 r rl T'  h => sp_Types_thing l dC dI ea ev ad km (PP nf d) nf d h_Types_keep T p1 p2 r rl T' h,
    fun T p1 r rl T'  h => sp_Types_keyOf l dC dI ea ev ad km (PP nf d) nf d T p1 r rl T' h,
    fun T p1 r rl T'  h => sp_Types_kindOf l dC dI ea ev ad km (PP nf d) nf d h_Types_keyOf T p1 r rl T' h,
    fun T p1 r rl T'  h => sp_Types_regionOf l dC dI ea ev ad km (PP nf d) nf d h_Types_keyOf T p1 r rl T' h,
    fun T p1 r rl T'  h => sp_Types_behind l dC dI ea ev ad km (PP nf d) nf d h_Types_keyOf T p1 r rl T' h,
    fun T p1 r rl T'  h => sp_Types_titleBehind l dC dI ea ev ad km (PP nf d) nf d h_Types_isPointed h_Types_behind h_Types_keyOf T p1 r rl T' h,
    fun T p1 r rl T'  h => sp_Types_regionsBehind l dC dI ea ev ad km (PP nf d) nf d h_Types_behind h_Types_keyOf T p1 r rl T' h,
    fun T p1 r rl T'  h => sp_Types_isPointed l dC dI ea ev ad km (PP nf d) nf d h_Types_keyOf T p1 r rl T' h,
    fun T p1 r rl T'  h => sp_Types_wordsOf l dC dI ea ev ad km (PP nf d) nf d h_Types_keyOf T p1 r rl T' h,
    fun T p1 p2 p3 r rl T'  h => sp_Types_told l dC dI ea ev ad km (PP nf d) nf d h_Types_kindOf h_Types_regionOf h_Types_toldOne h_Types_behind h_Types_told h_Types_pointer h_Types_keyOf h_Types_toldAll h_Types_thing T p1 p2 p3 r rl T' h,
    fun T p1 p2 r rl T'  h => sp_Types_toldAll l dC dI ea ev ad km (PP nf d) nf d h_Types_toldOne T p1 p2 r rl T' h,
    fun T p1 p2 r rl T'  h => sp_Types_toldOne l dC dI ea ev ad km (PP nf d) nf d T p1 p2 r rl T' h,
    fun T p1 r rl T'  h => sp_Scope_enterHead l dC dI ea ev ad km (PP nf d) nf d h_Source_nameAt T p1 r rl T' h,
    fun T p1 r rl T'  h => sp_Scope_enterFun l dC dI ea ev ad km (PP nf d) nf d h_Scope_enterHead h_Scope_setLive h_Items_tokOfPart h_Source_nameAt h_Items_typeOfPart h_Scope_addVar h_Scope_give T p1 r rl T' h,
    fun T p1 r rl T'  h => sp_Scope_findRegion l dC dI ea ev ad km (PP nf d) nf d T p1 r rl T' h,
    fun T p1 r rl T'  h => sp_Scope_openRegion l dC dI ea ev ad km (PP nf d) nf d h_Scope_setLive T p1 r rl T' h,
    fun T p1 r rl T'  h => sp_Scope_leaveRegion l dC dI ea ev ad km (PP nf d) nf d h_Scope_setLive T p1 r rl T' h,
    fun T p1 r rl T'  h => sp_Scope_mayClose l dC dI ea ev ad km (PP nf d) nf d h_Scope_isLive T p1 r rl T' h,
    fun T p1 r rl T'  h => sp_Scope_isLive l dC dI ea ev ad km (PP nf d) nf d T p1 r rl T' h,
    fun T p1 p2 r rl T'  h => sp_Scope_setLive l dC dI ea ev ad km (PP nf d) nf d T p1 p2 r rl T' h,
    fun T p1 p2 r rl T'  h => sp_Scope_outlives l dC dI ea ev ad km (PP nf d) nf d h_Scope_aboveBit h_Scope_isLive T p1 p2 r rl T' h,
    fun T p1 p2 r rl T'  h => sp_Scope_aboveBit l dC dI ea ev ad km (PP nf d) nf d T p1 p2 r rl T' h,
    fun T  r rl T'  h => sp_Scope_varsSeen l dC dI ea ev ad km (PP nf d) nf d T r rl T' h,
    fun T p1 r rl T'  h => sp_Scope_forgetVars l dC dI ea ev ad km (PP nf d) nf d T p1 r rl T' h,
    fun T p1 r rl T'  h => sp_Scope_findVar l dC dI ea ev ad km (PP nf d) nf d T p1 r rl T' h,
    fun T p1 p2 r rl T'  h => sp_Scope_addVar l dC dI ea ev ad km (PP nf d) nf d h_Types_wordsOf h_Scope_forgetKnown T p1 p2 r rl T' h,
    fun T p1 r rl T'  h => sp_Scope_typeOf l dC dI ea ev ad km (PP nf d) nf d T p1 r rl T' h,
    fun T p1 r rl T'  h => sp_Scope_slotOf l dC dI ea ev ad km (PP nf d) nf d T p1 r rl T' h,
    fun T  r rl T'  h => sp_Scope_isReached l dC dI ea ev ad km (PP nf d) nf d T r rl T' h,
    fun T  r rl T'  h => sp_Scope_leave l dC dI ea ev ad km (PP nf d) nf d T r rl T' h,
    fun T p1 r rl T'  h => sp_Scope_isSet l dC dI ea ev ad km (PP nf d) nf d h_Scope_isReached T p1 r rl T' h,
    fun T p1 r rl T'  h => sp_Scope_isKnown l dC dI ea ev ad km (PP nf d) nf d h_Scope_isReached T p1 r rl T' h,
    fun T p1 p2 r rl T'  h => sp_Scope_give l dC dI ea ev ad km (PP nf d) nf d h_Scope_forgetKnown h_Scope_know T p1 p2 r rl T' h,
    fun T p1 r rl T'  h => sp_Scope_know l dC dI ea ev ad km (PP nf d) nf d T p1 r rl T' h,
    fun T p1 r rl T'  h => sp_Scope_forgetKnown l dC dI ea ev ad km (PP nf d) nf d T p1 r rl T' h,
    fun T p1 p2 r rl T'  h => sp_Scope_sameLive l dC dI ea ev ad km (PP nf d) nf d T p1 p2 r rl T' h,
    fun T p1 p2 r rl T'  h => sp_Scope_meet l dC dI ea ev ad km (PP nf d) nf d h_Scope_sameLive T p1 p2 r rl T' h,
    fun T  r rl T'  h => sp_Heads_check l dC dI ea ev ad km (PP nf d) nf d h_Types_clear h_Heads_mainName h_Items_find h_Code_note h_Heads_checkHead h_Code_tally T r rl T' h,
    fun T  r rl T'  h => sp_Heads_mainName l dC dI ea ev ad km (PP nf d) nf d T r rl T' h,
    fun T p1 r rl T'  h => sp_Heads_checkHead l dC dI ea ev ad km (PP nf d) nf d h_Items_find h_Scope_enterHead h_Source_startOf h_Code_note h_Heads_checkParts h_Heads_readType h_Heads_readDead h_Heads_readWhere h_Source_nameAt h_Scope_findRegion T p1 r rl T' h,
    fun T p1 r rl T'  h => sp_Heads_checkParts l dC dI ea ev ad km (PP nf d) nf d h_Items_tokOfPart h_Source_nameAt h_Heads_findPart h_Source_startOf h_Code_note h_Heads_readType h_Items_setPart h_Types_wordsOf T p1 r rl T' h,
    fun T p1 p2 r rl T'  h => sp_Heads_findPart l dC dI ea ev ad km (PP nf d) nf d h_Items_tokOfPart h_Source_nameAt T p1 p2 r rl T' h,
    fun T p1 r rl T'  h => sp_Heads_readDead l dC dI ea ev ad km (PP nf d) nf d h_Source_countRegions h_Heads_ownRegion h_Source_startOf h_Code_note T p1 r rl T' h,
    fun T p1 r rl T'  h => sp_Heads_readWhere l dC dI ea ev ad km (PP nf d) nf d h_Heads_closed h_Heads_ownRegion h_Scope_aboveBit h_Items_addPair h_Source_kindAt T p1 r rl T' h,
    fun T p1 r rl T'  h => sp_Heads_closed l dC dI ea ev ad km (PP nf d) nf d h_Scope_aboveBit T p1 r rl T' h,
    fun T p1 r rl T'  h => sp_Heads_ownRegion l dC dI ea ev ad km (PP nf d) nf d h_Source_nameAt h_Scope_findRegion h_Source_startOf h_Code_note T p1 r rl T' h,
    fun T p1 r rl T'  h => sp_Heads_readRegion l dC dI ea ev ad km (PP nf d) nf d h_Source_nameAt h_Scope_findRegion h_Source_startOf h_Code_note T p1 r rl T' h,
    fun T p1 p2 r rl T'  h => sp_Heads_readRegions l dC dI ea ev ad km (PP nf d) nf d h_Heads_readRegion T p1 p2 r rl T' h,
    fun T p1 p2 r rl T'  h => sp_Heads_readType l dC dI ea ev ad km (PP nf d) nf d h_Source_kindAt h_Heads_readRegion h_Heads_readType h_Types_pointer h_Heads_readTitle T p1 p2 r rl T' h,
    fun T p1 r rl T'  h => sp_Heads_readTitle l dC dI ea ev ad km (PP nf d) nf d h_Source_countRegions h_Source_nameAt h_Items_find h_Heads_readRegions h_Types_thing h_Source_startOf h_Code_note T p1 r rl T' h,
    fun T p1 p2 r rl T'  h => sp_Exprs_check l dC dI ea ev ad km (PP nf d) nf d h_Exprs_checkTerm h_Exprs_checkOperator T p1 p2 r rl T' h,
    fun T p1 p2 p3 r rl T'  h => sp_Exprs_checkFits l dC dI ea ev ad km (PP nf d) nf d h_Exprs_check h_Exprs_demandFit T p1 p2 p3 r rl T' h,
    fun T p1 p2 p3 r rl T'  h => sp_Exprs_demandFit l dC dI ea ev ad km (PP nf d) nf d h_Exprs_lackOf h_Source_beginOf h_Code_note T p1 p2 p3 r rl T' h,
    fun T p1 p2 p3 r rl T'  h => sp_Exprs_demand l dC dI ea ev ad km (PP nf d) nf d h_Code_note T p1 p2 p3 r rl T' h,
    fun T p1 p2 r rl T'  h => sp_Exprs_lackOf l dC dI ea ev ad km (PP nf d) nf d h_Types_kindOf h_Types_behind h_Types_regionOf h_Scope_outlives T p1 p2 r rl T' h,
    fun T p1 p2 p3 p4 r rl T'  h => sp_Exprs_checkOperator l dC dI ea ev ad km (PP nf d) nf d h_Source_beginOf h_Types_kindOf h_Code_emit h_Exprs_mayCompare h_Exprs_checkComparison h_Exprs_instructionOf h_Code_note T p1 p2 p3 p4 r rl T' h,
    fun T p1 r rl T'  h => sp_Exprs_mayCompare l dC dI ea ev ad km (PP nf d) nf d h_Types_isPointed T p1 r rl T' h,
    fun T p1 p2 p3 p4 r rl T'  h => sp_Exprs_checkComparison l dC dI ea ev ad km (PP nf d) nf d h_Types_regionOf h_Types_behind h_Scope_outlives h_Exprs_demand h_Scope_isLive T p1 p2 p3 p4 r rl T' h,
    fun T p1 r rl T'  h => sp_Exprs_instructionOf l dC dI ea ev ad km (PP nf d) nf d T p1 r rl T' h,
    fun T p1 p2 p3 r rl T'  h => sp_Exprs_checkTerm l dC dI ea ev ad km (PP nf d) nf d h_Exprs_checkPrimary h_Source_beginOf h_Exprs_checkPlace h_Exprs_checkIs T p1 p2 p3 r rl T' h,
    fun T p1 p2 p3 p4 p5 r rl T'  h => sp_Exprs_checkPlace l dC dI ea ev ad km (PP nf d) nf d h_Exprs_checkIndex h_Exprs_checkField h_Exprs_checkCell T p1 p2 p3 p4 p5 r rl T' h,
    fun T p1 p2 p3 p4 r rl T'  h => sp_Exprs_checkField l dC dI ea ev ad km (PP nf d) nf d h_Types_titleBehind h_Types_regionOf h_Scope_isLive h_Exprs_demand h_Source_nameAt h_Heads_findPart h_Exprs_countNull h_Items_typeOfPart h_Types_regionsBehind h_Types_told h_Items_placeOfPart h_Exprs_emitPointed h_Code_tally h_Source_startOf h_Code_note h_Types_wordsOf h_Code_emit T p1 p2 p3 p4 r rl T' h,
    fun T p1 p2 p3 r rl T'  h => sp_Exprs_emitPointed l dC dI ea ev ad km (PP nf d) nf d h_Types_wordsOf h_Code_emit T p1 p2 p3 r rl T' h,
    fun T p1 r rl T'  h => sp_Exprs_countNull l dC dI ea ev ad km (PP nf d) nf d h_Types_kindOf h_Code_tally T p1 r rl T' h,
    fun T p1 p2 p3 p4 p5 r rl T'  h => sp_Exprs_checkIndex l dC dI ea ev ad km (PP nf d) nf d h_Exprs_check h_Types_kindOf h_Types_regionOf h_Scope_isLive h_Exprs_demand h_Code_note h_Source_beginOf h_Code_tally h_Types_behind h_Types_wordsOf h_Code_emit T p1 p2 p3 p4 p5 r rl T' h,
    fun T p1 p2 p3 r rl T'  h => sp_Exprs_checkCell l dC dI ea ev ad km (PP nf d) nf d h_Types_isPointed h_Code_note h_Types_titleBehind h_Types_regionOf h_Scope_isLive h_Exprs_demand h_Exprs_countNull h_Types_behind h_Exprs_emitPointed T p1 p2 p3 r rl T' h,
    fun T p1 p2 p3 r rl T'  h => sp_Exprs_checkIs l dC dI ea ev ad km (PP nf d) nf d h_Types_titleBehind h_Code_note h_Types_regionOf h_Scope_isLive h_Exprs_demand h_Source_nameAt h_Heads_findPart h_Source_startOf h_Exprs_countNull h_Code_emit T p1 p2 p3 r rl T' h,
    fun T p1 p2 r rl T'  h => sp_Exprs_checkPrimary l dC dI ea ev ad km (PP nf d) nf d h_Exprs_checkName h_Source_nameAt h_Code_emit h_Exprs_checkNew h_Exprs_checkNewCell h_Exprs_checkNewRow h_Exprs_checkSolid h_Exprs_checkSize h_Exprs_checkAddress h_Exprs_checkCall h_Exprs_check h_Source_startOf h_Exprs_demand T p1 p2 r rl T' h,
    fun T p1 r rl T'  h => sp_Exprs_checkName l dC dI ea ev ad km (PP nf d) nf d h_Source_nameAt h_Scope_findVar h_Scope_isSet h_Source_startOf h_Exprs_demand h_Scope_typeOf h_Scope_slotOf h_Types_wordsOf h_Code_emit h_Types_kindOf h_Scope_isKnown h_Exprs_solidOf h_Code_note T p1 r rl T' h,
    fun T p1 r rl T'  h => sp_Exprs_solidOf l dC dI ea ev ad km (PP nf d) nf d h_Types_regionOf h_Types_behind h_Types_pointer T p1 r rl T' h,
    fun T p1 p2 r rl T'  h => sp_Exprs_checkCall l dC dI ea ev ad km (PP nf d) nf d h_Source_startOf h_Source_nameAt h_Items_find h_Heads_readRegions h_Source_countPeers h_Exprs_checkParts h_Code_note h_Exprs_checkWhere h_Code_emit h_Types_told h_Exprs_demand h_Types_toldOne h_Scope_isLive T p1 p2 r rl T' h,
    fun T p1 p2 p3 p4 r rl T'  h => sp_Exprs_checkParts l dC dI ea ev ad km (PP nf d) nf d h_Items_typeOfPart h_Types_told h_Exprs_checkFits T p1 p2 p3 p4 r rl T' h,
    fun T p1 p2 p3 r rl T'  h => sp_Exprs_checkWhere l dC dI ea ev ad km (PP nf d) nf d h_Items_upperOf h_Items_lowerOf h_Types_toldOne h_Scope_outlives h_Source_startOf h_Exprs_demand T p1 p2 p3 r rl T' h,
    fun T p1 r rl T'  h => sp_Exprs_readLiveRegion l dC dI ea ev ad km (PP nf d) nf d h_Heads_readRegion h_Scope_isLive h_Source_startOf h_Exprs_demand T p1 r rl T' h,
    fun T p1 p2 r rl T'  h => sp_Exprs_checkNew l dC dI ea ev ad km (PP nf d) nf d h_Exprs_readLiveRegion h_Heads_readTitle h_Types_pointer h_Types_titleBehind h_Source_kindAt h_Source_startOf h_Exprs_demand h_Code_tally h_Exprs_makeStruct h_Exprs_makeUnion T p1 p2 r rl T' h,
    fun T p1 p2 p3 p4 r rl T'  h => sp_Exprs_makeUnion l dC dI ea ev ad km (PP nf d) nf d h_Types_titleBehind h_Source_nameAt h_Heads_findPart h_Items_typeOfPart h_Types_regionsBehind h_Types_told h_Exprs_checkFits h_Types_regionOf h_Types_wordsOf h_Code_emit h_Source_startOf h_Code_note T p1 p2 p3 p4 r rl T' h,
    fun T p1 p2 p3 p4 r rl T'  h => sp_Exprs_makeStruct l dC dI ea ev ad km (PP nf d) nf d h_Types_titleBehind h_Source_countPeers h_Types_regionsBehind h_Exprs_checkParts h_Types_regionOf h_Code_emit h_Source_startOf h_Code_note T p1 p2 p3 p4 r rl T' h,
    fun T p1 p2 r rl T'  h => sp_Exprs_checkNewCell l dC dI ea ev ad km (PP nf d) nf d h_Exprs_readLiveRegion h_Exprs_checkValue h_Code_tally h_Types_wordsOf h_Code_emit h_Types_pointer T p1 p2 r rl T' h,
    fun T p1 p2 r rl T'  h => sp_Exprs_checkNewRow l dC dI ea ev ad km (PP nf d) nf d h_Exprs_readLiveRegion h_Exprs_check h_Source_beginOf h_Exprs_demand h_Exprs_checkValue h_Code_tally h_Types_wordsOf h_Code_emit h_Types_pointer T p1 p2 r rl T' h,
    fun T p1 p2 r rl T'  h => sp_Exprs_checkValue l dC dI ea ev ad km (PP nf d) nf d h_Exprs_check h_Source_beginOf h_Code_note T p1 p2 r rl T' h,
    fun T p1 p2 r rl T'  h => sp_Exprs_checkAddress l dC dI ea ev ad km (PP nf d) nf d h_Source_bare h_Source_beginOf h_Source_lastTail h_Code_note h_Exprs_checkTerm h_Exprs_checkPlace h_Types_regionOf h_Types_pointer T p1 p2 r rl T' h,
    fun T p1 p2 r rl T'  h => sp_Exprs_checkSolid l dC dI ea ev ad km (PP nf d) nf d h_Exprs_check h_Types_isPointed h_Exprs_countNull h_Code_emit h_Exprs_solidOf h_Source_beginOf h_Code_note T p1 p2 r rl T' h,
    fun T p1 p2 r rl T'  h => sp_Exprs_checkSize l dC dI ea ev ad km (PP nf d) nf d h_Exprs_check h_Types_kindOf h_Source_beginOf h_Exprs_demand h_Code_emit T p1 p2 r rl T' h,
    fun T p1 p2 p3 p4 r rl T'  h => sp_Exprs_storePlace l dC dI ea ev ad km (PP nf d) nf d h_Source_bare h_Source_lastTail h_Source_beginOf h_Code_note h_Exprs_checkTerm h_Exprs_checkPlace h_Exprs_demandFit T p1 p2 p3 p4 r rl T' h,
    fun T p1 p2 p3 r rl T'  h => sp_Exprs_storeVar l dC dI ea ev ad km (PP nf d) nf d h_Source_nameAt h_Scope_findVar h_Scope_typeOf h_Exprs_demandFit h_Exprs_giveVar h_Source_startOf h_Code_note T p1 p2 p3 r rl T' h,
    fun T p1 p2 r rl T'  h => sp_Exprs_giveVar l dC dI ea ev ad km (PP nf d) nf d h_Scope_typeOf h_Types_kindOf h_Scope_give h_Scope_slotOf h_Types_wordsOf h_Code_emit T p1 p2 r rl T' h,
    fun T p1 r rl T'  h => sp_Exprs_varAlone l dC dI ea ev ad km (PP nf d) nf d h_Exprs_nameAlone h_Source_nameAt h_Scope_findVar T p1 r rl T' h,
    fun T p1 r rl T'  h => sp_Exprs_varAgainstNull l dC dI ea ev ad km (PP nf d) nf d h_Source_bare h_Source_bareTerm h_Exprs_varOfTerm T p1 r rl T' h,
    fun T p1 r rl T'  h => sp_Exprs_varOfTerm l dC dI ea ev ad km (PP nf d) nf d h_Source_bareTerm h_Source_nameAt h_Scope_findVar T p1 r rl T' h,
    fun T  r rl T'  h => sp_Steps_check l dC dI ea ev ad km (PP nf d) nf d h_Steps_checkFun T r rl T' h,
    fun T p1 r rl T'  h => sp_Steps_checkFun l dC dI ea ev ad km (PP nf d) nf d h_Scope_enterFun h_Code_count h_Steps_checkBlock h_Code_emit h_Scope_isReached h_Source_startOf h_Code_note T p1 r rl T' h,
    fun T p1 p2 r rl T'  h => sp_Steps_checkBlock l dC dI ea ev ad km (PP nf d) nf d h_Scope_varsSeen h_Scope_forgetVars h_Source_startOf h_Code_emit h_Steps_checkStep T p1 p2 r rl T' h,
    fun T p1 p2 r rl T'  h => sp_Steps_checkStep l dC dI ea ev ad km (PP nf d) nf d h_Steps_checkVar h_Steps_checkIf h_Steps_checkWhile h_Steps_checkReturn h_Steps_checkNumber h_Code_emit h_Steps_checkRegion h_Steps_checkClose h_Steps_checkTry h_Scope_leave h_Exprs_check h_Exprs_nameAlone h_Exprs_storeVar h_Exprs_storePlace h_Types_wordsOf T p1 p2 r rl T' h,
    fun T p1 p2 r rl T'  h => sp_Steps_checkNumber l dC dI ea ev ad km (PP nf d) nf d h_Exprs_checkFits T p1 p2 r rl T' h,
    fun T p1 p2 r rl T'  h => sp_Steps_checkVar l dC dI ea ev ad km (PP nf d) nf d h_Code_tally h_Heads_readType h_Exprs_check h_Exprs_demandFit h_Source_nameAt h_Scope_findVar h_Source_startOf h_Exprs_demand h_Scope_addVar h_Exprs_giveVar T p1 p2 r rl T' h,
    fun T p1 p2 r rl T'  h => sp_Steps_checkReturn l dC dI ea ev ad km (PP nf d) nf d h_Source_startOf h_Exprs_demand h_Types_wordsOf h_Code_emit h_Scope_leave h_Exprs_checkFits T p1 p2 r rl T' h,
    fun T p1 p2 r rl T'  h => sp_Steps_checkQuestion l dC dI ea ev ad km (PP nf d) nf d h_Exprs_check h_Source_beginOf h_Exprs_demand h_Types_isPointed T p1 p2 r rl T' h,
    fun T p1 p2 r rl T'  h => sp_Steps_checkIf l dC dI ea ev ad km (PP nf d) nf d h_Steps_checkQuestion h_Code_emit h_Exprs_varAlone h_Scope_know h_Steps_checkBlock h_Exprs_varAgainstNull h_Code_aim h_Scope_meet h_Source_startOf h_Exprs_demand T p1 p2 r rl T' h,
    fun T p1 p2 r rl T'  h => sp_Steps_checkWhile l dC dI ea ev ad km (PP nf d) nf d h_Code_count h_Steps_varsGiven h_Scope_forgetKnown h_Steps_checkQuestion h_Code_emit h_Exprs_varAlone h_Scope_know h_Steps_checkBlock h_Scope_isReached h_Scope_sameLive h_Source_startOf h_Exprs_demand h_Code_aim h_Exprs_varAgainstNull T p1 p2 r rl T' h,
    fun T p1 p2 r rl T'  h => sp_Steps_checkRegion l dC dI ea ev ad km (PP nf d) nf d h_Source_nameAt h_Scope_findRegion h_Source_startOf h_Exprs_demand h_Scope_openRegion h_Code_emit h_Steps_checkBlock h_Scope_isLive h_Scope_leaveRegion T p1 p2 r rl T' h,
    fun T p1 r rl T'  h => sp_Steps_checkClose l dC dI ea ev ad km (PP nf d) nf d h_Source_nameAt h_Scope_findRegion h_Source_startOf h_Exprs_demand h_Scope_mayClose h_Scope_setLive h_Code_emit h_Code_note T p1 r rl T' h,
    fun T p1 p2 r rl T'  h => sp_Steps_checkTry l dC dI ea ev ad km (PP nf d) nf d h_Code_emit h_Steps_checkBlock h_Code_aim h_Steps_varsGiven h_Scope_forgetKnown h_Scope_meet h_Source_startOf h_Exprs_demand T p1 p2 r rl T' h,
    fun T p1 p2 r rl T'  h => sp_Steps_varsGiven l dC dI ea ev ad km (PP nf d) nf d h_Exprs_varAlone h_Steps_varsGiven T p1 p2 r rl T' h,
    fun T  r rl T'  h => sp_Machine_halt l dC dI ea ev ad km (PP nf d) nf d T r rl T' h,
    fun T p1 p2 r rl T'  h => sp_Machine_begin l dC dI ea ev ad km (PP nf d) nf d h_Memory_begin h_Heads_mainName h_Items_find h_Machine_enter h_Machine_goOn T p1 p2 r rl T' h,
    fun T p1 r rl T'  h => sp_Machine_takeInput l dC dI ea ev ad km (PP nf d) nf d T p1 r rl T' h,
    fun T p1 r rl T'  h => sp_Machine_doSteps l dC dI ea ev ad km (PP nf d) nf d h_Code_firstAt h_Machine_setFrame h_Machine_goOn T p1 r rl T' h,
    fun T  r rl T'  h => sp_Machine_goOn l dC dI ea ev ad km (PP nf d) nf d h_Code_opAt h_Code_firstAt h_Code_secondAt h_Machine_doControl h_Machine_doMaking h_Machine_doIndexed h_Machine_doPointed h_Machine_doNumeric h_Machine_doSimple T r rl T' h,
    fun T p1 r rl T'  h => sp_Machine_push l dC dI ea ev ad km (PP nf d) nf d T p1 r rl T' h,
    fun T  r rl T'  h => sp_Machine_pop l dC dI ea ev ad km (PP nf d) nf d T r rl T' h,
    fun T p1 r rl T'  h => sp_Machine_wordAt l dC dI ea ev ad km (PP nf d) nf d T p1 r rl T' h,
    fun T p1 p2 r rl T'  h => sp_Machine_setWord l dC dI ea ev ad km (PP nf d) nf d T p1 p2 r rl T' h,
    fun T p1 r rl T'  h => sp_Machine_frame l dC dI ea ev ad km (PP nf d) nf d T p1 r rl T' h,
    fun T p1 p2 r rl T'  h => sp_Machine_setFrame l dC dI ea ev ad km (PP nf d) nf d T p1 p2 r rl T' h,
    fun T p1 p2 p3 r rl T'  h => sp_Machine_doSimple l dC dI ea ev ad km (PP nf d) nf d h_Machine_push h_Machine_nextInput h_Machine_pop h_Machine_keepPrinted h_Machine_wordAt h_Machine_setWord h_Machine_frame T p1 p2 p3 r rl T' h,
    fun T  r rl T'  h => sp_Machine_nextInput l dC dI ea ev ad km (PP nf d) nf d T r rl T' h,
    fun T p1 r rl T'  h => sp_Machine_keepPrinted l dC dI ea ev ad km (PP nf d) nf d T p1 r rl T' h,
    fun T p1 r rl T'  h => sp_Machine_doNumeric l dC dI ea ev ad km (PP nf d) nf d h_Machine_pop h_Machine_push h_Machine_raise T p1 r rl T' h,
    fun T p1 p2 p3 r rl T'  h => sp_Machine_doPointed l dC dI ea ev ad km (PP nf d) nf d h_Machine_pop h_Machine_fetch h_Memory_get h_Machine_raise h_Machine_push h_Machine_store h_Memory_put T p1 p2 p3 r rl T' h,
    fun T p1 p2 r rl T'  h => sp_Machine_fetch l dC dI ea ev ad km (PP nf d) nf d h_Memory_get h_Machine_push T p1 p2 r rl T' h,
    fun T p1 p2 r rl T'  h => sp_Machine_store l dC dI ea ev ad km (PP nf d) nf d h_Machine_pop h_Memory_put T p1 p2 r rl T' h,
    fun T p1 p2 r rl T'  h => sp_Machine_doIndexed l dC dI ea ev ad km (PP nf d) nf d h_Machine_pop h_Machine_raise h_Machine_fetch h_Machine_push h_Machine_store T p1 p2 r rl T' h,
    fun T p1 p2 p3 r rl T'  h => sp_Machine_doMaking l dC dI ea ev ad km (PP nf d) nf d h_Machine_placeFor h_Machine_store h_Machine_push h_Memory_put h_Machine_makeRow T p1 p2 p3 r rl T' h,
    fun T p1 p2 r rl T'  h => sp_Machine_makeRow l dC dI ea ev ad km (PP nf d) nf d h_Machine_wordAt h_Machine_placeFor h_Machine_push h_Memory_put T p1 p2 r rl T' h,
    fun T p1 p2 p3 r rl T'  h => sp_Machine_placeFor l dC dI ea ev ad km (PP nf d) nf d h_Machine_raise h_Memory_pageWords h_Machine_frame h_Memory_make T p1 p2 p3 r rl T' h,
    fun T p1 p2 p3 r rl T'  h => sp_Machine_doControl l dC dI ea ev ad km (PP nf d) nf d h_Machine_pop h_Memory_open h_Machine_setFrame h_Machine_frame h_Memory_closeFrom h_Machine_pushTry h_Machine_raise h_Machine_enter h_Machine_leave T p1 p2 p3 r rl T' h,
    fun T p1 r rl T'  h => sp_Machine_pushTry l dC dI ea ev ad km (PP nf d) nf d h_Memory_regionCount T p1 r rl T' h,
    fun T p1 r rl T'  h => sp_Machine_raise l dC dI ea ev ad km (PP nf d) nf d h_Memory_closeFrom h_Machine_push T p1 r rl T' h,
    fun T p1 p2 r rl T'  h => sp_Machine_enter l dC dI ea ev ad km (PP nf d) nf d h_Machine_setFrame h_Memory_regionCount h_Types_toldOne T p1 p2 r rl T' h,
    fun T p1 r rl T'  h => sp_Machine_leave l dC dI ea ev ad km (PP nf d) nf d h_Machine_frame h_Memory_closeFrom h_Machine_wordAt h_Machine_setWord T p1 r rl T' h,
    fun T  r rl T'  h => sp_Machine_placeOfStep l dC dI ea ev ad km (PP nf d) nf d h_Machine_frame h_Code_firstAt T r rl T' h,
    fun T p1 r rl T'  h => sp_Machine_tell l dC dI ea ev ad km (PP nf d) nf d h_Memory_pagesInUse h_Memory_regionCount h_Memory_objectsMade h_Memory_strayTouches T p1 r rl T' h,
    fun T p1 r rl T'  h => sp_Machine_printedAt l dC dI ea ev ad km (PP nf d) nf d T p1 r rl T' h,
    fun T p1 p2 r rl T'  h => sp_Memory_begin l dC dI ea ev ad km (PP nf d) nf d h_Memory_open T p1 p2 r rl T' h,
    fun T  r rl T'  h => sp_Memory_pageWords l dC dI ea ev ad km (PP nf d) nf d T r rl T' h,
    fun T  r rl T'  h => sp_Memory_pagesInUse l dC dI ea ev ad km (PP nf d) nf d T r rl T' h,
    fun T  r rl T'  h => sp_Memory_regionCount l dC dI ea ev ad km (PP nf d) nf d T r rl T' h,
    fun T  r rl T'  h => sp_Memory_objectsMade l dC dI ea ev ad km (PP nf d) nf d T r rl T' h,
    fun T  r rl T'  h => sp_Memory_strayTouches l dC dI ea ev ad km (PP nf d) nf d T r rl T' h,
    fun T  r rl T'  h => sp_Memory_open l dC dI ea ev ad km (PP nf d) nf d T r rl T' h,
    fun T p1 r rl T'  h => sp_Memory_closeFrom l dC dI ea ev ad km (PP nf d) nf d T p1 r rl T' h,
    fun T p1 p2 r rl T'  h => sp_Memory_make l dC dI ea ev ad km (PP nf d) nf d h_Memory_freePage h_Memory_takePage T p1 p2 r rl T' h,
    fun T  r rl T'  h => sp_Memory_freePage l dC dI ea ev ad km (PP nf d) nf d T r rl T' h,
    fun T p1 p2 r rl T'  h => sp_Memory_takePage l dC dI ea ev ad km (PP nf d) nf d T p1 p2 r rl T' h,
    fun T p1 r rl T'  h => sp_Memory_get l dC dI ea ev ad km (PP nf d) nf d h_Memory_isOwned T p1 r rl T' h,
    fun T p1 p2 r rl T'  h => sp_Memory_put l dC dI ea ev ad km (PP nf d) nf d h_Memory_isOwned T p1 p2 r rl T' h,
    fun T p1 r rl T'  h => sp_Memory_isOwned l dC dI ea ev ad km (PP nf d) nf d T p1 r rl T' h,
    fun T p1 p2 r rl T'  h => sp_Memory_tellRegion l dC dI ea ev ad km (PP nf d) nf d T p1 p2 r rl T' h,
    fun T p1 r rl T'  h => sp_Exprs_nameAlone l dC dI ea ev ad km (PP nf d) nf d h_Source_bare T p1 r rl T' h⟩
