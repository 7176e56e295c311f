/-! the tables by numbers: classes, fields, methods, links; each link by its place among the words -/
def TB : List Cond := lw_tbl.filter goodWord
theorem TB_good : ∀ w ∈ TB, goodWord w = true := fun w h => (List.mem_filter.mp h).2
theorem TB_lw : ∀ w ∈ TB, w ∈ lw_tbl := fun w h => (List.mem_filter.mp h).1
def RN : Nat → String := fun i => match i with
  | 0 => RX0
  | 1 => RX1
  | 2 => RX2
  | 3 => RX3
  | 4 => RX4
  | 5 => RX5
  | 6 => RX6
  | 7 => RX7
  | 8 => RX8
  | 9 => RX9
  | 10 => RX10
  | 11 => RX11
  | 12 => RX12
  | 13 => RL
  | 14 => RJ7
  | 15 => RJ6
  | 16 => RJ13
  | 17 => RJ9
  | 18 => RJ1
  | 19 => RJ3
  | _ => RJ0
def TF : Nat → u_T := fun i => match i with
  | 0 => TX0
  | 1 => TX1
  | 2 => TX2
  | 3 => TX3
  | 4 => TX4
  | 5 => TX5
  | 6 => TX6
  | 7 => TX7
  | 8 => TX8
  | 9 => TX9
  | 10 => TX10
  | 11 => TX11
  | _ => TX12
def TYF : Nat → Nat → FieldType := fun i => match i with
  | 0 => tyX0
  | 1 => tyX1
  | 2 => tyX2
  | 3 => tyX3
  | 4 => tyX4
  | 5 => tyX5
  | 6 => tyX6
  | 7 => tyX7
  | 8 => tyX8
  | 9 => tyX9
  | 10 => tyX10
  | 11 => tyX11
  | _ => tyX12
abbrev classes : List vw_C := [(RX0, TX0, 18), (RX1, TX1, 7), (RX2, TX2, 7), (RX3, TX3, 16), (RX4, TX4, 7), (RX5, TX5, 9), (RX6, TX6, 20), (RX7, TX7, 9), (RX8, TX8, 7), (RX9, TX9, 5), (RX10, TX10, 12), (RX11, TX11, 14), (RX12, TX12, 99)]
def dfl : Nat → List Value := fun i => match i with
  | 0 => [.int 0, .int 0, .int 0, .int 0, .int 0, .null, .null, .null, .null, .null, .int 0, .null, .null, .null, .int 0, .null, .null, .null]
  | 1 => [.null, .null, .null, .null, .null, .null, .int 0]
  | 2 => [.null, .int 0, .int 0, .long 0, .int 0, .null, .null]
  | 3 => [.null, .null, .int 0, .int 0, .int 0, .int 0, .long 0, .long 0, .long 0, .int 0, .int 0, .int 0, .null, .null, .null, .null]
  | 4 => [.null, .null, .null, .null, .null, .int 0, .null]
  | 5 => [.null, .null, .null, .null, .int 0, .null, .null, .null, .int 0]
  | 6 => [.null, .null, .null, .null, .null, .null, .int 0, .int 0, .int 0, .int 0, .null, .null, .null, .int 0, .int 0, .int 0, .int 0, .int 0, .int 0, .int 0]
  | 7 => [.null, .null, .null, .null, .int 0, .int 0, .int 0, .int 0, .int 0]
  | 8 => [.null, .null, .int 0, .int 0, .int 0, .int 0, .long 0]
  | 9 => [.null, .null, .null, .int 0, .null]
  | 10 => [.int 0, .null, .null, .null, .null, .null, .null, .null, .null, .null, .null, .null]
  | 11 => [.null, .int 0, .int 0, .null, .null, .int 0, .int 0, .null, .null, .null, .null, .null, .null, .null]
  | _ => [.int 0, .null, .int 0, .null, .int 0, .null, .null, .null, .null, .null, .int 0, .int 0, .int 0, .int 0, .int 0, .int 0, .int 0, .int 0, .int 0, .int 0, .int 0, .null, .null, .null, .null, .null, .null, .null, .null, .null, .null, .null, .null, .null, .null, .null, .null, .null, .null, .null, .null, .int 0, .null, .int 0, .null, .int 0, .null, .null, .null, .int 0, .int 0, .int 0, .null, .null, .null, .int 0, .null, .null, .null, .null, .null, .int 0, .int 0, .null, .null, .null, .null, .null, .int 0, .null, .null, .null, .null, .int 0, .int 0, .int 0, .int 0, .int 0, .null, .null, .null, .int 0, .int 0, .null, .int 0, .int 0, .int 0, .null, .null, .null, .null, .int 0, .null, .null, .null, .null, .int 0, .null, .null]
abbrev SG : Type := MethodName × ByteArray × Nat × Option FieldType × Nat × Nat
def s_X0_init : SG := (yX0_init, cX0_init, 3, none, 2, 41)
def s_X0_addTold : SG := (yX0_addTold, cX0_addTold, 6, none, 0, 0)
def s_X0_setSlow : SG := (yX0_setSlow, cX0_setSlow, 3, none, 0, 0)
def s_X0_slowOf : SG := (yX0_slowOf, cX0_slowOf, 2, some (FieldType.int), 0, 0)
def s_X0_trackBits : SG := (yX0_trackBits, cX0_trackBits, 3, some (FieldType.int), 0, 0)
def s_X0_addCircuit : SG := (yX0_addCircuit, cX0_addCircuit, 7, none, 2, 55)
def s_X0_complete : SG := (yX0_complete, cX0_complete, 2, none, 2, 47)
def s_X0_addFlaw : SG := (yX0_addFlaw, cX0_addFlaw, 2, none, 0, 0)
def s_X0_addNever : SG := (yX0_addNever, cX0_addNever, 4, none, 2, 46)
def s_X0_soundCircuits : SG := (yX0_soundCircuits, cX0_soundCircuits, 2, some (FieldType.int), 0, 0)
def s_X0_circuitBits : SG := (yX0_circuitBits, cX0_circuitBits, 1, some (FieldType.int), 0, 0)
def s_X0_forbiddenAt : SG := (yX0_forbiddenAt, cX0_forbiddenAt, 2, some (FieldType.int), 0, 0)
def s_X0_flawIndex : SG := (yX0_flawIndex, cX0_flawIndex, 3, some (FieldType.int), 0, 0)
def s_X0_flawAt : SG := (yX0_flawAt, cX0_flawAt, 2, some (FieldType.int), 0, 0)
def s_X0_isFlawOrNone : SG := (yX0_isFlawOrNone, cX0_isFlawOrNone, 2, some (FieldType.boolean), 1, 22)
def s_X0_unlikeBits : SG := (yX0_unlikeBits, cX0_unlikeBits, 4, some (FieldType.int), 1, 26)
def s_X0_hasSameCircuit : SG := (yX0_hasSameCircuit, cX0_hasSameCircuit, 7, some (FieldType.boolean), 0, 0)
def s_X0_countOf : SG := (yX0_countOf, cX0_countOf, 2, some (FieldType.int), 0, 0)
def s_X1_init : SG := (yX1_init, cX1_init, 1, none, 1, 20)
def s_X1_arePartners : SG := (yX1_arePartners, cX1_arePartners, 4, some (FieldType.boolean), 0, 0)
def s_X1_addPartner : SG := (yX1_addPartner, cX1_addPartner, 4, none, 0, 0)
def s_X1_countPartners : SG := (yX1_countPartners, cX1_countPartners, 4, some (FieldType.int), 1, 23)
def s_X1_partnerAt : SG := (yX1_partnerAt, cX1_partnerAt, 5, some (FieldType.int), 1, 23)
def s_X1_suiteTest : SG := (yX1_suiteTest, cX1_suiteTest, 2, some (FieldType.long), 0, 0)
def s_X2_init : SG := (yX2_init, cX2_init, 2, none, 1, 20)
def s_X2_takeDrawing : SG := (yX2_takeDrawing, cX2_takeDrawing, 2, none, 1, 23)
def s_X2_hasClashed : SG := (yX2_hasClashed, cX2_hasClashed, 1, some (FieldType.boolean), 0, 0)
def s_X2_setInput : SG := (yX2_setInput, cX2_setInput, 3, some (FieldType.boolean), 0, 0)
def s_X2_layStrap : SG := (yX2_layStrap, cX2_layStrap, 3, some (FieldType.boolean), 0, 0)
def s_X2_setAge : SG := (yX2_setAge, cX2_setAge, 3, some (FieldType.boolean), 0, 0)
def s_X2_circuitsNow : SG := (yX2_circuitsNow, cX2_circuitsNow, 3, some (FieldType.int), 1, 27)
def s_X2_goRound : SG := (yX2_goRound, cX2_goRound, 5, some (FieldType.int), 2, 49)
def s_X2_isClash : SG := (yX2_isClash, cX2_isClash, 6, some (FieldType.boolean), 0, 0)
def s_X2_tell : SG := (yX2_tell, cX2_tell, 3, some (FieldType.int), 2, 49)
def s_X3_init : SG := (yX3_init, cX3_init, 2, none, 1, 23)
def s_X3_inputCount : SG := (yX3_inputCount, cX3_inputCount, 1, some (FieldType.int), 0, 0)
def s_X3_prepare : SG := (yX3_prepare, cX3_prepare, 4, none, 2, 48)
def s_X3_prepareMixed : SG := (yX3_prepareMixed, cX3_prepareMixed, 6, none, 1, 23)
def s_X3_harm : SG := (yX3_harm, cX3_harm, 4, none, 0, 0)
def s_X3_circuitsAt : SG := (yX3_circuitsAt, cX3_circuitsAt, 7, some (FieldType.int), 1, 27)
def s_X3_lampsAt : SG := (yX3_lampsAt, cX3_lampsAt, 3, some (FieldType.int), 2, 53)
def s_X3_isWrong : SG := (yX3_isWrong, cX3_isWrong, 2, some (FieldType.boolean), 2, 53)
def s_X3_movable : SG := (yX3_movable, cX3_movable, 10, some (FieldType.int), 1, 21)
def s_X3_settle : SG := (yX3_settle, cX3_settle, 9, some (FieldType.int), 2, 53)
def s_X3_enter : SG := (yX3_enter, cX3_enter, 4, none, 0, 0)
def s_X3_join : SG := (yX3_join, cX3_join, 3, none, 0, 0)
def s_X4_init : SG := (yX4_init, cX4_init, 2, none, 1, 20)
def s_X4_entryCount : SG := (yX4_entryCount, cX4_entryCount, 1, some (FieldType.int), 0, 0)
def s_X4_isKnown : SG := (yX4_isKnown, cX4_isKnown, 2, some (FieldType.boolean), 0, 0)
def s_X4_write : SG := (yX4_write, cX4_write, 6, some (FieldType.int), 1, 24)
def s_X4_areActs : SG := (yX4_areActs, cX4_areActs, 5, some (FieldType.boolean), 0, 0)
def s_X4_addEntry : SG := (yX4_addEntry, cX4_addEntry, 5, some (FieldType.int), 0, 0)
def s_X4_writeVoid : SG := (yX4_writeVoid, cX4_writeVoid, 2, some (FieldType.int), 1, 24)
def s_X4_isVoid : SG := (yX4_isVoid, cX4_isVoid, 4, some (FieldType.boolean), 0, 0)
def s_X4_outcome : SG := (yX4_outcome, cX4_outcome, 8, some (FieldType.int), 3, 81)
def s_X4_isFitting : SG := (yX4_isFitting, cX4_isFitting, 6, some (FieldType.boolean), 4, 108)
def s_X4_countFitting : SG := (yX4_countFitting, cX4_countFitting, 5, some (FieldType.int), 5, 133)
def s_X4_bestRow : SG := (yX4_bestRow, cX4_bestRow, 6, some (FieldType.int), 5, 133)
def s_X4_rowCount : SG := (yX4_rowCount, cX4_rowCount, 1, some (FieldType.int), 0, 0)
def s_X4_rowActs : SG := (yX4_rowActs, cX4_rowActs, 2, some (FieldType.int), 1, 21)
def s_X4_isRow : SG := (yX4_isRow, cX4_isRow, 2, some (FieldType.boolean), 2, 42)
def s_X4_addToGroups : SG := (yX4_addToGroups, cX4_addToGroups, 4, none, 4, 108)
def s_X4_greatestGroup : SG := (yX4_greatestGroup, cX4_greatestGroup, 4, some (FieldType.int), 1, 21)
def s_X5_init : SG := (yX5_init, cX5_init, 3, none, 1, 20)
def s_X5_findPlan : SG := (yX5_findPlan, cX5_findPlan, 6, none, 4, 108)
def s_X5_listSets : SG := (yX5_listSets, cX5_listSets, 4, none, 0, 0)
def s_X5_stagesFrom : SG := (yX5_stagesFrom, cX5_stagesFrom, 4, some (FieldType.int), 2, 42)
def s_X5_isStage : SG := (yX5_isStage, cX5_isStage, 3, some (FieldType.boolean), 1, 20)
def s_X5_stageCount : SG := (yX5_stageCount, cX5_stageCount, 1, some (FieldType.int), 0, 0)
def s_X5_setBehind : SG := (yX5_setBehind, cX5_setBehind, 5, some (FieldType.int), 2, 42)
def s_X6_init : SG := (yX6_init, cX6_init, 1, none, 8, 189)
def s_X6_faultPlace : SG := (yX6_faultPlace, cX6_faultPlace, 1, some (FieldType.int), 0, 0)
def s_X6_judge : SG := (yX6_judge, cX6_judge, 5, some (FieldType.int), 9, 220)
def s_X6_forgetText : SG := (yX6_forgetText, cX6_forgetText, 1, none, 0, 0)
def s_X6_stateBehind : SG := (yX6_stateBehind, cX6_stateBehind, 2, some (FieldType.int), 1, 21)
def s_X6_stateBehindTell : SG := (yX6_stateBehindTell, cX6_stateBehindTell, 1, some (FieldType.int), 0, 0)
def s_X6_stateBehindUnit : SG := (yX6_stateBehindUnit, cX6_stateBehindUnit, 2, some (FieldType.int), 0, 0)
def s_X6_isOutOfRoom : SG := (yX6_isOutOfRoom, cX6_isOutOfRoom, 2, some (FieldType.boolean), 2, 41)
def s_X6_isCircuitName : SG := (yX6_isCircuitName, cX6_isCircuitName, 1, some (FieldType.boolean), 0, 0)
def s_X6_isContact : SG := (yX6_isContact, cX6_isContact, 2, some (FieldType.boolean), 1, 20)
def s_X6_keepToken : SG := (yX6_keepToken, cX6_keepToken, 2, none, 3, 61)
def s_X6_keepName : SG := (yX6_keepName, cX6_keepName, 1, none, 2, 41)
def s_X6_keepTold : SG := (yX6_keepTold, cX6_keepTold, 2, none, 0, 0)
def s_X6_judgeNames : SG := (yX6_judgeNames, cX6_judgeNames, 4, some (FieldType.int), 2, 48)
def s_X6_tellsName : SG := (yX6_tellsName, cX6_tellsName, 1, some (FieldType.boolean), 0, 0)
def s_X6_faultOfToken : SG := (yX6_faultOfToken, cX6_faultOfToken, 5, some (FieldType.int), 1, 24)
def s_X6_isTold : SG := (yX6_isTold, cX6_isTold, 5, some (FieldType.boolean), 0, 0)
def s_X6_greenOf : SG := (yX6_greenOf, cX6_greenOf, 5, some (FieldType.int), 0, 0)
def s_X6_variableOf : SG := (yX6_variableOf, cX6_variableOf, 4, some (FieldType.int), 0, 0)
def s_X6_draw : SG := (yX6_draw, cX6_draw, 3, some ((FieldType.object "RelayHut$Drawing")), 4, 106)
def s_X6_circuitEnd : SG := (yX6_circuitEnd, cX6_circuitEnd, 3, some (FieldType.int), 0, 0)
def s_X6_drawCircuits : SG := (yX6_drawCircuits, cX6_drawCircuits, 6, none, 3, 81)
def s_X6_drawNevers : SG := (yX6_drawNevers, cX6_drawNevers, 5, none, 3, 69)
def s_X7_init : SG := (yX7_init, cX7_init, 2, none, 1, 20)
def s_X7_reachedCount : SG := (yX7_reachedCount, cX7_reachedCount, 1, some (FieldType.int), 0, 0)
def s_X7_raceCount : SG := (yX7_raceCount, cX7_raceCount, 1, some (FieldType.int), 0, 0)
def s_X7_isSafe : SG := (yX7_isSafe, cX7_isSafe, 1, some (FieldType.boolean), 0, 0)
def s_X7_explore : SG := (yX7_explore, cX7_explore, 8, none, 3, 81)
def s_X7_isAtStop : SG := (yX7_isAtStop, cX7_isAtStop, 3, some (FieldType.boolean), 0, 0)
def s_X7_startFrom : SG := (yX7_startFrom, cX7_startFrom, 2, none, 2, 46)
def s_X7_reach : SG := (yX7_reach, cX7_reach, 6, none, 1, 21)
def s_X7_actsToWrong : SG := (yX7_actsToWrong, cX7_actsToWrong, 3, some (FieldType.int), 0, 0)
def s_X7_actToWrong : SG := (yX7_actToWrong, cX7_actToWrong, 5, some (FieldType.int), 1, 22)
def s_X7_countBad : SG := (yX7_countBad, cX7_countBad, 5, some (FieldType.int), 4, 108)
def s_X7_findPartners : SG := (yX7_findPartners, cX7_findPartners, 6, none, 5, 132)
def s_X7_areBadTogether : SG := (yX7_areBadTogether, cX7_areBadTogether, 4, some (FieldType.boolean), 4, 108)
def s_X8_init : SG := (yX8_init, cX8_init, 1, none, 7, 169)
def s_X8_takeText : SG := (yX8_takeText, cX8_takeText, 3, none, 1, 21)
def s_X8_pack : SG := (yX8_pack, cX8_pack, 4, some (FieldType.long), 6, 146)
def s_X8_packLetter : SG := (yX8_packLetter, cX8_packLetter, 3, some (FieldType.long), 0, 0)
def s_X8_takeToken : SG := (yX8_takeToken, cX8_takeToken, 2, none, 8, 199)
def s_X8_takeWord : SG := (yX8_takeWord, cX8_takeWord, 1, none, 1, 22)
def s_X8_kindOfWord : SG := (yX8_kindOfWord, cX8_kindOfWord, 2, some (FieldType.int), 0, 0)
def s_X8_takeNumber : SG := (yX8_takeNumber, cX8_takeNumber, 1, none, 1, 20)
def s_X8_isBlank : SG := (yX8_isBlank, cX8_isBlank, 1, some (FieldType.boolean), 0, 0)
def s_X8_isLetter : SG := (yX8_isLetter, cX8_isLetter, 1, some (FieldType.boolean), 0, 0)
def s_X8_isDigit : SG := (yX8_isDigit, cX8_isDigit, 1, some (FieldType.boolean), 0, 0)
def s_X9_init : SG := (yX9_init, cX9_init, 3, none, 1, 20)
def s_X9_actsOf : SG := (yX9_actsOf, cX9_actsOf, 2, some (FieldType.int), 0, 0)
def s_X9_actAt : SG := (yX9_actAt, cX9_actAt, 3, some (FieldType.int), 1, 21)
def s_X9_leastTest : SG := (yX9_leastTest, cX9_leastTest, 8, some (FieldType.long), 4, 118)
def s_X9_beginSearch : SG := (yX9_beginSearch, cX9_beginSearch, 4, some (FieldType.int), 3, 90)
def s_X9_prepareBoth : SG := (yX9_prepareBoth, cX9_prepareBoth, 3, none, 3, 71)
def s_X9_look : SG := (yX9_look, cX9_look, 5, some (FieldType.int), 2, 53)
def s_X9_actFrom : SG := (yX9_actFrom, cX9_actFrom, 9, some (FieldType.int), 3, 90)
def s_X9_reachPlace : SG := (yX9_reachPlace, cX9_reachPlace, 9, none, 2, 62)
def s_X9_testTo : SG := (yX9_testTo, cX9_testTo, 8, some (FieldType.long), 0, 0)
def s_X9_isSeeing : SG := (yX9_isSeeing, cX9_isSeeing, 9, some (FieldType.boolean), 3, 81)
def s_X9_countHidden : SG := (yX9_countHidden, cX9_countHidden, 4, some (FieldType.int), 5, 145)
def s_X9_makeSuite : SG := (yX9_makeSuite, cX9_makeSuite, 8, none, 5, 145)
def s_X10_init : SG := (yX10_init, cX10_init, 2, none, 1, 20)
def s_X10_contactsIn : SG := (yX10_contactsIn, cX10_contactsIn, 5, some (FieldType.int), 0, 0)
def s_X10_connect : SG := (yX10_connect, cX10_connect, 11, none, 1, 25)
def s_X10_putContact : SG := (yX10_putContact, cX10_putContact, 6, none, 0, 0)
def s_X10_isClosed : SG := (yX10_isClosed, cX10_isClosed, 3, some (FieldType.boolean), 0, 0)
def s_X10_holds : SG := (yX10_holds, cX10_holds, 5, some (FieldType.boolean), 1, 22)
def s_X10_circuitsWith : SG := (yX10_circuitsWith, cX10_circuitsWith, 8, some (FieldType.int), 0, 0)
def s_X10_fillTables : SG := (yX10_fillTables, cX10_fillTables, 6, none, 1, 22)
def s_X10_contactsAt : SG := (yX10_contactsAt, cX10_contactsAt, 2, some (FieldType.long), 0, 0)
def s_X11_init : SG := (yX11_init, cX11_init, 1, none, 9, 209)
def s_X11_feed : SG := (yX11_feed, cX11_feed, 6, some (FieldType.int), 1, 22)
def s_X11_putBytes : SG := (yX11_putBytes, cX11_putBytes, 3, none, 0, 0)
def s_X11_back : SG := (yX11_back, cX11_back, 2, some (FieldType.int), 0, 0)
def s_X11_read : SG := (yX11_read, cX11_read, 2, some (FieldType.int), 10, 244)
def s_X11_place : SG := (yX11_place, cX11_place, 1, some (FieldType.int), 0, 0)
def s_X11_use : SG := (yX11_use, cX11_use, 2, some (FieldType.boolean), 4, 83)
def s_X11_takeToHand : SG := (yX11_takeToHand, cX11_takeToHand, 2, none, 3, 62)
def s_X11_isDrawing : SG := (yX11_isDrawing, cX11_isDrawing, 2, some (FieldType.boolean), 0, 0)
def s_X11_drawingOf : SG := (yX11_drawingOf, cX11_drawingOf, 2, some ((FieldType.object "RelayHut$Drawing")), 1, 21)
def s_X11_current : SG := (yX11_current, cX11_current, 1, some ((FieldType.object "RelayHut$Drawing")), 2, 42)
def s_X11_contact : SG := (yX11_contact, cX11_contact, 6, some (FieldType.int), 3, 62)
def s_X11_flaw : SG := (yX11_flaw, cX11_flaw, 2, some (FieldType.int), 3, 62)
def s_X11_takeHut : SG := (yX11_takeHut, cX11_takeHut, 5, some (FieldType.boolean), 3, 71)
def s_X11_isState : SG := (yX11_isState, cX11_isState, 4, some (FieldType.boolean), 3, 62)
def s_X11_settles : SG := (yX11_settles, cX11_settles, 5, some (FieldType.int), 4, 95)
def s_X11_shows : SG := (yX11_shows, cX11_shows, 5, some (FieldType.int), 4, 95)
def s_X11_start : SG := (yX11_start, cX11_start, 3, some (FieldType.int), 4, 95)
def s_X11_reached : SG := (yX11_reached, cX11_reached, 3, some (FieldType.int), 4, 108)
def s_X11_races : SG := (yX11_races, cX11_races, 3, some (FieldType.int), 4, 108)
def s_X11_bad : SG := (yX11_bad, cX11_bad, 3, some (FieldType.int), 4, 108)
def s_X11_badAct : SG := (yX11_badAct, cX11_badAct, 4, some (FieldType.int), 4, 108)
def s_X11_singles : SG := (yX11_singles, cX11_singles, 1, some (FieldType.int), 5, 132)
def s_X11_pairs : SG := (yX11_pairs, cX11_pairs, 3, some (FieldType.int), 6, 157)
def s_X11_pair : SG := (yX11_pair, cX11_pair, 4, some (FieldType.int), 6, 157)
def s_X11_least : SG := (yX11_least, cX11_least, 5, some (FieldType.int), 5, 145)
def s_X11_leastAct : SG := (yX11_leastAct, cX11_leastAct, 4, some (FieldType.int), 5, 145)
def s_X11_hidden : SG := (yX11_hidden, cX11_hidden, 1, some (FieldType.int), 6, 168)
def s_X11_suite : SG := (yX11_suite, cX11_suite, 1, some (FieldType.int), 6, 172)
def s_X11_suiteAct : SG := (yX11_suiteAct, cX11_suiteAct, 3, some (FieldType.int), 6, 172)
def s_X11_suiteActs : SG := (yX11_suiteActs, cX11_suiteActs, 3, some (FieldType.int), 6, 172)
def s_X11_unlike : SG := (yX11_unlike, cX11_unlike, 3, some (FieldType.int), 2, 49)
def s_X11_safe : SG := (yX11_safe, cX11_safe, 5, some (FieldType.int), 4, 108)
def s_X11_plan : SG := (yX11_plan, cX11_plan, 5, some (FieldType.int), 5, 133)
def s_X11_stage : SG := (yX11_stage, cX11_stage, 6, some (FieldType.int), 6, 157)
def s_X11_log : SG := (yX11_log, cX11_log, 4, some (FieldType.int), 3, 62)
def s_X11_annul : SG := (yX11_annul, cX11_annul, 2, some (FieldType.int), 2, 45)
def s_X11_fits : SG := (yX11_fits, cX11_fits, 4, some (FieldType.int), 5, 133)
def s_X11_suspects : SG := (yX11_suspects, cX11_suspects, 2, some (FieldType.int), 6, 157)
def s_X11_next : SG := (yX11_next, cX11_next, 2, some (FieldType.int), 6, 158)
def s_X11_set : SG := (yX11_set, cX11_set, 3, some (FieldType.boolean), 1, 22)
def s_X11_strap : SG := (yX11_strap, cX11_strap, 3, some (FieldType.boolean), 1, 22)
def s_X11_age : SG := (yX11_age, cX11_age, 3, some (FieldType.boolean), 1, 22)
def s_X11_round : SG := (yX11_round, cX11_round, 1, some (FieldType.int), 3, 73)
def s_X11_clash : SG := (yX11_clash, cX11_clash, 1, some (FieldType.int), 1, 20)
def s_X11_hand : SG := (yX11_hand, cX11_hand, 2, some (FieldType.int), 3, 71)
def s_X11_count : SG := (yX11_count, cX11_count, 3, some (FieldType.int), 3, 62)
def s_X11_wordOf : SG := (yX11_wordOf, cX11_wordOf, 2, some (FieldType.int), 0, 0)
def s_X12_init : SG := (yX12_init, cX12_init, 1, none, 2, 48)
def s_X12_feed : SG := (yX12_feed, cX12_feed, 6, some (FieldType.int), 1, 22)
def s_X12_put : SG := (yX12_put, cX12_put, 3, none, 0, 0)
def s_X12_back : SG := (yX12_back, cX12_back, 2, some (FieldType.int), 0, 0)
def s_X12_byteAt : SG := (yX12_byteAt, cX12_byteAt, 2, some (FieldType.int), 0, 0)
def s_X12_isDigit : SG := (yX12_isDigit, cX12_isDigit, 1, some (FieldType.boolean), 0, 0)
def s_X12_isLetter : SG := (yX12_isLetter, cX12_isLetter, 1, some (FieldType.boolean), 0, 0)
def s_X12_appends : SG := (yX12_appends, cX12_appends, 3, some (FieldType.long), 0, 0)
def s_X12_word : SG := (yX12_word, cX12_word, 7, some (FieldType.long), 1, 22)
def s_X12_token : SG := (yX12_token, cX12_token, 6, none, 0, 0)
def s_X12_cut : SG := (yX12_cut, cX12_cut, 8, none, 1, 25)
def s_X12_sign : SG := (yX12_sign, cX12_sign, 1, some (FieldType.int), 0, 0)
def s_X12_is : SG := (yX12_is, cX12_is, 2, some (FieldType.boolean), 0, 0)
def s_X12_fail : SG := (yX12_fail, cX12_fail, 2, none, 0, 0)
def s_X12_wrong : SG := (yX12_wrong, cX12_wrong, 4, none, 0, 0)
def s_X12_goesOn : SG := (yX12_goesOn, cX12_goesOn, 1, none, 1, 21)
def s_X12_must : SG := (yX12_must, cX12_must, 2, none, 2, 41)
def s_X12_read : SG := (yX12_read, cX12_read, 2, some (FieldType.int), 7, 151)
def s_X12_place : SG := (yX12_place, cX12_place, 1, some (FieldType.int), 0, 0)
def s_X12_tell : SG := (yX12_tell, cX12_tell, 1, none, 6, 131)
def s_X12_inputNamed : SG := (yX12_inputNamed, cX12_inputNamed, 5, some (FieldType.int), 0, 0)
def s_X12_relayNamed : SG := (yX12_relayNamed, cX12_relayNamed, 5, some (FieldType.int), 0, 0)
def s_X12_lampNamed : SG := (yX12_lampNamed, cX12_lampNamed, 5, some (FieldType.int), 0, 0)
def s_X12_named : SG := (yX12_named, cX12_named, 4, some (FieldType.long), 3, 62)
def s_X12_tellInput : SG := (yX12_tellInput, cX12_tellInput, 4, none, 4, 85)
def s_X12_tellRelay : SG := (yX12_tellRelay, cX12_tellRelay, 4, none, 5, 108)
def s_X12_tellLamp : SG := (yX12_tellLamp, cX12_tellLamp, 4, none, 5, 108)
def s_X12_tellNever : SG := (yX12_tellNever, cX12_tellNever, 4, none, 5, 108)
def s_X12_emit : SG := (yX12_emit, cX12_emit, 2, none, 0, 0)
def s_X12_waitsOn : SG := (yX12_waitsOn, cX12_waitsOn, 2, some (FieldType.boolean), 0, 0)
def s_X12_circuit : SG := (yX12_circuit, cX12_circuit, 7, none, 4, 82)
def s_X12_unit : SG := (yX12_unit, cX12_unit, 4, none, 2, 41)
def s_X12_goes : SG := (yX12_goes, cX12_goes, 1, some (FieldType.boolean), 3, 62)
def s_X12_thingNamed : SG := (yX12_thingNamed, cX12_thingNamed, 3, some (FieldType.int), 1, 24)
def s_X12_knows : SG := (yX12_knows, cX12_knows, 3, none, 2, 46)
def s_X12_in : SG := (yX12_in, cX12_in, 3, some (FieldType.boolean), 0, 0)
def s_X12_isDrawing : SG := (yX12_isDrawing, cX12_isDrawing, 2, some (FieldType.boolean), 1, 22)
def s_X12_comes : SG := (yX12_comes, cX12_comes, 3, none, 0, 0)
def s_X12_use : SG := (yX12_use, cX12_use, 2, some (FieldType.boolean), 2, 43)
def s_X12_contact : SG := (yX12_contact, cX12_contact, 4, some (FieldType.int), 1, 22)
def s_X12_isCrossable : SG := (yX12_isCrossable, cX12_isCrossable, 2, some (FieldType.boolean), 0, 0)
def s_X12_isFlaw : SG := (yX12_isFlaw, cX12_isFlaw, 2, some (FieldType.boolean), 1, 21)
def s_X12_isHut : SG := (yX12_isHut, cX12_isHut, 3, some (FieldType.boolean), 2, 42)
def s_X12_flawsThere : SG := (yX12_flawsThere, cX12_flawsThere, 3, some (FieldType.int), 2, 42)
def s_X12_flaw : SG := (yX12_flaw, cX12_flaw, 4, some (FieldType.int), 2, 42)
def s_X12_isThing : SG := (yX12_isThing, cX12_isThing, 7, some (FieldType.boolean), 0, 0)
def s_X12_isShut : SG := (yX12_isShut, cX12_isShut, 5, some (FieldType.boolean), 0, 0)
def s_X12_holds : SG := (yX12_holds, cX12_holds, 8, some (FieldType.boolean), 1, 26)
def s_X12_neverNow : SG := (yX12_neverNow, cX12_neverNow, 6, some (FieldType.int), 2, 53)
def s_X12_greens : SG := (yX12_greens, cX12_greens, 4, some (FieldType.int), 0, 0)
def s_X12_sound : SG := (yX12_sound, cX12_sound, 2, none, 0, 0)
def s_X12_spoils : SG := (yX12_spoils, cX12_spoils, 3, none, 0, 0)
def s_X12_closes : SG := (yX12_closes, cX12_closes, 7, none, 1, 26)
def s_X12_all : SG := (yX12_all, cX12_all, 2, some (FieldType.int), 0, 0)
def s_X12_shutBits : SG := (yX12_shutBits, cX12_shutBits, 8, some (FieldType.int), 2, 52)
def s_X12_isCircuit : SG := (yX12_isCircuit, cX12_isCircuit, 3, some (FieldType.boolean), 0, 0)
def s_X12_builds : SG := (yX12_builds, cX12_builds, 4, none, 4, 108)
def s_X12_lays : SG := (yX12_lays, cX12_lays, 7, none, 3, 82)
def s_X12_allowed : SG := (yX12_allowed, cX12_allowed, 11, some (FieldType.int), 1, 21)
def s_X12_worksOut : SG := (yX12_worksOut, cX12_worksOut, 12, none, 2, 51)
def s_X12_placed : SG := (yX12_placed, cX12_placed, 3, some (FieldType.int), 0, 0)
def s_X12_startOf : SG := (yX12_startOf, cX12_startOf, 2, some (FieldType.int), 1, 22)
def s_X12_behind : SG := (yX12_behind, cX12_behind, 4, some (FieldType.int), 0, 0)
def s_X12_lampsAt : SG := (yX12_lampsAt, cX12_lampsAt, 4, some (FieldType.int), 0, 0)
def s_X12_settles : SG := (yX12_settles, cX12_settles, 5, some (FieldType.int), 5, 131)
def s_X12_shows : SG := (yX12_shows, cX12_shows, 5, some (FieldType.int), 5, 131)
def s_X12_start : SG := (yX12_start, cX12_start, 3, some (FieldType.int), 5, 131)
def s_X12_isWrong : SG := (yX12_isWrong, cX12_isWrong, 5, some (FieldType.boolean), 3, 78)
def s_X12_reaches : SG := (yX12_reaches, cX12_reaches, 10, none, 4, 102)
def s_X12_arrives : SG := (yX12_arrives, cX12_arrives, 4, none, 0, 0)
def s_X12_goesThrough : SG := (yX12_goesThrough, cX12_goesThrough, 3, none, 5, 131)
def s_X12_reached : SG := (yX12_reached, cX12_reached, 3, some (FieldType.int), 6, 153)
def s_X12_races : SG := (yX12_races, cX12_races, 3, some (FieldType.int), 6, 153)
def s_X12_actsTo : SG := (yX12_actsTo, cX12_actsTo, 4, some (FieldType.int), 0, 0)
def s_X12_bad : SG := (yX12_bad, cX12_bad, 3, some (FieldType.int), 6, 153)
def s_X12_badAct : SG := (yX12_badAct, cX12_badAct, 7, some (FieldType.int), 7, 175)
def s_X12_isBad : SG := (yX12_isBad, cX12_isBad, 3, some (FieldType.boolean), 6, 153)
def s_X12_singles : SG := (yX12_singles, cX12_singles, 3, some (FieldType.int), 7, 175)
def s_X12_pairsOf : SG := (yX12_pairsOf, cX12_pairsOf, 4, none, 7, 175)
def s_X12_pairs : SG := (yX12_pairs, cX12_pairs, 2, some (FieldType.int), 8, 198)
def s_X12_pair : SG := (yX12_pair, cX12_pair, 3, some (FieldType.int), 8, 198)
def s_X12_joins : SG := (yX12_joins, cX12_joins, 3, none, 0, 0)
def s_X12_seen : SG := (yX12_seen, cX12_seen, 4, some (FieldType.int), 1, 23)
def s_X12_deep : SG := (yX12_deep, cX12_deep, 4, some (FieldType.int), 0, 0)
def s_X12_actBetween : SG := (yX12_actBetween, cX12_actBetween, 4, some (FieldType.int), 0, 0)
def s_X12_leastTest : SG := (yX12_leastTest, cX12_leastTest, 11, none, 2, 46)
def s_X12_findsTest : SG := (yX12_findsTest, cX12_findsTest, 2, none, 5, 131)
def s_X12_least : SG := (yX12_least, cX12_least, 2, some (FieldType.int), 6, 152)
def s_X12_leastAct : SG := (yX12_leastAct, cX12_leastAct, 3, some (FieldType.int), 6, 152)
def s_X12_sees : SG := (yX12_sees, cX12_sees, 7, some (FieldType.boolean), 2, 46)
def s_X12_makesSuite : SG := (yX12_makesSuite, cX12_makesSuite, 4, none, 5, 131)
def s_X12_hidden : SG := (yX12_hidden, cX12_hidden, 1, some (FieldType.int), 6, 154)
def s_X12_suite : SG := (yX12_suite, cX12_suite, 1, some (FieldType.int), 6, 154)
def s_X12_suiteAct : SG := (yX12_suiteAct, cX12_suiteAct, 3, some (FieldType.int), 6, 154)
def s_X12_suiteActs : SG := (yX12_suiteActs, cX12_suiteActs, 3, some (FieldType.int), 6, 154)
def s_X12_isSame : SG := (yX12_isSame, cX12_isSame, 4, some (FieldType.boolean), 0, 0)
def s_X12_isAlike : SG := (yX12_isAlike, cX12_isAlike, 4, some (FieldType.boolean), 0, 0)
def s_X12_unlikeOnes : SG := (yX12_unlikeOnes, cX12_unlikeOnes, 5, some (FieldType.int), 1, 23)
def s_X12_unlike : SG := (yX12_unlike, cX12_unlike, 3, some (FieldType.int), 2, 47)
def s_X12_isSafe : SG := (yX12_isSafe, cX12_isSafe, 4, some (FieldType.boolean), 5, 131)
def s_X12_safe : SG := (yX12_safe, cX12_safe, 4, some (FieldType.int), 6, 154)
def s_X12_bits : SG := (yX12_bits, cX12_bits, 3, some (FieldType.int), 0, 0)
def s_X12_plans : SG := (yX12_plans, cX12_plans, 7, some (FieldType.int), 6, 154)
def s_X12_plan : SG := (yX12_plan, cX12_plan, 4, some (FieldType.int), 7, 180)
def s_X12_stage : SG := (yX12_stage, cX12_stage, 10, some (FieldType.int), 8, 203)
def s_X12_log : SG := (yX12_log, cX12_log, 7, some (FieldType.int), 1, 22)
def s_X12_annul : SG := (yX12_annul, cX12_annul, 2, some (FieldType.int), 1, 22)
def s_X12_showsBehind : SG := (yX12_showsBehind, cX12_showsBehind, 8, some (FieldType.int), 2, 43)
def s_X12_isVoid : SG := (yX12_isVoid, cX12_isVoid, 4, some (FieldType.boolean), 0, 0)
def s_X12_fitsLogs : SG := (yX12_fitsLogs, cX12_fitsLogs, 4, some (FieldType.boolean), 3, 70)
def s_X12_isKnown : SG := (yX12_isKnown, cX12_isKnown, 2, some (FieldType.boolean), 1, 22)
def s_X12_fits : SG := (yX12_fits, cX12_fits, 3, some (FieldType.int), 5, 131)
def s_X12_counts : SG := (yX12_counts, cX12_counts, 5, none, 5, 131)
def s_X12_rowActs : SG := (yX12_rowActs, cX12_rowActs, 1, some (FieldType.int), 0, 0)
def s_X12_isRow : SG := (yX12_isRow, cX12_isRow, 3, some (FieldType.boolean), 0, 0)
def s_X12_suspects : SG := (yX12_suspects, cX12_suspects, 2, some (FieldType.int), 6, 155)
def s_X12_next : SG := (yX12_next, cX12_next, 7, some (FieldType.int), 6, 155)
def s_X12_set : SG := (yX12_set, cX12_set, 3, some (FieldType.boolean), 1, 22)
def s_X12_strap : SG := (yX12_strap, cX12_strap, 3, some (FieldType.boolean), 1, 22)
def s_X12_age : SG := (yX12_age, cX12_age, 3, some (FieldType.boolean), 1, 22)
def s_X12_handShut : SG := (yX12_handShut, cX12_handShut, 2, some (FieldType.int), 3, 79)
def s_X12_isIn : SG := (yX12_isIn, cX12_isIn, 4, some (FieldType.boolean), 0, 0)
def s_X12_round : SG := (yX12_round, cX12_round, 7, some (FieldType.int), 4, 100)
def s_X12_clash : SG := (yX12_clash, cX12_clash, 1, some (FieldType.int), 0, 0)
def s_X12_hand : SG := (yX12_hand, cX12_hand, 4, some (FieldType.int), 4, 100)
def s_X12_count : SG := (yX12_count, cX12_count, 2, some (FieldType.int), 3, 64)
def s_J6_bitCount_0f7a4 : SG := (yJ6_bitCount_0f7a4, cJ6_bitCount_0f7a4, 1, some (FieldType.int), 0, 0)
def s_J13_bitCount_95d88 : SG := (yJ13_bitCount_95d88, cJ13_bitCount_95d88, 2, some (FieldType.int), 0, 0)
def s_J9_max_7cf53 : SG := (yJ9_max_7cf53, cJ9_max_7cf53, 2, some (FieldType.int), 0, 0)
def s_J9_min_7cf53 : SG := (yJ9_min_7cf53, cJ9_min_7cf53, 2, some (FieldType.int), 0, 0)
def s_J0_length_8abf5 : SG := (yJ0_length_8abf5, cJ0_length_8abf5, 1, some (FieldType.int), 1, 20)
def s_J0_charAt_5068e : SG := (yJ0_charAt_5068e, cJ0_charAt_5068e, 2, some (FieldType.char), 5, 125)
def s_J0_indexOf_0f7a4 : SG := (yJ0_indexOf_0f7a4, cJ0_indexOf_0f7a4, 2, some (FieldType.int), 7, 178)
def s_J7_fill_d0a16 : SG := (yJ7_fill_d0a16, cJ7_fill_d0a16, 5, none, 0, 0)
def s_J7_fill_53178 : SG := (yJ7_fill_53178, cJ7_fill_53178, 4, none, 0, 0)
def s_J7_fill_031fb : SG := (yJ7_fill_031fb, cJ7_fill_031fb, 4, none, 0, 0)
def s_J7_copyOf_c38d5 : SG := (yJ7_copyOf_c38d5, cJ7_copyOf_c38d5, 3, some ((FieldType.array FieldType.long)), 1, 40)
def s_J0_coder_7d493 : SG := (yJ0_coder_7d493, cJ0_coder_7d493, 1, some (FieldType.byte), 0, 0)
def s_J0_isLatin1_aae02 : SG := (yJ0_isLatin1_aae02, cJ0_isLatin1_aae02, 1, some (FieldType.boolean), 0, 0)
def s_J0_checkIndex_df160 : SG := (yJ0_checkIndex_df160, cJ0_checkIndex_df160, 2, none, 2, 62)
def s_J3_checkIndex_8e157 : SG := (yJ3_checkIndex_8e157, cJ3_checkIndex_8e157, 3, some (FieldType.int), 1, 40)
def s_J1_charAt_3b067 : SG := (yJ1_charAt_3b067, cJ1_charAt_3b067, 2, some (FieldType.char), 3, 83)
def s_J0_indexOf_7cf53 : SG := (yJ0_indexOf_7cf53, cJ0_indexOf_7cf53, 3, some (FieldType.int), 6, 156)
def s_J1_indexOf_4cfef : SG := (yJ1_indexOf_4cfef, cJ1_indexOf_4cfef, 4, some (FieldType.int), 1, 25)
def s_J1_indexOfChar_4cfef : SG := (yJ1_indexOfChar_4cfef, cJ1_indexOfChar_4cfef, 6, some (FieldType.int), 0, 0)
def s_J1_canEncode_9a6ad : SG := (yJ1_canEncode_9a6ad, cJ1_canEncode_9a6ad, 1, some (FieldType.boolean), 0, 0)
def sgC_0 : List SG := [s_X0_init, s_X0_addTold, s_X0_setSlow, s_X0_slowOf, s_X0_trackBits, s_X0_addCircuit, s_X0_complete, s_X0_addFlaw, s_X0_addNever, s_X0_soundCircuits, s_X0_circuitBits, s_X0_forbiddenAt, s_X0_flawIndex, s_X0_flawAt, s_X0_isFlawOrNone, s_X0_unlikeBits, s_X0_hasSameCircuit, s_X0_countOf, s_X1_init, s_X1_arePartners, s_X1_addPartner, s_X1_countPartners, s_X1_partnerAt, s_X1_suiteTest, s_X2_init, s_X2_takeDrawing, s_X2_hasClashed]
def sgC_1 : List SG := [s_X2_setInput, s_X2_layStrap, s_X2_setAge, s_X2_circuitsNow, s_X2_goRound, s_X2_isClash, s_X2_tell, s_X3_init, s_X3_inputCount, s_X3_prepare, s_X3_prepareMixed, s_X3_harm, s_X3_circuitsAt, s_X3_lampsAt, s_X3_isWrong, s_X3_movable, s_X3_settle, s_X3_enter, s_X3_join, s_X4_init, s_X4_entryCount, s_X4_isKnown, s_X4_write, s_X4_areActs, s_X4_addEntry, s_X4_writeVoid, s_X4_isVoid]
def sgC_2 : List SG := [s_X4_outcome, s_X4_isFitting, s_X4_countFitting, s_X4_bestRow, s_X4_rowCount, s_X4_rowActs, s_X4_isRow, s_X4_addToGroups, s_X4_greatestGroup, s_X5_init, s_X5_findPlan, s_X5_listSets, s_X5_stagesFrom, s_X5_isStage, s_X5_stageCount, s_X5_setBehind, s_X6_init, s_X6_faultPlace, s_X6_judge, s_X6_forgetText, s_X6_stateBehind, s_X6_stateBehindTell, s_X6_stateBehindUnit, s_X6_isOutOfRoom, s_X6_isCircuitName, s_X6_isContact, s_X6_keepToken]
def sgC_3 : List SG := [s_X6_keepName, s_X6_keepTold, s_X6_judgeNames, s_X6_tellsName, s_X6_faultOfToken, s_X6_isTold, s_X6_greenOf, s_X6_variableOf, s_X6_draw, s_X6_circuitEnd, s_X6_drawCircuits, s_X6_drawNevers, s_X7_init, s_X7_reachedCount, s_X7_raceCount, s_X7_isSafe, s_X7_explore, s_X7_isAtStop, s_X7_startFrom, s_X7_reach, s_X7_actsToWrong, s_X7_actToWrong, s_X7_countBad, s_X7_findPartners, s_X7_areBadTogether, s_X8_init, s_X8_takeText]
def sgC_4 : List SG := [s_X8_pack, s_X8_packLetter, s_X8_takeToken, s_X8_takeWord, s_X8_kindOfWord, s_X8_takeNumber, s_X8_isBlank, s_X8_isLetter, s_X8_isDigit, s_X9_init, s_X9_actsOf, s_X9_actAt, s_X9_leastTest, s_X9_beginSearch, s_X9_prepareBoth, s_X9_look, s_X9_actFrom, s_X9_reachPlace, s_X9_testTo, s_X9_isSeeing, s_X9_countHidden, s_X9_makeSuite, s_X10_init, s_X10_contactsIn, s_X10_connect, s_X10_putContact, s_X10_isClosed]
def sgC_5 : List SG := [s_X10_holds, s_X10_circuitsWith, s_X10_fillTables, s_X10_contactsAt, s_X11_init, s_X11_feed, s_X11_putBytes, s_X11_back, s_X11_read, s_X11_place, s_X11_use, s_X11_takeToHand, s_X11_isDrawing, s_X11_drawingOf, s_X11_current, s_X11_contact, s_X11_flaw, s_X11_takeHut, s_X11_isState, s_X11_settles, s_X11_shows, s_X11_start, s_X11_reached, s_X11_races, s_X11_bad, s_X11_badAct, s_X11_singles]
def sgC_6 : List SG := [s_X11_pairs, s_X11_pair, s_X11_least, s_X11_leastAct, s_X11_hidden, s_X11_suite, s_X11_suiteAct, s_X11_suiteActs, s_X11_unlike, s_X11_safe, s_X11_plan, s_X11_stage, s_X11_log, s_X11_annul, s_X11_fits, s_X11_suspects, s_X11_next, s_X11_set, s_X11_strap, s_X11_age, s_X11_round, s_X11_clash, s_X11_hand, s_X11_count, s_X11_wordOf, s_X12_init, s_X12_feed]
def sgC_7 : List SG := [s_X12_put, s_X12_back, s_X12_byteAt, s_X12_isDigit, s_X12_isLetter, s_X12_appends, s_X12_word, s_X12_token, s_X12_cut, s_X12_sign, s_X12_is, s_X12_fail, s_X12_wrong, s_X12_goesOn, s_X12_must, s_X12_read, s_X12_place, s_X12_tell, s_X12_inputNamed, s_X12_relayNamed, s_X12_lampNamed, s_X12_named, s_X12_tellInput, s_X12_tellRelay, s_X12_tellLamp, s_X12_tellNever, s_X12_emit]
def sgC_8 : List SG := [s_X12_waitsOn, s_X12_circuit, s_X12_unit, s_X12_goes, s_X12_thingNamed, s_X12_knows, s_X12_in, s_X12_isDrawing, s_X12_comes, s_X12_use, s_X12_contact, s_X12_isCrossable, s_X12_isFlaw, s_X12_isHut, s_X12_flawsThere, s_X12_flaw, s_X12_isThing, s_X12_isShut, s_X12_holds, s_X12_neverNow, s_X12_greens, s_X12_sound, s_X12_spoils, s_X12_closes, s_X12_all, s_X12_shutBits, s_X12_isCircuit]
def sgC_9 : List SG := [s_X12_builds, s_X12_lays, s_X12_allowed, s_X12_worksOut, s_X12_placed, s_X12_startOf, s_X12_behind, s_X12_lampsAt, s_X12_settles, s_X12_shows, s_X12_start, s_X12_isWrong, s_X12_reaches, s_X12_arrives, s_X12_goesThrough, s_X12_reached, s_X12_races, s_X12_actsTo, s_X12_bad, s_X12_badAct, s_X12_isBad, s_X12_singles, s_X12_pairsOf, s_X12_pairs, s_X12_pair, s_X12_joins, s_X12_seen]
def sgC_10 : List SG := [s_X12_deep, s_X12_actBetween, s_X12_leastTest, s_X12_findsTest, s_X12_least, s_X12_leastAct, s_X12_sees, s_X12_makesSuite, s_X12_hidden, s_X12_suite, s_X12_suiteAct, s_X12_suiteActs, s_X12_isSame, s_X12_isAlike, s_X12_unlikeOnes, s_X12_unlike, s_X12_isSafe, s_X12_safe, s_X12_bits, s_X12_plans, s_X12_plan, s_X12_stage, s_X12_log, s_X12_annul, s_X12_showsBehind, s_X12_isVoid, s_X12_fitsLogs]
def sgC_11 : List SG := [s_X12_isKnown, s_X12_fits, s_X12_counts, s_X12_rowActs, s_X12_isRow, s_X12_suspects, s_X12_next, s_X12_set, s_X12_strap, s_X12_age, s_X12_handShut, s_X12_isIn, s_X12_round, s_X12_clash, s_X12_hand, s_X12_count, s_J6_bitCount_0f7a4, s_J13_bitCount_95d88, s_J9_max_7cf53, s_J9_min_7cf53, s_J0_length_8abf5, s_J0_charAt_5068e, s_J0_indexOf_0f7a4, s_J7_fill_d0a16, s_J7_fill_53178, s_J7_fill_031fb, s_J7_copyOf_c38d5]
def sgC_12 : List SG := [s_J0_coder_7d493, s_J0_isLatin1_aae02, s_J0_checkIndex_df160, s_J3_checkIndex_8e157, s_J1_charAt_3b067, s_J0_indexOf_7cf53, s_J1_indexOf_4cfef, s_J1_indexOfChar_4cfef, s_J1_canEncode_9a6ad]
def sgL : List SG := sgC_0 ++ (sgC_1 ++ (sgC_2 ++ (sgC_3 ++ (sgC_4 ++ (sgC_5 ++ (sgC_6 ++ (sgC_7 ++ (sgC_8 ++ (sgC_9 ++ (sgC_10 ++ (sgC_11 ++ (sgC_12))))))))))))
def sg (i : Nat) : SG := sgL.getD i s_X0_init
def MDt_0 : List (Nat × Nat × Nat × Nat × Nat × Nat × Nat) := [(0, 167, 133, 166, 0, 0, 1), (1, 929, 133, 927, 929, 0, 3), (2, 937, 133, 935, 937, 0, 2), (3, 1110, 133, 1108, 1110, 0, 1), (4, 952, 133, 950, 952, 0, 0), (5, 945, 133, 943, 945, 0, 4), (6, 969, 133, 967, 969, 0, 0), (7, 973, 133, 972, 21, 0, 1), (8, 1005, 133, 1003, 1005, 0, 2), (9, 1099, 133, 1097, 1099, 0, 1), (10, 985, 133, 983, 985, 0, 0), (11, 1163, 133, 1161, 1163, 0, 1), (12, 1068, 133, 1066, 1068, 0, 1), (13, 1052, 133, 1050, 1052, 0, 1), (14, 1064, 133, 1062, 1064, 0, 1), (15, 1353, 133, 1351, 1353, 0, 1), (16, 1357, 133, 1356, 44, 0, 2), (17, 1576, 133, 1574, 1576, 0, 1), (18, 223, 135, 222, 0, 0, 0), (19, 1221, 135, 1219, 1221, 0, 2), (20, 1229, 135, 1227, 1229, 0, 2), (21, 1233, 135, 1231, 1233, 0, 1), (22, 1242, 135, 1240, 1242, 0, 2), (23, 1330, 135, 1328, 1330, 0, 1), (24, 680, 149, 679, 0, 0, 1), (25, 1029, 149, 1027, 1029, 0, 1), (26, 1549, 149, 1547, 1549, 0, 0), (27, 1503, 149, 1501, 1503, 0, 2), (28, 1511, 149, 1509, 1511, 0, 2), (29, 1520, 149, 1518, 1520, 0, 2), (30, 1532, 149, 1531, 53, 0, 0), (31, 1528, 149, 1526, 1528, 0, 0), (32, 1541, 149, 1540, 54, 0, 1), (33, 1557, 149, 1555, 1557, 0, 1), (34, 503, 143, 502, 0, 0, 1), (35, 1167, 143, 1165, 1167, 0, 0), (36, 1072, 143, 1070, 1072, 0, 3), (37, 1076, 143, 1074, 1076, 0, 5), (38, 1080, 143, 1079, 28, 0, 1), (39, 1095, 143, 1093, 1095, 0, 1)]
def MDt_1 : List (Nat × Nat × Nat × Nat × Nat × Nat × Nat) := [(40, 1126, 143, 1124, 1126, 0, 2), (41, 1159, 143, 1157, 1159, 0, 1), (42, 1106, 143, 1105, 30, 0, 2), (43, 1088, 143, 1086, 1088, 0, 2), (44, 1114, 143, 1113, 31, 0, 3), (45, 1118, 143, 1117, 32, 0, 2), (46, 652, 148, 651, 0, 0, 1), (47, 1572, 148, 1570, 1572, 0, 0), (48, 1442, 148, 1440, 1442, 0, 1), (49, 1419, 148, 1417, 1419, 0, 4), (50, 1422, 148, 1421, 0, 1, 3), (51, 1426, 148, 1425, 48, 0, 4), (52, 1434, 148, 1432, 1434, 0, 1), (53, 1451, 148, 1450, 49, 0, 2), (54, 1455, 148, 1454, 50, 0, 2), (55, 1446, 148, 1444, 1446, 0, 3), (56, 1466, 148, 1464, 1466, 0, 2), (57, 1476, 148, 1474, 1476, 0, 2), (58, 1487, 148, 1486, 0, 1, 1), (59, 1490, 148, 1489, 0, 1, 1), (60, 1484, 148, 1483, 0, 1, 2), (61, 1481, 148, 1480, 51, 0, 1), (62, 1495, 148, 1494, 52, 0, 1), (63, 618, 147, 617, 0, 0, 2), (64, 1381, 147, 1379, 1381, 0, 4), (65, 1385, 147, 1384, 45, 0, 1), (66, 1393, 147, 1392, 46, 0, 1), (67, 1397, 147, 1396, 47, 0, 2), (68, 1402, 147, 1400, 1402, 0, 0), (69, 1411, 147, 1409, 1411, 0, 1), (70, 342, 137, 341, 0, 0, 0), (71, 919, 137, 917, 919, 0, 0), (72, 766, 137, 764, 766, 0, 2), (73, 770, 137, 769, 2, 0, 0), (74, 885, 137, 884, 11, 0, 1), (75, 888, 137, 887, 0, 1, 1), (76, 892, 137, 891, 12, 0, 1), (77, 896, 137, 895, 13, 0, 1), (78, 903, 137, 902, 0, 1, 1), (79, 900, 137, 899, 14, 0, 1)]
def MDt_2 : List (Nat × Nat × Nat × Nat × Nat × Nat × Nat) := [(80, 907, 137, 906, 15, 0, 1), (81, 911, 137, 910, 16, 0, 0), (82, 915, 137, 914, 17, 0, 1), (83, 861, 137, 860, 6, 0, 0), (84, 869, 137, 868, 0, 1, 1), (85, 865, 137, 864, 7, 0, 2), (86, 873, 137, 872, 8, 0, 2), (87, 877, 137, 876, 9, 0, 2), (88, 881, 137, 880, 10, 0, 1), (89, 923, 137, 921, 923, 0, 0), (90, 941, 137, 940, 19, 0, 1), (91, 933, 137, 932, 18, 0, 1), (92, 997, 137, 996, 22, 0, 1), (93, 562, 145, 561, 0, 0, 1), (94, 1171, 145, 1169, 1171, 0, 0), (95, 1179, 145, 1177, 1179, 0, 0), (96, 1367, 145, 1365, 1367, 0, 0), (97, 1138, 145, 1136, 1138, 0, 2), (98, 1142, 145, 1141, 33, 0, 2), (99, 1147, 145, 1146, 34, 0, 1), (100, 1154, 145, 1153, 35, 0, 3), (101, 1187, 145, 1185, 1187, 0, 0), (102, 1195, 145, 1193, 1195, 0, 1), (103, 1204, 145, 1202, 1204, 0, 1), (104, 1216, 145, 1214, 1216, 0, 2), (105, 1225, 145, 1224, 36, 0, 3), (106, 348, 138, 347, 0, 0, 0), (107, 774, 138, 772, 774, 0, 2), (108, 353, 138, 352, 0, 1, 1), (109, 404, 138, 403, 0, 1, 2), (110, 779, 138, 777, 779, 0, 0), (111, 789, 138, 788, 3, 0, 0), (112, 793, 138, 792, 4, 0, 0), (113, 800, 138, 799, 5, 0, 0), (114, 782, 138, 781, 0, 1, 1), (115, 785, 138, 784, 0, 1, 1), (116, 796, 138, 795, 0, 1, 1), (117, 596, 146, 595, 0, 0, 2), (118, 1301, 146, 1300, 0, 1, 1), (119, 1308, 146, 1307, 0, 1, 2)]
def MDt_3 : List (Nat × Nat × Nat × Nat × Nat × Nat × Nat) := [(120, 1250, 146, 1248, 1250, 0, 2), (121, 1261, 146, 1260, 38, 0, 0), (122, 1256, 146, 1255, 37, 0, 2), (123, 1267, 146, 1266, 39, 0, 3), (124, 1291, 146, 1290, 41, 0, 2), (125, 1273, 146, 1272, 40, 0, 4), (126, 1296, 146, 1295, 42, 0, 3), (127, 1335, 146, 1334, 43, 0, 1), (128, 1317, 146, 1315, 1317, 0, 1), (129, 1326, 146, 1324, 1326, 0, 1), (130, 173, 134, 172, 0, 0, 1), (131, 959, 134, 958, 0, 1, 3), (132, 956, 134, 954, 956, 0, 5), (133, 964, 134, 963, 20, 0, 5), (134, 981, 134, 979, 981, 0, 2), (135, 1009, 134, 1007, 1009, 0, 2), (136, 993, 134, 991, 993, 0, 2), (137, 977, 134, 975, 977, 0, 1), (138, 989, 134, 987, 989, 0, 1), (139, 159, 132, 158, 0, 0, 0), (140, 750, 132, 748, 750, 0, 5), (141, 754, 132, 753, 1, 0, 1), (142, 758, 132, 756, 758, 0, 1), (143, 762, 132, 760, 762, 0, 0), (144, 1036, 132, 1034, 1036, 0, 0), (145, 1040, 132, 1038, 1040, 0, 1), (146, 1013, 132, 1012, 23, 0, 1), (147, 1025, 132, 1024, 26, 0, 1), (148, 1021, 132, 1020, 25, 0, 1), (149, 1017, 132, 1016, 24, 0, 0), (150, 1044, 132, 1042, 1044, 0, 2), (151, 1048, 132, 1046, 1048, 0, 1), (152, 1060, 132, 1059, 27, 0, 2), (153, 1084, 132, 1083, 29, 0, 2), (154, 1056, 132, 1054, 1056, 0, 4), (155, 1122, 132, 1120, 1122, 0, 4), (156, 1130, 132, 1128, 1130, 0, 2), (157, 1134, 132, 1132, 1134, 0, 2), (158, 1175, 132, 1173, 1175, 0, 2), (159, 1183, 132, 1181, 1183, 0, 2)]
def MDt_4 : List (Nat × Nat × Nat × Nat × Nat × Nat × Nat) := [(160, 1191, 132, 1189, 1191, 0, 3), (161, 1200, 132, 1198, 1200, 0, 0), (162, 1211, 132, 1209, 1211, 0, 1), (163, 1238, 132, 1236, 1238, 0, 2), (164, 1246, 132, 1244, 1246, 0, 1), (165, 1305, 132, 1303, 1305, 0, 2), (166, 1313, 132, 1311, 1313, 0, 0), (167, 1322, 132, 1320, 1322, 0, 0), (168, 1340, 132, 1338, 1340, 0, 2), (169, 1345, 132, 1343, 1345, 0, 0), (170, 1349, 132, 1347, 1349, 0, 2), (171, 1361, 132, 1359, 1361, 0, 3), (172, 1371, 132, 1369, 1371, 0, 3), (173, 1406, 132, 1404, 1406, 0, 4), (174, 1415, 132, 1413, 1415, 0, 3), (175, 1430, 132, 1428, 1430, 0, 1), (176, 1438, 132, 1436, 1438, 0, 2), (177, 1462, 132, 1460, 1462, 0, 1), (178, 1472, 132, 1470, 1472, 0, 1), (179, 1499, 132, 1497, 1499, 0, 2), (180, 1507, 132, 1505, 1507, 0, 2), (181, 1516, 132, 1514, 1516, 0, 2), (182, 1524, 132, 1522, 1524, 0, 0), (183, 1545, 132, 1543, 1545, 0, 0), (184, 1553, 132, 1551, 1553, 0, 1), (185, 1568, 132, 1566, 1568, 0, 1), (186, 1091, 132, 1090, 0, 1, 2), (187, 1581, 150, 1580, 0, 0, 0), (188, 1892, 150, 1890, 1892, 0, 5), (189, 1896, 150, 1895, 55, 0, 1), (190, 1900, 150, 1898, 1900, 0, 1), (191, 1912, 150, 1911, 57, 0, 1), (192, 1922, 150, 1921, 0, 1, 1), (193, 1919, 150, 1918, 0, 1, 1), (194, 1589, 150, 1588, 0, 1, 2), (195, 1586, 150, 1585, 0, 1, 7), (196, 1916, 150, 1915, 58, 0, 4), (197, 1908, 150, 1907, 56, 0, 0), (198, 1925, 150, 1924, 0, 1, 1), (199, 1929, 150, 1928, 59, 0, 1)]
def MDt_5 : List (Nat × Nat × Nat × Nat × Nat × Nat × Nat) := [(200, 1937, 150, 1936, 61, 0, 1), (201, 1969, 150, 1968, 69, 0, 2), (202, 1945, 150, 1944, 63, 0, 0), (203, 1953, 150, 1952, 65, 0, 1), (204, 1904, 150, 1902, 1904, 0, 0), (205, 2017, 150, 2015, 2017, 0, 0), (206, 1933, 150, 1932, 60, 0, 0), (207, 1957, 150, 1956, 66, 0, 1), (208, 1961, 150, 1960, 67, 0, 1), (209, 1965, 150, 1964, 68, 0, 1), (210, 1949, 150, 1948, 64, 0, 0), (211, 1941, 150, 1940, 62, 0, 0), (212, 1973, 150, 1972, 70, 0, 0), (213, 1997, 150, 1996, 76, 0, 0), (214, 2001, 150, 2000, 77, 0, 0), (215, 1985, 150, 1984, 73, 0, 1), (216, 1993, 150, 1992, 75, 0, 1), (217, 1977, 150, 1976, 71, 0, 2), (218, 1981, 150, 1980, 72, 0, 1), (219, 1989, 150, 1988, 74, 0, 0), (220, 2009, 150, 2008, 79, 0, 1), (221, 2005, 150, 2004, 78, 0, 0), (222, 2028, 150, 2027, 0, 1, 3), (223, 2025, 150, 2024, 81, 0, 1), (224, 2013, 150, 2012, 80, 0, 1), (225, 2021, 150, 2019, 2021, 0, 1), (226, 2032, 150, 2030, 2032, 0, 2), (227, 2044, 150, 2043, 83, 0, 1), (228, 2040, 150, 2039, 82, 0, 1), (229, 2052, 150, 2051, 84, 0, 2), (230, 2375, 150, 2374, 131, 0, 0), (231, 2036, 150, 2034, 2036, 0, 1), (232, 2084, 150, 2083, 92, 0, 5), (233, 2092, 150, 2091, 94, 0, 1), (234, 2156, 150, 2155, 107, 0, 4), (235, 2152, 150, 2151, 106, 0, 3), (236, 2148, 150, 2147, 105, 0, 1), (237, 2064, 150, 2063, 87, 0, 0), (238, 2068, 150, 2067, 88, 0, 1), (239, 2080, 150, 2079, 91, 0, 3)]
def MDt_6 : List (Nat × Nat × Nat × Nat × Nat × Nat × Nat) := [(240, 2056, 150, 2055, 85, 0, 1), (241, 2076, 150, 2075, 90, 0, 5), (242, 2088, 150, 2087, 93, 0, 2), (243, 2060, 150, 2059, 86, 0, 3), (244, 2072, 150, 2071, 89, 0, 4), (245, 2100, 150, 2099, 96, 0, 4), (246, 2096, 150, 2095, 95, 0, 3), (247, 2104, 150, 2103, 97, 0, 2), (248, 2124, 150, 2123, 100, 0, 1), (249, 2108, 150, 2107, 98, 0, 3), (250, 2116, 150, 2115, 99, 0, 3), (251, 2048, 150, 2046, 2048, 0, 4), (252, 2112, 150, 2110, 2112, 0, 4), (253, 2120, 150, 2118, 2120, 0, 2), (254, 2144, 150, 2143, 104, 0, 4), (255, 2136, 150, 2135, 102, 0, 3), (256, 2140, 150, 2139, 103, 0, 3), (257, 2132, 150, 2131, 101, 0, 2), (258, 2128, 150, 2126, 2128, 0, 2), (259, 2160, 150, 2158, 2160, 0, 2), (260, 2168, 150, 2167, 108, 0, 1), (261, 2164, 150, 2162, 2164, 0, 2), (262, 2172, 150, 2170, 2172, 0, 3), (263, 2181, 150, 2180, 109, 0, 2), (264, 2177, 150, 2175, 2177, 0, 0), (265, 2189, 150, 2188, 110, 0, 2), (266, 2185, 150, 2183, 2185, 0, 1), (267, 2193, 150, 2191, 2193, 0, 2), (268, 2213, 150, 2212, 114, 0, 2), (269, 2209, 150, 2208, 113, 0, 3), (270, 2217, 150, 2216, 115, 0, 1), (271, 2220, 150, 2219, 0, 1, 2), (272, 2205, 150, 2204, 112, 0, 0), (273, 2201, 150, 2200, 111, 0, 1), (274, 2197, 150, 2195, 2197, 0, 1), (275, 2224, 150, 2222, 2224, 0, 2), (276, 2236, 150, 2235, 117, 0, 1), (277, 2232, 150, 2231, 116, 0, 0), (278, 2228, 150, 2226, 2228, 0, 0), (279, 2240, 150, 2238, 2240, 0, 0)]
def MDt_7 : List (Nat × Nat × Nat × Nat × Nat × Nat × Nat) := [(280, 2244, 150, 2242, 2244, 0, 2), (281, 2248, 150, 2246, 2248, 0, 0), (282, 2256, 150, 2255, 118, 0, 2), (283, 2264, 150, 2263, 120, 0, 2), (284, 2260, 150, 2259, 119, 0, 2), (285, 2252, 150, 2250, 2252, 0, 2), (286, 2272, 150, 2271, 121, 0, 3), (287, 2268, 150, 2266, 2268, 0, 3), (288, 2283, 150, 2282, 0, 1, 1), (289, 2280, 150, 2279, 122, 0, 3), (290, 2276, 150, 2274, 2276, 0, 3), (291, 2287, 150, 2285, 2287, 0, 4), (292, 2292, 150, 2290, 2292, 0, 3), (293, 2296, 150, 2294, 2296, 0, 1), (294, 2316, 150, 2315, 126, 0, 2), (295, 2312, 150, 2311, 125, 0, 2), (296, 2308, 150, 2307, 124, 0, 1), (297, 2304, 150, 2303, 123, 0, 1), (298, 2300, 150, 2298, 2300, 0, 2), (299, 2324, 150, 2323, 127, 0, 1), (300, 2327, 150, 2326, 0, 1, 1), (301, 2335, 150, 2334, 128, 0, 1), (302, 2320, 150, 2318, 2320, 0, 1), (303, 2331, 150, 2329, 2331, 0, 1), (304, 2339, 150, 2337, 2339, 0, 2), (305, 2343, 150, 2341, 2343, 0, 2), (306, 2347, 150, 2345, 2347, 0, 2), (307, 2355, 150, 2354, 129, 0, 0), (308, 2359, 150, 2358, 130, 0, 2), (309, 2351, 150, 2349, 2351, 0, 0), (310, 2363, 150, 2361, 2363, 0, 0), (311, 2367, 150, 2365, 2367, 0, 1), (312, 2371, 150, 2369, 2371, 0, 1), (313, 1374, 153, 1373, 0, 1, 1), (314, 1560, 154, 1559, 0, 1, 1), (315, 259, 136, 258, 0, 1, 2), (316, 256, 136, 255, 0, 1, 2), (317, 357, 139, 355, 357, 0, 0), (318, 367, 139, 365, 367, 0, 1), (319, 806, 139, 804, 806, 0, 1)]
def MDt_8 : List (Nat × Nat × Nat × Nat × Nat × Nat × Nat) := [(320, 1150, 144, 1149, 0, 1, 2), (321, 1032, 144, 1031, 0, 1, 2), (322, 507, 144, 506, 0, 1, 2), (323, 1278, 144, 1277, 0, 1, 2), (324, 361, 139, 359, 361, 0, 0), (325, 371, 139, 369, 371, 0, 0), (326, 377, 139, 376, 0, 1, 2), (327, 382, 141, 381, 0, 1, 3), (328, 374, 140, 373, 0, 1, 2), (329, 810, 139, 808, 810, 0, 2), (330, 814, 140, 813, 0, 1, 4), (331, 822, 140, 821, 0, 1, 4), (332, 817, 140, 816, 0, 1, 1)]
def MDt : List (Nat × Nat × Nat × Nat × Nat × Nat × Nat) := MDt_0 ++ (MDt_1 ++ (MDt_2 ++ (MDt_3 ++ (MDt_4 ++ (MDt_5 ++ (MDt_6 ++ (MDt_7 ++ (MDt_8))))))))
theorem TP_1 : ∀ w ∈ tables_1_1, w ∈ lw_tbl := fun w h => List.mem_append_right _ (List.mem_append_left _ h)
theorem TP_2 : ∀ w ∈ tables_1_2, w ∈ lw_tbl := fun w h => List.mem_append_right _ (List.mem_append_right _ (List.mem_append_left _ h))
theorem TP_3 : ∀ w ∈ tables_1_3, w ∈ lw_tbl := fun w h => List.mem_append_right _ (List.mem_append_right _ (List.mem_append_right _ (List.mem_append_left _ h)))
theorem TP_4 : ∀ w ∈ tables_1_4, w ∈ lw_tbl := fun w h => List.mem_append_right _ (List.mem_append_right _ (List.mem_append_right _ (List.mem_append_right _ (List.mem_append_left _ h))))
theorem TP_5 : ∀ w ∈ tables_1_5, w ∈ lw_tbl := fun w h => List.mem_append_right _ (List.mem_append_right _ (List.mem_append_right _ (List.mem_append_right _ (List.mem_append_right _ (List.mem_append_left _ h)))))
theorem TP_6 : ∀ w ∈ tables_1_6, w ∈ lw_tbl := fun w h => List.mem_append_right _ (List.mem_append_right _ (List.mem_append_right _ (List.mem_append_right _ (List.mem_append_right _ (List.mem_append_right _ (List.mem_append_left _ h))))))
theorem TP_7 : ∀ w ∈ tables_1_7, w ∈ lw_tbl := fun w h => List.mem_append_right _ (List.mem_append_right _ (List.mem_append_right _ (List.mem_append_right _ (List.mem_append_right _ (List.mem_append_right _ (List.mem_append_right _ (List.mem_append_left _ h)))))))
theorem TP_8 : ∀ w ∈ tables_1_8, w ∈ lw_tbl := fun w h => List.mem_append_right _ (List.mem_append_right _ (List.mem_append_right _ (List.mem_append_right _ (List.mem_append_right _ (List.mem_append_right _ (List.mem_append_right _ (List.mem_append_right _ (List.mem_append_left _ h))))))))
theorem TP_9 : ∀ w ∈ tables_1_9, w ∈ lw_tbl := fun w h => List.mem_append_right _ (List.mem_append_right _ (List.mem_append_right _ (List.mem_append_right _ (List.mem_append_right _ (List.mem_append_right _ (List.mem_append_right _ (List.mem_append_right _ (List.mem_append_right _ (List.mem_append_left _ h)))))))))
theorem TP_10 : ∀ w ∈ tables_1_10, w ∈ lw_tbl := fun w h => List.mem_append_right _ (List.mem_append_right _ (List.mem_append_right _ (List.mem_append_right _ (List.mem_append_right _ (List.mem_append_right _ (List.mem_append_right _ (List.mem_append_right _ (List.mem_append_right _ (List.mem_append_right _ (h))))))))))
def wCD (g : SG) : Cond := .code g.1 g.2.1 g.2.2.1 g.2.2.2.1
theorem CD_of {w : Cond} {L : List Cond} {i : Nat} (hL : ∀ w ∈ L, w ∈ lw_tbl) (h : L[i]? = some w) (hg : goodWord w = true) : w ∈ TB := List.mem_filter.mpr ⟨hL w (List.mem_of_getElem? h), hg⟩
theorem kd_X0_init : wCD s_X0_init ∈ TB := CD_of (i := 36) TP_1 (by rfl) (by rfl)
theorem kd_X0_addTold : wCD s_X0_addTold ∈ TB := CD_of (i := 78) TP_4 (by rfl) (by rfl)
theorem kd_X0_setSlow : wCD s_X0_setSlow ∈ TB := CD_of (i := 86) TP_4 (by rfl) (by rfl)
theorem kd_X0_slowOf : wCD s_X0_slowOf ∈ TB := CD_of (i := 19) TP_5 (by rfl) (by rfl)
theorem kd_X0_trackBits : wCD s_X0_trackBits ∈ TB := CD_of (i := 101) TP_4 (by rfl) (by rfl)
theorem kd_X0_addCircuit : wCD s_X0_addCircuit ∈ TB := CD_of (i := 94) TP_4 (by rfl) (by rfl)
theorem kd_X0_complete : wCD s_X0_complete ∈ TB := CD_of (i := 118) TP_4 (by rfl) (by rfl)
theorem kd_X0_addFlaw : wCD s_X0_addFlaw ∈ TB := CD_of (i := 122) TP_4 (by rfl) (by rfl)
theorem kd_X0_addNever : wCD s_X0_addNever ∈ TB := CD_of (i := 154) TP_4 (by rfl) (by rfl)
theorem kd_X0_soundCircuits : wCD s_X0_soundCircuits ∈ TB := CD_of (i := 8) TP_5 (by rfl) (by rfl)
theorem kd_X0_circuitBits : wCD s_X0_circuitBits ∈ TB := CD_of (i := 134) TP_4 (by rfl) (by rfl)
theorem kd_X0_forbiddenAt : wCD s_X0_forbiddenAt ∈ TB := CD_of (i := 72) TP_5 (by rfl) (by rfl)
theorem kd_X0_flawIndex : wCD s_X0_flawIndex ∈ TB := CD_of (i := 217) TP_4 (by rfl) (by rfl)
theorem kd_X0_flawAt : wCD s_X0_flawAt ∈ TB := CD_of (i := 201) TP_4 (by rfl) (by rfl)
theorem kd_X0_isFlawOrNone : wCD s_X0_isFlawOrNone ∈ TB := CD_of (i := 213) TP_4 (by rfl) (by rfl)
theorem kd_X0_unlikeBits : wCD s_X0_unlikeBits ∈ TB := CD_of (i := 22) TP_6 (by rfl) (by rfl)
theorem kd_X0_hasSameCircuit : wCD s_X0_hasSameCircuit ∈ TB := CD_of (i := 26) TP_6 (by rfl) (by rfl)
theorem kd_X0_countOf : wCD s_X0_countOf ∈ TB := CD_of (i := 5) TP_7 (by rfl) (by rfl)
theorem kd_X1_init : wCD s_X1_init ∈ TB := CD_of (i := 92) TP_1 (by rfl) (by rfl)
theorem kd_X1_arePartners : wCD s_X1_arePartners ∈ TB := CD_of (i := 130) TP_5 (by rfl) (by rfl)
theorem kd_X1_addPartner : wCD s_X1_addPartner ∈ TB := CD_of (i := 138) TP_5 (by rfl) (by rfl)
theorem kd_X1_countPartners : wCD s_X1_countPartners ∈ TB := CD_of (i := 142) TP_5 (by rfl) (by rfl)
theorem kd_X1_partnerAt : wCD s_X1_partnerAt ∈ TB := CD_of (i := 151) TP_5 (by rfl) (by rfl)
theorem kd_X1_suiteTest : wCD s_X1_suiteTest ∈ TB := CD_of (i := 239) TP_5 (by rfl) (by rfl)
theorem kd_X2_init : wCD s_X2_init ∈ TB := CD_of (i := 69) TP_3 (by rfl) (by rfl)
theorem kd_X2_takeDrawing : wCD s_X2_takeDrawing ∈ TB := CD_of (i := 178) TP_4 (by rfl) (by rfl)
theorem kd_X2_hasClashed : wCD s_X2_hasClashed ∈ TB := CD_of (i := 218) TP_6 (by rfl) (by rfl)
theorem kd_X2_setInput : wCD s_X2_setInput ∈ TB := CD_of (i := 172) TP_6 (by rfl) (by rfl)
theorem kd_X2_layStrap : wCD s_X2_layStrap ∈ TB := CD_of (i := 180) TP_6 (by rfl) (by rfl)
theorem kd_X2_setAge : wCD s_X2_setAge ∈ TB := CD_of (i := 189) TP_6 (by rfl) (by rfl)
theorem kd_X2_circuitsNow : wCD s_X2_circuitsNow ∈ TB := CD_of (i := 201) TP_6 (by rfl) (by rfl)
theorem kd_X2_goRound : wCD s_X2_goRound ∈ TB := CD_of (i := 197) TP_6 (by rfl) (by rfl)
theorem kd_X2_isClash : wCD s_X2_isClash ∈ TB := CD_of (i := 210) TP_6 (by rfl) (by rfl)
theorem kd_X2_tell : wCD s_X2_tell ∈ TB := CD_of (i := 226) TP_6 (by rfl) (by rfl)
theorem kd_X3_init : wCD s_X3_init ∈ TB := CD_of (i := 132) TP_2 (by rfl) (by rfl)
theorem kd_X3_inputCount : wCD s_X3_inputCount ∈ TB := CD_of (i := 76) TP_5 (by rfl) (by rfl)
theorem kd_X3_prepare : wCD s_X3_prepare ∈ TB := CD_of (i := 221) TP_4 (by rfl) (by rfl)
theorem kd_X3_prepareMixed : wCD s_X3_prepareMixed ∈ TB := CD_of (i := 225) TP_4 (by rfl) (by rfl)
theorem kd_X3_harm : wCD s_X3_harm ∈ TB := CD_of (i := 229) TP_4 (by rfl) (by rfl)
theorem kd_X3_circuitsAt : wCD s_X3_circuitsAt ∈ TB := CD_of (i := 4) TP_5 (by rfl) (by rfl)
theorem kd_X3_lampsAt : wCD s_X3_lampsAt ∈ TB := CD_of (i := 35) TP_5 (by rfl) (by rfl)
theorem kd_X3_isWrong : wCD s_X3_isWrong ∈ TB := CD_of (i := 68) TP_5 (by rfl) (by rfl)
theorem kd_X3_movable : wCD s_X3_movable ∈ TB := CD_of (i := 15) TP_5 (by rfl) (by rfl)
theorem kd_X3_settle : wCD s_X3_settle ∈ TB := CD_of (i := 237) TP_4 (by rfl) (by rfl)
theorem kd_X3_enter : wCD s_X3_enter ∈ TB := CD_of (i := 23) TP_5 (by rfl) (by rfl)
theorem kd_X3_join : wCD s_X3_join ∈ TB := CD_of (i := 27) TP_5 (by rfl) (by rfl)
theorem kd_X4_init : wCD s_X4_init ∈ TB := CD_of (i := 41) TP_3 (by rfl) (by rfl)
theorem kd_X4_entryCount : wCD s_X4_entryCount ∈ TB := CD_of (i := 1) TP_7 (by rfl) (by rfl)
theorem kd_X4_isKnown : wCD s_X4_isKnown ∈ TB := CD_of (i := 111) TP_6 (by rfl) (by rfl)
theorem kd_X4_write : wCD s_X4_write ∈ TB := CD_of (i := 88) TP_6 (by rfl) (by rfl)
theorem kd_X4_areActs : wCD s_X4_areActs ∈ TB := CD_of (i := 91) TP_6 (by rfl) (by rfl)
theorem kd_X4_addEntry : wCD s_X4_addEntry ∈ TB := CD_of (i := 95) TP_6 (by rfl) (by rfl)
theorem kd_X4_writeVoid : wCD s_X4_writeVoid ∈ TB := CD_of (i := 103) TP_6 (by rfl) (by rfl)
theorem kd_X4_isVoid : wCD s_X4_isVoid ∈ TB := CD_of (i := 120) TP_6 (by rfl) (by rfl)
theorem kd_X4_outcome : wCD s_X4_outcome ∈ TB := CD_of (i := 124) TP_6 (by rfl) (by rfl)
theorem kd_X4_isFitting : wCD s_X4_isFitting ∈ TB := CD_of (i := 115) TP_6 (by rfl) (by rfl)
theorem kd_X4_countFitting : wCD s_X4_countFitting ∈ TB := CD_of (i := 135) TP_6 (by rfl) (by rfl)
theorem kd_X4_bestRow : wCD s_X4_bestRow ∈ TB := CD_of (i := 145) TP_6 (by rfl) (by rfl)
theorem kd_X4_rowCount : wCD s_X4_rowCount ∈ TB := CD_of (i := 156) TP_6 (by rfl) (by rfl)
theorem kd_X4_rowActs : wCD s_X4_rowActs ∈ TB := CD_of (i := 159) TP_6 (by rfl) (by rfl)
theorem kd_X4_isRow : wCD s_X4_isRow ∈ TB := CD_of (i := 153) TP_6 (by rfl) (by rfl)
theorem kd_X4_addToGroups : wCD s_X4_addToGroups ∈ TB := CD_of (i := 150) TP_6 (by rfl) (by rfl)
theorem kd_X4_greatestGroup : wCD s_X4_greatestGroup ∈ TB := CD_of (i := 164) TP_6 (by rfl) (by rfl)
theorem kd_X5_init : wCD s_X5_init ∈ TB := CD_of (i := 7) TP_3 (by rfl) (by rfl)
theorem kd_X5_findPlan : wCD s_X5_findPlan ∈ TB := CD_of (i := 50) TP_6 (by rfl) (by rfl)
theorem kd_X5_listSets : wCD s_X5_listSets ∈ TB := CD_of (i := 54) TP_6 (by rfl) (by rfl)
theorem kd_X5_stagesFrom : wCD s_X5_stagesFrom ∈ TB := CD_of (i := 62) TP_6 (by rfl) (by rfl)
theorem kd_X5_isStage : wCD s_X5_isStage ∈ TB := CD_of (i := 66) TP_6 (by rfl) (by rfl)
theorem kd_X5_stageCount : wCD s_X5_stageCount ∈ TB := CD_of (i := 71) TP_6 (by rfl) (by rfl)
theorem kd_X5_setBehind : wCD s_X5_setBehind ∈ TB := CD_of (i := 80) TP_6 (by rfl) (by rfl)
theorem kd_X6_init : wCD s_X6_init ∈ TB := CD_of (i := 211) TP_1 (by rfl) (by rfl)
theorem kd_X6_faultPlace : wCD s_X6_faultPlace ∈ TB := CD_of (i := 68) TP_4 (by rfl) (by rfl)
theorem kd_X6_judge : wCD s_X6_judge ∈ TB := CD_of (i := 155) TP_3 (by rfl) (by rfl)
theorem kd_X6_forgetText : wCD s_X6_forgetText ∈ TB := CD_of (i := 159) TP_3 (by rfl) (by rfl)
theorem kd_X6_stateBehind : wCD s_X6_stateBehind ∈ TB := CD_of (i := 34) TP_4 (by rfl) (by rfl)
theorem kd_X6_stateBehindTell : wCD s_X6_stateBehindTell ∈ TB := CD_of (i := 37) TP_4 (by rfl) (by rfl)
theorem kd_X6_stateBehindUnit : wCD s_X6_stateBehindUnit ∈ TB := CD_of (i := 41) TP_4 (by rfl) (by rfl)
theorem kd_X6_isOutOfRoom : wCD s_X6_isOutOfRoom ∈ TB := CD_of (i := 45) TP_4 (by rfl) (by rfl)
theorem kd_X6_isCircuitName : wCD s_X6_isCircuitName ∈ TB := CD_of (i := 52) TP_4 (by rfl) (by rfl)
theorem kd_X6_isContact : wCD s_X6_isContact ∈ TB := CD_of (i := 49) TP_4 (by rfl) (by rfl)
theorem kd_X6_keepToken : wCD s_X6_keepToken ∈ TB := CD_of (i := 56) TP_4 (by rfl) (by rfl)
theorem kd_X6_keepName : wCD s_X6_keepName ∈ TB := CD_of (i := 60) TP_4 (by rfl) (by rfl)
theorem kd_X6_keepTold : wCD s_X6_keepTold ∈ TB := CD_of (i := 64) TP_4 (by rfl) (by rfl)
theorem kd_X6_judgeNames : wCD s_X6_judgeNames ∈ TB := CD_of (i := 10) TP_4 (by rfl) (by rfl)
theorem kd_X6_tellsName : wCD s_X6_tellsName ∈ TB := CD_of (i := 18) TP_4 (by rfl) (by rfl)
theorem kd_X6_faultOfToken : wCD s_X6_faultOfToken ∈ TB := CD_of (i := 14) TP_4 (by rfl) (by rfl)
theorem kd_X6_isTold : wCD s_X6_isTold ∈ TB := CD_of (i := 22) TP_4 (by rfl) (by rfl)
theorem kd_X6_greenOf : wCD s_X6_greenOf ∈ TB := CD_of (i := 26) TP_4 (by rfl) (by rfl)
theorem kd_X6_variableOf : wCD s_X6_variableOf ∈ TB := CD_of (i := 30) TP_4 (by rfl) (by rfl)
theorem kd_X6_draw : wCD s_X6_draw ∈ TB := CD_of (i := 72) TP_4 (by rfl) (by rfl)
theorem kd_X6_circuitEnd : wCD s_X6_circuitEnd ∈ TB := CD_of (i := 90) TP_4 (by rfl) (by rfl)
theorem kd_X6_drawCircuits : wCD s_X6_drawCircuits ∈ TB := CD_of (i := 82) TP_4 (by rfl) (by rfl)
theorem kd_X6_drawNevers : wCD s_X6_drawNevers ∈ TB := CD_of (i := 146) TP_4 (by rfl) (by rfl)
theorem kd_X7_init : wCD s_X7_init ∈ TB := CD_of (i := 191) TP_2 (by rfl) (by rfl)
theorem kd_X7_reachedCount : wCD s_X7_reachedCount ∈ TB := CD_of (i := 80) TP_5 (by rfl) (by rfl)
theorem kd_X7_raceCount : wCD s_X7_raceCount ∈ TB := CD_of (i := 88) TP_5 (by rfl) (by rfl)
theorem kd_X7_isSafe : wCD s_X7_isSafe ∈ TB := CD_of (i := 36) TP_6 (by rfl) (by rfl)
theorem kd_X7_explore : wCD s_X7_explore ∈ TB := CD_of (i := 47) TP_5 (by rfl) (by rfl)
theorem kd_X7_isAtStop : wCD s_X7_isAtStop ∈ TB := CD_of (i := 51) TP_5 (by rfl) (by rfl)
theorem kd_X7_startFrom : wCD s_X7_startFrom ∈ TB := CD_of (i := 56) TP_5 (by rfl) (by rfl)
theorem kd_X7_reach : wCD s_X7_reach ∈ TB := CD_of (i := 63) TP_5 (by rfl) (by rfl)
theorem kd_X7_actsToWrong : wCD s_X7_actsToWrong ∈ TB := CD_of (i := 96) TP_5 (by rfl) (by rfl)
theorem kd_X7_actToWrong : wCD s_X7_actToWrong ∈ TB := CD_of (i := 104) TP_5 (by rfl) (by rfl)
theorem kd_X7_countBad : wCD s_X7_countBad ∈ TB := CD_of (i := 113) TP_5 (by rfl) (by rfl)
theorem kd_X7_findPartners : wCD s_X7_findPartners ∈ TB := CD_of (i := 125) TP_5 (by rfl) (by rfl)
theorem kd_X7_areBadTogether : wCD s_X7_areBadTogether ∈ TB := CD_of (i := 134) TP_5 (by rfl) (by rfl)
theorem kd_X8_init : wCD s_X8_init ∈ TB := CD_of (i := 217) TP_1 (by rfl) (by rfl)
theorem kd_X8_takeText : wCD s_X8_takeText ∈ TB := CD_of (i := 163) TP_3 (by rfl) (by rfl)
theorem kd_X8_pack : wCD s_X8_pack ∈ TB := CD_of (i := 222) TP_1 (by rfl) (by rfl)
theorem kd_X8_packLetter : wCD s_X8_packLetter ∈ TB := CD_of (i := 33) TP_2 (by rfl) (by rfl)
theorem kd_X8_takeToken : wCD s_X8_takeToken ∈ TB := CD_of (i := 168) TP_3 (by rfl) (by rfl)
theorem kd_X8_takeWord : wCD s_X8_takeWord ∈ TB := CD_of (i := 178) TP_3 (by rfl) (by rfl)
theorem kd_X8_kindOfWord : wCD s_X8_kindOfWord ∈ TB := CD_of (i := 182) TP_3 (by rfl) (by rfl)
theorem kd_X8_takeNumber : wCD s_X8_takeNumber ∈ TB := CD_of (i := 189) TP_3 (by rfl) (by rfl)
theorem kd_X8_isBlank : wCD s_X8_isBlank ∈ TB := CD_of (i := 171) TP_3 (by rfl) (by rfl)
theorem kd_X8_isLetter : wCD s_X8_isLetter ∈ TB := CD_of (i := 174) TP_3 (by rfl) (by rfl)
theorem kd_X8_isDigit : wCD s_X8_isDigit ∈ TB := CD_of (i := 185) TP_3 (by rfl) (by rfl)
theorem kd_X9_init : wCD s_X9_init ∈ TB := CD_of (i := 225) TP_2 (by rfl) (by rfl)
theorem kd_X9_actsOf : wCD s_X9_actsOf ∈ TB := CD_of (i := 210) TP_5 (by rfl) (by rfl)
theorem kd_X9_actAt : wCD s_X9_actAt ∈ TB := CD_of (i := 217) TP_5 (by rfl) (by rfl)
theorem kd_X9_leastTest : wCD s_X9_leastTest ∈ TB := CD_of (i := 159) TP_5 (by rfl) (by rfl)
theorem kd_X9_beginSearch : wCD s_X9_beginSearch ∈ TB := CD_of (i := 170) TP_5 (by rfl) (by rfl)
theorem kd_X9_prepareBoth : wCD s_X9_prepareBoth ∈ TB := CD_of (i := 165) TP_5 (by rfl) (by rfl)
theorem kd_X9_look : wCD s_X9_look ∈ TB := CD_of (i := 176) TP_5 (by rfl) (by rfl)
theorem kd_X9_actFrom : wCD s_X9_actFrom ∈ TB := CD_of (i := 200) TP_5 (by rfl) (by rfl)
theorem kd_X9_reachPlace : wCD s_X9_reachPlace ∈ TB := CD_of (i := 182) TP_5 (by rfl) (by rfl)
theorem kd_X9_testTo : wCD s_X9_testTo ∈ TB := CD_of (i := 205) TP_5 (by rfl) (by rfl)
theorem kd_X9_isSeeing : wCD s_X9_isSeeing ∈ TB := CD_of (i := 4) TP_6 (by rfl) (by rfl)
theorem kd_X9_countHidden : wCD s_X9_countHidden ∈ TB := CD_of (i := 226) TP_5 (by rfl) (by rfl)
theorem kd_X9_makeSuite : wCD s_X9_makeSuite ∈ TB := CD_of (i := 235) TP_5 (by rfl) (by rfl)
theorem kd_X10_init : wCD s_X10_init ∈ TB := CD_of (i := 42) TP_1 (by rfl) (by rfl)
theorem kd_X10_contactsIn : wCD s_X10_contactsIn ∈ TB := CD_of (i := 108) TP_4 (by rfl) (by rfl)
theorem kd_X10_connect : wCD s_X10_connect ∈ TB := CD_of (i := 105) TP_4 (by rfl) (by rfl)
theorem kd_X10_putContact : wCD s_X10_putContact ∈ TB := CD_of (i := 113) TP_4 (by rfl) (by rfl)
theorem kd_X10_isClosed : wCD s_X10_isClosed ∈ TB := CD_of (i := 130) TP_4 (by rfl) (by rfl)
theorem kd_X10_holds : wCD s_X10_holds ∈ TB := CD_of (i := 158) TP_4 (by rfl) (by rfl)
theorem kd_X10_circuitsWith : wCD s_X10_circuitsWith ∈ TB := CD_of (i := 142) TP_4 (by rfl) (by rfl)
theorem kd_X10_fillTables : wCD s_X10_fillTables ∈ TB := CD_of (i := 126) TP_4 (by rfl) (by rfl)
theorem kd_X10_contactsAt : wCD s_X10_contactsAt ∈ TB := CD_of (i := 138) TP_4 (by rfl) (by rfl)
theorem kd_X11_init : wCD s_X11_init ∈ TB := CD_of (i := 28) TP_1 (by rfl) (by rfl)
theorem kd_X11_feed : wCD s_X11_feed ∈ TB := CD_of (i := 139) TP_3 (by rfl) (by rfl)
theorem kd_X11_putBytes : wCD s_X11_putBytes ∈ TB := CD_of (i := 143) TP_3 (by rfl) (by rfl)
theorem kd_X11_back : wCD s_X11_back ∈ TB := CD_of (i := 147) TP_3 (by rfl) (by rfl)
theorem kd_X11_read : wCD s_X11_read ∈ TB := CD_of (i := 151) TP_3 (by rfl) (by rfl)
theorem kd_X11_place : wCD s_X11_place ∈ TB := CD_of (i := 185) TP_4 (by rfl) (by rfl)
theorem kd_X11_use : wCD s_X11_use ∈ TB := CD_of (i := 189) TP_4 (by rfl) (by rfl)
theorem kd_X11_takeToHand : wCD s_X11_takeToHand ∈ TB := CD_of (i := 162) TP_4 (by rfl) (by rfl)
theorem kd_X11_isDrawing : wCD s_X11_isDrawing ∈ TB := CD_of (i := 174) TP_4 (by rfl) (by rfl)
theorem kd_X11_drawingOf : wCD s_X11_drawingOf ∈ TB := CD_of (i := 170) TP_4 (by rfl) (by rfl)
theorem kd_X11_current : wCD s_X11_current ∈ TB := CD_of (i := 166) TP_4 (by rfl) (by rfl)
theorem kd_X11_contact : wCD s_X11_contact ∈ TB := CD_of (i := 193) TP_4 (by rfl) (by rfl)
theorem kd_X11_flaw : wCD s_X11_flaw ∈ TB := CD_of (i := 197) TP_4 (by rfl) (by rfl)
theorem kd_X11_takeHut : wCD s_X11_takeHut ∈ TB := CD_of (i := 209) TP_4 (by rfl) (by rfl)
theorem kd_X11_isState : wCD s_X11_isState ∈ TB := CD_of (i := 233) TP_4 (by rfl) (by rfl)
theorem kd_X11_settles : wCD s_X11_settles ∈ TB := CD_of (i := 205) TP_4 (by rfl) (by rfl)
theorem kd_X11_shows : wCD s_X11_shows ∈ TB := CD_of (i := 31) TP_5 (by rfl) (by rfl)
theorem kd_X11_start : wCD s_X11_start ∈ TB := CD_of (i := 39) TP_5 (by rfl) (by rfl)
theorem kd_X11_reached : wCD s_X11_reached ∈ TB := CD_of (i := 43) TP_5 (by rfl) (by rfl)
theorem kd_X11_races : wCD s_X11_races ∈ TB := CD_of (i := 84) TP_5 (by rfl) (by rfl)
theorem kd_X11_bad : wCD s_X11_bad ∈ TB := CD_of (i := 92) TP_5 (by rfl) (by rfl)
theorem kd_X11_badAct : wCD s_X11_badAct ∈ TB := CD_of (i := 100) TP_5 (by rfl) (by rfl)
theorem kd_X11_singles : wCD s_X11_singles ∈ TB := CD_of (i := 109) TP_5 (by rfl) (by rfl)
theorem kd_X11_pairs : wCD s_X11_pairs ∈ TB := CD_of (i := 120) TP_5 (by rfl) (by rfl)
theorem kd_X11_pair : wCD s_X11_pair ∈ TB := CD_of (i := 147) TP_5 (by rfl) (by rfl)
theorem kd_X11_least : wCD s_X11_least ∈ TB := CD_of (i := 155) TP_5 (by rfl) (by rfl)
theorem kd_X11_leastAct : wCD s_X11_leastAct ∈ TB := CD_of (i := 214) TP_5 (by rfl) (by rfl)
theorem kd_X11_hidden : wCD s_X11_hidden ∈ TB := CD_of (i := 222) TP_5 (by rfl) (by rfl)
theorem kd_X11_suite : wCD s_X11_suite ∈ TB := CD_of (i := 231) TP_5 (by rfl) (by rfl)
theorem kd_X11_suiteAct : wCD s_X11_suiteAct ∈ TB := CD_of (i := 9) TP_6 (by rfl) (by rfl)
theorem kd_X11_suiteActs : wCD s_X11_suiteActs ∈ TB := CD_of (i := 14) TP_6 (by rfl) (by rfl)
theorem kd_X11_unlike : wCD s_X11_unlike ∈ TB := CD_of (i := 18) TP_6 (by rfl) (by rfl)
theorem kd_X11_safe : wCD s_X11_safe ∈ TB := CD_of (i := 30) TP_6 (by rfl) (by rfl)
theorem kd_X11_plan : wCD s_X11_plan ∈ TB := CD_of (i := 40) TP_6 (by rfl) (by rfl)
theorem kd_X11_stage : wCD s_X11_stage ∈ TB := CD_of (i := 75) TP_6 (by rfl) (by rfl)
theorem kd_X11_log : wCD s_X11_log ∈ TB := CD_of (i := 84) TP_6 (by rfl) (by rfl)
theorem kd_X11_annul : wCD s_X11_annul ∈ TB := CD_of (i := 99) TP_6 (by rfl) (by rfl)
theorem kd_X11_fits : wCD s_X11_fits ∈ TB := CD_of (i := 107) TP_6 (by rfl) (by rfl)
theorem kd_X11_suspects : wCD s_X11_suspects ∈ TB := CD_of (i := 131) TP_6 (by rfl) (by rfl)
theorem kd_X11_next : wCD s_X11_next ∈ TB := CD_of (i := 141) TP_6 (by rfl) (by rfl)
theorem kd_X11_set : wCD s_X11_set ∈ TB := CD_of (i := 168) TP_6 (by rfl) (by rfl)
theorem kd_X11_strap : wCD s_X11_strap ∈ TB := CD_of (i := 176) TP_6 (by rfl) (by rfl)
theorem kd_X11_age : wCD s_X11_age ∈ TB := CD_of (i := 185) TP_6 (by rfl) (by rfl)
theorem kd_X11_round : wCD s_X11_round ∈ TB := CD_of (i := 193) TP_6 (by rfl) (by rfl)
theorem kd_X11_clash : wCD s_X11_clash ∈ TB := CD_of (i := 214) TP_6 (by rfl) (by rfl)
theorem kd_X11_hand : wCD s_X11_hand ∈ TB := CD_of (i := 222) TP_6 (by rfl) (by rfl)
theorem kd_X11_count : wCD s_X11_count ∈ TB := CD_of (i := 237) TP_6 (by rfl) (by rfl)
theorem kd_X11_wordOf : wCD s_X11_wordOf ∈ TB := CD_of (i := 0) TP_5 (by rfl) (by rfl)
theorem kd_X12_init : wCD s_X12_init ∈ TB := CD_of (i := 10) TP_7 (by rfl) (by rfl)
theorem kd_X12_feed : wCD s_X12_feed ∈ TB := CD_of (i := 81) TP_8 (by rfl) (by rfl)
theorem kd_X12_put : wCD s_X12_put ∈ TB := CD_of (i := 85) TP_8 (by rfl) (by rfl)
theorem kd_X12_back : wCD s_X12_back ∈ TB := CD_of (i := 89) TP_8 (by rfl) (by rfl)
theorem kd_X12_byteAt : wCD s_X12_byteAt ∈ TB := CD_of (i := 101) TP_8 (by rfl) (by rfl)
theorem kd_X12_isDigit : wCD s_X12_isDigit ∈ TB := CD_of (i := 111) TP_8 (by rfl) (by rfl)
theorem kd_X12_isLetter : wCD s_X12_isLetter ∈ TB := CD_of (i := 108) TP_8 (by rfl) (by rfl)
theorem kd_X12_appends : wCD s_X12_appends ∈ TB := CD_of (i := 18) TP_7 (by rfl) (by rfl)
theorem kd_X12_word : wCD s_X12_word ∈ TB := CD_of (i := 15) TP_7 (by rfl) (by rfl)
theorem kd_X12_token : wCD s_X12_token ∈ TB := CD_of (i := 105) TP_8 (by rfl) (by rfl)
theorem kd_X12_cut : wCD s_X12_cut ∈ TB := CD_of (i := 97) TP_8 (by rfl) (by rfl)
theorem kd_X12_sign : wCD s_X12_sign ∈ TB := CD_of (i := 114) TP_8 (by rfl) (by rfl)
theorem kd_X12_is : wCD s_X12_is ∈ TB := CD_of (i := 118) TP_8 (by rfl) (by rfl)
theorem kd_X12_fail : wCD s_X12_fail ∈ TB := CD_of (i := 126) TP_8 (by rfl) (by rfl)
theorem kd_X12_wrong : wCD s_X12_wrong ∈ TB := CD_of (i := 158) TP_8 (by rfl) (by rfl)
theorem kd_X12_goesOn : wCD s_X12_goesOn ∈ TB := CD_of (i := 134) TP_8 (by rfl) (by rfl)
theorem kd_X12_must : wCD s_X12_must ∈ TB := CD_of (i := 142) TP_8 (by rfl) (by rfl)
theorem kd_X12_read : wCD s_X12_read ∈ TB := CD_of (i := 93) TP_8 (by rfl) (by rfl)
theorem kd_X12_place : wCD s_X12_place ∈ TB := CD_of (i := 206) TP_8 (by rfl) (by rfl)
theorem kd_X12_tell : wCD s_X12_tell ∈ TB := CD_of (i := 122) TP_8 (by rfl) (by rfl)
theorem kd_X12_inputNamed : wCD s_X12_inputNamed ∈ TB := CD_of (i := 146) TP_8 (by rfl) (by rfl)
theorem kd_X12_relayNamed : wCD s_X12_relayNamed ∈ TB := CD_of (i := 150) TP_8 (by rfl) (by rfl)
theorem kd_X12_lampNamed : wCD s_X12_lampNamed ∈ TB := CD_of (i := 154) TP_8 (by rfl) (by rfl)
theorem kd_X12_named : wCD s_X12_named ∈ TB := CD_of (i := 138) TP_8 (by rfl) (by rfl)
theorem kd_X12_tellInput : wCD s_X12_tellInput ∈ TB := CD_of (i := 130) TP_8 (by rfl) (by rfl)
theorem kd_X12_tellRelay : wCD s_X12_tellRelay ∈ TB := CD_of (i := 162) TP_8 (by rfl) (by rfl)
theorem kd_X12_tellLamp : wCD s_X12_tellLamp ∈ TB := CD_of (i := 186) TP_8 (by rfl) (by rfl)
theorem kd_X12_tellNever : wCD s_X12_tellNever ∈ TB := CD_of (i := 190) TP_8 (by rfl) (by rfl)
theorem kd_X12_emit : wCD s_X12_emit ∈ TB := CD_of (i := 174) TP_8 (by rfl) (by rfl)
theorem kd_X12_waitsOn : wCD s_X12_waitsOn ∈ TB := CD_of (i := 182) TP_8 (by rfl) (by rfl)
theorem kd_X12_circuit : wCD s_X12_circuit ∈ TB := CD_of (i := 166) TP_8 (by rfl) (by rfl)
theorem kd_X12_unit : wCD s_X12_unit ∈ TB := CD_of (i := 170) TP_8 (by rfl) (by rfl)
theorem kd_X12_goes : wCD s_X12_goes ∈ TB := CD_of (i := 178) TP_8 (by rfl) (by rfl)
theorem kd_X12_thingNamed : wCD s_X12_thingNamed ∈ TB := CD_of (i := 198) TP_8 (by rfl) (by rfl)
theorem kd_X12_knows : wCD s_X12_knows ∈ TB := CD_of (i := 194) TP_8 (by rfl) (by rfl)
theorem kd_X12_in : wCD s_X12_in ∈ TB := CD_of (i := 217) TP_8 (by rfl) (by rfl)
theorem kd_X12_isDrawing : wCD s_X12_isDrawing ∈ TB := CD_of (i := 214) TP_8 (by rfl) (by rfl)
theorem kd_X12_comes : wCD s_X12_comes ∈ TB := CD_of (i := 202) TP_8 (by rfl) (by rfl)
theorem kd_X12_use : wCD s_X12_use ∈ TB := CD_of (i := 210) TP_8 (by rfl) (by rfl)
theorem kd_X12_contact : wCD s_X12_contact ∈ TB := CD_of (i := 221) TP_8 (by rfl) (by rfl)
theorem kd_X12_isCrossable : wCD s_X12_isCrossable ∈ TB := CD_of (i := 233) TP_8 (by rfl) (by rfl)
theorem kd_X12_isFlaw : wCD s_X12_isFlaw ∈ TB := CD_of (i := 229) TP_8 (by rfl) (by rfl)
theorem kd_X12_isHut : wCD s_X12_isHut ∈ TB := CD_of (i := 1) TP_9 (by rfl) (by rfl)
theorem kd_X12_flawsThere : wCD s_X12_flawsThere ∈ TB := CD_of (i := 84) TP_10 (by rfl) (by rfl)
theorem kd_X12_flaw : wCD s_X12_flaw ∈ TB := CD_of (i := 225) TP_8 (by rfl) (by rfl)
theorem kd_X12_isThing : wCD s_X12_isThing ∈ TB := CD_of (i := 33) TP_9 (by rfl) (by rfl)
theorem kd_X12_isShut : wCD s_X12_isShut ∈ TB := CD_of (i := 41) TP_9 (by rfl) (by rfl)
theorem kd_X12_holds : wCD s_X12_holds ∈ TB := CD_of (i := 105) TP_9 (by rfl) (by rfl)
theorem kd_X12_neverNow : wCD s_X12_neverNow ∈ TB := CD_of (i := 101) TP_9 (by rfl) (by rfl)
theorem kd_X12_greens : wCD s_X12_greens ∈ TB := CD_of (i := 97) TP_9 (by rfl) (by rfl)
theorem kd_X12_sound : wCD s_X12_sound ∈ TB := CD_of (i := 13) TP_9 (by rfl) (by rfl)
theorem kd_X12_spoils : wCD s_X12_spoils ∈ TB := CD_of (i := 17) TP_9 (by rfl) (by rfl)
theorem kd_X12_closes : wCD s_X12_closes ∈ TB := CD_of (i := 29) TP_9 (by rfl) (by rfl)
theorem kd_X12_all : wCD s_X12_all ∈ TB := CD_of (i := 5) TP_9 (by rfl) (by rfl)
theorem kd_X12_shutBits : wCD s_X12_shutBits ∈ TB := CD_of (i := 25) TP_9 (by rfl) (by rfl)
theorem kd_X12_isCircuit : wCD s_X12_isCircuit ∈ TB := CD_of (i := 37) TP_9 (by rfl) (by rfl)
theorem kd_X12_builds : wCD s_X12_builds ∈ TB := CD_of (i := 9) TP_9 (by rfl) (by rfl)
theorem kd_X12_lays : wCD s_X12_lays ∈ TB := CD_of (i := 21) TP_9 (by rfl) (by rfl)
theorem kd_X12_allowed : wCD s_X12_allowed ∈ TB := CD_of (i := 49) TP_9 (by rfl) (by rfl)
theorem kd_X12_worksOut : wCD s_X12_worksOut ∈ TB := CD_of (i := 45) TP_9 (by rfl) (by rfl)
theorem kd_X12_placed : wCD s_X12_placed ∈ TB := CD_of (i := 53) TP_9 (by rfl) (by rfl)
theorem kd_X12_startOf : wCD s_X12_startOf ∈ TB := CD_of (i := 73) TP_9 (by rfl) (by rfl)
theorem kd_X12_behind : wCD s_X12_behind ∈ TB := CD_of (i := 57) TP_9 (by rfl) (by rfl)
theorem kd_X12_lampsAt : wCD s_X12_lampsAt ∈ TB := CD_of (i := 65) TP_9 (by rfl) (by rfl)
theorem kd_X12_settles : wCD s_X12_settles ∈ TB := CD_of (i := 237) TP_8 (by rfl) (by rfl)
theorem kd_X12_shows : wCD s_X12_shows ∈ TB := CD_of (i := 61) TP_9 (by rfl) (by rfl)
theorem kd_X12_start : wCD s_X12_start ∈ TB := CD_of (i := 69) TP_9 (by rfl) (by rfl)
theorem kd_X12_isWrong : wCD s_X12_isWrong ∈ TB := CD_of (i := 93) TP_9 (by rfl) (by rfl)
theorem kd_X12_reaches : wCD s_X12_reaches ∈ TB := CD_of (i := 85) TP_9 (by rfl) (by rfl)
theorem kd_X12_arrives : wCD s_X12_arrives ∈ TB := CD_of (i := 89) TP_9 (by rfl) (by rfl)
theorem kd_X12_goesThrough : wCD s_X12_goesThrough ∈ TB := CD_of (i := 81) TP_9 (by rfl) (by rfl)
theorem kd_X12_reached : wCD s_X12_reached ∈ TB := CD_of (i := 77) TP_9 (by rfl) (by rfl)
theorem kd_X12_races : wCD s_X12_races ∈ TB := CD_of (i := 109) TP_9 (by rfl) (by rfl)
theorem kd_X12_actsTo : wCD s_X12_actsTo ∈ TB := CD_of (i := 117) TP_9 (by rfl) (by rfl)
theorem kd_X12_bad : wCD s_X12_bad ∈ TB := CD_of (i := 113) TP_9 (by rfl) (by rfl)
theorem kd_X12_badAct : wCD s_X12_badAct ∈ TB := CD_of (i := 121) TP_9 (by rfl) (by rfl)
theorem kd_X12_isBad : wCD s_X12_isBad ∈ TB := CD_of (i := 130) TP_9 (by rfl) (by rfl)
theorem kd_X12_singles : wCD s_X12_singles ∈ TB := CD_of (i := 126) TP_9 (by rfl) (by rfl)
theorem kd_X12_pairsOf : wCD s_X12_pairsOf ∈ TB := CD_of (i := 138) TP_9 (by rfl) (by rfl)
theorem kd_X12_pairs : wCD s_X12_pairs ∈ TB := CD_of (i := 134) TP_9 (by rfl) (by rfl)
theorem kd_X12_pair : wCD s_X12_pair ∈ TB := CD_of (i := 142) TP_9 (by rfl) (by rfl)
theorem kd_X12_joins : wCD s_X12_joins ∈ TB := CD_of (i := 162) TP_9 (by rfl) (by rfl)
theorem kd_X12_seen : wCD s_X12_seen ∈ TB := CD_of (i := 158) TP_9 (by rfl) (by rfl)
theorem kd_X12_deep : wCD s_X12_deep ∈ TB := CD_of (i := 166) TP_9 (by rfl) (by rfl)
theorem kd_X12_actBetween : wCD s_X12_actBetween ∈ TB := CD_of (i := 169) TP_9 (by rfl) (by rfl)
theorem kd_X12_leastTest : wCD s_X12_leastTest ∈ TB := CD_of (i := 154) TP_9 (by rfl) (by rfl)
theorem kd_X12_findsTest : wCD s_X12_findsTest ∈ TB := CD_of (i := 150) TP_9 (by rfl) (by rfl)
theorem kd_X12_least : wCD s_X12_least ∈ TB := CD_of (i := 146) TP_9 (by rfl) (by rfl)
theorem kd_X12_leastAct : wCD s_X12_leastAct ∈ TB := CD_of (i := 173) TP_9 (by rfl) (by rfl)
theorem kd_X12_sees : wCD s_X12_sees ∈ TB := CD_of (i := 185) TP_9 (by rfl) (by rfl)
theorem kd_X12_makesSuite : wCD s_X12_makesSuite ∈ TB := CD_of (i := 181) TP_9 (by rfl) (by rfl)
theorem kd_X12_hidden : wCD s_X12_hidden ∈ TB := CD_of (i := 177) TP_9 (by rfl) (by rfl)
theorem kd_X12_suite : wCD s_X12_suite ∈ TB := CD_of (i := 189) TP_9 (by rfl) (by rfl)
theorem kd_X12_suiteAct : wCD s_X12_suiteAct ∈ TB := CD_of (i := 193) TP_9 (by rfl) (by rfl)
theorem kd_X12_suiteActs : wCD s_X12_suiteActs ∈ TB := CD_of (i := 197) TP_9 (by rfl) (by rfl)
theorem kd_X12_isSame : wCD s_X12_isSame ∈ TB := CD_of (i := 205) TP_9 (by rfl) (by rfl)
theorem kd_X12_isAlike : wCD s_X12_isAlike ∈ TB := CD_of (i := 213) TP_9 (by rfl) (by rfl)
theorem kd_X12_unlikeOnes : wCD s_X12_unlikeOnes ∈ TB := CD_of (i := 209) TP_9 (by rfl) (by rfl)
theorem kd_X12_unlike : wCD s_X12_unlike ∈ TB := CD_of (i := 201) TP_9 (by rfl) (by rfl)
theorem kd_X12_isSafe : wCD s_X12_isSafe ∈ TB := CD_of (i := 221) TP_9 (by rfl) (by rfl)
theorem kd_X12_safe : wCD s_X12_safe ∈ TB := CD_of (i := 217) TP_9 (by rfl) (by rfl)
theorem kd_X12_bits : wCD s_X12_bits ∈ TB := CD_of (i := 232) TP_9 (by rfl) (by rfl)
theorem kd_X12_plans : wCD s_X12_plans ∈ TB := CD_of (i := 229) TP_9 (by rfl) (by rfl)
theorem kd_X12_plan : wCD s_X12_plan ∈ TB := CD_of (i := 225) TP_9 (by rfl) (by rfl)
theorem kd_X12_stage : wCD s_X12_stage ∈ TB := CD_of (i := 236) TP_9 (by rfl) (by rfl)
theorem kd_X12_log : wCD s_X12_log ∈ TB := CD_of (i := 1) TP_10 (by rfl) (by rfl)
theorem kd_X12_annul : wCD s_X12_annul ∈ TB := CD_of (i := 5) TP_10 (by rfl) (by rfl)
theorem kd_X12_showsBehind : wCD s_X12_showsBehind ∈ TB := CD_of (i := 25) TP_10 (by rfl) (by rfl)
theorem kd_X12_isVoid : wCD s_X12_isVoid ∈ TB := CD_of (i := 21) TP_10 (by rfl) (by rfl)
theorem kd_X12_fitsLogs : wCD s_X12_fitsLogs ∈ TB := CD_of (i := 17) TP_10 (by rfl) (by rfl)
theorem kd_X12_isKnown : wCD s_X12_isKnown ∈ TB := CD_of (i := 13) TP_10 (by rfl) (by rfl)
theorem kd_X12_fits : wCD s_X12_fits ∈ TB := CD_of (i := 9) TP_10 (by rfl) (by rfl)
theorem kd_X12_counts : wCD s_X12_counts ∈ TB := CD_of (i := 33) TP_10 (by rfl) (by rfl)
theorem kd_X12_rowActs : wCD s_X12_rowActs ∈ TB := CD_of (i := 36) TP_10 (by rfl) (by rfl)
theorem kd_X12_isRow : wCD s_X12_isRow ∈ TB := CD_of (i := 44) TP_10 (by rfl) (by rfl)
theorem kd_X12_suspects : wCD s_X12_suspects ∈ TB := CD_of (i := 29) TP_10 (by rfl) (by rfl)
theorem kd_X12_next : wCD s_X12_next ∈ TB := CD_of (i := 40) TP_10 (by rfl) (by rfl)
theorem kd_X12_set : wCD s_X12_set ∈ TB := CD_of (i := 48) TP_10 (by rfl) (by rfl)
theorem kd_X12_strap : wCD s_X12_strap ∈ TB := CD_of (i := 52) TP_10 (by rfl) (by rfl)
theorem kd_X12_age : wCD s_X12_age ∈ TB := CD_of (i := 56) TP_10 (by rfl) (by rfl)
theorem kd_X12_handShut : wCD s_X12_handShut ∈ TB := CD_of (i := 64) TP_10 (by rfl) (by rfl)
theorem kd_X12_isIn : wCD s_X12_isIn ∈ TB := CD_of (i := 68) TP_10 (by rfl) (by rfl)
theorem kd_X12_round : wCD s_X12_round ∈ TB := CD_of (i := 60) TP_10 (by rfl) (by rfl)
theorem kd_X12_clash : wCD s_X12_clash ∈ TB := CD_of (i := 72) TP_10 (by rfl) (by rfl)
theorem kd_X12_hand : wCD s_X12_hand ∈ TB := CD_of (i := 76) TP_10 (by rfl) (by rfl)
theorem kd_X12_count : wCD s_X12_count ∈ TB := CD_of (i := 80) TP_10 (by rfl) (by rfl)
theorem kd_J6_bitCount_0f7a4 : wCD s_J6_bitCount_0f7a4 ∈ TB := CD_of (i := 43) TP_6 (by rfl) (by rfl)
theorem kd_J13_bitCount_95d88 : wCD s_J13_bitCount_95d88 ∈ TB := CD_of (i := 229) TP_6 (by rfl) (by rfl)
theorem kd_J9_max_7cf53 : wCD s_J9_max_7cf53 ∈ TB := CD_of (i := 128) TP_1 (by rfl) (by rfl)
theorem kd_J9_min_7cf53 : wCD s_J9_min_7cf53 ∈ TB := CD_of (i := 125) TP_1 (by rfl) (by rfl)
theorem kd_J0_length_8abf5 : wCD s_J0_length_8abf5 ∈ TB := CD_of (i := 226) TP_1 (by rfl) (by rfl)
theorem kd_J0_charAt_5068e : wCD s_J0_charAt_5068e ∈ TB := CD_of (i := 236) TP_1 (by rfl) (by rfl)
theorem kd_J0_indexOf_0f7a4 : wCD s_J0_indexOf_0f7a4 ∈ TB := CD_of (i := 195) TP_3 (by rfl) (by rfl)
theorem kd_J7_fill_d0a16 : wCD s_J7_fill_d0a16 ∈ TB := CD_of (i := 59) TP_5 (by rfl) (by rfl)
theorem kd_J7_fill_53178 : wCD s_J7_fill_53178 ∈ TB := CD_of (i := 181) TP_4 (by rfl) (by rfl)
theorem kd_J7_fill_031fb : wCD s_J7_fill_031fb ∈ TB := CD_of (i := 136) TP_2 (by rfl) (by rfl)
theorem kd_J7_copyOf_c38d5 : wCD s_J7_copyOf_c38d5 ∈ TB := CD_of (i := 187) TP_5 (by rfl) (by rfl)
theorem kd_J0_coder_7d493 : wCD s_J0_coder_7d493 ∈ TB := CD_of (i := 230) TP_1 (by rfl) (by rfl)
theorem kd_J0_isLatin1_aae02 : wCD s_J0_isLatin1_aae02 ∈ TB := CD_of (i := 0) TP_2 (by rfl) (by rfl)
theorem kd_J0_checkIndex_df160 : wCD s_J0_checkIndex_df160 ∈ TB := CD_of (i := 6) TP_2 (by rfl) (by rfl)
theorem kd_J3_checkIndex_8e157 : wCD s_J3_checkIndex_8e157 ∈ TB := CD_of (i := 11) TP_2 (by rfl) (by rfl)
theorem kd_J1_charAt_3b067 : wCD s_J1_charAt_3b067 ∈ TB := CD_of (i := 3) TP_2 (by rfl) (by rfl)
theorem kd_J0_indexOf_7cf53 : wCD s_J0_indexOf_7cf53 ∈ TB := CD_of (i := 199) TP_3 (by rfl) (by rfl)
theorem kd_J1_indexOf_4cfef : wCD s_J1_indexOf_4cfef ∈ TB := CD_of (i := 203) TP_3 (by rfl) (by rfl)
theorem kd_J1_indexOfChar_4cfef : wCD s_J1_indexOfChar_4cfef ∈ TB := CD_of (i := 211) TP_3 (by rfl) (by rfl)
theorem kd_J1_canEncode_9a6ad : wCD s_J1_canEncode_9a6ad ∈ TB := CD_of (i := 206) TP_3 (by rfl) (by rfl)
theorem sgC_0_ok : ∀ g ∈ sgC_0, wCD g ∈ TB := List.forall_mem_cons.mpr ⟨kd_X0_init, List.forall_mem_cons.mpr ⟨kd_X0_addTold, List.forall_mem_cons.mpr ⟨kd_X0_setSlow, List.forall_mem_cons.mpr ⟨kd_X0_slowOf, List.forall_mem_cons.mpr ⟨kd_X0_trackBits, List.forall_mem_cons.mpr ⟨kd_X0_addCircuit, List.forall_mem_cons.mpr ⟨kd_X0_complete, List.forall_mem_cons.mpr ⟨kd_X0_addFlaw, List.forall_mem_cons.mpr ⟨kd_X0_addNever, List.forall_mem_cons.mpr ⟨kd_X0_soundCircuits, List.forall_mem_cons.mpr ⟨kd_X0_circuitBits, List.forall_mem_cons.mpr ⟨kd_X0_forbiddenAt, List.forall_mem_cons.mpr ⟨kd_X0_flawIndex, List.forall_mem_cons.mpr ⟨kd_X0_flawAt, List.forall_mem_cons.mpr ⟨kd_X0_isFlawOrNone, List.forall_mem_cons.mpr ⟨kd_X0_unlikeBits, List.forall_mem_cons.mpr ⟨kd_X0_hasSameCircuit, List.forall_mem_cons.mpr ⟨kd_X0_countOf, List.forall_mem_cons.mpr ⟨kd_X1_init, List.forall_mem_cons.mpr ⟨kd_X1_arePartners, List.forall_mem_cons.mpr ⟨kd_X1_addPartner, List.forall_mem_cons.mpr ⟨kd_X1_countPartners, List.forall_mem_cons.mpr ⟨kd_X1_partnerAt, List.forall_mem_cons.mpr ⟨kd_X1_suiteTest, List.forall_mem_cons.mpr ⟨kd_X2_init, List.forall_mem_cons.mpr ⟨kd_X2_takeDrawing, List.forall_mem_cons.mpr ⟨kd_X2_hasClashed, fun _ h => absurd h List.not_mem_nil⟩⟩⟩⟩⟩⟩⟩⟩⟩⟩⟩⟩⟩⟩⟩⟩⟩⟩⟩⟩⟩⟩⟩⟩⟩⟩⟩
theorem sgC_1_ok : ∀ g ∈ sgC_1, wCD g ∈ TB := List.forall_mem_cons.mpr ⟨kd_X2_setInput, List.forall_mem_cons.mpr ⟨kd_X2_layStrap, List.forall_mem_cons.mpr ⟨kd_X2_setAge, List.forall_mem_cons.mpr ⟨kd_X2_circuitsNow, List.forall_mem_cons.mpr ⟨kd_X2_goRound, List.forall_mem_cons.mpr ⟨kd_X2_isClash, List.forall_mem_cons.mpr ⟨kd_X2_tell, List.forall_mem_cons.mpr ⟨kd_X3_init, List.forall_mem_cons.mpr ⟨kd_X3_inputCount, List.forall_mem_cons.mpr ⟨kd_X3_prepare, List.forall_mem_cons.mpr ⟨kd_X3_prepareMixed, List.forall_mem_cons.mpr ⟨kd_X3_harm, List.forall_mem_cons.mpr ⟨kd_X3_circuitsAt, List.forall_mem_cons.mpr ⟨kd_X3_lampsAt, List.forall_mem_cons.mpr ⟨kd_X3_isWrong, List.forall_mem_cons.mpr ⟨kd_X3_movable, List.forall_mem_cons.mpr ⟨kd_X3_settle, List.forall_mem_cons.mpr ⟨kd_X3_enter, List.forall_mem_cons.mpr ⟨kd_X3_join, List.forall_mem_cons.mpr ⟨kd_X4_init, List.forall_mem_cons.mpr ⟨kd_X4_entryCount, List.forall_mem_cons.mpr ⟨kd_X4_isKnown, List.forall_mem_cons.mpr ⟨kd_X4_write, List.forall_mem_cons.mpr ⟨kd_X4_areActs, List.forall_mem_cons.mpr ⟨kd_X4_addEntry, List.forall_mem_cons.mpr ⟨kd_X4_writeVoid, List.forall_mem_cons.mpr ⟨kd_X4_isVoid, fun _ h => absurd h List.not_mem_nil⟩⟩⟩⟩⟩⟩⟩⟩⟩⟩⟩⟩⟩⟩⟩⟩⟩⟩⟩⟩⟩⟩⟩⟩⟩⟩⟩
theorem sgC_2_ok : ∀ g ∈ sgC_2, wCD g ∈ TB := List.forall_mem_cons.mpr ⟨kd_X4_outcome, List.forall_mem_cons.mpr ⟨kd_X4_isFitting, List.forall_mem_cons.mpr ⟨kd_X4_countFitting, List.forall_mem_cons.mpr ⟨kd_X4_bestRow, List.forall_mem_cons.mpr ⟨kd_X4_rowCount, List.forall_mem_cons.mpr ⟨kd_X4_rowActs, List.forall_mem_cons.mpr ⟨kd_X4_isRow, List.forall_mem_cons.mpr ⟨kd_X4_addToGroups, List.forall_mem_cons.mpr ⟨kd_X4_greatestGroup, List.forall_mem_cons.mpr ⟨kd_X5_init, List.forall_mem_cons.mpr ⟨kd_X5_findPlan, List.forall_mem_cons.mpr ⟨kd_X5_listSets, List.forall_mem_cons.mpr ⟨kd_X5_stagesFrom, List.forall_mem_cons.mpr ⟨kd_X5_isStage, List.forall_mem_cons.mpr ⟨kd_X5_stageCount, List.forall_mem_cons.mpr ⟨kd_X5_setBehind, List.forall_mem_cons.mpr ⟨kd_X6_init, List.forall_mem_cons.mpr ⟨kd_X6_faultPlace, List.forall_mem_cons.mpr ⟨kd_X6_judge, List.forall_mem_cons.mpr ⟨kd_X6_forgetText, List.forall_mem_cons.mpr ⟨kd_X6_stateBehind, List.forall_mem_cons.mpr ⟨kd_X6_stateBehindTell, List.forall_mem_cons.mpr ⟨kd_X6_stateBehindUnit, List.forall_mem_cons.mpr ⟨kd_X6_isOutOfRoom, List.forall_mem_cons.mpr ⟨kd_X6_isCircuitName, List.forall_mem_cons.mpr ⟨kd_X6_isContact, List.forall_mem_cons.mpr ⟨kd_X6_keepToken, fun _ h => absurd h List.not_mem_nil⟩⟩⟩⟩⟩⟩⟩⟩⟩⟩⟩⟩⟩⟩⟩⟩⟩⟩⟩⟩⟩⟩⟩⟩⟩⟩⟩
theorem sgC_3_ok : ∀ g ∈ sgC_3, wCD g ∈ TB := List.forall_mem_cons.mpr ⟨kd_X6_keepName, List.forall_mem_cons.mpr ⟨kd_X6_keepTold, List.forall_mem_cons.mpr ⟨kd_X6_judgeNames, List.forall_mem_cons.mpr ⟨kd_X6_tellsName, List.forall_mem_cons.mpr ⟨kd_X6_faultOfToken, List.forall_mem_cons.mpr ⟨kd_X6_isTold, List.forall_mem_cons.mpr ⟨kd_X6_greenOf, List.forall_mem_cons.mpr ⟨kd_X6_variableOf, List.forall_mem_cons.mpr ⟨kd_X6_draw, List.forall_mem_cons.mpr ⟨kd_X6_circuitEnd, List.forall_mem_cons.mpr ⟨kd_X6_drawCircuits, List.forall_mem_cons.mpr ⟨kd_X6_drawNevers, List.forall_mem_cons.mpr ⟨kd_X7_init, List.forall_mem_cons.mpr ⟨kd_X7_reachedCount, List.forall_mem_cons.mpr ⟨kd_X7_raceCount, List.forall_mem_cons.mpr ⟨kd_X7_isSafe, List.forall_mem_cons.mpr ⟨kd_X7_explore, List.forall_mem_cons.mpr ⟨kd_X7_isAtStop, List.forall_mem_cons.mpr ⟨kd_X7_startFrom, List.forall_mem_cons.mpr ⟨kd_X7_reach, List.forall_mem_cons.mpr ⟨kd_X7_actsToWrong, List.forall_mem_cons.mpr ⟨kd_X7_actToWrong, List.forall_mem_cons.mpr ⟨kd_X7_countBad, List.forall_mem_cons.mpr ⟨kd_X7_findPartners, List.forall_mem_cons.mpr ⟨kd_X7_areBadTogether, List.forall_mem_cons.mpr ⟨kd_X8_init, List.forall_mem_cons.mpr ⟨kd_X8_takeText, fun _ h => absurd h List.not_mem_nil⟩⟩⟩⟩⟩⟩⟩⟩⟩⟩⟩⟩⟩⟩⟩⟩⟩⟩⟩⟩⟩⟩⟩⟩⟩⟩⟩
theorem sgC_4_ok : ∀ g ∈ sgC_4, wCD g ∈ TB := List.forall_mem_cons.mpr ⟨kd_X8_pack, List.forall_mem_cons.mpr ⟨kd_X8_packLetter, List.forall_mem_cons.mpr ⟨kd_X8_takeToken, List.forall_mem_cons.mpr ⟨kd_X8_takeWord, List.forall_mem_cons.mpr ⟨kd_X8_kindOfWord, List.forall_mem_cons.mpr ⟨kd_X8_takeNumber, List.forall_mem_cons.mpr ⟨kd_X8_isBlank, List.forall_mem_cons.mpr ⟨kd_X8_isLetter, List.forall_mem_cons.mpr ⟨kd_X8_isDigit, List.forall_mem_cons.mpr ⟨kd_X9_init, List.forall_mem_cons.mpr ⟨kd_X9_actsOf, List.forall_mem_cons.mpr ⟨kd_X9_actAt, List.forall_mem_cons.mpr ⟨kd_X9_leastTest, List.forall_mem_cons.mpr ⟨kd_X9_beginSearch, List.forall_mem_cons.mpr ⟨kd_X9_prepareBoth, List.forall_mem_cons.mpr ⟨kd_X9_look, List.forall_mem_cons.mpr ⟨kd_X9_actFrom, List.forall_mem_cons.mpr ⟨kd_X9_reachPlace, List.forall_mem_cons.mpr ⟨kd_X9_testTo, List.forall_mem_cons.mpr ⟨kd_X9_isSeeing, List.forall_mem_cons.mpr ⟨kd_X9_countHidden, List.forall_mem_cons.mpr ⟨kd_X9_makeSuite, List.forall_mem_cons.mpr ⟨kd_X10_init, List.forall_mem_cons.mpr ⟨kd_X10_contactsIn, List.forall_mem_cons.mpr ⟨kd_X10_connect, List.forall_mem_cons.mpr ⟨kd_X10_putContact, List.forall_mem_cons.mpr ⟨kd_X10_isClosed, fun _ h => absurd h List.not_mem_nil⟩⟩⟩⟩⟩⟩⟩⟩⟩⟩⟩⟩⟩⟩⟩⟩⟩⟩⟩⟩⟩⟩⟩⟩⟩⟩⟩
theorem sgC_5_ok : ∀ g ∈ sgC_5, wCD g ∈ TB := List.forall_mem_cons.mpr ⟨kd_X10_holds, List.forall_mem_cons.mpr ⟨kd_X10_circuitsWith, List.forall_mem_cons.mpr ⟨kd_X10_fillTables, List.forall_mem_cons.mpr ⟨kd_X10_contactsAt, List.forall_mem_cons.mpr ⟨kd_X11_init, List.forall_mem_cons.mpr ⟨kd_X11_feed, List.forall_mem_cons.mpr ⟨kd_X11_putBytes, List.forall_mem_cons.mpr ⟨kd_X11_back, List.forall_mem_cons.mpr ⟨kd_X11_read, List.forall_mem_cons.mpr ⟨kd_X11_place, List.forall_mem_cons.mpr ⟨kd_X11_use, List.forall_mem_cons.mpr ⟨kd_X11_takeToHand, List.forall_mem_cons.mpr ⟨kd_X11_isDrawing, List.forall_mem_cons.mpr ⟨kd_X11_drawingOf, List.forall_mem_cons.mpr ⟨kd_X11_current, List.forall_mem_cons.mpr ⟨kd_X11_contact, List.forall_mem_cons.mpr ⟨kd_X11_flaw, List.forall_mem_cons.mpr ⟨kd_X11_takeHut, List.forall_mem_cons.mpr ⟨kd_X11_isState, List.forall_mem_cons.mpr ⟨kd_X11_settles, List.forall_mem_cons.mpr ⟨kd_X11_shows, List.forall_mem_cons.mpr ⟨kd_X11_start, List.forall_mem_cons.mpr ⟨kd_X11_reached, List.forall_mem_cons.mpr ⟨kd_X11_races, List.forall_mem_cons.mpr ⟨kd_X11_bad, List.forall_mem_cons.mpr ⟨kd_X11_badAct, List.forall_mem_cons.mpr ⟨kd_X11_singles, fun _ h => absurd h List.not_mem_nil⟩⟩⟩⟩⟩⟩⟩⟩⟩⟩⟩⟩⟩⟩⟩⟩⟩⟩⟩⟩⟩⟩⟩⟩⟩⟩⟩
theorem sgC_6_ok : ∀ g ∈ sgC_6, wCD g ∈ TB := List.forall_mem_cons.mpr ⟨kd_X11_pairs, List.forall_mem_cons.mpr ⟨kd_X11_pair, List.forall_mem_cons.mpr ⟨kd_X11_least, List.forall_mem_cons.mpr ⟨kd_X11_leastAct, List.forall_mem_cons.mpr ⟨kd_X11_hidden, List.forall_mem_cons.mpr ⟨kd_X11_suite, List.forall_mem_cons.mpr ⟨kd_X11_suiteAct, List.forall_mem_cons.mpr ⟨kd_X11_suiteActs, List.forall_mem_cons.mpr ⟨kd_X11_unlike, List.forall_mem_cons.mpr ⟨kd_X11_safe, List.forall_mem_cons.mpr ⟨kd_X11_plan, List.forall_mem_cons.mpr ⟨kd_X11_stage, List.forall_mem_cons.mpr ⟨kd_X11_log, List.forall_mem_cons.mpr ⟨kd_X11_annul, List.forall_mem_cons.mpr ⟨kd_X11_fits, List.forall_mem_cons.mpr ⟨kd_X11_suspects, List.forall_mem_cons.mpr ⟨kd_X11_next, List.forall_mem_cons.mpr ⟨kd_X11_set, List.forall_mem_cons.mpr ⟨kd_X11_strap, List.forall_mem_cons.mpr ⟨kd_X11_age, List.forall_mem_cons.mpr ⟨kd_X11_round, List.forall_mem_cons.mpr ⟨kd_X11_clash, List.forall_mem_cons.mpr ⟨kd_X11_hand, List.forall_mem_cons.mpr ⟨kd_X11_count, List.forall_mem_cons.mpr ⟨kd_X11_wordOf, List.forall_mem_cons.mpr ⟨kd_X12_init, List.forall_mem_cons.mpr ⟨kd_X12_feed, fun _ h => absurd h List.not_mem_nil⟩⟩⟩⟩⟩⟩⟩⟩⟩⟩⟩⟩⟩⟩⟩⟩⟩⟩⟩⟩⟩⟩⟩⟩⟩⟩⟩
theorem sgC_7_ok : ∀ g ∈ sgC_7, wCD g ∈ TB := List.forall_mem_cons.mpr ⟨kd_X12_put, List.forall_mem_cons.mpr ⟨kd_X12_back, List.forall_mem_cons.mpr ⟨kd_X12_byteAt, List.forall_mem_cons.mpr ⟨kd_X12_isDigit, List.forall_mem_cons.mpr ⟨kd_X12_isLetter, List.forall_mem_cons.mpr ⟨kd_X12_appends, List.forall_mem_cons.mpr ⟨kd_X12_word, List.forall_mem_cons.mpr ⟨kd_X12_token, List.forall_mem_cons.mpr ⟨kd_X12_cut, List.forall_mem_cons.mpr ⟨kd_X12_sign, List.forall_mem_cons.mpr ⟨kd_X12_is, List.forall_mem_cons.mpr ⟨kd_X12_fail, List.forall_mem_cons.mpr ⟨kd_X12_wrong, List.forall_mem_cons.mpr ⟨kd_X12_goesOn, List.forall_mem_cons.mpr ⟨kd_X12_must, List.forall_mem_cons.mpr ⟨kd_X12_read, List.forall_mem_cons.mpr ⟨kd_X12_place, List.forall_mem_cons.mpr ⟨kd_X12_tell, List.forall_mem_cons.mpr ⟨kd_X12_inputNamed, List.forall_mem_cons.mpr ⟨kd_X12_relayNamed, List.forall_mem_cons.mpr ⟨kd_X12_lampNamed, List.forall_mem_cons.mpr ⟨kd_X12_named, List.forall_mem_cons.mpr ⟨kd_X12_tellInput, List.forall_mem_cons.mpr ⟨kd_X12_tellRelay, List.forall_mem_cons.mpr ⟨kd_X12_tellLamp, List.forall_mem_cons.mpr ⟨kd_X12_tellNever, List.forall_mem_cons.mpr ⟨kd_X12_emit, fun _ h => absurd h List.not_mem_nil⟩⟩⟩⟩⟩⟩⟩⟩⟩⟩⟩⟩⟩⟩⟩⟩⟩⟩⟩⟩⟩⟩⟩⟩⟩⟩⟩
theorem sgC_8_ok : ∀ g ∈ sgC_8, wCD g ∈ TB := List.forall_mem_cons.mpr ⟨kd_X12_waitsOn, List.forall_mem_cons.mpr ⟨kd_X12_circuit, List.forall_mem_cons.mpr ⟨kd_X12_unit, List.forall_mem_cons.mpr ⟨kd_X12_goes, List.forall_mem_cons.mpr ⟨kd_X12_thingNamed, List.forall_mem_cons.mpr ⟨kd_X12_knows, List.forall_mem_cons.mpr ⟨kd_X12_in, List.forall_mem_cons.mpr ⟨kd_X12_isDrawing, List.forall_mem_cons.mpr ⟨kd_X12_comes, List.forall_mem_cons.mpr ⟨kd_X12_use, List.forall_mem_cons.mpr ⟨kd_X12_contact, List.forall_mem_cons.mpr ⟨kd_X12_isCrossable, List.forall_mem_cons.mpr ⟨kd_X12_isFlaw, List.forall_mem_cons.mpr ⟨kd_X12_isHut, List.forall_mem_cons.mpr ⟨kd_X12_flawsThere, List.forall_mem_cons.mpr ⟨kd_X12_flaw, List.forall_mem_cons.mpr ⟨kd_X12_isThing, List.forall_mem_cons.mpr ⟨kd_X12_isShut, List.forall_mem_cons.mpr ⟨kd_X12_holds, List.forall_mem_cons.mpr ⟨kd_X12_neverNow, List.forall_mem_cons.mpr ⟨kd_X12_greens, List.forall_mem_cons.mpr ⟨kd_X12_sound, List.forall_mem_cons.mpr ⟨kd_X12_spoils, List.forall_mem_cons.mpr ⟨kd_X12_closes, List.forall_mem_cons.mpr ⟨kd_X12_all, List.forall_mem_cons.mpr ⟨kd_X12_shutBits, List.forall_mem_cons.mpr ⟨kd_X12_isCircuit, fun _ h => absurd h List.not_mem_nil⟩⟩⟩⟩⟩⟩⟩⟩⟩⟩⟩⟩⟩⟩⟩⟩⟩⟩⟩⟩⟩⟩⟩⟩⟩⟩⟩
theorem sgC_9_ok : ∀ g ∈ sgC_9, wCD g ∈ TB := List.forall_mem_cons.mpr ⟨kd_X12_builds, List.forall_mem_cons.mpr ⟨kd_X12_lays, List.forall_mem_cons.mpr ⟨kd_X12_allowed, List.forall_mem_cons.mpr ⟨kd_X12_worksOut, List.forall_mem_cons.mpr ⟨kd_X12_placed, List.forall_mem_cons.mpr ⟨kd_X12_startOf, List.forall_mem_cons.mpr ⟨kd_X12_behind, List.forall_mem_cons.mpr ⟨kd_X12_lampsAt, List.forall_mem_cons.mpr ⟨kd_X12_settles, List.forall_mem_cons.mpr ⟨kd_X12_shows, List.forall_mem_cons.mpr ⟨kd_X12_start, List.forall_mem_cons.mpr ⟨kd_X12_isWrong, List.forall_mem_cons.mpr ⟨kd_X12_reaches, List.forall_mem_cons.mpr ⟨kd_X12_arrives, List.forall_mem_cons.mpr ⟨kd_X12_goesThrough, List.forall_mem_cons.mpr ⟨kd_X12_reached, List.forall_mem_cons.mpr ⟨kd_X12_races, List.forall_mem_cons.mpr ⟨kd_X12_actsTo, List.forall_mem_cons.mpr ⟨kd_X12_bad, List.forall_mem_cons.mpr ⟨kd_X12_badAct, List.forall_mem_cons.mpr ⟨kd_X12_isBad, List.forall_mem_cons.mpr ⟨kd_X12_singles, List.forall_mem_cons.mpr ⟨kd_X12_pairsOf, List.forall_mem_cons.mpr ⟨kd_X12_pairs, List.forall_mem_cons.mpr ⟨kd_X12_pair, List.forall_mem_cons.mpr ⟨kd_X12_joins, List.forall_mem_cons.mpr ⟨kd_X12_seen, fun _ h => absurd h List.not_mem_nil⟩⟩⟩⟩⟩⟩⟩⟩⟩⟩⟩⟩⟩⟩⟩⟩⟩⟩⟩⟩⟩⟩⟩⟩⟩⟩⟩
theorem sgC_10_ok : ∀ g ∈ sgC_10, wCD g ∈ TB := List.forall_mem_cons.mpr ⟨kd_X12_deep, List.forall_mem_cons.mpr ⟨kd_X12_actBetween, List.forall_mem_cons.mpr ⟨kd_X12_leastTest, List.forall_mem_cons.mpr ⟨kd_X12_findsTest, List.forall_mem_cons.mpr ⟨kd_X12_least, List.forall_mem_cons.mpr ⟨kd_X12_leastAct, List.forall_mem_cons.mpr ⟨kd_X12_sees, List.forall_mem_cons.mpr ⟨kd_X12_makesSuite, List.forall_mem_cons.mpr ⟨kd_X12_hidden, List.forall_mem_cons.mpr ⟨kd_X12_suite, List.forall_mem_cons.mpr ⟨kd_X12_suiteAct, List.forall_mem_cons.mpr ⟨kd_X12_suiteActs, List.forall_mem_cons.mpr ⟨kd_X12_isSame, List.forall_mem_cons.mpr ⟨kd_X12_isAlike, List.forall_mem_cons.mpr ⟨kd_X12_unlikeOnes, List.forall_mem_cons.mpr ⟨kd_X12_unlike, List.forall_mem_cons.mpr ⟨kd_X12_isSafe, List.forall_mem_cons.mpr ⟨kd_X12_safe, List.forall_mem_cons.mpr ⟨kd_X12_bits, List.forall_mem_cons.mpr ⟨kd_X12_plans, List.forall_mem_cons.mpr ⟨kd_X12_plan, List.forall_mem_cons.mpr ⟨kd_X12_stage, List.forall_mem_cons.mpr ⟨kd_X12_log, List.forall_mem_cons.mpr ⟨kd_X12_annul, List.forall_mem_cons.mpr ⟨kd_X12_showsBehind, List.forall_mem_cons.mpr ⟨kd_X12_isVoid, List.forall_mem_cons.mpr ⟨kd_X12_fitsLogs, fun _ h => absurd h List.not_mem_nil⟩⟩⟩⟩⟩⟩⟩⟩⟩⟩⟩⟩⟩⟩⟩⟩⟩⟩⟩⟩⟩⟩⟩⟩⟩⟩⟩
theorem sgC_11_ok : ∀ g ∈ sgC_11, wCD g ∈ TB := List.forall_mem_cons.mpr ⟨kd_X12_isKnown, List.forall_mem_cons.mpr ⟨kd_X12_fits, List.forall_mem_cons.mpr ⟨kd_X12_counts, List.forall_mem_cons.mpr ⟨kd_X12_rowActs, List.forall_mem_cons.mpr ⟨kd_X12_isRow, List.forall_mem_cons.mpr ⟨kd_X12_suspects, List.forall_mem_cons.mpr ⟨kd_X12_next, List.forall_mem_cons.mpr ⟨kd_X12_set, List.forall_mem_cons.mpr ⟨kd_X12_strap, List.forall_mem_cons.mpr ⟨kd_X12_age, List.forall_mem_cons.mpr ⟨kd_X12_handShut, List.forall_mem_cons.mpr ⟨kd_X12_isIn, List.forall_mem_cons.mpr ⟨kd_X12_round, List.forall_mem_cons.mpr ⟨kd_X12_clash, List.forall_mem_cons.mpr ⟨kd_X12_hand, List.forall_mem_cons.mpr ⟨kd_X12_count, List.forall_mem_cons.mpr ⟨kd_J6_bitCount_0f7a4, List.forall_mem_cons.mpr ⟨kd_J13_bitCount_95d88, List.forall_mem_cons.mpr ⟨kd_J9_max_7cf53, List.forall_mem_cons.mpr ⟨kd_J9_min_7cf53, List.forall_mem_cons.mpr ⟨kd_J0_length_8abf5, List.forall_mem_cons.mpr ⟨kd_J0_charAt_5068e, List.forall_mem_cons.mpr ⟨kd_J0_indexOf_0f7a4, List.forall_mem_cons.mpr ⟨kd_J7_fill_d0a16, List.forall_mem_cons.mpr ⟨kd_J7_fill_53178, List.forall_mem_cons.mpr ⟨kd_J7_fill_031fb, List.forall_mem_cons.mpr ⟨kd_J7_copyOf_c38d5, fun _ h => absurd h List.not_mem_nil⟩⟩⟩⟩⟩⟩⟩⟩⟩⟩⟩⟩⟩⟩⟩⟩⟩⟩⟩⟩⟩⟩⟩⟩⟩⟩⟩
theorem sgC_12_ok : ∀ g ∈ sgC_12, wCD g ∈ TB := List.forall_mem_cons.mpr ⟨kd_J0_coder_7d493, List.forall_mem_cons.mpr ⟨kd_J0_isLatin1_aae02, List.forall_mem_cons.mpr ⟨kd_J0_checkIndex_df160, List.forall_mem_cons.mpr ⟨kd_J3_checkIndex_8e157, List.forall_mem_cons.mpr ⟨kd_J1_charAt_3b067, List.forall_mem_cons.mpr ⟨kd_J0_indexOf_7cf53, List.forall_mem_cons.mpr ⟨kd_J1_indexOf_4cfef, List.forall_mem_cons.mpr ⟨kd_J1_indexOfChar_4cfef, List.forall_mem_cons.mpr ⟨kd_J1_canEncode_9a6ad, fun _ h => absurd h List.not_mem_nil⟩⟩⟩⟩⟩⟩⟩⟩⟩
theorem CD_all : ∀ g ∈ sgL, wCD g ∈ TB := by
  unfold sgL
  exact List.forall_mem_append.mpr ⟨sgC_0_ok, List.forall_mem_append.mpr ⟨sgC_1_ok, List.forall_mem_append.mpr ⟨sgC_2_ok, List.forall_mem_append.mpr ⟨sgC_3_ok, List.forall_mem_append.mpr ⟨sgC_4_ok, List.forall_mem_append.mpr ⟨sgC_5_ok, List.forall_mem_append.mpr ⟨sgC_6_ok, List.forall_mem_append.mpr ⟨sgC_7_ok, List.forall_mem_append.mpr ⟨sgC_8_ok, List.forall_mem_append.mpr ⟨sgC_9_ok, List.forall_mem_append.mpr ⟨sgC_10_ok, List.forall_mem_append.mpr ⟨sgC_11_ok, sgC_12_ok⟩⟩⟩⟩⟩⟩⟩⟩⟩⟩⟩⟩
theorem CD (i : Nat) : wCD (sg i) ∈ TB := by
  unfold sg
  rw [List.getD_eq_getElem?_getD]
  cases h : sgL[i]? with
  | none => exact kd_X0_init
  | some g => exact CD_all g (List.mem_of_getElem? h)
def FLt_0_0 : List (Nat × Nat × Nat × Nat × Nat) := [(0, 85, 10, 9, 188), (0, 73, 0, 0, 261), (0, 66, 0, 1, 266), (0, 70, 0, 2, 269), (0, 88, 0, 3, 272), (0, 123, 0, 4, 274), (0, 11, 0, 5, 275), (0, 15, 0, 6, 276), (0, 19, 0, 7, 277), (0, 22, 0, 8, 278), (0, 25, 0, 9, 279), (0, 76, 0, 10, 280), (0, 33, 0, 11, 281), (0, 37, 0, 12, 285), (0, 40, 0, 13, 289), (0, 120, 0, 14, 290), (0, 59, 0, 15, 294), (0, 62, 0, 16, 295), (0, 46, 0, 17, 296)]
def FLt_0 : List (Nat × Nat × Nat × Nat × Nat) := FLt_0_0
def FLt_1_0 : List (Nat × Nat × Nat × Nat × Nat) := [(1, 9, 1, 0, 225), (1, 15, 1, 1, 227), (1, 18, 1, 2, 229), (1, 22, 1, 3, 230), (1, 25, 1, 4, 232), (1, 28, 1, 5, 234), (1, 31, 1, 6, 236)]
def FLt_1 : List (Nat × Nat × Nat × Nat × Nat) := FLt_1_0
def FLt_2_0 : List (Nat × Nat × Nat × Nat × Nat) := [(2, 85, 10, 1, 177), (2, 43, 0, 0, 262), (2, 51, 0, 1, 267), (2, 46, 0, 3, 271), (2, 52, 0, 11, 283), (2, 88, 0, 12, 287), (2, 18, 2, 0, 682), (2, 22, 2, 1, 683), (2, 26, 2, 2, 684), (2, 29, 2, 3, 685), (2, 33, 2, 4, 686), (2, 9, 2, 5, 687), (2, 15, 2, 6, 688)]
def FLt_2 : List (Nat × Nat × Nat × Nat × Nat) := FLt_2_0
def FLt_3_0 : List (Nat × Nat × Nat × Nat × Nat) := [(3, 45, 0, 0, 260), (3, 90, 0, 11, 282), (3, 83, 0, 12, 286), (3, 32, 3, 0, 508), (3, 36, 3, 1, 509), (3, 54, 3, 2, 510), (3, 9, 3, 3, 511), (3, 15, 3, 4, 512), (3, 80, 3, 5, 513), (3, 57, 3, 6, 515), (3, 61, 3, 7, 516), (3, 64, 3, 8, 517), (3, 67, 3, 9, 518), (3, 70, 3, 10, 519), (3, 73, 3, 11, 520), (3, 18, 3, 12, 521), (3, 22, 3, 13, 522), (3, 26, 3, 14, 523), (3, 29, 3, 15, 524)]
def FLt_3 : List (Nat × Nat × Nat × Nat × Nat) := FLt_3_0
def FLt_4_0 : List (Nat × Nat × Nat × Nat × Nat) := [(4, 47, 0, 0, 264), (4, 35, 0, 2, 270), (4, 74, 0, 14, 291), (4, 27, 4, 0, 654), (4, 11, 4, 1, 655), (4, 15, 4, 2, 656), (4, 18, 4, 3, 657), (4, 21, 4, 4, 658), (4, 31, 4, 5, 659), (4, 24, 4, 6, 660)]
def FLt_4 : List (Nat × Nat × Nat × Nat × Nat) := FLt_4_0
def FLt_5_0 : List (Nat × Nat × Nat × Nat × Nat) := [(5, 21, 5, 0, 620), (5, 25, 5, 1, 621), (5, 29, 5, 2, 622), (5, 33, 5, 3, 623), (5, 36, 5, 4, 624), (5, 11, 5, 5, 625), (5, 15, 5, 6, 626), (5, 18, 5, 7, 627), (5, 44, 5, 8, 628)]
def FLt_5 : List (Nat × Nat × Nat × Nat × Nat) := FLt_5_0
def FLt_6_0 : List (Nat × Nat × Nat × Nat × Nat) := [(6, 59, 8, 4, 417), (6, 58, 8, 5, 419), (6, 120, 8, 6, 422), (6, 12, 6, 0, 438), (6, 18, 6, 1, 439), (6, 22, 6, 2, 440), (6, 25, 6, 3, 441), (6, 28, 6, 4, 442), (6, 32, 6, 5, 443), (6, 73, 6, 6, 444), (6, 62, 6, 7, 445), (6, 84, 6, 8, 446), (6, 44, 6, 9, 447), (6, 35, 6, 10, 448), (6, 38, 6, 11, 449), (6, 41, 6, 12, 450), (6, 87, 6, 13, 451), (6, 90, 6, 14, 452), (6, 93, 6, 15, 453), (6, 96, 6, 16, 454), (6, 99, 6, 17, 455), (6, 102, 6, 18, 456), (6, 105, 6, 19, 457)]
def FLt_6 : List (Nat × Nat × Nat × Nat × Nat) := FLt_6_0
def FLt_7_0 : List (Nat × Nat × Nat × Nat × Nat) := [(7, 88, 1, 0, 226), (7, 109, 1, 1, 228), (7, 94, 0, 14, 292), (7, 82, 0, 17, 298), (7, 39, 3, 5, 514), (7, 26, 7, 0, 564), (7, 9, 7, 1, 565), (7, 15, 7, 2, 566), (7, 18, 7, 3, 567), (7, 30, 7, 4, 568), (7, 33, 7, 5, 569), (7, 36, 7, 6, 570), (7, 42, 7, 7, 571), (7, 22, 7, 8, 572)]
def FLt_7 : List (Nat × Nat × Nat × Nat × Nat) := FLt_7_0
def FLt_8_0 : List (Nat × Nat × Nat × Nat × Nat) := [(8, 31, 8, 0, 413), (8, 35, 8, 1, 414), (8, 45, 8, 2, 415), (8, 49, 8, 3, 416), (8, 78, 8, 4, 418), (8, 71, 8, 5, 420), (8, 74, 8, 6, 421)]
def FLt_8 : List (Nat × Nat × Nat × Nat × Nat) := FLt_8_0
def FLt_9_0 : List (Nat × Nat × Nat × Nat × Nat) := [(9, 37, 1, 3, 231), (9, 43, 1, 4, 233), (9, 137, 1, 5, 235), (9, 126, 1, 6, 237), (9, 63, 0, 0, 263), (9, 119, 0, 14, 293), (9, 29, 0, 17, 297), (9, 18, 9, 0, 598), (9, 22, 9, 1, 599), (9, 11, 9, 2, 600), (9, 58, 9, 3, 601), (9, 15, 9, 4, 602)]
def FLt_9 : List (Nat × Nat × Nat × Nat × Nat) := FLt_9_0
def FLt_10_0 : List (Nat × Nat × Nat × Nat × Nat) := [(10, 31, 10, 0, 175), (10, 35, 10, 1, 176), (10, 38, 10, 2, 179), (10, 41, 10, 3, 181), (10, 44, 10, 4, 182), (10, 47, 10, 5, 183), (10, 11, 10, 6, 184), (10, 15, 10, 7, 185), (10, 18, 10, 8, 186), (10, 21, 10, 9, 187), (10, 24, 10, 10, 189), (10, 28, 10, 11, 190)]
def FLt_10 : List (Nat × Nat × Nat × Nat × Nat) := FLt_10_0
def FLt_11_0 : List (Nat × Nat × Nat × Nat × Nat) := [(11, 138, 10, 1, 178), (11, 143, 10, 2, 180), (11, 236, 1, 6, 238), (11, 157, 0, 0, 265), (11, 160, 0, 1, 268), (11, 127, 0, 3, 273), (11, 134, 0, 11, 284), (11, 130, 0, 12, 288), (11, 204, 0, 17, 299), (11, 9, 11, 0, 704), (11, 90, 11, 1, 705), (11, 13, 11, 2, 706), (11, 22, 11, 3, 707), (11, 26, 11, 4, 708), (11, 96, 11, 5, 709), (11, 30, 11, 6, 710), (11, 36, 11, 7, 711), (11, 45, 11, 8, 712), (11, 54, 11, 9, 713), (11, 63, 11, 10, 714), (11, 72, 11, 11, 715), (11, 79, 11, 12, 716), (11, 86, 11, 13, 717)]
def FLt_11 : List (Nat × Nat × Nat × Nat × Nat) := FLt_11_0
def FLt_12_0 : List (Nat × Nat × Nat × Nat × Nat) := [(12, 13, 12, 1, 1591), (12, 217, 12, 2, 1592), (12, 17, 12, 3, 1593), (12, 224, 12, 4, 1594), (12, 20, 12, 5, 1595), (12, 24, 12, 6, 1596), (12, 27, 12, 7, 1597), (12, 30, 12, 8, 1598), (12, 34, 12, 9, 1599), (12, 233, 12, 10, 1600), (12, 257, 12, 11, 1601), (12, 284, 12, 12, 1602), (12, 254, 12, 13, 1603), (12, 260, 12, 14, 1604), (12, 263, 12, 15, 1605), (12, 266, 12, 16, 1606), (12, 37, 12, 17, 1607), (12, 278, 12, 18, 1608), (12, 40, 12, 19, 1609), (12, 287, 12, 20, 1610), (12, 43, 12, 21, 1611), (12, 46, 12, 22, 1612), (12, 50, 12, 23, 1613), (12, 53, 12, 24, 1614), (12, 56, 12, 25, 1615), (12, 59, 12, 26, 1616), (12, 62, 12, 27, 1617), (12, 65, 12, 28, 1618), (12, 68, 12, 29, 1619), (12, 71, 12, 30, 1620), (12, 74, 12, 31, 1621), (12, 77, 12, 32, 1622), (12, 80, 12, 33, 1623), (12, 83, 12, 34, 1624), (12, 86, 12, 35, 1625), (12, 89, 12, 36, 1626), (12, 92, 12, 37, 1627), (12, 95, 12, 38, 1628), (12, 98, 12, 39, 1629), (12, 101, 12, 40, 1630)]
def FLt_12_1 : List (Nat × Nat × Nat × Nat × Nat) := [(12, 290, 12, 41, 1631), (12, 104, 12, 42, 1632), (12, 293, 12, 43, 1633), (12, 107, 12, 44, 1634), (12, 296, 12, 45, 1635), (12, 110, 12, 46, 1636), (12, 113, 12, 47, 1637), (12, 116, 12, 48, 1638), (12, 344, 12, 49, 1639), (12, 371, 12, 50, 1640), (12, 374, 12, 51, 1641), (12, 119, 12, 52, 1642), (12, 122, 12, 53, 1643), (12, 125, 12, 54, 1644), (12, 377, 12, 55, 1645), (12, 128, 12, 56, 1646), (12, 131, 12, 57, 1647), (12, 134, 12, 58, 1648), (12, 137, 12, 59, 1649), (12, 140, 12, 60, 1650), (12, 397, 12, 61, 1651), (12, 400, 12, 62, 1652), (12, 143, 12, 63, 1653), (12, 146, 12, 64, 1654), (12, 149, 12, 65, 1655), (12, 152, 12, 66, 1656), (12, 155, 12, 67, 1657), (12, 464, 12, 68, 1658), (12, 158, 12, 69, 1659), (12, 161, 12, 70, 1660), (12, 164, 12, 71, 1661), (12, 167, 12, 72, 1662), (12, 467, 12, 73, 1663), (12, 470, 12, 74, 1664), (12, 494, 12, 75, 1665), (12, 497, 12, 76, 1666), (12, 506, 12, 77, 1667), (12, 171, 12, 78, 1668), (12, 174, 12, 79, 1669), (12, 177, 12, 80, 1670)]
def FLt_12_2 : List (Nat × Nat × Nat × Nat × Nat) := [(12, 503, 12, 81, 1671), (12, 509, 12, 82, 1672), (12, 180, 12, 83, 1673), (12, 367, 12, 84, 1674), (12, 530, 12, 85, 1675), (12, 533, 12, 86, 1676), (12, 183, 12, 87, 1677), (12, 186, 12, 88, 1678), (12, 189, 12, 89, 1679), (12, 192, 12, 90, 1680), (12, 563, 12, 91, 1681), (12, 195, 12, 92, 1682), (12, 198, 12, 93, 1683), (12, 201, 12, 94, 1684), (12, 204, 12, 95, 1685), (12, 578, 12, 96, 1686), (12, 207, 12, 97, 1687), (12, 210, 12, 98, 1688)]
def FLt_12 : List (Nat × Nat × Nat × Nat × Nat) := FLt_12_0 ++ (FLt_12_1 ++ (FLt_12_2))
def FLt : Nat → List (Nat × Nat × Nat × Nat × Nat) := fun i => match i with
  | 0 => FLt_0
  | 1 => FLt_1
  | 2 => FLt_2
  | 3 => FLt_3
  | 4 => FLt_4
  | 5 => FLt_5
  | 6 => FLt_6
  | 7 => FLt_7
  | 8 => FLt_8
  | 9 => FLt_9
  | 10 => FLt_10
  | 11 => FLt_11
  | 12 => FLt_12
  | _ => []
def MLt_0_0 : List (Nat × Nat × Nat × Nat) := [(0, 30, 130, 171), (0, 50, 316, 254), (0, 56, 315, 257), (0, 91, 4, 949), (0, 95, 132, 953), (0, 99, 131, 965), (0, 103, 7, 970), (0, 106, 137, 974), (0, 109, 10, 982), (0, 112, 138, 986), (0, 116, 136, 990), (0, 126, 135, 1006), (0, 130, 12, 1065), (0, 134, 16, 1354)]
def MLt_0 : List (Nat × Nat × Nat × Nat) := MLt_0_0
def MLt_1_0 : List (Nat × Nat × Nat × Nat) := [(1, 35, 19, 1234)]
def MLt_1 : List (Nat × Nat × Nat × Nat) := MLt_1_0
def MLt_2_0 : List (Nat × Nat × Nat × Nat) := [(2, 37, 321, 1030), (2, 74, 30, 1529), (2, 60, 138, 1534), (2, 66, 10, 1535), (2, 70, 136, 1536), (2, 77, 3, 1537), (2, 81, 32, 1538), (2, 91, 314, 1558), (2, 97, 11, 1564)]
def MLt_2 : List (Nat × Nat × Nat × Nat) := MLt_2_0
def MLt_3_0 : List (Nat × Nat × Nat × Nat) := [(3, 39, 322, 505), (3, 50, 37, 1073), (3, 76, 38, 1077), (3, 110, 39, 1092), (3, 86, 9, 1096), (3, 94, 138, 1100), (3, 102, 136, 1102), (3, 119, 42, 1103), (3, 116, 3, 1107), (3, 122, 44, 1111), (3, 126, 45, 1115), (3, 113, 11, 1160)]
def MLt_3 : List (Nat × Nat × Nat × Nat) := MLt_3_0
def MLt_4_0 : List (Nat × Nat × Nat × Nat) := [(4, 39, 50, 1420), (4, 43, 51, 1423), (4, 63, 36, 1447), (4, 67, 53, 1448), (4, 71, 54, 1452), (4, 50, 43, 1456), (4, 56, 35, 1457), (4, 60, 40, 1458), (4, 77, 13, 1467), (4, 81, 55, 1468), (4, 84, 321, 1477), (4, 90, 61, 1478), (4, 94, 60, 1482), (4, 101, 58, 1485), (4, 104, 59, 1488), (4, 107, 315, 1491), (4, 98, 62, 1492)]
def MLt_4 : List (Nat × Nat × Nat × Nat) := MLt_4_0
def MLt_5_0 : List (Nat × Nat × Nat × Nat) := [(5, 40, 65, 1382), (5, 47, 37, 1386), (5, 53, 97, 1387), (5, 59, 96, 1388), (5, 63, 316, 1389), (5, 69, 66, 1390), (5, 73, 67, 1394), (5, 77, 313, 1398)]
def MLt_5 : List (Nat × Nat × Nat × Nat) := MLt_5_0
def MLt_6_0 : List (Nat × Nat × Nat × Nat) := [(6, 48, 73, 767), (6, 51, 107, 771), (6, 55, 110, 776), (6, 65, 83, 858), (6, 130, 85, 862), (6, 134, 84, 867), (6, 139, 86, 870), (6, 143, 87, 874), (6, 147, 88, 878), (6, 69, 74, 882), (6, 108, 75, 886), (6, 111, 76, 889), (6, 76, 77, 893), (6, 114, 79, 897), (6, 117, 78, 901), (6, 80, 80, 904), (6, 124, 81, 908), (6, 127, 82, 912), (6, 153, 0, 925), (6, 155, 1, 926), (6, 159, 91, 930), (6, 169, 2, 934), (6, 173, 90, 938), (6, 176, 5, 942), (6, 163, 6, 966), (6, 166, 92, 994), (6, 182, 130, 999), (6, 183, 4, 1000), (6, 186, 132, 1001), (6, 190, 8, 1002)]
def MLt_6 : List (Nat × Nat × Nat × Nat) := MLt_6_0
def MLt_7_0 : List (Nat × Nat × Nat × Nat) := [(7, 46, 98, 1139), (7, 50, 43, 1143), (7, 54, 99, 1144), (7, 70, 320, 1148), (7, 66, 100, 1151), (7, 58, 41, 1156), (7, 62, 35, 1164), (7, 79, 101, 1196), (7, 97, 13, 1205), (7, 101, 36, 1206), (7, 105, 97, 1207), (7, 112, 103, 1217), (7, 116, 19, 1218), (7, 120, 105, 1222), (7, 124, 20, 1226)]
def MLt_7 : List (Nat × Nat × Nat × Nat) := MLt_7_0
def MLt_8_0 : List (Nat × Nat × Nat × Nat) := [(8, 11, 108, 351), (8, 52, 317, 354), (8, 57, 318, 364), (8, 61, 109, 402), (8, 39, 316, 775), (8, 67, 114, 780), (8, 81, 115, 783), (8, 84, 111, 786), (8, 99, 112, 790), (8, 87, 116, 794), (8, 90, 113, 797), (8, 95, 319, 803)]
def MLt_8 : List (Nat × Nat × Nat × Nat) := MLt_8_0
def MLt_9_0 : List (Nat × Nat × Nat × Nat) := [(9, 46, 13, 1252), (9, 50, 122, 1253), (9, 93, 36, 1257), (9, 54, 121, 1258), (9, 74, 320, 1262), (9, 80, 43, 1263), (9, 85, 123, 1264), (9, 100, 39, 1269), (9, 89, 125, 1270), (9, 104, 316, 1275), (9, 109, 323, 1276), (9, 66, 124, 1288), (9, 70, 126, 1293), (9, 25, 118, 1309), (9, 122, 120, 1318), (9, 129, 23, 1327), (9, 133, 127, 1332), (9, 115, 119, 1336)]
def MLt_9 : List (Nat × Nat × Nat × Nat) := MLt_9_0
def MLt_10_0 : List (Nat × Nat × Nat × Nat) := [(10, 50, 131, 957), (10, 54, 316, 960), (10, 60, 133, 961), (10, 64, 134, 978)]
def MLt_10 : List (Nat × Nat × Nat × Nat) := MLt_10_0
def MLt_11_0 : List (Nat × Nat × Nat × Nat) := [(11, 19, 0, 165), (11, 42, 34, 501), (11, 51, 93, 560), (11, 60, 117, 594), (11, 69, 63, 616), (11, 78, 46, 650), (11, 85, 24, 678), (11, 93, 141, 751), (11, 99, 72, 763), (11, 103, 71, 916), (11, 106, 89, 920), (11, 110, 146, 1010), (11, 117, 149, 1014), (11, 123, 148, 1018), (11, 113, 147, 1022), (11, 120, 25, 1026), (11, 146, 13, 1049), (11, 163, 152, 1057), (11, 150, 14, 1061), (11, 153, 36, 1069), (11, 167, 153, 1081), (11, 170, 43, 1085), (11, 174, 40, 1123), (11, 177, 97, 1135), (11, 181, 94, 1168), (11, 184, 95, 1176), (11, 187, 101, 1184), (11, 190, 102, 1192), (11, 193, 103, 1201), (11, 197, 12, 1212), (11, 200, 104, 1213), (11, 208, 21, 1230), (11, 213, 22, 1239), (11, 216, 120, 1247), (11, 222, 118, 1299), (11, 226, 119, 1306), (11, 230, 128, 1314), (11, 233, 129, 1323), (11, 239, 23, 1341), (11, 243, 15, 1350)]
def MLt_11_1 : List (Nat × Nat × Nat × Nat) := [(11, 246, 170, 1362), (11, 249, 37, 1363), (11, 253, 96, 1364), (11, 257, 313, 1372), (11, 262, 64, 1378), (11, 266, 68, 1399), (11, 269, 172, 1407), (11, 273, 69, 1408), (11, 276, 49, 1416), (11, 280, 52, 1431), (11, 283, 48, 1439), (11, 286, 55, 1443), (11, 290, 56, 1463), (11, 294, 57, 1473), (11, 297, 27, 1500), (11, 301, 28, 1508), (11, 304, 29, 1517), (11, 307, 31, 1525), (11, 310, 26, 1546), (11, 313, 33, 1554), (11, 316, 47, 1569), (11, 319, 17, 1573)]
def MLt_11 : List (Nat × Nat × Nat × Nat) := MLt_11_0 ++ (MLt_11_1)
def MLt_12_0 : List (Nat × Nat × Nat × Nat) := [(12, 213, 195, 1584), (12, 229, 194, 1587), (12, 220, 189, 1893), (12, 281, 197, 1905), (12, 236, 191, 1909), (12, 240, 196, 1913), (12, 244, 193, 1917), (12, 248, 192, 1920), (12, 251, 198, 1923), (12, 272, 199, 1926), (12, 299, 206, 1930), (12, 269, 200, 1934), (12, 308, 211, 1938), (12, 275, 202, 1942), (12, 337, 210, 1946), (12, 320, 203, 1950), (12, 323, 207, 1954), (12, 327, 208, 1958), (12, 330, 209, 1962), (12, 333, 201, 1966), (12, 311, 212, 1970), (12, 341, 217, 1974), (12, 347, 218, 1978), (12, 354, 215, 1982), (12, 350, 219, 1986), (12, 357, 216, 1990), (12, 314, 213, 1994), (12, 317, 214, 1998), (12, 302, 221, 2002), (12, 360, 220, 2006), (12, 305, 224, 2010), (12, 380, 223, 2022), (12, 363, 222, 2026), (12, 386, 228, 2037), (12, 383, 227, 2041), (12, 442, 229, 2049), (12, 431, 240, 2053), (12, 445, 243, 2057), (12, 414, 237, 2061), (12, 417, 238, 2065)]
def MLt_12_1 : List (Nat × Nat × Nat × Nat) := [(12, 420, 244, 2069), (12, 424, 241, 2073), (12, 403, 239, 2077), (12, 389, 232, 2081), (12, 407, 242, 2085), (12, 411, 233, 2089), (12, 428, 246, 2093), (12, 434, 245, 2097), (12, 438, 247, 2101), (12, 448, 249, 2105), (12, 452, 250, 2113), (12, 455, 248, 2121), (12, 482, 257, 2129), (12, 479, 255, 2133), (12, 473, 256, 2137), (12, 476, 254, 2141), (12, 458, 236, 2145), (12, 461, 235, 2149), (12, 393, 234, 2153), (12, 485, 260, 2165), (12, 488, 261, 2173), (12, 491, 263, 2178), (12, 500, 265, 2186), (12, 527, 273, 2198), (12, 524, 272, 2202), (12, 512, 269, 2206), (12, 515, 268, 2210), (12, 518, 270, 2214), (12, 521, 271, 2218), (12, 539, 277, 2229), (12, 536, 276, 2233), (12, 545, 282, 2253), (12, 548, 284, 2257), (12, 542, 283, 2261), (12, 551, 286, 2269), (12, 557, 289, 2277), (12, 554, 288, 2281), (12, 560, 290, 2288), (12, 572, 297, 2301), (12, 575, 296, 2305)]
def MLt_12_2 : List (Nat × Nat × Nat × Nat) := [(12, 566, 295, 2309), (12, 569, 294, 2313), (12, 584, 299, 2321), (12, 581, 300, 2325), (12, 587, 301, 2332), (12, 590, 307, 2352), (12, 594, 308, 2356), (12, 597, 230, 2372)]
def MLt_12 : List (Nat × Nat × Nat × Nat) := MLt_12_0 ++ (MLt_12_1 ++ (MLt_12_2))
def MLt_13_0 : List (Nat × Nat × Nat × Nat) := [(13, 9, 139, 157), (13, 13, 140, 747), (13, 18, 142, 755), (13, 23, 143, 759), (13, 28, 144, 1033), (13, 32, 145, 1037), (13, 37, 150, 1041), (13, 42, 151, 1045), (13, 46, 154, 1053), (13, 51, 155, 1119), (13, 55, 156, 1127), (13, 59, 157, 1131), (13, 63, 158, 1172), (13, 67, 159, 1180), (13, 71, 160, 1188), (13, 76, 161, 1197), (13, 80, 162, 1208), (13, 84, 163, 1235), (13, 88, 164, 1243), (13, 92, 165, 1302), (13, 96, 166, 1310), (13, 100, 167, 1319), (13, 104, 168, 1337), (13, 108, 169, 1342), (13, 112, 170, 1346), (13, 116, 171, 1358), (13, 120, 172, 1368), (13, 124, 173, 1403), (13, 128, 174, 1412), (13, 132, 175, 1427), (13, 136, 176, 1435), (13, 140, 177, 1459), (13, 144, 178, 1469), (13, 148, 179, 1496), (13, 153, 180, 1504), (13, 157, 181, 1513), (13, 162, 182, 1521), (13, 166, 183, 1542), (13, 170, 184, 1550), (13, 174, 185, 1565)]
def MLt_13_1 : List (Nat × Nat × Nat × Nat) := [(13, 12, 187, 1579), (13, 17, 188, 1889), (13, 22, 190, 1897), (13, 27, 204, 1901), (13, 31, 205, 2014), (13, 36, 225, 2018), (13, 41, 226, 2029), (13, 45, 231, 2033), (13, 50, 251, 2045), (13, 54, 252, 2109), (13, 58, 253, 2117), (13, 62, 258, 2125), (13, 66, 259, 2157), (13, 70, 261, 2161), (13, 75, 262, 2169), (13, 79, 264, 2174), (13, 83, 266, 2182), (13, 87, 267, 2190), (13, 91, 274, 2194), (13, 95, 275, 2221), (13, 99, 278, 2225), (13, 103, 279, 2237), (13, 107, 280, 2241), (13, 111, 281, 2245), (13, 115, 285, 2249), (13, 119, 287, 2265), (13, 123, 290, 2273), (13, 127, 291, 2284), (13, 131, 292, 2289), (13, 135, 293, 2293), (13, 139, 298, 2297), (13, 143, 302, 2317), (13, 147, 303, 2328), (13, 152, 304, 2336), (13, 156, 305, 2340), (13, 161, 306, 2344), (13, 165, 309, 2348), (13, 169, 310, 2360), (13, 173, 311, 2364), (13, 177, 312, 2368)]
def MLt_13 : List (Nat × Nat × Nat × Nat) := MLt_13_0 ++ (MLt_13_1)
def MLt_14_0 : List (Nat × Nat × Nat × Nat) := [(14, 304, 316, 1286)]
def MLt_14 : List (Nat × Nat × Nat × Nat) := MLt_14_0
def MLt_18_0 : List (Nat × Nat × Nat × Nat) := [(18, 9, 326, 375), (18, 88, 332, 815), (18, 92, 315, 818), (18, 38, 316, 819), (18, 95, 331, 820)]
def MLt_18 : List (Nat × Nat × Nat × Nat) := MLt_18_0
def MLt_20_0 : List (Nat × Nat × Nat × Nat) := [(20, 335, 324, 358), (20, 492, 325, 368), (20, 495, 328, 372), (20, 1059, 327, 380), (20, 633, 329, 807), (20, 505, 317, 811), (20, 637, 330, 812)]
def MLt_20 : List (Nat × Nat × Nat × Nat) := MLt_20_0
def MLt : Nat → List (Nat × Nat × Nat × Nat) := fun i => match i with
  | 0 => MLt_0
  | 1 => MLt_1
  | 2 => MLt_2
  | 3 => MLt_3
  | 4 => MLt_4
  | 5 => MLt_5
  | 6 => MLt_6
  | 7 => MLt_7
  | 8 => MLt_8
  | 9 => MLt_9
  | 10 => MLt_10
  | 11 => MLt_11
  | 12 => MLt_12
  | 13 => MLt_13
  | 14 => MLt_14
  | 18 => MLt_18
  | 20 => MLt_20
  | _ => []
def NLt_0 : List (Nat × Nat × Nat × Nat × Nat) := [(0, 45, 18, 221, 11), (11, 35, 70, 340, 11), (6, 11, 106, 346, 11), (3, 106, 186, 1089, 11), (7, 76, 186, 1155, 11), (9, 97, 186, 1268, 11), (2, 56, 186, 1533, 11)]
def NLt : List (Nat × Nat × Nat × Nat × Nat) := NLt_0
def OIt_0 : List (Nat × Nat × Nat) := [(11, 3, 160), (0, 3, 168), (10, 3, 174), (1, 3, 224), (6, 3, 343), (8, 3, 349), (3, 3, 504), (7, 3, 563), (9, 5, 597), (5, 3, 619), (4, 5, 653), (2, 3, 681), (12, 7, 1582)]
def OIt : List (Nat × Nat × Nat) := OIt_0
def CLt_0 : List (Nat × Nat × Nat × Nat × Nat × Nat) := [(13, 7, 11, 155, 156, 132), (11, 17, 0, 163, 164, 133), (0, 28, 10, 169, 170, 134), (0, 43, 1, 219, 220, 135), (11, 33, 6, 338, 339, 137), (6, 9, 8, 344, 345, 138), (11, 40, 3, 499, 500, 143), (11, 49, 7, 558, 559, 145), (11, 58, 9, 592, 593, 146), (11, 67, 5, 614, 615, 147), (11, 76, 4, 648, 649, 148), (11, 83, 2, 676, 677, 149), (6, 151, 0, 924, 164, 133), (6, 180, 10, 998, 170, 134), (13, 10, 12, 1577, 1578, 150)]
def CLt : List (Nat × Nat × Nat × Nat × Nat × Nat) := CLt_0
def SRt : List (Nat × Nat × Nat) := [(8, 9, 0), (8, 17, 1), (8, 19, 2), (8, 21, 3), (8, 23, 4), (8, 25, 5), (8, 27, 6), (8, 29, 7), (8, 93, 8)]
def txS : Nat → String := fun i => match i with
  | 0 => "key"
  | 1 => "track"
  | 2 => "relay"
  | 3 => "slow"
  | 4 => "lamp"
  | 5 => "green"
  | 6 => "never"
  | 7 => "if"
  | _ => ";=!&|()"
def ACt : List (Nat × Nat × Nat) := [(0, 79, 946), (14, 150, 1287)]
def ANt : List (Nat × Nat × Nat) := [(11, 17, 163)]
def LDt_0 : List (Nat × Nat × Int32 × Nat) := [(9, 62, 131072, 1274), (9, 103, 131071, 1292), (15, 265, 1431655765, 1375), (15, 266, 858993459, 1376), (15, 267, 252645135, 1377), (12, 170, 131072, 1583)]
def LDt : List (Nat × Nat × Int32 × Nat) := LDt_0
def LLt_0 : List (Nat × Nat × Int64 × Nat) := [(8, 65, 27, 405), (8, 102, 10, 801), (6, 137, 9, 866), (3, 100, (-1), 1101), (9, 35, (-1), 1251), (9, 113, 7, 1297), (11, 220, (-1), 1298), (1, 41, (-1), 1331), (2, 49, (-1), 1512), (16, 314, 6148914691236517205, 1561), (16, 316, 3689348814741910323, 1562), (16, 318, 1085102592571150095, 1563), (12, 227, 27, 1590)]
def LLt : List (Nat × Nat × Int64 × Nat) := LLt_0
def LYt_0 : List (Nat × Nat × Nat) := [(0, 0, 300), (0, 1, 302), (0, 2, 304), (0, 3, 306), (0, 4, 308), (0, 5, 310), (0, 6, 312), (0, 7, 314), (0, 8, 316), (0, 9, 318), (0, 10, 320), (0, 11, 322), (0, 12, 324), (0, 13, 326), (0, 14, 328), (0, 15, 330), (0, 16, 332), (0, 17, 334), (1, 0, 239), (1, 1, 241), (1, 2, 243), (1, 3, 245), (1, 4, 247), (1, 5, 249), (1, 6, 251), (2, 0, 689), (2, 1, 691), (2, 2, 693), (2, 3, 695), (2, 4, 697), (2, 5, 699), (2, 6, 701), (3, 0, 525), (3, 1, 527), (3, 2, 529), (3, 3, 531), (3, 4, 533), (3, 5, 535), (3, 6, 537), (3, 7, 539)]
def LYt_1 : List (Nat × Nat × Nat) := [(3, 8, 541), (3, 9, 543), (3, 10, 545), (3, 11, 547), (3, 12, 549), (3, 13, 551), (3, 14, 553), (3, 15, 555), (4, 0, 661), (4, 1, 663), (4, 2, 665), (4, 3, 667), (4, 4, 669), (4, 5, 671), (4, 6, 673), (5, 0, 629), (5, 1, 631), (5, 2, 633), (5, 3, 635), (5, 4, 637), (5, 5, 639), (5, 6, 641), (5, 7, 643), (5, 8, 645), (6, 0, 458), (6, 1, 460), (6, 2, 462), (6, 3, 464), (6, 4, 466), (6, 5, 468), (6, 6, 470), (6, 7, 472), (6, 8, 474), (6, 9, 476), (6, 10, 478), (6, 11, 480), (6, 12, 482), (6, 13, 484), (6, 14, 486), (6, 15, 488)]
def LYt_2 : List (Nat × Nat × Nat) := [(6, 16, 490), (6, 17, 492), (6, 18, 494), (6, 19, 496), (7, 0, 573), (7, 1, 575), (7, 2, 577), (7, 3, 579), (7, 4, 581), (7, 5, 583), (7, 6, 585), (7, 7, 587), (7, 8, 589), (8, 0, 423), (8, 1, 425), (8, 2, 427), (8, 3, 429), (8, 4, 431), (8, 5, 433), (8, 6, 435), (9, 0, 603), (9, 1, 605), (9, 2, 607), (9, 3, 609), (9, 4, 611), (10, 0, 191), (10, 1, 193), (10, 2, 195), (10, 3, 197), (10, 4, 199), (10, 5, 201), (10, 6, 203), (10, 7, 205), (10, 8, 207), (10, 9, 209), (10, 10, 211), (10, 11, 213), (11, 0, 718), (11, 1, 720), (11, 2, 722)]
def LYt_3 : List (Nat × Nat × Nat) := [(11, 3, 724), (11, 4, 726), (11, 5, 728), (11, 6, 730), (11, 7, 732), (11, 8, 734), (11, 9, 736), (11, 10, 738), (11, 11, 740), (11, 12, 742), (11, 13, 744), (12, 0, 1689), (12, 1, 1691), (12, 2, 1693), (12, 3, 1695), (12, 4, 1697), (12, 5, 1699), (12, 6, 1701), (12, 7, 1703), (12, 8, 1705), (12, 9, 1707), (12, 10, 1709), (12, 11, 1711), (12, 12, 1713), (12, 13, 1715), (12, 14, 1717), (12, 15, 1719), (12, 16, 1721), (12, 17, 1723), (12, 18, 1725), (12, 19, 1727), (12, 20, 1729), (12, 21, 1731), (12, 22, 1733), (12, 23, 1735), (12, 24, 1737), (12, 25, 1739), (12, 26, 1741), (12, 27, 1743), (12, 28, 1745)]
def LYt_4 : List (Nat × Nat × Nat) := [(12, 29, 1747), (12, 30, 1749), (12, 31, 1751), (12, 32, 1753), (12, 33, 1755), (12, 34, 1757), (12, 35, 1759), (12, 36, 1761), (12, 37, 1763), (12, 38, 1765), (12, 39, 1767), (12, 40, 1769), (12, 41, 1771), (12, 42, 1773), (12, 43, 1775), (12, 44, 1777), (12, 45, 1779), (12, 46, 1781), (12, 47, 1783), (12, 48, 1785), (12, 49, 1787), (12, 50, 1789), (12, 51, 1791), (12, 52, 1793), (12, 53, 1795), (12, 54, 1797), (12, 55, 1799), (12, 56, 1801), (12, 57, 1803), (12, 58, 1805), (12, 59, 1807), (12, 60, 1809), (12, 61, 1811), (12, 62, 1813), (12, 63, 1815), (12, 64, 1817), (12, 65, 1819), (12, 66, 1821), (12, 67, 1823), (12, 68, 1825)]
def LYt_5 : List (Nat × Nat × Nat) := [(12, 69, 1827), (12, 70, 1829), (12, 71, 1831), (12, 72, 1833), (12, 73, 1835), (12, 74, 1837), (12, 75, 1839), (12, 76, 1841), (12, 77, 1843), (12, 78, 1845), (12, 79, 1847), (12, 80, 1849), (12, 81, 1851), (12, 82, 1853), (12, 83, 1855), (12, 84, 1857), (12, 85, 1859), (12, 86, 1861), (12, 87, 1863), (12, 88, 1865), (12, 89, 1867), (12, 90, 1869), (12, 91, 1871), (12, 92, 1873), (12, 93, 1875), (12, 94, 1877), (12, 95, 1879), (12, 96, 1881), (12, 97, 1883), (12, 98, 1885)]
def LYt : List (Nat × Nat × Nat) := LYt_0 ++ (LYt_1 ++ (LYt_2 ++ (LYt_3 ++ (LYt_4 ++ (LYt_5)))))
def wFL (e : Nat × Nat × Nat × Nat × Nat) : Cond := Cond.fieldLink (RN e.1) e.2.1 (TF e.2.2.1 e.2.2.2.1).1 (TF e.2.2.1 e.2.2.2.1).2.1 (TF e.2.2.1 e.2.2.2.1).2.2.1
def wAt (i : Nat) (w : Cond) : Bool := decide (lw_tbl[i]? = some w) && goodWord w
theorem wAt_ok {i : Nat} {w : Cond} (h : wAt i w = true) : w ∈ TB := by
  simp only [wAt, Bool.and_eq_true, decide_eq_true_eq] at h
  exact List.mem_filter.mpr ⟨List.mem_of_getElem? h.1, h.2⟩
def wFLtc (e : Nat × Nat × Nat × Nat × Nat) : Bool := (fun e => wAt e.2.2.2.2 (wFL e) && Nat.blt e.2.2.2.1 (dfl e.2.2.1).length && Nat.blt e.2.2.1 13) e
set_option maxRecDepth 20000 in
theorem FLt_ok_0_0 : FLt_0_0.all wFLtc = true := by decide +kernel
theorem FLt_ok_0 : ∀ e ∈ FLt_0, wFLtc e = true := (List.all_eq_true.mp FLt_ok_0_0)
set_option maxRecDepth 20000 in
theorem FLt_ok_1_0 : FLt_1_0.all wFLtc = true := by decide +kernel
theorem FLt_ok_1 : ∀ e ∈ FLt_1, wFLtc e = true := (List.all_eq_true.mp FLt_ok_1_0)
set_option maxRecDepth 20000 in
theorem FLt_ok_2_0 : FLt_2_0.all wFLtc = true := by decide +kernel
theorem FLt_ok_2 : ∀ e ∈ FLt_2, wFLtc e = true := (List.all_eq_true.mp FLt_ok_2_0)
set_option maxRecDepth 20000 in
theorem FLt_ok_3_0 : FLt_3_0.all wFLtc = true := by decide +kernel
theorem FLt_ok_3 : ∀ e ∈ FLt_3, wFLtc e = true := (List.all_eq_true.mp FLt_ok_3_0)
set_option maxRecDepth 20000 in
theorem FLt_ok_4_0 : FLt_4_0.all wFLtc = true := by decide +kernel
theorem FLt_ok_4 : ∀ e ∈ FLt_4, wFLtc e = true := (List.all_eq_true.mp FLt_ok_4_0)
set_option maxRecDepth 20000 in
theorem FLt_ok_5_0 : FLt_5_0.all wFLtc = true := by decide +kernel
theorem FLt_ok_5 : ∀ e ∈ FLt_5, wFLtc e = true := (List.all_eq_true.mp FLt_ok_5_0)
set_option maxRecDepth 20000 in
theorem FLt_ok_6_0 : FLt_6_0.all wFLtc = true := by decide +kernel
theorem FLt_ok_6 : ∀ e ∈ FLt_6, wFLtc e = true := (List.all_eq_true.mp FLt_ok_6_0)
set_option maxRecDepth 20000 in
theorem FLt_ok_7_0 : FLt_7_0.all wFLtc = true := by decide +kernel
theorem FLt_ok_7 : ∀ e ∈ FLt_7, wFLtc e = true := (List.all_eq_true.mp FLt_ok_7_0)
set_option maxRecDepth 20000 in
theorem FLt_ok_8_0 : FLt_8_0.all wFLtc = true := by decide +kernel
theorem FLt_ok_8 : ∀ e ∈ FLt_8, wFLtc e = true := (List.all_eq_true.mp FLt_ok_8_0)
set_option maxRecDepth 20000 in
theorem FLt_ok_9_0 : FLt_9_0.all wFLtc = true := by decide +kernel
theorem FLt_ok_9 : ∀ e ∈ FLt_9, wFLtc e = true := (List.all_eq_true.mp FLt_ok_9_0)
set_option maxRecDepth 20000 in
theorem FLt_ok_10_0 : FLt_10_0.all wFLtc = true := by decide +kernel
theorem FLt_ok_10 : ∀ e ∈ FLt_10, wFLtc e = true := (List.all_eq_true.mp FLt_ok_10_0)
set_option maxRecDepth 20000 in
theorem FLt_ok_11_0 : FLt_11_0.all wFLtc = true := by decide +kernel
theorem FLt_ok_11 : ∀ e ∈ FLt_11, wFLtc e = true := (List.all_eq_true.mp FLt_ok_11_0)
set_option maxRecDepth 20000 in
theorem FLt_ok_12_0 : FLt_12_0.all wFLtc = true := by decide +kernel
set_option maxRecDepth 20000 in
theorem FLt_ok_12_1 : FLt_12_1.all wFLtc = true := by decide +kernel
set_option maxRecDepth 20000 in
theorem FLt_ok_12_2 : FLt_12_2.all wFLtc = true := by decide +kernel
theorem FLt_ok_12 : ∀ e ∈ FLt_12, wFLtc e = true := (List.forall_mem_append.mpr ⟨List.all_eq_true.mp FLt_ok_12_0, (List.forall_mem_append.mpr ⟨List.all_eq_true.mp FLt_ok_12_1, (List.all_eq_true.mp FLt_ok_12_2)⟩)⟩)
theorem FLt_ok : ∀ (i : Nat), ∀ e ∈ FLt i, wFLtc e = true := by
  intro i
  unfold FLt
  split
  · exact FLt_ok_0
  · exact FLt_ok_1
  · exact FLt_ok_2
  · exact FLt_ok_3
  · exact FLt_ok_4
  · exact FLt_ok_5
  · exact FLt_ok_6
  · exact FLt_ok_7
  · exact FLt_ok_8
  · exact FLt_ok_9
  · exact FLt_ok_10
  · exact FLt_ok_11
  · exact FLt_ok_12
  · intro e h; cases h
def wMLtc (e : Nat × Nat × Nat × Nat) : Bool := (fun e => wAt e.2.2.2 (.methodLink (RN e.1) e.2.1 (sg e.2.2.1).1)) e
set_option maxRecDepth 20000 in
theorem MLt_ok_0_0 : MLt_0_0.all wMLtc = true := by decide +kernel
theorem MLt_ok_0 : ∀ e ∈ MLt_0, wMLtc e = true := (List.all_eq_true.mp MLt_ok_0_0)
set_option maxRecDepth 20000 in
theorem MLt_ok_1_0 : MLt_1_0.all wMLtc = true := by decide +kernel
theorem MLt_ok_1 : ∀ e ∈ MLt_1, wMLtc e = true := (List.all_eq_true.mp MLt_ok_1_0)
set_option maxRecDepth 20000 in
theorem MLt_ok_2_0 : MLt_2_0.all wMLtc = true := by decide +kernel
theorem MLt_ok_2 : ∀ e ∈ MLt_2, wMLtc e = true := (List.all_eq_true.mp MLt_ok_2_0)
set_option maxRecDepth 20000 in
theorem MLt_ok_3_0 : MLt_3_0.all wMLtc = true := by decide +kernel
theorem MLt_ok_3 : ∀ e ∈ MLt_3, wMLtc e = true := (List.all_eq_true.mp MLt_ok_3_0)
set_option maxRecDepth 20000 in
theorem MLt_ok_4_0 : MLt_4_0.all wMLtc = true := by decide +kernel
theorem MLt_ok_4 : ∀ e ∈ MLt_4, wMLtc e = true := (List.all_eq_true.mp MLt_ok_4_0)
set_option maxRecDepth 20000 in
theorem MLt_ok_5_0 : MLt_5_0.all wMLtc = true := by decide +kernel
theorem MLt_ok_5 : ∀ e ∈ MLt_5, wMLtc e = true := (List.all_eq_true.mp MLt_ok_5_0)
set_option maxRecDepth 20000 in
theorem MLt_ok_6_0 : MLt_6_0.all wMLtc = true := by decide +kernel
theorem MLt_ok_6 : ∀ e ∈ MLt_6, wMLtc e = true := (List.all_eq_true.mp MLt_ok_6_0)
set_option maxRecDepth 20000 in
theorem MLt_ok_7_0 : MLt_7_0.all wMLtc = true := by decide +kernel
theorem MLt_ok_7 : ∀ e ∈ MLt_7, wMLtc e = true := (List.all_eq_true.mp MLt_ok_7_0)
set_option maxRecDepth 20000 in
theorem MLt_ok_8_0 : MLt_8_0.all wMLtc = true := by decide +kernel
theorem MLt_ok_8 : ∀ e ∈ MLt_8, wMLtc e = true := (List.all_eq_true.mp MLt_ok_8_0)
set_option maxRecDepth 20000 in
theorem MLt_ok_9_0 : MLt_9_0.all wMLtc = true := by decide +kernel
theorem MLt_ok_9 : ∀ e ∈ MLt_9, wMLtc e = true := (List.all_eq_true.mp MLt_ok_9_0)
set_option maxRecDepth 20000 in
theorem MLt_ok_10_0 : MLt_10_0.all wMLtc = true := by decide +kernel
theorem MLt_ok_10 : ∀ e ∈ MLt_10, wMLtc e = true := (List.all_eq_true.mp MLt_ok_10_0)
set_option maxRecDepth 20000 in
theorem MLt_ok_11_0 : MLt_11_0.all wMLtc = true := by decide +kernel
set_option maxRecDepth 20000 in
theorem MLt_ok_11_1 : MLt_11_1.all wMLtc = true := by decide +kernel
theorem MLt_ok_11 : ∀ e ∈ MLt_11, wMLtc e = true := (List.forall_mem_append.mpr ⟨List.all_eq_true.mp MLt_ok_11_0, (List.all_eq_true.mp MLt_ok_11_1)⟩)
set_option maxRecDepth 20000 in
theorem MLt_ok_12_0 : MLt_12_0.all wMLtc = true := by decide +kernel
set_option maxRecDepth 20000 in
theorem MLt_ok_12_1 : MLt_12_1.all wMLtc = true := by decide +kernel
set_option maxRecDepth 20000 in
theorem MLt_ok_12_2 : MLt_12_2.all wMLtc = true := by decide +kernel
theorem MLt_ok_12 : ∀ e ∈ MLt_12, wMLtc e = true := (List.forall_mem_append.mpr ⟨List.all_eq_true.mp MLt_ok_12_0, (List.forall_mem_append.mpr ⟨List.all_eq_true.mp MLt_ok_12_1, (List.all_eq_true.mp MLt_ok_12_2)⟩)⟩)
set_option maxRecDepth 20000 in
theorem MLt_ok_13_0 : MLt_13_0.all wMLtc = true := by decide +kernel
set_option maxRecDepth 20000 in
theorem MLt_ok_13_1 : MLt_13_1.all wMLtc = true := by decide +kernel
theorem MLt_ok_13 : ∀ e ∈ MLt_13, wMLtc e = true := (List.forall_mem_append.mpr ⟨List.all_eq_true.mp MLt_ok_13_0, (List.all_eq_true.mp MLt_ok_13_1)⟩)
set_option maxRecDepth 20000 in
theorem MLt_ok_14_0 : MLt_14_0.all wMLtc = true := by decide +kernel
theorem MLt_ok_14 : ∀ e ∈ MLt_14, wMLtc e = true := (List.all_eq_true.mp MLt_ok_14_0)
set_option maxRecDepth 20000 in
theorem MLt_ok_18_0 : MLt_18_0.all wMLtc = true := by decide +kernel
theorem MLt_ok_18 : ∀ e ∈ MLt_18, wMLtc e = true := (List.all_eq_true.mp MLt_ok_18_0)
set_option maxRecDepth 20000 in
theorem MLt_ok_20_0 : MLt_20_0.all wMLtc = true := by decide +kernel
theorem MLt_ok_20 : ∀ e ∈ MLt_20, wMLtc e = true := (List.all_eq_true.mp MLt_ok_20_0)
theorem MLt_ok : ∀ (i : Nat), ∀ e ∈ MLt i, wMLtc e = true := by
  intro i
  unfold MLt
  split
  · exact MLt_ok_0
  · exact MLt_ok_1
  · exact MLt_ok_2
  · exact MLt_ok_3
  · exact MLt_ok_4
  · exact MLt_ok_5
  · exact MLt_ok_6
  · exact MLt_ok_7
  · exact MLt_ok_8
  · exact MLt_ok_9
  · exact MLt_ok_10
  · exact MLt_ok_11
  · exact MLt_ok_12
  · exact MLt_ok_13
  · exact MLt_ok_14
  · exact MLt_ok_18
  · exact MLt_ok_20
  · intro e h; cases h
def wOItc (e : Nat × Nat × Nat) : Bool := (fun e => wAt e.2.2 (.methodLink (RN e.1) e.2.1 objectInit)) e
set_option maxRecDepth 20000 in
theorem OIt_ok_0 : OIt_0.all wOItc = true := by decide +kernel
theorem OIt_ok : ∀ e ∈ OIt, wOItc e = true := (List.all_eq_true.mp OIt_ok_0)
def wMD_a (e : Nat × Nat × Nat × Nat × Nat × Nat × Nat) : Bool := wAt e.2.2.1 (.initialized (sg e.1).1.cls)
set_option maxRecDepth 20000 in
theorem MDt_a_0 : MDt_0.all wMD_a = true := by decide +kernel
set_option maxRecDepth 20000 in
theorem MDt_a_1 : MDt_1.all wMD_a = true := by decide +kernel
set_option maxRecDepth 20000 in
theorem MDt_a_2 : MDt_2.all wMD_a = true := by decide +kernel
set_option maxRecDepth 20000 in
theorem MDt_a_3 : MDt_3.all wMD_a = true := by decide +kernel
set_option maxRecDepth 20000 in
theorem MDt_a_4 : MDt_4.all wMD_a = true := by decide +kernel
set_option maxRecDepth 20000 in
theorem MDt_a_5 : MDt_5.all wMD_a = true := by decide +kernel
set_option maxRecDepth 20000 in
theorem MDt_a_6 : MDt_6.all wMD_a = true := by decide +kernel
set_option maxRecDepth 20000 in
theorem MDt_a_7 : MDt_7.all wMD_a = true := by decide +kernel
set_option maxRecDepth 20000 in
theorem MDt_a_8 : MDt_8.all wMD_a = true := by decide +kernel
theorem MDt_a : ∀ e ∈ MDt, wMD_a e = true := (List.forall_mem_append.mpr ⟨List.all_eq_true.mp MDt_a_0, (List.forall_mem_append.mpr ⟨List.all_eq_true.mp MDt_a_1, (List.forall_mem_append.mpr ⟨List.all_eq_true.mp MDt_a_2, (List.forall_mem_append.mpr ⟨List.all_eq_true.mp MDt_a_3, (List.forall_mem_append.mpr ⟨List.all_eq_true.mp MDt_a_4, (List.forall_mem_append.mpr ⟨List.all_eq_true.mp MDt_a_5, (List.forall_mem_append.mpr ⟨List.all_eq_true.mp MDt_a_6, (List.forall_mem_append.mpr ⟨List.all_eq_true.mp MDt_a_7, (List.all_eq_true.mp MDt_a_8)⟩)⟩)⟩)⟩)⟩)⟩)⟩)⟩)
def wMD_b (e : Nat × Nat × Nat × Nat × Nat × Nat × Nat) : Bool := (bif Nat.beq e.2.2.2.2.2.1 1 then wAt e.2.2.2.1 (.static (sg e.1).1) else wAt e.2.2.2.1 (.instanceMethod (sg e.1).1))
set_option maxRecDepth 20000 in
theorem MDt_b_0 : MDt_0.all wMD_b = true := by decide +kernel
set_option maxRecDepth 20000 in
theorem MDt_b_1 : MDt_1.all wMD_b = true := by decide +kernel
set_option maxRecDepth 20000 in
theorem MDt_b_2 : MDt_2.all wMD_b = true := by decide +kernel
set_option maxRecDepth 20000 in
theorem MDt_b_3 : MDt_3.all wMD_b = true := by decide +kernel
set_option maxRecDepth 20000 in
theorem MDt_b_4 : MDt_4.all wMD_b = true := by decide +kernel
set_option maxRecDepth 20000 in
theorem MDt_b_5 : MDt_5.all wMD_b = true := by decide +kernel
set_option maxRecDepth 20000 in
theorem MDt_b_6 : MDt_6.all wMD_b = true := by decide +kernel
set_option maxRecDepth 20000 in
theorem MDt_b_7 : MDt_7.all wMD_b = true := by decide +kernel
set_option maxRecDepth 20000 in
theorem MDt_b_8 : MDt_8.all wMD_b = true := by decide +kernel
theorem MDt_b : ∀ e ∈ MDt, wMD_b e = true := (List.forall_mem_append.mpr ⟨List.all_eq_true.mp MDt_b_0, (List.forall_mem_append.mpr ⟨List.all_eq_true.mp MDt_b_1, (List.forall_mem_append.mpr ⟨List.all_eq_true.mp MDt_b_2, (List.forall_mem_append.mpr ⟨List.all_eq_true.mp MDt_b_3, (List.forall_mem_append.mpr ⟨List.all_eq_true.mp MDt_b_4, (List.forall_mem_append.mpr ⟨List.all_eq_true.mp MDt_b_5, (List.forall_mem_append.mpr ⟨List.all_eq_true.mp MDt_b_6, (List.forall_mem_append.mpr ⟨List.all_eq_true.mp MDt_b_7, (List.all_eq_true.mp MDt_b_8)⟩)⟩)⟩)⟩)⟩)⟩)⟩)⟩)
def wMD_c (e : Nat × Nat × Nat × Nat × Nat × Nat × Nat) : Bool := (Nat.beq e.2.2.2.2.1 0 || wAt (e.2.2.2.2.1 - 1) (.selects (sg e.1).1.cls (sg e.1).1 (sg e.1).1))
set_option maxRecDepth 20000 in
theorem MDt_c_0 : MDt_0.all wMD_c = true := by decide +kernel
set_option maxRecDepth 20000 in
theorem MDt_c_1 : MDt_1.all wMD_c = true := by decide +kernel
set_option maxRecDepth 20000 in
theorem MDt_c_2 : MDt_2.all wMD_c = true := by decide +kernel
set_option maxRecDepth 20000 in
theorem MDt_c_3 : MDt_3.all wMD_c = true := by decide +kernel
set_option maxRecDepth 20000 in
theorem MDt_c_4 : MDt_4.all wMD_c = true := by decide +kernel
set_option maxRecDepth 20000 in
theorem MDt_c_5 : MDt_5.all wMD_c = true := by decide +kernel
set_option maxRecDepth 20000 in
theorem MDt_c_6 : MDt_6.all wMD_c = true := by decide +kernel
set_option maxRecDepth 20000 in
theorem MDt_c_7 : MDt_7.all wMD_c = true := by decide +kernel
set_option maxRecDepth 20000 in
theorem MDt_c_8 : MDt_8.all wMD_c = true := by decide +kernel
theorem MDt_c : ∀ e ∈ MDt, wMD_c e = true := (List.forall_mem_append.mpr ⟨List.all_eq_true.mp MDt_c_0, (List.forall_mem_append.mpr ⟨List.all_eq_true.mp MDt_c_1, (List.forall_mem_append.mpr ⟨List.all_eq_true.mp MDt_c_2, (List.forall_mem_append.mpr ⟨List.all_eq_true.mp MDt_c_3, (List.forall_mem_append.mpr ⟨List.all_eq_true.mp MDt_c_4, (List.forall_mem_append.mpr ⟨List.all_eq_true.mp MDt_c_5, (List.forall_mem_append.mpr ⟨List.all_eq_true.mp MDt_c_6, (List.forall_mem_append.mpr ⟨List.all_eq_true.mp MDt_c_7, (List.all_eq_true.mp MDt_c_8)⟩)⟩)⟩)⟩)⟩)⟩)⟩)⟩)
def wMD_d (e : Nat × Nat × Nat × Nat × Nat × Nat × Nat) : Bool := decide ((sg e.1).1.cls ≠ "java/lang/invoke/MethodHandle") && decide ((sg e.1).1.cls ≠ "java/lang/invoke/VarHandle")
set_option maxRecDepth 20000 in
theorem MDt_d_0 : MDt_0.all wMD_d = true := by decide +kernel
set_option maxRecDepth 20000 in
theorem MDt_d_1 : MDt_1.all wMD_d = true := by decide +kernel
set_option maxRecDepth 20000 in
theorem MDt_d_2 : MDt_2.all wMD_d = true := by decide +kernel
set_option maxRecDepth 20000 in
theorem MDt_d_3 : MDt_3.all wMD_d = true := by decide +kernel
set_option maxRecDepth 20000 in
theorem MDt_d_4 : MDt_4.all wMD_d = true := by decide +kernel
set_option maxRecDepth 20000 in
theorem MDt_d_5 : MDt_5.all wMD_d = true := by decide +kernel
set_option maxRecDepth 20000 in
theorem MDt_d_6 : MDt_6.all wMD_d = true := by decide +kernel
set_option maxRecDepth 20000 in
theorem MDt_d_7 : MDt_7.all wMD_d = true := by decide +kernel
set_option maxRecDepth 20000 in
theorem MDt_d_8 : MDt_8.all wMD_d = true := by decide +kernel
theorem MDt_d : ∀ e ∈ MDt, wMD_d e = true := (List.forall_mem_append.mpr ⟨List.all_eq_true.mp MDt_d_0, (List.forall_mem_append.mpr ⟨List.all_eq_true.mp MDt_d_1, (List.forall_mem_append.mpr ⟨List.all_eq_true.mp MDt_d_2, (List.forall_mem_append.mpr ⟨List.all_eq_true.mp MDt_d_3, (List.forall_mem_append.mpr ⟨List.all_eq_true.mp MDt_d_4, (List.forall_mem_append.mpr ⟨List.all_eq_true.mp MDt_d_5, (List.forall_mem_append.mpr ⟨List.all_eq_true.mp MDt_d_6, (List.forall_mem_append.mpr ⟨List.all_eq_true.mp MDt_d_7, (List.all_eq_true.mp MDt_d_8)⟩)⟩)⟩)⟩)⟩)⟩)⟩)⟩)
def wMD_e (e : Nat × Nat × Nat × Nat × Nat × Nat × Nat) : Bool := decide ((parseMethodDescriptor (sg e.1).1.desc).map (fun d => d.parameters.length) = some e.2.2.2.2.2.2)
set_option maxRecDepth 20000 in
theorem MDt_e_0 : MDt_0.all wMD_e = true := by decide +kernel
set_option maxRecDepth 20000 in
theorem MDt_e_1 : MDt_1.all wMD_e = true := by decide +kernel
set_option maxRecDepth 20000 in
theorem MDt_e_2 : MDt_2.all wMD_e = true := by decide +kernel
set_option maxRecDepth 20000 in
theorem MDt_e_3 : MDt_3.all wMD_e = true := by decide +kernel
set_option maxRecDepth 20000 in
theorem MDt_e_4 : MDt_4.all wMD_e = true := by decide +kernel
set_option maxRecDepth 20000 in
theorem MDt_e_5 : MDt_5.all wMD_e = true := by decide +kernel
set_option maxRecDepth 20000 in
theorem MDt_e_6 : MDt_6.all wMD_e = true := by decide +kernel
set_option maxRecDepth 20000 in
theorem MDt_e_7 : MDt_7.all wMD_e = true := by decide +kernel
set_option maxRecDepth 20000 in
theorem MDt_e_8 : MDt_8.all wMD_e = true := by decide +kernel
theorem MDt_e : ∀ e ∈ MDt, wMD_e e = true := (List.forall_mem_append.mpr ⟨List.all_eq_true.mp MDt_e_0, (List.forall_mem_append.mpr ⟨List.all_eq_true.mp MDt_e_1, (List.forall_mem_append.mpr ⟨List.all_eq_true.mp MDt_e_2, (List.forall_mem_append.mpr ⟨List.all_eq_true.mp MDt_e_3, (List.forall_mem_append.mpr ⟨List.all_eq_true.mp MDt_e_4, (List.forall_mem_append.mpr ⟨List.all_eq_true.mp MDt_e_5, (List.forall_mem_append.mpr ⟨List.all_eq_true.mp MDt_e_6, (List.forall_mem_append.mpr ⟨List.all_eq_true.mp MDt_e_7, (List.all_eq_true.mp MDt_e_8)⟩)⟩)⟩)⟩)⟩)⟩)⟩)⟩)
def wMD_f (e : Nat × Nat × Nat × Nat × Nat × Nat × Nat) : Bool := (Nat.ble 313 e.1 || plainName (sg e.1).1.cls)
set_option maxRecDepth 20000 in
theorem MDt_f_0 : MDt_0.all wMD_f = true := by decide +kernel
set_option maxRecDepth 20000 in
theorem MDt_f_1 : MDt_1.all wMD_f = true := by decide +kernel
set_option maxRecDepth 20000 in
theorem MDt_f_2 : MDt_2.all wMD_f = true := by decide +kernel
set_option maxRecDepth 20000 in
theorem MDt_f_3 : MDt_3.all wMD_f = true := by decide +kernel
set_option maxRecDepth 20000 in
theorem MDt_f_4 : MDt_4.all wMD_f = true := by decide +kernel
set_option maxRecDepth 20000 in
theorem MDt_f_5 : MDt_5.all wMD_f = true := by decide +kernel
set_option maxRecDepth 20000 in
theorem MDt_f_6 : MDt_6.all wMD_f = true := by decide +kernel
set_option maxRecDepth 20000 in
theorem MDt_f_7 : MDt_7.all wMD_f = true := by decide +kernel
set_option maxRecDepth 20000 in
theorem MDt_f_8 : MDt_8.all wMD_f = true := by decide +kernel
theorem MDt_f : ∀ e ∈ MDt, wMD_f e = true := (List.forall_mem_append.mpr ⟨List.all_eq_true.mp MDt_f_0, (List.forall_mem_append.mpr ⟨List.all_eq_true.mp MDt_f_1, (List.forall_mem_append.mpr ⟨List.all_eq_true.mp MDt_f_2, (List.forall_mem_append.mpr ⟨List.all_eq_true.mp MDt_f_3, (List.forall_mem_append.mpr ⟨List.all_eq_true.mp MDt_f_4, (List.forall_mem_append.mpr ⟨List.all_eq_true.mp MDt_f_5, (List.forall_mem_append.mpr ⟨List.all_eq_true.mp MDt_f_6, (List.forall_mem_append.mpr ⟨List.all_eq_true.mp MDt_f_7, (List.all_eq_true.mp MDt_f_8)⟩)⟩)⟩)⟩)⟩)⟩)⟩)⟩)
def wCLtc (e : Nat × Nat × Nat × Nat × Nat × Nat) : Bool := (fun e => wAt e.2.2.2.1 (.classLink (RN e.1) e.2.1 (RN e.2.2.1)) && wAt e.2.2.2.2.1 (.instantiable (RN e.2.2.1) (dfl e.2.2.1).length) && wAt e.2.2.2.2.2 (.initialized (RN e.2.2.1)) && Nat.blt e.2.2.1 13) e
set_option maxRecDepth 20000 in
theorem CLt_ok_0 : CLt_0.all wCLtc = true := by decide +kernel
theorem CLt_ok : ∀ e ∈ CLt, wCLtc e = true := (List.all_eq_true.mp CLt_ok_0)
def wLDtc (e : Nat × Nat × Int32 × Nat) : Bool := (fun e => wAt e.2.2.2 (.constant (RN e.1) e.2.1 e.2.2.1)) e
set_option maxRecDepth 20000 in
theorem LDt_ok_0 : LDt_0.all wLDtc = true := by decide +kernel
theorem LDt_ok : ∀ e ∈ LDt, wLDtc e = true := (List.all_eq_true.mp LDt_ok_0)
def wLLtc (e : Nat × Nat × Int64 × Nat) : Bool := (fun e => wAt e.2.2.2 (.constantLong (RN e.1) e.2.1 e.2.2.1)) e
set_option maxRecDepth 20000 in
theorem LLt_ok_0 : LLt_0.all wLLtc = true := by decide +kernel
theorem LLt_ok : ∀ e ∈ LLt, wLLtc e = true := (List.all_eq_true.mp LLt_ok_0)
def wLYtc (e : Nat × Nat × Nat) : Bool := (fun e => wAt e.2.2 (u_lay (RN e.1) (TF e.1) e.2.1)) e
set_option maxRecDepth 20000 in
theorem LYt_ok_0 : LYt_0.all wLYtc = true := by decide +kernel
set_option maxRecDepth 20000 in
theorem LYt_ok_1 : LYt_1.all wLYtc = true := by decide +kernel
set_option maxRecDepth 20000 in
theorem LYt_ok_2 : LYt_2.all wLYtc = true := by decide +kernel
set_option maxRecDepth 20000 in
theorem LYt_ok_3 : LYt_3.all wLYtc = true := by decide +kernel
set_option maxRecDepth 20000 in
theorem LYt_ok_4 : LYt_4.all wLYtc = true := by decide +kernel
set_option maxRecDepth 20000 in
theorem LYt_ok_5 : LYt_5.all wLYtc = true := by decide +kernel
theorem LYt_ok : ∀ e ∈ LYt, wLYtc e = true := (List.forall_mem_append.mpr ⟨List.all_eq_true.mp LYt_ok_0, (List.forall_mem_append.mpr ⟨List.all_eq_true.mp LYt_ok_1, (List.forall_mem_append.mpr ⟨List.all_eq_true.mp LYt_ok_2, (List.forall_mem_append.mpr ⟨List.all_eq_true.mp LYt_ok_3, (List.forall_mem_append.mpr ⟨List.all_eq_true.mp LYt_ok_4, (List.all_eq_true.mp LYt_ok_5)⟩)⟩)⟩)⟩)⟩)
def wNLtc (e : Nat × Nat × Nat × Nat × Nat) : Bool := (fun e => decide (lw_tbl[e.2.2.2.1]? = some (.methodLinkNest (RN e.1) e.2.1 (sg e.2.2.1).1 (RN e.2.2.2.2)))) e
def wACc (e : Nat × Nat × Nat) : Bool := wAt e.2.2 (.methodLink (RN e.1) e.2.1 arraycopyName)
set_option maxRecDepth 20000 in
theorem ACt_ok : ∀ e ∈ ACt, wACc e = true := by decide +kernel
def wANc (e : Nat × Nat × Nat) : Bool := wAt e.2.2 (.classLink (RN e.1) e.2.1 "RelayHut$Drawing")
set_option maxRecDepth 20000 in
theorem ANt_ok : ∀ e ∈ ANt, wANc e = true := by decide +kernel
theorem AC_w : Cond.native arraycopyName ∈ TB ∧ Cond.static arraycopyName ∈ TB ∧ Cond.initialized "java/lang/System" ∈ TB := ⟨wAt_ok (i := 948) (by decide +kernel), wAt_ok (i := 947) (by decide +kernel), wAt_ok (i := 152) (by decide +kernel)⟩
theorem AN_l : Cond.arrayOver (.object "RelayHut$Drawing") ∈ lw_tbl := List.mem_of_getElem? (i := 337) (by decide +kernel)
set_option maxRecDepth 20000 in
theorem NLt_ok_0 : NLt_0.all wNLtc = true := by decide +kernel
theorem NLt_ok : ∀ e ∈ NLt, wNLtc e = true := (List.all_eq_true.mp NLt_ok_0)
