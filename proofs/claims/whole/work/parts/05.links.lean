/-! names of methods, links, constants (written by wip/whole/emit.py) -/
theorem pZ_b {h h1 : Hp} {c j : Nat} {x : Int32} (hv : pZ h c j x = some h1) : bit x = true := by
  unfold pZ at hv
  split at hv
  · assumption
  · cases hv
theorem pZ_e {h h1 : Hp} {c j : Nat} {x : Int32} (hv : pZ h c j x = some h1) : h1 = pI h c j x := by
  unfold pZ at hv
  split at hv
  · exact (Option.some.inj hv).symm
  · cases hv
theorem cZ_e {x y : Int32} (hv : cZ x = some y) : bit x = true ∧ x = y := by
  unfold cZ at hv
  split at hv
  · exact ⟨by assumption, Option.some.inj hv⟩
  · cases hv
def y_Tt_putFour : MethodName := ⟨RC0, "putFour", "(I)V"⟩
def y_Tt_feed : MethodName := ⟨RC0, "feed", "(IIIII)I"⟩
def y_Ar_fill : MethodName := ⟨"java/util/Arrays", "fill", "([II)V"⟩
def y_La_clear : MethodName := ⟨RC6, "clear", "()V"⟩
def y_Pl_clear : MethodName := ⟨RC7, "clear", "()V"⟩
def y_Sc_isLetter : MethodName := ⟨RC8, "isLetter", "(I)Z"⟩
def y_Tt_find : MethodName := ⟨RC0, "find", "([III)I"⟩
def y_Sc_readWord : MethodName := ⟨RC8, "readWord", "()V"⟩
def y_Sc_isDigit : MethodName := ⟨RC8, "isDigit", "(I)Z"⟩
def y_Sc_readNumber : MethodName := ⟨RC8, "readNumber", "()V"⟩
def y_Sc_readSign : MethodName := ⟨RC8, "readSign", "(I)V"⟩
def y_Sc_step : MethodName := ⟨RC8, "step", "()V"⟩
def y_Sc_begin : MethodName := ⟨RC8, "begin", "(I)V"⟩
def y_Tr_fail : MethodName := ⟨RC10, "fail", "(I)Z"⟩
def y_Tr_isNumber : MethodName := ⟨RC10, "isNumber", "(II)Z"⟩
def y_Tr_takeNumber : MethodName := ⟨RC10, "takeNumber", "(II)I"⟩
def y_Tr_readRoad : MethodName := ⟨RC10, "readRoad", "()Z"⟩
def y_Tr_isNewName : MethodName := ⟨RC10, "isNewName", "([II)Z"⟩
def y_Pl_troughThere : MethodName := ⟨RC7, "troughThere", "(I)I"⟩
def y_Tr_readTrough : MethodName := ⟨RC10, "readTrough", "()Z"⟩
def y_Tr_readHorse : MethodName := ⟨RC10, "readHorse", "()Z"⟩
def y_Tr_takeNamed : MethodName := ⟨RC10, "takeNamed", "([II)I"⟩
def y_Tr_readLap : MethodName := ⟨RC10, "readLap", "()Z"⟩
def y_Tr_readRain : MethodName := ⟨RC10, "readRain", "()Z"⟩
def y_Tr_readSeed : MethodName := ⟨RC10, "readSeed", "()Z"⟩
def y_La_isTold : MethodName := ⟨RC6, "isTold", "(I)Z"⟩
def y_La_startLaw : MethodName := ⟨RC6, "startLaw", "(I)V"⟩
def y_Lr_strengthOf : MethodName := ⟨RC5, "strengthOf", "(I)I"⟩
def y_La_append : MethodName := ⟨RC6, "append", "(I)V"⟩
def y_Lr_settle : MethodName := ⟨RC5, "settle", "(I)V"⟩
def y_La_endLaw : MethodName := ⟨RC6, "endLaw", "(I)V"⟩
def y_Lr_takeKnot : MethodName := ⟨RC5, "takeKnot", "(I)I"⟩
def y_Tt_isName : MethodName := ⟨RC0, "isName", "(I)Z"⟩
def y_Lr_topStrength : MethodName := ⟨RC5, "topStrength", "()I"⟩
def y_Lr_push : MethodName := ⟨RC5, "push", "(I)I"⟩
def y_Lr_waitKnot : MethodName := ⟨RC5, "waitKnot", "(I)I"⟩
def y_Lr_takePart : MethodName := ⟨RC5, "takePart", "()I"⟩
def y_Lr_takeSign : MethodName := ⟨RC5, "takeSign", "()I"⟩
def y_Lr_readE : MethodName := ⟨RC5, "readE", "(I)I"⟩
def y_Tr_readLaw : MethodName := ⟨RC10, "readLaw", "()Z"⟩
def y_Tr_readLine : MethodName := ⟨RC10, "readLine", "(Z)Z"⟩
def y_Tr_readText : MethodName := ⟨RC10, "readText", "(I)I"⟩
def y_Tt_copy : MethodName := ⟨RC0, "copy", "([I[I)V"⟩
def y_La_become : MethodName := ⟨RC6, "become", "(LTroughTreaty$Laws;)V"⟩
def y_Pl_become : MethodName := ⟨RC7, "become", "(LTroughTreaty$Plan;)V"⟩
def y_Wo_begin : MethodName := ⟨RC11, "begin", "(LTroughTreaty$Plan;)V"⟩
def y_De_forget : MethodName := ⟨RC2, "forget", "()V"⟩
def y_Se_forget : MethodName := ⟨RC9, "forget", "()V"⟩
def y_Tt_text : MethodName := ⟨RC0, "text", "(I)I"⟩
def y_Tt_fault : MethodName := ⟨RC0, "fault", "(I)I"⟩
def y_Tt_named : MethodName := ⟨RC0, "named", "(II)I"⟩
def y_Pl_hasTrough : MethodName := ⟨RC7, "hasTrough", "(I)Z"⟩
def y_Wo_isOn : MethodName := ⟨RC11, "isOn", "(I)Z"⟩
def y_Tt_horsesAt : MethodName := ⟨RC0, "horsesAt", "(I)I"⟩
def y_Tt_trough : MethodName := ⟨RC0, "trough", "(II)I"⟩
def y_Pl_hasHorse : MethodName := ⟨RC7, "hasHorse", "(I)Z"⟩
def y_Ho_asItGoes : MethodName := ⟨RC4, "asItGoes", "()V"⟩
def y_Ho_setNames : MethodName := ⟨RC4, "setNames", "(LTroughTreaty$World;I)V"⟩
def y_La_within : MethodName := ⟨RC6, "within", "(J)J"⟩
def y_La_isTooBig : MethodName := ⟨RC6, "isTooBig", "(JJ)Z"⟩
def y_La_join : MethodName := ⟨RC6, "join", "(IJJ)J"⟩
def y_La_worthOf : MethodName := ⟨RC6, "worthOf", "(I[I)J"⟩
def y_Ho_worth : MethodName := ⟨RC4, "worth", "(LTroughTreaty$World;II)J"⟩
def y_Tt_law : MethodName := ⟨RC0, "law", "(II)J"⟩
def y_De_shift : MethodName := ⟨RC2, "shift", "([I)V"⟩
def y_De_makeRoom : MethodName := ⟨RC2, "makeRoom", "()V"⟩
def y_De_rememberHorse : MethodName := ⟨RC2, "rememberHorse", "(ILTroughTreaty$World;)V"⟩
def y_Tt_send : MethodName := ⟨RC0, "send", "(II)I"⟩
def y_De_rememberTrough : MethodName := ⟨RC2, "rememberTrough", "(ILTroughTreaty$World;)V"⟩
def y_Tt_fill : MethodName := ⟨RC0, "fill", "(II)I"⟩
def y_Tt_lead : MethodName := ⟨RC0, "lead", "(II)Z"⟩
def y_Ho_byChance : MethodName := ⟨RC4, "byChance", "()V"⟩
def y_Ho_startLaps : MethodName := ⟨RC4, "startLaps", "(LTroughTreaty$World;)V"⟩
def y_Ho_amount : MethodName := ⟨RC4, "amount", "(LTroughTreaty$World;III)I"⟩
def y_Ho_walk : MethodName := ⟨RC4, "walk", "(LTroughTreaty$World;)V"⟩
def y_Ho_drink : MethodName := ⟨RC4, "drink", "(LTroughTreaty$World;)V"⟩
def y_Pl_areEnemies : MethodName := ⟨RC7, "areEnemies", "(LTroughTreaty$World;II)Z"⟩
def y_Wo_pairOf : MethodName := ⟨RC11, "pairOf", "(II)I"⟩
def y_Wo_noteTalk : MethodName := ⟨RC11, "noteTalk", "(I)V"⟩
def y_Wo_noteFight : MethodName := ⟨RC11, "noteFight", "(II)V"⟩
def y_Wo_injure : MethodName := ⟨RC11, "injure", "(II)V"⟩
def y_Ho_encounter : MethodName := ⟨RC4, "encounter", "(LTroughTreaty$World;)V"⟩
def y_Ho_fall : MethodName := ⟨RC4, "fall", "(LTroughTreaty$World;)V"⟩
def y_Wo_drawNumber : MethodName := ⟨RC11, "drawNumber", "()I"⟩
def y_Ho_rain : MethodName := ⟨RC4, "rain", "(LTroughTreaty$World;)V"⟩
def y_Ho_pass : MethodName := ⟨RC4, "pass", "(LTroughTreaty$World;I)V"⟩
def y_Tt_go : MethodName := ⟨RC0, "go", "(I)I"⟩
def y_Wo_become : MethodName := ⟨RC11, "become", "(LTroughTreaty$World;)V"⟩
def y_Fo_beginTrial : MethodName := ⟨RC3, "beginTrial", "()V"⟩
def y_Fo_behind : MethodName := ⟨RC3, "behind", "(I)LTroughTreaty$World;"⟩
def y_In_bitCount : MethodName := ⟨"java/lang/Integer", "bitCount", "(I)I"⟩
def y_Tt_ahead : MethodName := ⟨RC0, "ahead", "(III)I"⟩
def y_Fo_hoursToFall : MethodName := ⟨RC3, "hoursToFall", "(I)I"⟩
def y_Tt_falls : MethodName := ⟨RC0, "falls", "(I)I"⟩
def y_Fo_hoursToFight : MethodName := ⟨RC3, "hoursToFight", "(Z)I"⟩
def y_Tt_nextFight : MethodName := ⟨RC0, "nextFight", "(I)I"⟩
def y_Fo_bestSending : MethodName := ⟨RC3, "bestSending", "(IIZ)I"⟩
def y_Tt_sendIn : MethodName := ⟨RC0, "sendIn", "(III)I"⟩
def y_Fo_canHelp : MethodName := ⟨RC3, "canHelp", "(I)Z"⟩
def y_Fo_troughsOf : MethodName := ⟨RC3, "troughsOf", "(I)I"⟩
def y_Fo_noneFalls : MethodName := ⟨RC3, "noneFalls", "(II)Z"⟩
def y_Tt_pump : MethodName := ⟨RC0, "pump", "(I)I"⟩
def y_Pl_hoursFor : MethodName := ⟨RC7, "hoursFor", "(II)I"⟩
def y_Cn_thirstBehind : MethodName := ⟨RC1, "thirstBehind", "(IIII)I"⟩
def y_Cn_legsFrom : MethodName := ⟨RC1, "legsFrom", "(III)V"⟩
def y_Cn_fewestLegs : MethodName := ⟨RC1, "fewestLegs", "(II)I"⟩
def y_Tt_stops : MethodName := ⟨RC0, "stops", "(II)I"⟩
def y_Cn_withinOneLeg : MethodName := ⟨RC1, "withinOneLeg", "(I)I"⟩
def y_Tt_reach : MethodName := ⟨RC0, "reach", "(I)I"⟩
def y_Cn_covers : MethodName := ⟨RC1, "covers", "(II)Z"⟩
def y_Tt_cover : MethodName := ⟨RC0, "cover", "(I)I"⟩
def y_Cn_wayByAll : MethodName := ⟨RC1, "wayByAll", "(I)I"⟩
def y_Tt_round : MethodName := ⟨RC0, "round", "(I)I"⟩
def y_Tt_areTwo : MethodName := ⟨RC0, "areTwo", "(II)Z"⟩
def y_Cn_gain : MethodName := ⟨RC1, "gain", "(IIII)I"⟩
def y_Cn_isRest : MethodName := ⟨RC1, "isRest", "(IIII)Z"⟩
def y_Cn_manyRests : MethodName := ⟨RC1, "manyRests", "(II)I"⟩
def y_Tt_rests : MethodName := ⟨RC0, "rests", "(II)I"⟩
def y_Cn_restNumbered : MethodName := ⟨RC1, "restNumbered", "(III)I"⟩
def y_Tt_rest : MethodName := ⟨RC0, "rest", "(III)I"⟩
def y_Tt_greatestShared : MethodName := ⟨RC0, "greatestShared", "(II)I"⟩
def y_Tt_staysDry : MethodName := ⟨RC0, "staysDry", "(II)J"⟩
def y_Tt_peace : MethodName := ⟨RC0, "peace", "(II)I"⟩
def y_Tt_thirstiest : MethodName := ⟨RC0, "thirstiest", "()I"⟩
def y_Tt_driest : MethodName := ⟨RC0, "driest", "()I"⟩
def y_Tt_nearest : MethodName := ⟨RC0, "nearest", "(I)I"⟩
def y_Fo_hoursToMeet : MethodName := ⟨RC3, "hoursToMeet", "(II)I"⟩
def y_Tt_meet : MethodName := ⟨RC0, "meet", "(II)I"⟩
def y_Cn_hoursOfAll : MethodName := ⟨RC1, "hoursOfAll", "(I)I"⟩
def y_Cn_gathering : MethodName := ⟨RC1, "gathering", "(Z)I"⟩
def y_Tt_gather : MethodName := ⟨RC0, "gather", "(I)I"⟩
def y_Tt_sides : MethodName := ⟨RC0, "sides", "()I"⟩
def y_Tt_enemies : MethodName := ⟨RC0, "enemies", "(I)I"⟩
def y_Fo_hoursToDry : MethodName := ⟨RC3, "hoursToDry", "(I)I"⟩
def y_Tt_runsDry : MethodName := ⟨RC0, "runsDry", "(I)I"⟩
def y_Se_addSight : MethodName := ⟨RC9, "addSight", "(IIIZ)I"⟩
def y_Tt_see : MethodName := ⟨RC0, "see", "(IIIZ)I"⟩
def y_Se_addStrike : MethodName := ⟨RC9, "addStrike", "(I)I"⟩
def y_Tt_strike : MethodName := ⟨RC0, "strike", "(I)I"⟩
def y_Se_knowBy : MethodName := ⟨RC9, "knowBy", "(I)Z"⟩
def y_Tt_known : MethodName := ⟨RC0, "known", "(I)Z"⟩
def y_Se_manyKnown : MethodName := ⟨RC9, "manyKnown", "()I"⟩
def y_Se_markStruck : MethodName := ⟨RC9, "markStruck", "()V"⟩
def y_Se_counts : MethodName := ⟨RC9, "counts", "(I)Z"⟩
def y_Se_lastHour : MethodName := ⟨RC9, "lastHour", "()I"⟩
def y_Se_fits : MethodName := ⟨RC9, "fits", "(LTroughTreaty$World;)Z"⟩
def y_Fo_agrees : MethodName := ⟨RC3, "agrees", "(LTroughTreaty$Seen;II)Z"⟩
def y_Tt_thirsts : MethodName := ⟨RC0, "thirsts", "(I)I"⟩
def y_Fo_timesOfTen : MethodName := ⟨RC3, "timesOfTen", "(IIII)I"⟩
def y_Tt_chance : MethodName := ⟨RC0, "chance", "(IIII)I"⟩
def y_Ho_withoutRain : MethodName := ⟨RC4, "withoutRain", "()V"⟩
def y_Ho_withoutDrinking : MethodName := ⟨RC4, "withoutDrinking", "()V"⟩
def y_Ho_withTwicePace : MethodName := ⟨RC4, "withTwicePace", "()V"⟩
def y_Fo_fightsOtherwise : MethodName := ⟨RC3, "fightsOtherwise", "(III)I"⟩
def y_Tt_tried : MethodName := ⟨RC0, "tried", "(III)I"⟩
def y_De_undoLatest : MethodName := ⟨RC2, "undoLatest", "(LTroughTreaty$World;)I"⟩
def y_Tt_undo : MethodName := ⟨RC0, "undo", "()I"⟩
def y_Tt_keep : MethodName := ⟨RC0, "keep", "()I"⟩
def y_Tt_back : MethodName := ⟨RC0, "back", "()I"⟩
def y_Tt_waterInAll : MethodName := ⟨RC0, "waterInAll", "()I"⟩
def y_Tt_count : MethodName := ⟨RC0, "count", "(I)I"⟩
def y_Md_thrown : MethodName := ⟨RC12, "thrown", "()I"⟩
def y_Md_feed : MethodName := ⟨RC12, "feed", "(IIIII)I"⟩
def y_Md_isIn : MethodName := ⟨RC12, "isIn", "(III)Z"⟩
def y_Md_isOf : MethodName := ⟨RC12, "isOf", "(II)Z"⟩
def y_Md_wrong : MethodName := ⟨RC12, "wrong", "(I)Z"⟩
def y_Md_wordAt : MethodName := ⟨RC12, "wordAt", "(II)I"⟩
def y_Md_isSmall : MethodName := ⟨RC12, "isSmall", "(I)Z"⟩
def y_Md_isDigit : MethodName := ⟨RC12, "isDigit", "(I)Z"⟩
def y_Md_packed : MethodName := ⟨RC12, "packed", "(II)I"⟩
def y_Md_signToken : MethodName := ⟨RC12, "signToken", "()V"⟩
def y_Md_token : MethodName := ⟨RC12, "token", "()V"⟩
def y_Md_isKey : MethodName := ⟨RC12, "isKey", "(I)Z"⟩
def y_Md_isSign : MethodName := ⟨RC12, "isSign", "(I)Z"⟩
def y_Md_number : MethodName := ⟨RC12, "number", "(II)Z"⟩
def y_Md_plain : MethodName := ⟨RC12, "plain", "()V"⟩
def y_Md_copies : MethodName := ⟨RC12, "copies", "([II)V"⟩
def y_Md_atFirst : MethodName := ⟨RC12, "atFirst", "(I)V"⟩
def y_Md_plainTried : MethodName := ⟨RC12, "plainTried", "()V"⟩
def y_Md_begin : MethodName := ⟨RC12, "begin", "()V"⟩
def y_Md_keepText : MethodName := ⟨RC12, "keepText", "()V"⟩
def y_Md_find : MethodName := ⟨RC12, "find", "([IIII)I"⟩
def y_Md_newName : MethodName := ⟨RC12, "newName", "([III)Z"⟩
def y_Md_thereIn : MethodName := ⟨RC12, "thereIn", "([III)Z"⟩
def y_Md_roadLine : MethodName := ⟨RC12, "roadLine", "()Z"⟩
def y_Md_troughLine : MethodName := ⟨RC12, "troughLine", "()Z"⟩
def y_Md_horseLine : MethodName := ⟨RC12, "horseLine", "()Z"⟩
def y_Md_lapLine : MethodName := ⟨RC12, "lapLine", "()Z"⟩
def y_Md_onceLine : MethodName := ⟨RC12, "onceLine", "(II)Z"⟩
def y_Md_waitsFor : MethodName := ⟨RC12, "waitsFor", "(I)V"⟩
def y_Md_isCounted : MethodName := ⟨RC12, "isCounted", "()Z"⟩
def y_Md_nameMet : MethodName := ⟨RC12, "nameMet", "()I"⟩
def y_Md_grown : MethodName := ⟨RC12, "grown", "(III)V"⟩
def y_Md_leafRead : MethodName := ⟨RC12, "leafRead", "()Z"⟩
def y_Md_rank : MethodName := ⟨RC12, "rank", "(I)I"⟩
def y_Md_dropHeld : MethodName := ⟨RC12, "dropHeld", "()I"⟩
def y_Md_bind : MethodName := ⟨RC12, "bind", "(I)V"⟩
def y_Md_signs : MethodName := ⟨RC12, "signs", "()Z"⟩
def y_Md_sumRead : MethodName := ⟨RC12, "sumRead", "()Z"⟩
def y_Md_lineRead : MethodName := ⟨RC12, "lineRead", "()Z"⟩
def y_Md_text : MethodName := ⟨RC12, "text", "(I)I"⟩
def y_Md_fault : MethodName := ⟨RC12, "fault", "(I)I"⟩
def y_Md_named : MethodName := ⟨RC12, "named", "(II)I"⟩
def y_Md_bounded : MethodName := ⟨RC12, "bounded", "(J)J"⟩
def y_Md_compares : MethodName := ⟨RC12, "compares", "(IJJ)Z"⟩
def y_Md_times : MethodName := ⟨RC12, "times", "(JJ)J"⟩
def y_Md_valueOf : MethodName := ⟨RC12, "valueOf", "(I)J"⟩
def y_Md_layTried : MethodName := ⟨RC12, "layTried", "()V"⟩
def y_Md_isTrough : MethodName := ⟨RC12, "isTrough", "(I)Z"⟩
def y_Md_isHorse : MethodName := ⟨RC12, "isHorse", "(I)Z"⟩
def y_Md_sizeOf : MethodName := ⟨RC12, "sizeOf", "(I)I"⟩
def y_Md_paceOf : MethodName := ⟨RC12, "paceOf", "(I)I"⟩
def y_Md_troughAt : MethodName := ⟨RC12, "troughAt", "(I)I"⟩
def y_Md_farOf : MethodName := ⟨RC12, "farOf", "(II)I"⟩
def y_Md_layNames : MethodName := ⟨RC12, "layNames", "(II)V"⟩
def y_Md_lawOf : MethodName := ⟨RC12, "lawOf", "(I)J"⟩
def y_Md_boundLaw : MethodName := ⟨RC12, "boundLaw", "(IIII)I"⟩
def y_Md_number1 : MethodName := ⟨RC12, "number1", "(I)I"⟩
def y_Md_isRain : MethodName := ⟨RC12, "isRain", "()Z"⟩
def y_Md_walks : MethodName := ⟨RC12, "walks", "(II)V"⟩
def y_Md_drinks : MethodName := ⟨RC12, "drinks", "(II)V"⟩
def y_Md_more : MethodName := ⟨RC12, "more", "(II)I"⟩
def y_Md_meets : MethodName := ⟨RC12, "meets", "(III)V"⟩
def y_Md_hourGoes : MethodName := ⟨RC12, "hourGoes", "(I)V"⟩
def y_Md_goMany : MethodName := ⟨RC12, "goMany", "(I)V"⟩
def y_Md_onMany : MethodName := ⟨RC12, "onMany", "(I)I"⟩
def y_Md_fails : MethodName := ⟨RC12, "fails", "(I)I"⟩
def y_Md_horse : MethodName := ⟨RC12, "horse", "(II)I"⟩
def y_Md_trough : MethodName := ⟨RC12, "trough", "(II)I"⟩
def y_Md_law : MethodName := ⟨RC12, "law", "(II)J"⟩
def y_Md_put : MethodName := ⟨RC12, "put", "([II)V"⟩
def y_Md_remember : MethodName := ⟨RC12, "remember", "()V"⟩
def y_Md_send : MethodName := ⟨RC12, "send", "(II)I"⟩
def y_Md_fill : MethodName := ⟨RC12, "fill", "(II)I"⟩
def y_Md_lead : MethodName := ⟨RC12, "lead", "(II)Z"⟩
def y_Md_go : MethodName := ⟨RC12, "go", "(I)I"⟩
def y_Md_ahead : MethodName := ⟨RC12, "ahead", "(III)I"⟩
def y_Md_falls : MethodName := ⟨RC12, "falls", "(I)I"⟩
def y_Md_nextFight : MethodName := ⟨RC12, "nextFight", "(I)I"⟩
def y_Md_areTwo : MethodName := ⟨RC12, "areTwo", "(II)Z"⟩
def y_Md_meet : MethodName := ⟨RC12, "meet", "(II)I"⟩
def y_Md_sendIn : MethodName := ⟨RC12, "sendIn", "(III)I"⟩
def y_Md_manyOf : MethodName := ⟨RC12, "manyOf", "(I)I"⟩
def y_Md_pump : MethodName := ⟨RC12, "pump", "(I)I"⟩
def y_Md_legOf : MethodName := ⟨RC12, "legOf", "(III)I"⟩
def y_Md_stops : MethodName := ⟨RC12, "stops", "(II)I"⟩
def y_Md_reach : MethodName := ⟨RC12, "reach", "(I)I"⟩
def y_Md_isCovered : MethodName := ⟨RC12, "isCovered", "(II)Z"⟩
def y_Md_cover : MethodName := ⟨RC12, "cover", "(I)I"⟩
def y_Md_round : MethodName := ⟨RC12, "round", "(I)I"⟩
def y_Md_gather : MethodName := ⟨RC12, "gather", "(I)I"⟩
def y_Md_sides : MethodName := ⟨RC12, "sides", "()I"⟩
def y_Md_enemies : MethodName := ⟨RC12, "enemies", "(I)I"⟩
def y_Md_runsDry : MethodName := ⟨RC12, "runsDry", "(I)I"⟩
def y_Md_hasBy : MethodName := ⟨RC12, "hasBy", "(IIII)I"⟩
def y_Md_restAt : MethodName := ⟨RC12, "restAt", "(III)I"⟩
def y_Md_rests : MethodName := ⟨RC12, "rests", "(II)I"⟩
def y_Md_rest : MethodName := ⟨RC12, "rest", "(III)I"⟩
def y_Md_staysDry : MethodName := ⟨RC12, "staysDry", "(II)J"⟩
def y_Md_peace : MethodName := ⟨RC12, "peace", "(II)I"⟩
def y_Md_thirstiest : MethodName := ⟨RC12, "thirstiest", "()I"⟩
def y_Md_driest : MethodName := ⟨RC12, "driest", "()I"⟩
def y_Md_nearest : MethodName := ⟨RC12, "nearest", "(I)I"⟩
def y_Md_noted : MethodName := ⟨RC12, "noted", "(IIII)I"⟩
def y_Md_see : MethodName := ⟨RC12, "see", "(IIIZ)I"⟩
def y_Md_strike : MethodName := ⟨RC12, "strike", "(I)I"⟩
def y_Md_known : MethodName := ⟨RC12, "known", "(I)Z"⟩
def y_Md_knownBy : MethodName := ⟨RC12, "knownBy", "()I"⟩
def y_Md_isSo : MethodName := ⟨RC12, "isSo", "(I)Z"⟩
def y_Md_fits : MethodName := ⟨RC12, "fits", "(II)Z"⟩
def y_Md_thirsts : MethodName := ⟨RC12, "thirsts", "(I)I"⟩
def y_Md_chance : MethodName := ⟨RC12, "chance", "(IIII)I"⟩
def y_Md_tried : MethodName := ⟨RC12, "tried", "(III)I"⟩
def y_Md_take : MethodName := ⟨RC12, "take", "([II)V"⟩
def y_Md_undo : MethodName := ⟨RC12, "undo", "()I"⟩
def y_Md_keep : MethodName := ⟨RC12, "keep", "()I"⟩
def y_Md_back : MethodName := ⟨RC12, "back", "()I"⟩
def y_Md_count : MethodName := ⟨RC12, "count", "(I)I"⟩
theorem mc_Tt_putFour : Cond.code y_Tt_putFour prog_1_method_3_code 3 none ∈ GW := gw_in 740 (by decide +kernel) rfl
theorem mi_0 : Cond.initialized RC0 ∈ GW := gw_in 112 (by decide +kernel) rfl
theorem my_Tt_putFour : okY y_Tt_putFour 1 := ⟨by decide +kernel, by decide +kernel, by decide +kernel⟩
theorem mc_Ar_fill : Cond.code y_Ar_fill prog_30_method_103_code 4 none ∈ GW := gw_in 194 (by decide +kernel) rfl
theorem mi_Ar : Cond.initialized "java/util/Arrays" ∈ GW := gw_in 116 (by decide +kernel) rfl
theorem my_Ar_fill : okY y_Ar_fill 2 := ⟨by decide +kernel, by decide +kernel, by decide +kernel⟩
theorem mc_La_clear : Cond.code y_La_clear prog_7_method_2_code 1 none ∈ GW := gw_in 198 (by decide +kernel) rfl
theorem mi_6 : Cond.initialized RC6 ∈ GW := gw_in 115 (by decide +kernel) rfl
theorem my_La_clear : okY y_La_clear 0 := ⟨by decide +kernel, by decide +kernel, by decide +kernel⟩
theorem mc_Tt_find : Cond.code y_Tt_find prog_1_method_7_code 4 (some .int) ∈ GW := gw_in 768 (by decide +kernel) rfl
theorem my_Tt_find : okY y_Tt_find 3 := ⟨by decide +kernel, by decide +kernel, by decide +kernel⟩
theorem mc_Sc_isLetter : Cond.code y_Sc_isLetter prog_9_method_5_code 1 (some .boolean) ∈ GW := gw_in 761 (by decide +kernel) rfl
theorem mi_8 : Cond.initialized RC8 ∈ GW := gw_in 117 (by decide +kernel) rfl
theorem my_Sc_isLetter : okY y_Sc_isLetter 1 := ⟨by decide +kernel, by decide +kernel, by decide +kernel⟩
theorem mc_Sc_isDigit : Cond.code y_Sc_isDigit prog_9_method_6_code 1 (some .boolean) ∈ GW := gw_in 771 (by decide +kernel) rfl
theorem my_Sc_isDigit : okY y_Sc_isDigit 1 := ⟨by decide +kernel, by decide +kernel, by decide +kernel⟩
theorem mc_mmin : Cond.code Lib.Math.min.name Lib.Math.min.code 2 (some .int) ∈ GW := gw_in 691 (by decide +kernel) rfl
theorem mi_math : Cond.initialized "java/lang/Math" ∈ GW := gw_in 129 (by decide +kernel) rfl
theorem mc_Sc_readSign : Cond.code y_Sc_readSign prog_9_method_9_code 3 none ∈ GW := gw_in 780 (by decide +kernel) rfl
theorem my_Sc_readSign : okY y_Sc_readSign 1 := ⟨by decide +kernel, by decide +kernel, by decide +kernel⟩
theorem mc_Sc_readNumber : Cond.code y_Sc_readNumber prog_9_method_8_code 1 none ∈ GW := gw_in 775 (by decide +kernel) rfl
theorem my_Sc_readNumber : okY y_Sc_readNumber 0 := ⟨by decide +kernel, by decide +kernel, by decide +kernel⟩
theorem mc_Sc_readWord : Cond.code y_Sc_readWord prog_9_method_7_code 4 none ∈ GW := gw_in 765 (by decide +kernel) rfl
theorem my_Sc_readWord : okY y_Sc_readWord 0 := ⟨by decide +kernel, by decide +kernel, by decide +kernel⟩
theorem mc_Sc_step : Cond.code y_Sc_step prog_9_method_4_code 1 none ∈ GW := gw_in 758 (by decide +kernel) rfl
theorem my_Sc_step : okY y_Sc_step 0 := ⟨by decide +kernel, by decide +kernel, by decide +kernel⟩
theorem mc_Tr_fail : Cond.code y_Tr_fail prog_11_method_3_code 2 (some .boolean) ∈ GW := gw_in 801 (by decide +kernel) rfl
theorem mi_10 : Cond.initialized RC10 ∈ GW := gw_in 113 (by decide +kernel) rfl
theorem my_Tr_fail : okY y_Tr_fail 1 := ⟨by decide +kernel, by decide +kernel, by decide +kernel⟩
theorem mc_Tr_isNumber : Cond.code y_Tr_isNumber prog_11_method_5_code 3 (some .boolean) ∈ GW := gw_in 797 (by decide +kernel) rfl
theorem my_Tr_isNumber : okY y_Tr_isNumber 2 := ⟨by decide +kernel, by decide +kernel, by decide +kernel⟩
theorem mc_Tr_takeNumber : Cond.code y_Tr_takeNumber prog_11_method_6_code 4 (some .int) ∈ GW := gw_in 793 (by decide +kernel) rfl
theorem my_Tr_takeNumber : okY y_Tr_takeNumber 2 := ⟨by decide +kernel, by decide +kernel, by decide +kernel⟩
theorem mc_Tr_isNewName : Cond.code y_Tr_isNewName prog_11_method_7_code 3 (some .boolean) ∈ GW := gw_in 809 (by decide +kernel) rfl
theorem my_Tr_isNewName : okY y_Tr_isNewName 2 := ⟨by decide +kernel, by decide +kernel, by decide +kernel⟩
theorem mc_Pl_troughThere : Cond.code y_Pl_troughThere prog_8_method_6_code 2 (some .int) ∈ GW := gw_in 814 (by decide +kernel) rfl
theorem mi_7 : Cond.initialized RC7 ∈ GW := gw_in 114 (by decide +kernel) rfl
theorem my_Pl_troughThere : okY y_Pl_troughThere 1 := ⟨by decide +kernel, by decide +kernel, by decide +kernel⟩
theorem mc_Tr_takeNamed : Cond.code y_Tr_takeNamed prog_11_method_8_code 4 (some .int) ∈ GW := gw_in 826 (by decide +kernel) rfl
theorem my_Tr_takeNamed : okY y_Tr_takeNamed 2 := ⟨by decide +kernel, by decide +kernel, by decide +kernel⟩
theorem mc_Lr_strengthOf : Cond.code y_Lr_strengthOf prog_6_method_10_code 1 (some .int) ∈ GW := gw_in 858 (by decide +kernel) rfl
theorem mi_5 : Cond.initialized RC5 ∈ GW := gw_in 122 (by decide +kernel) rfl
theorem my_Lr_strengthOf : okY y_Lr_strengthOf 1 := ⟨by decide +kernel, by decide +kernel, by decide +kernel⟩
theorem mc_La_append : Cond.code y_La_append prog_7_method_7_code 2 none ∈ GW := gw_in 862 (by decide +kernel) rfl
theorem my_La_append : okY y_La_append 1 := ⟨by decide +kernel, by decide +kernel, by decide +kernel⟩
theorem mc_Lr_push : Cond.code y_Lr_push prog_6_method_7_code 2 (some .int) ∈ GW := gw_in 889 (by decide +kernel) rfl
theorem my_Lr_push : okY y_Lr_push 1 := ⟨by decide +kernel, by decide +kernel, by decide +kernel⟩
theorem mc_Tt_isName : Cond.code y_Tt_isName prog_1_method_51_code 1 (some .boolean) ∈ GW := gw_in 877 (by decide +kernel) rfl
theorem my_Tt_isName : okY y_Tt_isName 1 := ⟨by decide +kernel, by decide +kernel, by decide +kernel⟩
theorem mc_Lr_topStrength : Cond.code y_Lr_topStrength prog_6_method_9_code 1 (some .int) ∈ GW := gw_in 881 (by decide +kernel) rfl
theorem my_Lr_topStrength : okY y_Lr_topStrength 0 := ⟨by decide +kernel, by decide +kernel, by decide +kernel⟩
theorem mc_Lr_waitKnot : Cond.code y_Lr_waitKnot prog_6_method_6_code 2 (some .int) ∈ GW := gw_in 885 (by decide +kernel) rfl
theorem my_Lr_waitKnot : okY y_Lr_waitKnot 1 := ⟨by decide +kernel, by decide +kernel, by decide +kernel⟩
theorem mc_Lr_takeKnot : Cond.code y_Lr_takeKnot prog_6_method_5_code 2 (some .int) ∈ GW := gw_in 874 (by decide +kernel) rfl
theorem my_Lr_takeKnot : okY y_Lr_takeKnot 1 := ⟨by decide +kernel, by decide +kernel, by decide +kernel⟩
theorem mc_Lr_settle : Cond.code y_Lr_settle prog_6_method_8_code 2 none ∈ GW := gw_in 855 (by decide +kernel) rfl
theorem my_Lr_settle : okY y_Lr_settle 1 := ⟨by decide +kernel, by decide +kernel, by decide +kernel⟩
theorem mc_mmax : Cond.code Lib.Math.max.name Lib.Math.max.code 2 (some .int) ∈ GW := gw_in 896 (by decide +kernel) rfl
theorem mc_Lr_takeSign : Cond.code y_Lr_takeSign prog_6_method_4_code 4 (some .int) ∈ GW := gw_in 893 (by decide +kernel) rfl
theorem my_Lr_takeSign : okY y_Lr_takeSign 0 := ⟨by decide +kernel, by decide +kernel, by decide +kernel⟩
theorem mc_Lr_takePart : Cond.code y_Lr_takePart prog_6_method_3_code 2 (some .int) ∈ GW := gw_in 870 (by decide +kernel) rfl
theorem my_Lr_takePart : okY y_Lr_takePart 0 := ⟨by decide +kernel, by decide +kernel, by decide +kernel⟩
theorem mc_La_endLaw : Cond.code y_La_endLaw prog_7_method_6_code 2 none ∈ GW := gw_in 866 (by decide +kernel) rfl
theorem my_La_endLaw : okY y_La_endLaw 1 := ⟨by decide +kernel, by decide +kernel, by decide +kernel⟩
theorem mc_La_startLaw : Cond.code y_La_startLaw prog_7_method_5_code 2 none ∈ GW := gw_in 851 (by decide +kernel) rfl
theorem my_La_startLaw : okY y_La_startLaw 1 := ⟨by decide +kernel, by decide +kernel, by decide +kernel⟩
theorem mc_La_isTold : Cond.code y_La_isTold prog_7_method_4_code 2 (some .boolean) ∈ GW := gw_in 843 (by decide +kernel) rfl
theorem my_La_isTold : okY y_La_isTold 1 := ⟨by decide +kernel, by decide +kernel, by decide +kernel⟩
theorem mc_Lr_readE : Cond.code y_Lr_readE prog_6_method_2_code 4 (some .int) ∈ GW := gw_in 847 (by decide +kernel) rfl
theorem my_Lr_readE : okY y_Lr_readE 1 := ⟨by decide +kernel, by decide +kernel, by decide +kernel⟩
theorem mc_Tr_readRoad : Cond.code y_Tr_readRoad prog_11_method_9_code 2 (some .boolean) ∈ GW := gw_in 788 (by decide +kernel) rfl
theorem my_Tr_readRoad : okY y_Tr_readRoad 0 := ⟨by decide +kernel, by decide +kernel, by decide +kernel⟩
theorem mc_Tr_readTrough : Cond.code y_Tr_readTrough prog_11_method_10_code 5 (some .boolean) ∈ GW := gw_in 805 (by decide +kernel) rfl
theorem my_Tr_readTrough : okY y_Tr_readTrough 0 := ⟨by decide +kernel, by decide +kernel, by decide +kernel⟩
theorem mc_Tr_readHorse : Cond.code y_Tr_readHorse prog_11_method_11_code 6 (some .boolean) ∈ GW := gw_in 818 (by decide +kernel) rfl
theorem my_Tr_readHorse : okY y_Tr_readHorse 0 := ⟨by decide +kernel, by decide +kernel, by decide +kernel⟩
theorem mc_Tr_readLap : Cond.code y_Tr_readLap prog_11_method_12_code 5 (some .boolean) ∈ GW := gw_in 822 (by decide +kernel) rfl
theorem my_Tr_readLap : okY y_Tr_readLap 0 := ⟨by decide +kernel, by decide +kernel, by decide +kernel⟩
theorem mc_Tr_readRain : Cond.code y_Tr_readRain prog_11_method_13_code 2 (some .boolean) ∈ GW := gw_in 830 (by decide +kernel) rfl
theorem my_Tr_readRain : okY y_Tr_readRain 0 := ⟨by decide +kernel, by decide +kernel, by decide +kernel⟩
theorem mc_Tr_readSeed : Cond.code y_Tr_readSeed prog_11_method_14_code 2 (some .boolean) ∈ GW := gw_in 834 (by decide +kernel) rfl
theorem my_Tr_readSeed : okY y_Tr_readSeed 0 := ⟨by decide +kernel, by decide +kernel, by decide +kernel⟩
theorem mc_Tr_readLaw : Cond.code y_Tr_readLaw prog_11_method_15_code 3 (some .boolean) ∈ GW := gw_in 839 (by decide +kernel) rfl
theorem my_Tr_readLaw : okY y_Tr_readLaw 0 := ⟨by decide +kernel, by decide +kernel, by decide +kernel⟩
theorem mc_Tr_readLine : Cond.code y_Tr_readLine prog_11_method_4_code 3 (some .boolean) ∈ GW := gw_in 784 (by decide +kernel) rfl
theorem my_Tr_readLine : okY y_Tr_readLine 1 := ⟨by decide +kernel, by decide +kernel, by decide +kernel⟩
theorem mc_Pl_clear : Cond.code y_Pl_clear prog_8_method_2_code 1 none ∈ GW := gw_in 191 (by decide +kernel) rfl
theorem my_Pl_clear : okY y_Pl_clear 0 := ⟨by decide +kernel, by decide +kernel, by decide +kernel⟩
theorem mc_Sc_begin : Cond.code y_Sc_begin prog_9_method_3_code 2 none ∈ GW := gw_in 753 (by decide +kernel) rfl
theorem my_Sc_begin : okY y_Sc_begin 1 := ⟨by decide +kernel, by decide +kernel, by decide +kernel⟩
theorem mi_sys : Cond.initialized "java/lang/System" ∈ GW := gw_in 130 (by decide +kernel) rfl
theorem mc_Tt_copy : Cond.code y_Tt_copy prog_1_method_50_code 2 none ∈ GW := gw_in 688 (by decide +kernel) rfl
theorem my_Tt_copy : okY y_Tt_copy 2 := ⟨by decide +kernel, by decide +kernel, by decide +kernel⟩
theorem mc_La_become : Cond.code y_La_become prog_7_method_3_code 2 none ∈ GW := gw_in 906 (by decide +kernel) rfl
theorem my_La_become : okY y_La_become 1 := ⟨by decide +kernel, by decide +kernel, by decide +kernel⟩
theorem mc_Tr_readText : Cond.code y_Tr_readText prog_11_method_2_code 3 (some .int) ∈ GW := gw_in 748 (by decide +kernel) rfl
theorem my_Tr_readText : okY y_Tr_readText 1 := ⟨by decide +kernel, by decide +kernel, by decide +kernel⟩
theorem mc_Pl_become : Cond.code y_Pl_become prog_8_method_3_code 2 none ∈ GW := gw_in 901 (by decide +kernel) rfl
theorem my_Pl_become : okY y_Pl_become 1 := ⟨by decide +kernel, by decide +kernel, by decide +kernel⟩
theorem mc_Wo_begin : Cond.code y_Wo_begin prog_12_method_2_code 2 none ∈ GW := gw_in 685 (by decide +kernel) rfl
theorem mi_11 : Cond.initialized RC11 ∈ GW := gw_in 123 (by decide +kernel) rfl
theorem my_Wo_begin : okY y_Wo_begin 1 := ⟨by decide +kernel, by decide +kernel, by decide +kernel⟩
theorem mc_De_forget : Cond.code y_De_forget prog_3_method_2_code 1 none ∈ GW := gw_in 911 (by decide +kernel) rfl
theorem mi_2 : Cond.initialized RC2 ∈ GW := gw_in 124 (by decide +kernel) rfl
theorem my_De_forget : okY y_De_forget 0 := ⟨by decide +kernel, by decide +kernel, by decide +kernel⟩
theorem mc_Se_forget : Cond.code y_Se_forget prog_10_method_2_code 1 none ∈ GW := gw_in 915 (by decide +kernel) rfl
theorem mi_9 : Cond.initialized RC9 ∈ GW := gw_in 125 (by decide +kernel) rfl
theorem my_Se_forget : okY y_Se_forget 0 := ⟨by decide +kernel, by decide +kernel, by decide +kernel⟩
theorem mc_Wo_isOn : Cond.code y_Wo_isOn prog_12_method_4_code 2 (some .boolean) ∈ GW := gw_in 940 (by decide +kernel) rfl
theorem my_Wo_isOn : okY y_Wo_isOn 1 := ⟨by decide +kernel, by decide +kernel, by decide +kernel⟩
theorem mc_Pl_hasTrough : Cond.code y_Pl_hasTrough prog_8_method_5_code 2 (some .boolean) ∈ GW := gw_in 932 (by decide +kernel) rfl
theorem my_Pl_hasTrough : okY y_Pl_hasTrough 1 := ⟨by decide +kernel, by decide +kernel, by decide +kernel⟩
theorem mc_Tt_horsesAt : Cond.code y_Tt_horsesAt prog_1_method_10_code 4 (some .int) ∈ GW := gw_in 936 (by decide +kernel) rfl
theorem my_Tt_horsesAt : okY y_Tt_horsesAt 1 := ⟨by decide +kernel, by decide +kernel, by decide +kernel⟩
theorem mc_mabs : Cond.code Lib.Math.abs.name Lib.Math.abs.code 1 (some .int) ∈ GW := gw_in 966 (by decide +kernel) rfl
theorem mc_La_within : Cond.code y_La_within prog_7_method_11_code 2 (some .long) ∈ GW := gw_in 978 (by decide +kernel) rfl
theorem my_La_within : okY y_La_within 1 := ⟨by decide +kernel, by decide +kernel, by decide +kernel⟩
theorem mc_La_isTooBig : Cond.code y_La_isTooBig prog_7_method_10_code 6 (some .boolean) ∈ GW := gw_in 983 (by decide +kernel) rfl
theorem my_La_isTooBig : okY y_La_isTooBig 2 := ⟨by decide +kernel, by decide +kernel, by decide +kernel⟩
theorem mc_La_join : Cond.code y_La_join prog_7_method_9_code 5 (some .long) ∈ GW := gw_in 975 (by decide +kernel) rfl
theorem my_La_join : okY y_La_join 3 := ⟨by decide +kernel, by decide +kernel, by decide +kernel⟩
theorem mc_Ho_setNames : Cond.code y_Ho_setNames prog_5_method_16_code 5 none ∈ GW := gw_in 961 (by decide +kernel) rfl
theorem mi_4 : Cond.initialized RC4 ∈ GW := gw_in 126 (by decide +kernel) rfl
theorem my_Ho_setNames : okY y_Ho_setNames 2 := ⟨by decide +kernel, by decide +kernel, by decide +kernel⟩
theorem mc_La_worthOf : Cond.code y_La_worthOf prog_7_method_8_code 9 (some .long) ∈ GW := gw_in 970 (by decide +kernel) rfl
theorem my_La_worthOf : okY y_La_worthOf 2 := ⟨by decide +kernel, by decide +kernel, by decide +kernel⟩
theorem mc_Pl_hasHorse : Cond.code y_Pl_hasHorse prog_8_method_4_code 2 (some .boolean) ∈ GW := gw_in 948 (by decide +kernel) rfl
theorem my_Pl_hasHorse : okY y_Pl_hasHorse 1 := ⟨by decide +kernel, by decide +kernel, by decide +kernel⟩
theorem mc_Ho_asItGoes : Cond.code y_Ho_asItGoes prog_5_method_3_code 1 none ∈ GW := gw_in 953 (by decide +kernel) rfl
theorem my_Ho_asItGoes : okY y_Ho_asItGoes 0 := ⟨by decide +kernel, by decide +kernel, by decide +kernel⟩
theorem mc_Ho_worth : Cond.code y_Ho_worth prog_5_method_15_code 4 (some .long) ∈ GW := gw_in 957 (by decide +kernel) rfl
theorem my_Ho_worth : okY y_Ho_worth 3 := ⟨by decide +kernel, by decide +kernel, by decide +kernel⟩
theorem mc_De_shift : Cond.code y_De_shift prog_3_method_6_code 1 none ∈ GW := gw_in 998 (by decide +kernel) rfl
theorem my_De_shift : okY y_De_shift 1 := ⟨by decide +kernel, by decide +kernel, by decide +kernel⟩
theorem mc_De_makeRoom : Cond.code y_De_makeRoom prog_3_method_5_code 1 none ∈ GW := gw_in 995 (by decide +kernel) rfl
theorem my_De_makeRoom : okY y_De_makeRoom 0 := ⟨by decide +kernel, by decide +kernel, by decide +kernel⟩
theorem mc_De_rememberHorse : Cond.code y_De_rememberHorse prog_3_method_3_code 3 none ∈ GW := gw_in 991 (by decide +kernel) rfl
theorem my_De_rememberHorse : okY y_De_rememberHorse 2 := ⟨by decide +kernel, by decide +kernel, by decide +kernel⟩
theorem mc_De_rememberTrough : Cond.code y_De_rememberTrough prog_3_method_4_code 3 none ∈ GW := gw_in 1008 (by decide +kernel) rfl
theorem my_De_rememberTrough : okY y_De_rememberTrough 2 := ⟨by decide +kernel, by decide +kernel, by decide +kernel⟩
theorem mc_mmin_long : Cond.code Lib.MathLoose.min_long.x Lib.MathLoose.min_long.code 4 (some .long) ∈ GW := gw_in 1042 (by decide +kernel) rfl
theorem mc_mmax_long : Cond.code Lib.MathLoose.max_long.x Lib.MathLoose.max_long.code 4 (some .long) ∈ GW := gw_in 1045 (by decide +kernel) rfl
theorem mc_Ho_amount : Cond.code y_Ho_amount prog_5_method_14_code 7 (some .int) ∈ GW := gw_in 1036 (by decide +kernel) rfl
theorem my_Ho_amount : okY y_Ho_amount 4 := ⟨by decide +kernel, by decide +kernel, by decide +kernel⟩
theorem mc_Wo_noteTalk : Cond.code y_Wo_noteTalk prog_12_method_5_code 2 none ∈ GW := gw_in 1068 (by decide +kernel) rfl
theorem my_Wo_noteTalk : okY y_Wo_noteTalk 1 := ⟨by decide +kernel, by decide +kernel, by decide +kernel⟩
theorem mc_Pl_areEnemies : Cond.code y_Pl_areEnemies prog_8_method_7_code 4 (some .boolean) ∈ GW := gw_in 1058 (by decide +kernel) rfl
theorem my_Pl_areEnemies : okY y_Pl_areEnemies 3 := ⟨by decide +kernel, by decide +kernel, by decide +kernel⟩
theorem mc_Wo_pairOf : Cond.code y_Wo_pairOf prog_12_method_9_code 2 (some .int) ∈ GW := gw_in 1062 (by decide +kernel) rfl
theorem my_Wo_pairOf : okY y_Wo_pairOf 2 := ⟨by decide +kernel, by decide +kernel, by decide +kernel⟩
theorem mc_Wo_noteFight : Cond.code y_Wo_noteFight prog_12_method_6_code 3 none ∈ GW := gw_in 1072 (by decide +kernel) rfl
theorem my_Wo_noteFight : okY y_Wo_noteFight 2 := ⟨by decide +kernel, by decide +kernel, by decide +kernel⟩
theorem mc_Wo_injure : Cond.code y_Wo_injure prog_12_method_7_code 3 none ∈ GW := gw_in 1076 (by decide +kernel) rfl
theorem my_Wo_injure : okY y_Wo_injure 2 := ⟨by decide +kernel, by decide +kernel, by decide +kernel⟩
theorem mc_Wo_drawNumber : Cond.code y_Wo_drawNumber prog_12_method_8_code 1 (some .int) ∈ GW := gw_in 1088 (by decide +kernel) rfl
theorem my_Wo_drawNumber : okY y_Wo_drawNumber 0 := ⟨by decide +kernel, by decide +kernel, by decide +kernel⟩
theorem mc_Ho_startLaps : Cond.code y_Ho_startLaps prog_5_method_8_code 3 none ∈ GW := gw_in 1025 (by decide +kernel) rfl
theorem my_Ho_startLaps : okY y_Ho_startLaps 1 := ⟨by decide +kernel, by decide +kernel, by decide +kernel⟩
theorem mc_Ho_walk : Cond.code y_Ho_walk prog_5_method_9_code 6 none ∈ GW := gw_in 1029 (by decide +kernel) rfl
theorem my_Ho_walk : okY y_Ho_walk 1 := ⟨by decide +kernel, by decide +kernel, by decide +kernel⟩
theorem mc_Ho_drink : Cond.code y_Ho_drink prog_5_method_10_code 6 none ∈ GW := gw_in 1049 (by decide +kernel) rfl
theorem my_Ho_drink : okY y_Ho_drink 1 := ⟨by decide +kernel, by decide +kernel, by decide +kernel⟩
theorem mc_Ho_encounter : Cond.code y_Ho_encounter prog_5_method_11_code 5 none ∈ GW := gw_in 1054 (by decide +kernel) rfl
theorem my_Ho_encounter : okY y_Ho_encounter 1 := ⟨by decide +kernel, by decide +kernel, by decide +kernel⟩
theorem mc_Ho_fall : Cond.code y_Ho_fall prog_5_method_12_code 3 none ∈ GW := gw_in 1080 (by decide +kernel) rfl
theorem my_Ho_fall : okY y_Ho_fall 1 := ⟨by decide +kernel, by decide +kernel, by decide +kernel⟩
theorem mc_Ho_rain : Cond.code y_Ho_rain prog_5_method_13_code 3 none ∈ GW := gw_in 1084 (by decide +kernel) rfl
theorem my_Ho_rain : okY y_Ho_rain 1 := ⟨by decide +kernel, by decide +kernel, by decide +kernel⟩
theorem mc_Ho_byChance : Cond.code y_Ho_byChance prog_5_method_2_code 1 none ∈ GW := gw_in 619 (by decide +kernel) rfl
theorem my_Ho_byChance : okY y_Ho_byChance 0 := ⟨by decide +kernel, by decide +kernel, by decide +kernel⟩
theorem mc_Ho_pass : Cond.code y_Ho_pass prog_5_method_7_code 4 none ∈ GW := gw_in 1021 (by decide +kernel) rfl
theorem my_Ho_pass : okY y_Ho_pass 2 := ⟨by decide +kernel, by decide +kernel, by decide +kernel⟩
theorem mc_Wo_become : Cond.code y_Wo_become prog_12_method_3_code 2 none ∈ GW := gw_in 1108 (by decide +kernel) rfl
theorem my_Wo_become : okY y_Wo_become 1 := ⟨by decide +kernel, by decide +kernel, by decide +kernel⟩
theorem mc_Fo_beginTrial : Cond.code y_Fo_beginTrial prog_4_method_2_code 1 none ∈ GW := gw_in 1104 (by decide +kernel) rfl
theorem mi_3 : Cond.initialized RC3 ∈ GW := gw_in 127 (by decide +kernel) rfl
theorem my_Fo_beginTrial : okY y_Fo_beginTrial 0 := ⟨by decide +kernel, by decide +kernel, by decide +kernel⟩
theorem mc_Fo_behind : Cond.code y_Fo_behind prog_4_method_3_code 2 (some (.object "TroughTreaty$World")) ∈ GW := gw_in 1100 (by decide +kernel) rfl
theorem my_Fo_behind : okY y_Fo_behind 1 := ⟨by decide +kernel, by decide +kernel, by decide +kernel⟩
theorem mc_In_bitCount : Cond.code y_In_bitCount prog_20_method_49_code 1 (some .int) ∈ GW := gw_in 1113 (by decide +kernel) rfl
theorem mi_In : Cond.initialized "java/lang/Integer" ∈ GW := gw_in 137 (by decide +kernel) rfl
theorem my_In_bitCount : okY y_In_bitCount 1 := ⟨by decide +kernel, by decide +kernel, by decide +kernel⟩
theorem mc_Fo_hoursToFall : Cond.code y_Fo_hoursToFall prog_4_method_4_code 3 (some .int) ∈ GW := gw_in 1124 (by decide +kernel) rfl
theorem my_Fo_hoursToFall : okY y_Fo_hoursToFall 1 := ⟨by decide +kernel, by decide +kernel, by decide +kernel⟩
theorem mc_Fo_hoursToFight : Cond.code y_Fo_hoursToFight prog_4_method_5_code 3 (some .int) ∈ GW := gw_in 1133 (by decide +kernel) rfl
theorem my_Fo_hoursToFight : okY y_Fo_hoursToFight 1 := ⟨by decide +kernel, by decide +kernel, by decide +kernel⟩
theorem mc_Fo_bestSending : Cond.code y_Fo_bestSending prog_4_method_8_code 7 (some .int) ∈ GW := gw_in 1141 (by decide +kernel) rfl
theorem my_Fo_bestSending : okY y_Fo_bestSending 3 := ⟨by decide +kernel, by decide +kernel, by decide +kernel⟩
theorem mc_Fo_troughsOf : Cond.code y_Fo_troughsOf prog_4_method_11_code 5 (some .int) ∈ GW := gw_in 1158 (by decide +kernel) rfl
theorem my_Fo_troughsOf : okY y_Fo_troughsOf 1 := ⟨by decide +kernel, by decide +kernel, by decide +kernel⟩
theorem mc_Fo_canHelp : Cond.code y_Fo_canHelp prog_4_method_9_code 4 (some .boolean) ∈ GW := gw_in 1150 (by decide +kernel) rfl
theorem my_Fo_canHelp : okY y_Fo_canHelp 1 := ⟨by decide +kernel, by decide +kernel, by decide +kernel⟩
theorem mc_Fo_noneFalls : Cond.code y_Fo_noneFalls prog_4_method_10_code 4 (some .boolean) ∈ GW := gw_in 1154 (by decide +kernel) rfl
theorem my_Fo_noneFalls : okY y_Fo_noneFalls 2 := ⟨by decide +kernel, by decide +kernel, by decide +kernel⟩
theorem mc_Pl_hoursFor : Cond.code y_Pl_hoursFor prog_8_method_8_code 4 (some .int) ∈ GW := gw_in 1181 (by decide +kernel) rfl
theorem my_Pl_hoursFor : okY y_Pl_hoursFor 2 := ⟨by decide +kernel, by decide +kernel, by decide +kernel⟩
theorem mc_Cn_thirstBehind : Cond.code y_Cn_thirstBehind prog_2_method_2_code 5 (some .int) ∈ GW := gw_in 1176 (by decide +kernel) rfl
theorem mi_1 : Cond.initialized RC1 ∈ GW := gw_in 128 (by decide +kernel) rfl
theorem my_Cn_thirstBehind : okY y_Cn_thirstBehind 4 := ⟨by decide +kernel, by decide +kernel, by decide +kernel⟩
theorem mc_Cn_legsFrom : Cond.code y_Cn_legsFrom prog_2_method_5_code 7 none ∈ GW := gw_in 1172 (by decide +kernel) rfl
theorem my_Cn_legsFrom : okY y_Cn_legsFrom 3 := ⟨by decide +kernel, by decide +kernel, by decide +kernel⟩
theorem mc_Cn_fewestLegs : Cond.code y_Cn_fewestLegs prog_2_method_4_code 5 (some .int) ∈ GW := gw_in 1167 (by decide +kernel) rfl
theorem my_Cn_fewestLegs : okY y_Cn_fewestLegs 2 := ⟨by decide +kernel, by decide +kernel, by decide +kernel⟩
theorem mc_Cn_withinOneLeg : Cond.code y_Cn_withinOneLeg prog_2_method_3_code 4 (some .int) ∈ GW := gw_in 1192 (by decide +kernel) rfl
theorem my_Cn_withinOneLeg : okY y_Cn_withinOneLeg 1 := ⟨by decide +kernel, by decide +kernel, by decide +kernel⟩
theorem mc_Cn_covers : Cond.code y_Cn_covers prog_2_method_6_code 6 (some .boolean) ∈ GW := gw_in 1200 (by decide +kernel) rfl
theorem my_Cn_covers : okY y_Cn_covers 2 := ⟨by decide +kernel, by decide +kernel, by decide +kernel⟩
theorem mc_Cn_wayByAll : Cond.code y_Cn_wayByAll prog_2_method_7_code 5 (some .int) ∈ GW := gw_in 1209 (by decide +kernel) rfl
theorem my_Cn_wayByAll : okY y_Cn_wayByAll 1 := ⟨by decide +kernel, by decide +kernel, by decide +kernel⟩
theorem mc_Cn_gain : Cond.code y_Cn_gain prog_2_method_13_code 5 (some .int) ∈ GW := gw_in 1230 (by decide +kernel) rfl
theorem my_Cn_gain : okY y_Cn_gain 4 := ⟨by decide +kernel, by decide +kernel, by decide +kernel⟩
theorem mc_Cn_isRest : Cond.code y_Cn_isRest prog_2_method_12_code 5 (some .boolean) ∈ GW := gw_in 1226 (by decide +kernel) rfl
theorem my_Cn_isRest : okY y_Cn_isRest 4 := ⟨by decide +kernel, by decide +kernel, by decide +kernel⟩
theorem mc_Tt_areTwo : Cond.code y_Tt_areTwo prog_1_method_27_code 3 (some .boolean) ∈ GW := gw_in 1218 (by decide +kernel) rfl
theorem my_Tt_areTwo : okY y_Tt_areTwo 2 := ⟨by decide +kernel, by decide +kernel, by decide +kernel⟩
theorem mc_Cn_manyRests : Cond.code y_Cn_manyRests prog_2_method_10_code 5 (some .int) ∈ GW := gw_in 1222 (by decide +kernel) rfl
theorem my_Cn_manyRests : okY y_Cn_manyRests 2 := ⟨by decide +kernel, by decide +kernel, by decide +kernel⟩
theorem mc_Cn_restNumbered : Cond.code y_Cn_restNumbered prog_2_method_11_code 6 (some .int) ∈ GW := gw_in 1238 (by decide +kernel) rfl
theorem my_Cn_restNumbered : okY y_Cn_restNumbered 3 := ⟨by decide +kernel, by decide +kernel, by decide +kernel⟩
theorem mc_Tt_greatestShared : Cond.code y_Tt_greatestShared prog_1_method_29_code 6 (some .int) ∈ GW := gw_in 1246 (by decide +kernel) rfl
theorem my_Tt_greatestShared : okY y_Tt_greatestShared 2 := ⟨by decide +kernel, by decide +kernel, by decide +kernel⟩
theorem mc_Fo_hoursToMeet : Cond.code y_Fo_hoursToMeet prog_4_method_6_code 4 (some .int) ∈ GW := gw_in 1271 (by decide +kernel) rfl
theorem my_Fo_hoursToMeet : okY y_Fo_hoursToMeet 2 := ⟨by decide +kernel, by decide +kernel, by decide +kernel⟩
theorem mc_Cn_hoursOfAll : Cond.code y_Cn_hoursOfAll prog_2_method_9_code 5 (some .int) ∈ GW := gw_in 1284 (by decide +kernel) rfl
theorem my_Cn_hoursOfAll : okY y_Cn_hoursOfAll 1 := ⟨by decide +kernel, by decide +kernel, by decide +kernel⟩
theorem mc_Cn_gathering : Cond.code y_Cn_gathering prog_2_method_8_code 6 (some .int) ∈ GW := gw_in 1279 (by decide +kernel) rfl
theorem my_Cn_gathering : okY y_Cn_gathering 1 := ⟨by decide +kernel, by decide +kernel, by decide +kernel⟩
theorem mc_Fo_hoursToDry : Cond.code y_Fo_hoursToDry prog_4_method_7_code 3 (some .int) ∈ GW := gw_in 1302 (by decide +kernel) rfl
theorem my_Fo_hoursToDry : okY y_Fo_hoursToDry 1 := ⟨by decide +kernel, by decide +kernel, by decide +kernel⟩
theorem mc_Se_addSight : Cond.code y_Se_addSight prog_10_method_3_code 5 (some .int) ∈ GW := gw_in 1310 (by decide +kernel) rfl
theorem my_Se_addSight : okY y_Se_addSight 4 := ⟨by decide +kernel, by decide +kernel, by decide +kernel⟩
theorem mc_Se_addStrike : Cond.code y_Se_addStrike prog_10_method_4_code 2 (some .int) ∈ GW := gw_in 1318 (by decide +kernel) rfl
theorem my_Se_addStrike : okY y_Se_addStrike 1 := ⟨by decide +kernel, by decide +kernel, by decide +kernel⟩
theorem mc_Se_knowBy : Cond.code y_Se_knowBy prog_10_method_5_code 2 (some .boolean) ∈ GW := gw_in 1326 (by decide +kernel) rfl
theorem my_Se_knowBy : okY y_Se_knowBy 1 := ⟨by decide +kernel, by decide +kernel, by decide +kernel⟩
theorem mc_Se_manyKnown : Cond.code y_Se_manyKnown prog_10_method_6_code 1 (some .int) ∈ GW := gw_in 1338 (by decide +kernel) rfl
theorem my_Se_manyKnown : okY y_Se_manyKnown 0 := ⟨by decide +kernel, by decide +kernel, by decide +kernel⟩
theorem mc_Se_counts : Cond.code y_Se_counts prog_10_method_8_code 2 (some .boolean) ∈ GW := gw_in 1351 (by decide +kernel) rfl
theorem my_Se_counts : okY y_Se_counts 1 := ⟨by decide +kernel, by decide +kernel, by decide +kernel⟩
theorem mc_Se_fits : Cond.code y_Se_fits prog_10_method_10_code 3 (some .boolean) ∈ GW := gw_in 1356 (by decide +kernel) rfl
theorem my_Se_fits : okY y_Se_fits 1 := ⟨by decide +kernel, by decide +kernel, by decide +kernel⟩
theorem mc_Se_lastHour : Cond.code y_Se_lastHour prog_10_method_9_code 3 (some .int) ∈ GW := gw_in 1347 (by decide +kernel) rfl
theorem my_Se_lastHour : okY y_Se_lastHour 0 := ⟨by decide +kernel, by decide +kernel, by decide +kernel⟩
theorem mc_Fo_agrees : Cond.code y_Fo_agrees prog_4_method_14_code 6 (some .boolean) ∈ GW := gw_in 1342 (by decide +kernel) rfl
theorem my_Fo_agrees : okY y_Fo_agrees 3 := ⟨by decide +kernel, by decide +kernel, by decide +kernel⟩
theorem mc_Se_markStruck : Cond.code y_Se_markStruck prog_10_method_7_code 2 none ∈ GW := gw_in 1334 (by decide +kernel) rfl
theorem my_Se_markStruck : okY y_Se_markStruck 0 := ⟨by decide +kernel, by decide +kernel, by decide +kernel⟩
theorem mc_Fo_timesOfTen : Cond.code y_Fo_timesOfTen prog_4_method_13_code 9 (some .int) ∈ GW := gw_in 1364 (by decide +kernel) rfl
theorem my_Fo_timesOfTen : okY y_Fo_timesOfTen 4 := ⟨by decide +kernel, by decide +kernel, by decide +kernel⟩
theorem mc_Ho_withoutRain : Cond.code y_Ho_withoutRain prog_5_method_4_code 1 none ∈ GW := gw_in 1377 (by decide +kernel) rfl
theorem my_Ho_withoutRain : okY y_Ho_withoutRain 0 := ⟨by decide +kernel, by decide +kernel, by decide +kernel⟩
theorem mc_Ho_withoutDrinking : Cond.code y_Ho_withoutDrinking prog_5_method_5_code 1 none ∈ GW := gw_in 1381 (by decide +kernel) rfl
theorem my_Ho_withoutDrinking : okY y_Ho_withoutDrinking 0 := ⟨by decide +kernel, by decide +kernel, by decide +kernel⟩
theorem mc_Ho_withTwicePace : Cond.code y_Ho_withTwicePace prog_5_method_6_code 1 none ∈ GW := gw_in 1386 (by decide +kernel) rfl
theorem my_Ho_withTwicePace : okY y_Ho_withTwicePace 0 := ⟨by decide +kernel, by decide +kernel, by decide +kernel⟩
theorem mc_Fo_fightsOtherwise : Cond.code y_Fo_fightsOtherwise prog_4_method_12_code 4 (some .int) ∈ GW := gw_in 1373 (by decide +kernel) rfl
theorem my_Fo_fightsOtherwise : okY y_Fo_fightsOtherwise 3 := ⟨by decide +kernel, by decide +kernel, by decide +kernel⟩
theorem mc_De_undoLatest : Cond.code y_De_undoLatest prog_3_method_7_code 2 (some .int) ∈ GW := gw_in 1394 (by decide +kernel) rfl
theorem my_De_undoLatest : okY y_De_undoLatest 1 := ⟨by decide +kernel, by decide +kernel, by decide +kernel⟩
theorem mc_Tt_waterInAll : Cond.code y_Tt_waterInAll prog_1_method_49_code 3 (some .int) ∈ GW := gw_in 1411 (by decide +kernel) rfl
theorem my_Tt_waterInAll : okY y_Tt_waterInAll 0 := ⟨by decide +kernel, by decide +kernel, by decide +kernel⟩
theorem mc_Md_isDigit : Cond.code y_Md_isDigit prog_14_method_9_code 2 (some .boolean) ∈ GW := gw_in 1812 (by decide +kernel) rfl
theorem mi_12 : Cond.initialized RC12 ∈ GW := gw_in 131 (by decide +kernel) rfl
theorem my_Md_isDigit : okY y_Md_isDigit 1 := ⟨by decide +kernel, by decide +kernel, by decide +kernel⟩
theorem mc_Md_packed : Cond.code y_Md_packed prog_14_method_12_code 5 (some .int) ∈ GW := gw_in 1808 (by decide +kernel) rfl
theorem my_Md_packed : okY y_Md_packed 2 := ⟨by decide +kernel, by decide +kernel, by decide +kernel⟩
theorem mc_Md_isSmall : Cond.code y_Md_isSmall prog_14_method_8_code 2 (some .boolean) ∈ GW := gw_in 1800 (by decide +kernel) rfl
theorem my_Md_isSmall : okY y_Md_isSmall 1 := ⟨by decide +kernel, by decide +kernel, by decide +kernel⟩
theorem mc_Md_wordAt : Cond.code y_Md_wordAt prog_14_method_7_code 8 (some .int) ∈ GW := gw_in 1804 (by decide +kernel) rfl
theorem my_Md_wordAt : okY y_Md_wordAt 2 := ⟨by decide +kernel, by decide +kernel, by decide +kernel⟩
theorem mc_Md_signToken : Cond.code y_Md_signToken prog_14_method_11_code 4 none ∈ GW := gw_in 1817 (by decide +kernel) rfl
theorem my_Md_signToken : okY y_Md_signToken 0 := ⟨by decide +kernel, by decide +kernel, by decide +kernel⟩
theorem mc_Md_isIn : Cond.code y_Md_isIn prog_14_method_4_code 3 (some .boolean) ∈ GW := gw_in 1836 (by decide +kernel) rfl
theorem my_Md_isIn : okY y_Md_isIn 3 := ⟨by decide +kernel, by decide +kernel, by decide +kernel⟩
theorem mc_Md_token : Cond.code y_Md_token prog_14_method_10_code 1 none ∈ GW := gw_in 1796 (by decide +kernel) rfl
theorem my_Md_token : okY y_Md_token 0 := ⟨by decide +kernel, by decide +kernel, by decide +kernel⟩
theorem mc_Md_wrong : Cond.code y_Md_wrong prog_14_method_6_code 2 (some .boolean) ∈ GW := gw_in 1825 (by decide +kernel) rfl
theorem my_Md_wrong : okY y_Md_wrong 1 := ⟨by decide +kernel, by decide +kernel, by decide +kernel⟩
theorem mc_Md_atFirst : Cond.code y_Md_atFirst prog_14_method_47_code 3 none ∈ GW := gw_in 1523 (by decide +kernel) rfl
theorem my_Md_atFirst : okY y_Md_atFirst 1 := ⟨by decide +kernel, by decide +kernel, by decide +kernel⟩
theorem mc_Md_plainTried : Cond.code y_Md_plainTried prog_14_method_48_code 1 none ∈ GW := gw_in 1527 (by decide +kernel) rfl
theorem my_Md_plainTried : okY y_Md_plainTried 0 := ⟨by decide +kernel, by decide +kernel, by decide +kernel⟩
theorem mc_Md_copies : Cond.code y_Md_copies prog_14_method_18_code 3 none ∈ GW := gw_in 1515 (by decide +kernel) rfl
theorem my_Md_copies : okY y_Md_copies 2 := ⟨by decide +kernel, by decide +kernel, by decide +kernel⟩
theorem mc_Md_begin : Cond.code y_Md_begin prog_14_method_46_code 1 none ∈ GW := gw_in 1519 (by decide +kernel) rfl
theorem my_Md_begin : okY y_Md_begin 0 := ⟨by decide +kernel, by decide +kernel, by decide +kernel⟩
theorem mc_Md_find : Cond.code y_Md_find prog_14_method_20_code 5 (some .int) ∈ GW := gw_in 1847 (by decide +kernel) rfl
theorem my_Md_find : okY y_Md_find 4 := ⟨by decide +kernel, by decide +kernel, by decide +kernel⟩
theorem mc_Md_number : Cond.code y_Md_number prog_14_method_15_code 3 (some .boolean) ∈ GW := gw_in 1833 (by decide +kernel) rfl
theorem my_Md_number : okY y_Md_number 2 := ⟨by decide +kernel, by decide +kernel, by decide +kernel⟩
theorem mc_Md_newName : Cond.code y_Md_newName prog_14_method_21_code 4 (some .boolean) ∈ GW := gw_in 1844 (by decide +kernel) rfl
theorem my_Md_newName : okY y_Md_newName 3 := ⟨by decide +kernel, by decide +kernel, by decide +kernel⟩
theorem mc_Md_thereIn : Cond.code y_Md_thereIn prog_14_method_22_code 5 (some .boolean) ∈ GW := gw_in 1859 (by decide +kernel) rfl
theorem my_Md_thereIn : okY y_Md_thereIn 3 := ⟨by decide +kernel, by decide +kernel, by decide +kernel⟩
theorem mc_Md_grown : Cond.code y_Md_grown prog_14_method_33_code 4 none ∈ GW := gw_in 1895 (by decide +kernel) rfl
theorem my_Md_grown : okY y_Md_grown 3 := ⟨by decide +kernel, by decide +kernel, by decide +kernel⟩
theorem mc_Md_isCounted : Cond.code y_Md_isCounted prog_14_method_36_code 1 (some .boolean) ∈ GW := gw_in 1887 (by decide +kernel) rfl
theorem my_Md_isCounted : okY y_Md_isCounted 0 := ⟨by decide +kernel, by decide +kernel, by decide +kernel⟩
theorem mc_Md_nameMet : Cond.code y_Md_nameMet prog_14_method_38_code 1 (some .int) ∈ GW := gw_in 1891 (by decide +kernel) rfl
theorem my_Md_nameMet : okY y_Md_nameMet 0 := ⟨by decide +kernel, by decide +kernel, by decide +kernel⟩
theorem mc_Md_isSign : Cond.code y_Md_isSign prog_14_method_14_code 2 (some .boolean) ∈ GW := gw_in 1871 (by decide +kernel) rfl
theorem my_Md_isSign : okY y_Md_isSign 1 := ⟨by decide +kernel, by decide +kernel, by decide +kernel⟩
theorem mc_Md_isKey : Cond.code y_Md_isKey prog_14_method_13_code 2 (some .boolean) ∈ GW := gw_in 1883 (by decide +kernel) rfl
theorem my_Md_isKey : okY y_Md_isKey 1 := ⟨by decide +kernel, by decide +kernel, by decide +kernel⟩
theorem mc_Md_waitsFor : Cond.code y_Md_waitsFor prog_14_method_37_code 2 none ∈ GW := gw_in 1879 (by decide +kernel) rfl
theorem my_Md_waitsFor : okY y_Md_waitsFor 1 := ⟨by decide +kernel, by decide +kernel, by decide +kernel⟩
theorem mc_Md_dropHeld : Cond.code y_Md_dropHeld prog_14_method_34_code 1 (some .int) ∈ GW := gw_in 1910 (by decide +kernel) rfl
theorem my_Md_dropHeld : okY y_Md_dropHeld 0 := ⟨by decide +kernel, by decide +kernel, by decide +kernel⟩
theorem mc_Md_rank : Cond.code y_Md_rank prog_14_method_32_code 1 (some .int) ∈ GW := gw_in 1906 (by decide +kernel) rfl
theorem my_Md_rank : okY y_Md_rank 1 := ⟨by decide +kernel, by decide +kernel, by decide +kernel⟩
theorem mc_Md_bind : Cond.code y_Md_bind prog_14_method_35_code 5 none ∈ GW := gw_in 1903 (by decide +kernel) rfl
theorem my_Md_bind : okY y_Md_bind 1 := ⟨by decide +kernel, by decide +kernel, by decide +kernel⟩
theorem mc_Md_signs : Cond.code y_Md_signs prog_14_method_40_code 2 (some .boolean) ∈ GW := gw_in 1899 (by decide +kernel) rfl
theorem my_Md_signs : okY y_Md_signs 0 := ⟨by decide +kernel, by decide +kernel, by decide +kernel⟩
theorem mc_Md_leafRead : Cond.code y_Md_leafRead prog_14_method_39_code 2 (some .boolean) ∈ GW := gw_in 1875 (by decide +kernel) rfl
theorem my_Md_leafRead : okY y_Md_leafRead 0 := ⟨by decide +kernel, by decide +kernel, by decide +kernel⟩
theorem mc_Md_roadLine : Cond.code y_Md_roadLine prog_14_method_23_code 1 (some .boolean) ∈ GW := gw_in 1829 (by decide +kernel) rfl
theorem my_Md_roadLine : okY y_Md_roadLine 0 := ⟨by decide +kernel, by decide +kernel, by decide +kernel⟩
theorem mc_Md_troughLine : Cond.code y_Md_troughLine prog_14_method_24_code 3 (some .boolean) ∈ GW := gw_in 1840 (by decide +kernel) rfl
theorem my_Md_troughLine : okY y_Md_troughLine 0 := ⟨by decide +kernel, by decide +kernel, by decide +kernel⟩
theorem mc_Md_horseLine : Cond.code y_Md_horseLine prog_14_method_25_code 2 (some .boolean) ∈ GW := gw_in 1851 (by decide +kernel) rfl
theorem my_Md_horseLine : okY y_Md_horseLine 0 := ⟨by decide +kernel, by decide +kernel, by decide +kernel⟩
theorem mc_Md_lapLine : Cond.code y_Md_lapLine prog_14_method_26_code 2 (some .boolean) ∈ GW := gw_in 1855 (by decide +kernel) rfl
theorem my_Md_lapLine : okY y_Md_lapLine 0 := ⟨by decide +kernel, by decide +kernel, by decide +kernel⟩
theorem mc_Md_onceLine : Cond.code y_Md_onceLine prog_14_method_27_code 3 (some .boolean) ∈ GW := gw_in 1863 (by decide +kernel) rfl
theorem my_Md_onceLine : okY y_Md_onceLine 2 := ⟨by decide +kernel, by decide +kernel, by decide +kernel⟩
theorem mc_Md_sumRead : Cond.code y_Md_sumRead prog_14_method_41_code 1 (some .boolean) ∈ GW := gw_in 1867 (by decide +kernel) rfl
theorem my_Md_sumRead : okY y_Md_sumRead 0 := ⟨by decide +kernel, by decide +kernel, by decide +kernel⟩
theorem mc_Md_keepText : Cond.code y_Md_keepText prog_14_method_19_code 2 none ∈ GW := gw_in 1512 (by decide +kernel) rfl
theorem my_Md_keepText : okY y_Md_keepText 0 := ⟨by decide +kernel, by decide +kernel, by decide +kernel⟩
theorem mc_Md_lineRead : Cond.code y_Md_lineRead prog_14_method_28_code 3 (some .boolean) ∈ GW := gw_in 1821 (by decide +kernel) rfl
theorem my_Md_lineRead : okY y_Md_lineRead 0 := ⟨by decide +kernel, by decide +kernel, by decide +kernel⟩
theorem mc_Md_plain : Cond.code y_Md_plain prog_14_method_17_code 2 none ∈ GW := gw_in 1508 (by decide +kernel) rfl
theorem my_Md_plain : okY y_Md_plain 0 := ⟨by decide +kernel, by decide +kernel, by decide +kernel⟩
theorem mc_Md_compares : Cond.code y_Md_compares prog_14_method_43_code 5 (some .boolean) ∈ GW := gw_in 1983 (by decide +kernel) rfl
theorem my_Md_compares : okY y_Md_compares 3 := ⟨by decide +kernel, by decide +kernel, by decide +kernel⟩
theorem mc_Md_bounded : Cond.code y_Md_bounded prog_14_method_42_code 3 (some .long) ∈ GW := gw_in 1974 (by decide +kernel) rfl
theorem my_Md_bounded : okY y_Md_bounded 1 := ⟨by decide +kernel, by decide +kernel, by decide +kernel⟩
theorem mc_Md_times : Cond.code y_Md_times prog_14_method_44_code 6 (some .long) ∈ GW := gw_in 1980 (by decide +kernel) rfl
theorem my_Md_times : okY y_Md_times 2 := ⟨by decide +kernel, by decide +kernel, by decide +kernel⟩
theorem mc_Md_sizeOf : Cond.code y_Md_sizeOf prog_14_method_52_code 1 (some .int) ∈ GW := gw_in 1962 (by decide +kernel) rfl
theorem my_Md_sizeOf : okY y_Md_sizeOf 1 := ⟨by decide +kernel, by decide +kernel, by decide +kernel⟩
theorem mc_Md_farOf : Cond.code y_Md_farOf prog_14_method_55_code 3 (some .int) ∈ GW := gw_in 1959 (by decide +kernel) rfl
theorem my_Md_farOf : okY y_Md_farOf 2 := ⟨by decide +kernel, by decide +kernel, by decide +kernel⟩
theorem mc_Md_troughAt : Cond.code y_Md_troughAt prog_14_method_54_code 2 (some .int) ∈ GW := gw_in 1951 (by decide +kernel) rfl
theorem my_Md_troughAt : okY y_Md_troughAt 1 := ⟨by decide +kernel, by decide +kernel, by decide +kernel⟩
theorem mc_Md_paceOf : Cond.code y_Md_paceOf prog_14_method_53_code 2 (some .int) ∈ GW := gw_in 1955 (by decide +kernel) rfl
theorem my_Md_paceOf : okY y_Md_paceOf 1 := ⟨by decide +kernel, by decide +kernel, by decide +kernel⟩
theorem mc_Md_valueOf : Cond.code y_Md_valueOf prog_14_method_45_code 6 (some .long) ∈ GW := gw_in 1970 (by decide +kernel) rfl
theorem my_Md_valueOf : okY y_Md_valueOf 1 := ⟨by decide +kernel, by decide +kernel, by decide +kernel⟩
theorem mc_Md_layNames : Cond.code y_Md_layNames prog_14_method_56_code 5 none ∈ GW := gw_in 1947 (by decide +kernel) rfl
theorem my_Md_layNames : okY y_Md_layNames 2 := ⟨by decide +kernel, by decide +kernel, by decide +kernel⟩
theorem mc_Md_lawOf : Cond.code y_Md_lawOf prog_14_method_57_code 3 (some .long) ∈ GW := gw_in 1966 (by decide +kernel) rfl
theorem my_Md_lawOf : okY y_Md_lawOf 1 := ⟨by decide +kernel, by decide +kernel, by decide +kernel⟩
theorem mc_Md_number1 : Cond.code y_Md_number1 prog_14_method_59_code 2 (some .int) ∈ GW := gw_in 2040 (by decide +kernel) rfl
theorem my_Md_number1 : okY y_Md_number1 1 := ⟨by decide +kernel, by decide +kernel, by decide +kernel⟩
theorem mc_Md_boundLaw : Cond.code y_Md_boundLaw prog_14_method_58_code 7 (some .int) ∈ GW := gw_in 2019 (by decide +kernel) rfl
theorem my_Md_boundLaw : okY y_Md_boundLaw 4 := ⟨by decide +kernel, by decide +kernel, by decide +kernel⟩
theorem mc_Md_more : Cond.code y_Md_more prog_14_method_63_code 3 (some .int) ∈ GW := gw_in 2032 (by decide +kernel) rfl
theorem my_Md_more : okY y_Md_more 2 := ⟨by decide +kernel, by decide +kernel, by decide +kernel⟩
theorem mc_Md_isRain : Cond.code y_Md_isRain prog_14_method_60_code 1 (some .boolean) ∈ GW := gw_in 2036 (by decide +kernel) rfl
theorem my_Md_isRain : okY y_Md_isRain 0 := ⟨by decide +kernel, by decide +kernel, by decide +kernel⟩
theorem mc_Md_meets : Cond.code y_Md_meets prog_14_method_64_code 7 none ∈ GW := gw_in 2028 (by decide +kernel) rfl
theorem my_Md_meets : okY y_Md_meets 3 := ⟨by decide +kernel, by decide +kernel, by decide +kernel⟩
theorem mc_Md_drinks : Cond.code y_Md_drinks prog_14_method_62_code 6 none ∈ GW := gw_in 2024 (by decide +kernel) rfl
theorem my_Md_drinks : okY y_Md_drinks 2 := ⟨by decide +kernel, by decide +kernel, by decide +kernel⟩
theorem mc_Md_walks : Cond.code y_Md_walks prog_14_method_61_code 6 none ∈ GW := gw_in 2015 (by decide +kernel) rfl
theorem my_Md_walks : okY y_Md_walks 2 := ⟨by decide +kernel, by decide +kernel, by decide +kernel⟩
theorem mc_Md_hourGoes : Cond.code y_Md_hourGoes prog_14_method_65_code 4 none ∈ GW := gw_in 2011 (by decide +kernel) rfl
theorem my_Md_hourGoes : okY y_Md_hourGoes 1 := ⟨by decide +kernel, by decide +kernel, by decide +kernel⟩
theorem mc_Md_isHorse : Cond.code y_Md_isHorse prog_14_method_51_code 2 (some .boolean) ∈ GW := gw_in 1926 (by decide +kernel) rfl
theorem my_Md_isHorse : okY y_Md_isHorse 1 := ⟨by decide +kernel, by decide +kernel, by decide +kernel⟩
theorem mc_Md_fails : Cond.code y_Md_fails prog_14_method_68_code 2 (some .int) ∈ GW := gw_in 1930 (by decide +kernel) rfl
theorem my_Md_fails : okY y_Md_fails 1 := ⟨by decide +kernel, by decide +kernel, by decide +kernel⟩
theorem mc_Md_isTrough : Cond.code y_Md_isTrough prog_14_method_50_code 2 (some .boolean) ∈ GW := gw_in 1938 (by decide +kernel) rfl
theorem my_Md_isTrough : okY y_Md_isTrough 1 := ⟨by decide +kernel, by decide +kernel, by decide +kernel⟩
theorem mc_Md_put : Cond.code y_Md_put prog_14_method_113_code 4 none ∈ GW := gw_in 1995 (by decide +kernel) rfl
theorem my_Md_put : okY y_Md_put 2 := ⟨by decide +kernel, by decide +kernel, by decide +kernel⟩
theorem mc_Md_remember : Cond.code y_Md_remember prog_14_method_115_code 2 none ∈ GW := gw_in 1991 (by decide +kernel) rfl
theorem my_Md_remember : okY y_Md_remember 0 := ⟨by decide +kernel, by decide +kernel, by decide +kernel⟩
theorem mc_Md_layTried : Cond.code y_Md_layTried prog_14_method_49_code 2 none ∈ GW := gw_in 2052 (by decide +kernel) rfl
theorem my_Md_layTried : okY y_Md_layTried 0 := ⟨by decide +kernel, by decide +kernel, by decide +kernel⟩
theorem mc_Md_goMany : Cond.code y_Md_goMany prog_14_method_66_code 3 none ∈ GW := gw_in 2056 (by decide +kernel) rfl
theorem my_Md_goMany : okY y_Md_goMany 1 := ⟨by decide +kernel, by decide +kernel, by decide +kernel⟩
theorem mc_Md_onMany : Cond.code y_Md_onMany prog_14_method_67_code 4 (some .int) ∈ GW := gw_in 2060 (by decide +kernel) rfl
theorem my_Md_onMany : okY y_Md_onMany 1 := ⟨by decide +kernel, by decide +kernel, by decide +kernel⟩
theorem mc_Md_areTwo : Cond.code y_Md_areTwo prog_14_method_95_code 3 (some .boolean) ∈ GW := gw_in 2076 (by decide +kernel) rfl
theorem my_Md_areTwo : okY y_Md_areTwo 2 := ⟨by decide +kernel, by decide +kernel, by decide +kernel⟩
theorem mc_Md_isOf : Cond.code y_Md_isOf prog_14_method_5_code 2 (some .boolean) ∈ GW := gw_in 2090 (by decide +kernel) rfl
theorem my_Md_isOf : okY y_Md_isOf 2 := ⟨by decide +kernel, by decide +kernel, by decide +kernel⟩
theorem mc_Md_manyOf : Cond.code y_Md_manyOf prog_14_method_81_code 3 (some .int) ∈ GW := gw_in 2087 (by decide +kernel) rfl
theorem my_Md_manyOf : okY y_Md_manyOf 1 := ⟨by decide +kernel, by decide +kernel, by decide +kernel⟩
theorem mc_Md_legOf : Cond.code y_Md_legOf prog_14_method_83_code 4 (some .int) ∈ GW := gw_in 2098 (by decide +kernel) rfl
theorem my_Md_legOf : okY y_Md_legOf 3 := ⟨by decide +kernel, by decide +kernel, by decide +kernel⟩
theorem mc_Md_isCovered : Cond.code y_Md_isCovered prog_14_method_86_code 6 (some .boolean) ∈ GW := gw_in 2110 (by decide +kernel) rfl
theorem my_Md_isCovered : okY y_Md_isCovered 2 := ⟨by decide +kernel, by decide +kernel, by decide +kernel⟩
theorem mc_Md_hasBy : Cond.code y_Md_hasBy prog_14_method_93_code 5 (some .int) ∈ GW := gw_in 2142 (by decide +kernel) rfl
theorem my_Md_hasBy : okY y_Md_hasBy 4 := ⟨by decide +kernel, by decide +kernel, by decide +kernel⟩
theorem mc_Md_restAt : Cond.code y_Md_restAt prog_14_method_94_code 8 (some .int) ∈ GW := gw_in 2138 (by decide +kernel) rfl
theorem my_Md_restAt : okY y_Md_restAt 3 := ⟨by decide +kernel, by decide +kernel, by decide +kernel⟩
theorem mc_Md_noted : Cond.code y_Md_noted prog_14_method_103_code 5 (some .int) ∈ GW := gw_in 2176 (by decide +kernel) rfl
theorem my_Md_noted : okY y_Md_noted 4 := ⟨by decide +kernel, by decide +kernel, by decide +kernel⟩
theorem mc_Md_knownBy : Cond.code y_Md_knownBy prog_14_method_107_code 1 (some .int) ∈ GW := gw_in 2192 (by decide +kernel) rfl
theorem my_Md_knownBy : okY y_Md_knownBy 0 := ⟨by decide +kernel, by decide +kernel, by decide +kernel⟩
theorem mc_Md_isSo : Cond.code y_Md_isSo prog_14_method_108_code 3 (some .boolean) ∈ GW := gw_in 2200 (by decide +kernel) rfl
theorem my_Md_isSo : okY y_Md_isSo 1 := ⟨by decide +kernel, by decide +kernel, by decide +kernel⟩
theorem mc_Md_fits : Cond.code y_Md_fits prog_14_method_109_code 4 (some .boolean) ∈ GW := gw_in 2196 (by decide +kernel) rfl
theorem my_Md_fits : okY y_Md_fits 2 := ⟨by decide +kernel, by decide +kernel, by decide +kernel⟩
theorem mc_Md_take : Cond.code y_Md_take prog_14_method_114_code 4 none ∈ GW := gw_in 2216 (by decide +kernel) rfl
theorem my_Md_take : okY y_Md_take 2 := ⟨by decide +kernel, by decide +kernel, by decide +kernel⟩
theorem fk_0_0 : fkind 0 0 = some 21 := by decide
theorem fk_6_3 : fkind 6 3 = some 20 := by decide
theorem fk_6_4 : fkind 6 4 = some 20 := by decide
theorem fk_7_10 : fkind 7 10 = some 20 := by decide
theorem fk_7_19 : fkind 7 19 = some 6 := by decide
theorem fk_8_5 : fkind 8 5 = some 20 := by decide
theorem fk_8_4 : fkind 8 4 = some 21 := by decide
theorem fk_10_3 : fkind 10 3 = some 8 := by decide
theorem fk_10_0 : fkind 10 0 = some 7 := by decide
theorem fk_7_7 : fkind 7 7 = some 20 := by decide
theorem fk_7_8 : fkind 7 8 = some 20 := by decide
theorem fk_7_9 : fkind 7 9 = some 20 := by decide
theorem fk_7_6 : fkind 7 6 = some 20 := by decide
theorem fk_7_12 : fkind 7 12 = some 20 := by decide
theorem fk_7_13 : fkind 7 13 = some 20 := by decide
theorem fk_7_14 : fkind 7 14 = some 20 := by decide
theorem fk_7_15 : fkind 7 15 = some 20 := by decide
theorem fk_7_11 : fkind 7 11 = some 20 := by decide
theorem fk_7_16 : fkind 7 16 = some 20 := by decide
theorem fk_7_17 : fkind 7 17 = some 20 := by decide
theorem fk_7_18 : fkind 7 18 = some 20 := by decide
theorem fk_6_2 : fkind 6 2 = some 20 := by decide
theorem fk_5_2 : fkind 5 2 = some 20 := by decide
theorem fk_5_1 : fkind 5 1 = some 6 := by decide
theorem fk_5_0 : fkind 5 0 = some 8 := by decide
theorem fk_10_4 : fkind 10 4 = some 5 := by decide
theorem fk_11_9 : fkind 11 9 = some 20 := by decide
theorem fk_11_10 : fkind 11 10 = some 20 := by decide
theorem fk_11_11 : fkind 11 11 = some 20 := by decide
theorem fk_11_12 : fkind 11 12 = some 20 := by decide
theorem fk_11_13 : fkind 11 13 = some 20 := by decide
theorem fk_11_14 : fkind 11 14 = some 20 := by decide
theorem fk_0_2 : fkind 0 2 = some 10 := by decide
theorem fk_0_3 : fkind 0 3 = some 7 := by decide
theorem fk_0_4 : fkind 0 4 = some 11 := by decide
theorem fk_0_7 : fkind 0 7 = some 2 := by decide
theorem fk_0_8 : fkind 0 8 = some 9 := by decide
theorem fk_4_0 : fkind 4 0 = some 7 := by decide
theorem fk_4_1 : fkind 4 1 = some 20 := by decide
theorem fk_6_5 : fkind 6 5 = some 23 := by decide
theorem fk_0_9 : fkind 0 9 = some 4 := by decide
theorem fk_2_1 : fkind 2 1 = some 20 := by decide
theorem fk_2_2 : fkind 2 2 = some 20 := by decide
theorem fk_2_3 : fkind 2 3 = some 20 := by decide
theorem fk_2_4 : fkind 2 4 = some 20 := by decide
theorem fk_2_5 : fkind 2 5 = some 20 := by decide
theorem fk_3_3 : fkind 3 3 = some 11 := by decide
theorem fk_3_1 : fkind 3 1 = some 11 := by decide
theorem fk_3_2 : fkind 3 2 = some 4 := by decide
theorem fk_0_10 : fkind 0 10 = some 3 := by decide
theorem fk_3_4 : fkind 3 4 = some 11 := by decide
theorem fk_3_0 : fkind 3 0 = some 7 := by decide
theorem fk_3_5 : fkind 3 5 = some 20 := by decide
theorem fk_1_0 : fkind 1 0 = some 7 := by decide
theorem fk_1_3 : fkind 1 3 = some 20 := by decide
theorem fk_1_1 : fkind 1 1 = some 11 := by decide
theorem fk_1_2 : fkind 1 2 = some 20 := by decide
theorem fk_0_11 : fkind 0 11 = some 1 := by decide
theorem fk_9_2 : fkind 9 2 = some 20 := by decide
theorem fk_9_3 : fkind 9 3 = some 20 := by decide
theorem fk_9_4 : fkind 9 4 = some 20 := by decide
theorem fk_9_5 : fkind 9 5 = some 22 := by decide
theorem fk_9_6 : fkind 9 6 = some 20 := by decide
theorem fk_9_7 : fkind 9 7 = some 22 := by decide
theorem fk_0_5 : fkind 0 5 = some 11 := by decide
theorem fk_12_0 : fkind 12 0 = some 20 := by decide
theorem fk_12_3 : fkind 12 3 = some 20 := by decide
theorem fk_12_37 : fkind 12 37 = some 22 := by decide
theorem fk_12_23 : fkind 12 23 = some 22 := by decide
theorem fk_12_24 : fkind 12 24 = some 20 := by decide
theorem fk_12_61 : fkind 12 61 = some 20 := by decide
theorem fk_12_62 : fkind 12 62 = some 20 := by decide
theorem fk_12_63 : fkind 12 63 = some 20 := by decide
theorem fk_12_64 : fkind 12 64 = some 20 := by decide
theorem fk_12_65 : fkind 12 65 = some 20 := by decide
theorem fk_12_66 : fkind 12 66 = some 20 := by decide
theorem fk_12_60 : fkind 12 60 = some 20 := by decide
theorem fk_12_27 : fkind 12 27 = some 20 := by decide
theorem fk_12_54 : fkind 12 54 = some 20 := by decide
theorem fk_12_31 : fkind 12 31 = some 20 := by decide
theorem fk_12_55 : fkind 12 55 = some 20 := by decide
theorem fk_12_32 : fkind 12 32 = some 20 := by decide
theorem fk_12_56 : fkind 12 56 = some 20 := by decide
theorem fk_12_57 : fkind 12 57 = some 20 := by decide
theorem fk_12_58 : fkind 12 58 = some 22 := by decide
theorem fk_12_59 : fkind 12 59 = some 20 := by decide
theorem fk_12_38 : fkind 12 38 = some 20 := by decide
theorem fk_12_39 : fkind 12 39 = some 20 := by decide
theorem fk_12_40 : fkind 12 40 = some 20 := by decide
theorem fk_12_41 : fkind 12 41 = some 20 := by decide
theorem fk_12_42 : fkind 12 42 = some 20 := by decide
theorem fk_12_25 : fkind 12 25 = some 20 := by decide
theorem fk_12_26 : fkind 12 26 = some 20 := by decide
theorem fk_12_28 : fkind 12 28 = some 20 := by decide
theorem fk_12_29 : fkind 12 29 = some 20 := by decide
theorem fk_12_30 : fkind 12 30 = some 20 := by decide
theorem fk_12_33 : fkind 12 33 = some 20 := by decide
theorem fk_12_34 : fkind 12 34 = some 20 := by decide
theorem fk_12_35 : fkind 12 35 = some 20 := by decide
theorem fk_12_36 : fkind 12 36 = some 20 := by decide
theorem fk_12_43 : fkind 12 43 = some 20 := by decide
theorem fk_12_44 : fkind 12 44 = some 20 := by decide
theorem fk_12_52 : fkind 12 52 = some 23 := by decide
theorem fk_12_51 : fkind 12 51 = some 23 := by decide
theorem fk_12_79 : fkind 12 79 = some 20 := by decide
theorem fk_12_73 : fkind 12 73 = some 20 := by decide
theorem fk_12_76 : fkind 12 76 = some 20 := by decide
theorem fk_12_77 : fkind 12 77 = some 22 := by decide
theorem fk_12_82 : fkind 12 82 = some 20 := by decide
theorem fk_12_81 : fkind 12 81 = some 20 := by decide
theorem si_700 : (Int16.ofInt (700)).toInt32 = (700 : Int32) := by decide
theorem ly_0_0 {tb : Tb} (ok : TbOK tb) {c : Nat} (hk : kd tb c = 0) : kd tb (lay tb c 0) = 21 := (lay_ok ok hk (by decide) 0 fk_0_0).2
theorem ic_1 : Int32.ofInt (1) = (1 : Int32) := by decide
theorem ic_m8 : Int32.ofInt (-8) = (-8 : Int32) := by decide
theorem bi_24 : (Int8.ofInt (24)).toInt32 = (24 : Int32) := by decide
theorem bi_20 : (Int8.ofInt (20)).toInt32 = (20 : Int32) := by decide
theorem ml_0_93 : ML RC0 93 y_Tt_putFour prog_1_method_3_code 3 none 1 := ⟨gw_in 737 (by decide +kernel) rfl, mi_0, mc_Tt_putFour, my_Tt_putFour⟩
theorem mv_Tt_putFour : MV y_Tt_putFour := ⟨gw_in 739 (by decide +kernel) rfl, gw_in 0 (by decide +kernel) rfl⟩
theorem ic_m1 : Int32.ofInt (-1) = (-1 : Int32) := by decide
theorem ic_0 : Int32.ofInt (0) = (0 : Int32) := by decide
theorem ly_6_3 {tb : Tb} (ok : TbOK tb) {c : Nat} (hk : kd tb c = 6) : kd tb (lay tb c 3) = 20 := (lay_ok ok hk (by decide) 3 fk_6_3).2
theorem ml_6_32 : ML RC6 32 y_Ar_fill prog_30_method_103_code 4 none 2 := ⟨gw_in 199 (by decide +kernel) rfl, mi_Ar, mc_Ar_fill, my_Ar_fill⟩
theorem ms_Ar_fill : Cond.static y_Ar_fill ∈ GW := gw_in 193 (by decide +kernel) rfl
theorem ly_6_4 {tb : Tb} (ok : TbOK tb) {c : Nat} (hk : kd tb c = 6) : kd tb (lay tb c 4) = 20 := (lay_ok ok hk (by decide) 4 fk_6_4).2
theorem ly_7_10 {tb : Tb} (ok : TbOK tb) {c : Nat} (hk : kd tb c = 7) : kd tb (lay tb c 10) = 20 := (lay_ok ok hk (by decide) 10 fk_7_10).2
theorem ml_7_80 : ML RC7 80 y_Ar_fill prog_30_method_103_code 4 none 2 := ⟨gw_in 192 (by decide +kernel) rfl, mi_Ar, mc_Ar_fill, my_Ar_fill⟩
theorem ly_7_19 {tb : Tb} (ok : TbOK tb) {c : Nat} (hk : kd tb c = 7) : kd tb (lay tb c 19) = 6 := (lay_ok ok hk (by decide) 19 fk_7_19).2
theorem ml_7_86 : ML RC7 86 y_La_clear prog_7_method_2_code 1 none 0 := ⟨gw_in 195 (by decide +kernel) rfl, mi_6, mc_La_clear, my_La_clear⟩
theorem mv_La_clear : MV y_La_clear := ⟨gw_in 196 (by decide +kernel) rfl, gw_in 197 (by decide +kernel) rfl⟩
theorem bi_97 : (Int8.ofInt (97)).toInt32 = (97 : Int32) := by decide
theorem bi_122 : (Int8.ofInt (122)).toInt32 = (122 : Int32) := by decide
theorem bi_6 : (Int8.ofInt (6)).toInt32 = (6 : Int32) := by decide
theorem ic_5 : Int32.ofInt (5) = (5 : Int32) := by decide
theorem ly_8_5 {tb : Tb} (ok : TbOK tb) {c : Nat} (hk : kd tb c = 8) : kd tb (lay tb c 5) = 20 := (lay_ok ok hk (by decide) 5 fk_8_5).2
theorem ml_8_77 : MN RC8 77 y_Tt_find prog_1_method_7_code 4 (some .int) 3 := ⟨nw_in 766 (by decide +kernel) rfl, mi_0, mc_Tt_find, my_Tt_find⟩
theorem ms_Tt_find : Cond.static y_Tt_find ∈ GW := gw_in 767 (by decide +kernel) rfl
theorem bi_10 : (Int8.ofInt (10)).toInt32 = (10 : Int32) := by decide
theorem ic_3 : Int32.ofInt (3) = (3 : Int32) := by decide
theorem ly_8_4 {tb : Tb} (ok : TbOK tb) {c : Nat} (hk : kd tb c = 8) : kd tb (lay tb c 4) = 21 := (lay_ok ok hk (by decide) 4 fk_8_4).2
theorem ml_8_57 : ML RC8 57 y_Sc_isLetter prog_9_method_5_code 1 (some .boolean) 1 := ⟨gw_in 759 (by decide +kernel) rfl, mi_8, mc_Sc_isLetter, my_Sc_isLetter⟩
theorem ms_Sc_isLetter : Cond.static y_Sc_isLetter ∈ GW := gw_in 760 (by decide +kernel) rfl
theorem bi_48 : (Int8.ofInt (48)).toInt32 = (48 : Int32) := by decide
theorem bi_57 : (Int8.ofInt (57)).toInt32 = (57 : Int32) := by decide
theorem ml_8_64 : ML RC8 64 y_Sc_isDigit prog_9_method_6_code 1 (some .boolean) 1 := ⟨gw_in 769 (by decide +kernel) rfl, mi_8, mc_Sc_isDigit, my_Sc_isDigit⟩
theorem ms_Sc_isDigit : Cond.static y_Sc_isDigit ∈ GW := gw_in 770 (by decide +kernel) rfl
theorem kc_8_84 : Cond.constant RC8 84 (1000000 : Int32) ∈ GW := gw_in 776 (by decide +kernel) rfl
theorem mm_8_35 : Cond.methodLink RC8 35 Lib.Math.min.name ∈ GW := gw_in 754 (by decide +kernel) rfl
theorem ms_mmin : Cond.static Lib.Math.min.name ∈ GW := gw_in 690 (by decide +kernel) rfl
theorem ic_2 : Int32.ofInt (2) = (2 : Int32) := by decide
theorem bi_34 : (Int8.ofInt (34)).toInt32 = (34 : Int32) := by decide
theorem bi_36 : (Int8.ofInt (36)).toInt32 = (36 : Int32) := by decide
theorem bi_37 : (Int8.ofInt (37)).toInt32 = (37 : Int32) := by decide
theorem bi_31 : (Int8.ofInt (31)).toInt32 = (31 : Int32) := by decide
theorem bi_32 : (Int8.ofInt (32)).toInt32 = (32 : Int32) := by decide
theorem bi_41 : (Int8.ofInt (41)).toInt32 = (41 : Int32) := by decide
theorem bi_39 : (Int8.ofInt (39)).toInt32 = (39 : Int32) := by decide
theorem bi_40 : (Int8.ofInt (40)).toInt32 = (40 : Int32) := by decide
theorem bi_42 : (Int8.ofInt (42)).toInt32 = (42 : Int32) := by decide
theorem bi_30 : (Int8.ofInt (30)).toInt32 = (30 : Int32) := by decide
theorem bi_61 : (Int8.ofInt (61)).toInt32 = (61 : Int32) := by decide
theorem bi_62 : (Int8.ofInt (62)).toInt32 = (62 : Int32) := by decide
theorem bi_33 : (Int8.ofInt (33)).toInt32 = (33 : Int32) := by decide
theorem bi_35 : (Int8.ofInt (35)).toInt32 = (35 : Int32) := by decide
theorem bi_38 : (Int8.ofInt (38)).toInt32 = (38 : Int32) := by decide
theorem ml_8_70 : ML RC8 70 y_Sc_readSign prog_9_method_9_code 3 none 1 := ⟨gw_in 777 (by decide +kernel) rfl, mi_8, mc_Sc_readSign, my_Sc_readSign⟩
theorem mv_Sc_readSign : MV y_Sc_readSign := ⟨gw_in 779 (by decide +kernel) rfl, gw_in 3 (by decide +kernel) rfl⟩
theorem ml_8_67 : ML RC8 67 y_Sc_readNumber prog_9_method_8_code 1 none 0 := ⟨gw_in 772 (by decide +kernel) rfl, mi_8, mc_Sc_readNumber, my_Sc_readNumber⟩
theorem mv_Sc_readNumber : MV y_Sc_readNumber := ⟨gw_in 774 (by decide +kernel) rfl, gw_in 2 (by decide +kernel) rfl⟩
theorem ml_8_61 : ML RC8 61 y_Sc_readWord prog_9_method_7_code 4 none 0 := ⟨gw_in 762 (by decide +kernel) rfl, mi_8, mc_Sc_readWord, my_Sc_readWord⟩
theorem mv_Sc_readWord : MV y_Sc_readWord := ⟨gw_in 764 (by decide +kernel) rfl, gw_in 1 (by decide +kernel) rfl⟩
theorem ml_8_48 : ML RC8 48 y_Sc_step prog_9_method_4_code 1 none 0 := ⟨gw_in 755 (by decide +kernel) rfl, mi_8, mc_Sc_step, my_Sc_step⟩
theorem mv_Sc_step : MV y_Sc_step := ⟨gw_in 756 (by decide +kernel) rfl, gw_in 757 (by decide +kernel) rfl⟩
theorem ml_10_73 : ML RC10 73 y_Tr_fail prog_11_method_3_code 2 (some .boolean) 1 := ⟨gw_in 798 (by decide +kernel) rfl, mi_10, mc_Tr_fail, my_Tr_fail⟩
theorem mv_Tr_fail : MV y_Tr_fail := ⟨gw_in 800 (by decide +kernel) rfl, gw_in 8 (by decide +kernel) rfl⟩
theorem ly_10_3 {tb : Tb} (ok : TbOK tb) {c : Nat} (hk : kd tb c = 10) : kd tb (lay tb c 3) = 8 := (lay_ok ok hk (by decide) 3 fk_10_3).2
theorem ml_10_101 : ML RC10 101 y_Tr_isNumber prog_11_method_5_code 3 (some .boolean) 2 := ⟨gw_in 794 (by decide +kernel) rfl, mi_10, mc_Tr_isNumber, my_Tr_isNumber⟩
theorem mv_Tr_isNumber : MV y_Tr_isNumber := ⟨gw_in 796 (by decide +kernel) rfl, gw_in 7 (by decide +kernel) rfl⟩
theorem ml_10_95 : ML RC10 95 y_Sc_step prog_9_method_4_code 1 none 0 := ⟨gw_in 789 (by decide +kernel) rfl, mi_8, mc_Sc_step, my_Sc_step⟩
theorem bi_60 : (Int8.ofInt (60)).toInt32 = (60 : Int32) := by decide
theorem ml_10_112 : ML RC10 112 y_Tr_takeNumber prog_11_method_6_code 4 (some .int) 2 := ⟨gw_in 790 (by decide +kernel) rfl, mi_10, mc_Tr_takeNumber, my_Tr_takeNumber⟩
theorem mv_Tr_takeNumber : MV y_Tr_takeNumber := ⟨gw_in 792 (by decide +kernel) rfl, gw_in 6 (by decide +kernel) rfl⟩
theorem ly_10_0 {tb : Tb} (ok : TbOK tb) {c : Nat} (hk : kd tb c = 10) : kd tb (lay tb c 0) = 7 := (lay_ok ok hk (by decide) 0 fk_10_0).2
theorem ml_10_108 : MN RC10 108 y_Tt_find prog_1_method_7_code 4 (some .int) 3 := ⟨nw_in 810 (by decide +kernel) rfl, mi_0, mc_Tt_find, my_Tt_find⟩
theorem ly_7_7 {tb : Tb} (ok : TbOK tb) {c : Nat} (hk : kd tb c = 7) : kd tb (lay tb c 7) = 20 := (lay_ok ok hk (by decide) 7 fk_7_7).2
theorem ly_7_8 {tb : Tb} (ok : TbOK tb) {c : Nat} (hk : kd tb c = 7) : kd tb (lay tb c 8) = 20 := (lay_ok ok hk (by decide) 8 fk_7_8).2
theorem ly_7_9 {tb : Tb} (ok : TbOK tb) {c : Nat} (hk : kd tb c = 7) : kd tb (lay tb c 9) = 20 := (lay_ok ok hk (by decide) 9 fk_7_9).2
theorem bi_9 : (Int8.ofInt (9)).toInt32 = (9 : Int32) := by decide
theorem ly_7_6 {tb : Tb} (ok : TbOK tb) {c : Nat} (hk : kd tb c = 7) : kd tb (lay tb c 6) = 20 := (lay_ok ok hk (by decide) 6 fk_7_6).2
theorem ml_10_126 : ML RC10 126 y_Tr_isNewName prog_11_method_7_code 3 (some .boolean) 2 := ⟨gw_in 806 (by decide +kernel) rfl, mi_10, mc_Tr_isNewName, my_Tr_isNewName⟩
theorem mv_Tr_isNewName : MV y_Tr_isNewName := ⟨gw_in 808 (by decide +kernel) rfl, gw_in 10 (by decide +kernel) rfl⟩
theorem ml_10_130 : ML RC10 130 y_Pl_troughThere prog_8_method_6_code 2 (some .int) 1 := ⟨gw_in 811 (by decide +kernel) rfl, mi_7, mc_Pl_troughThere, my_Pl_troughThere⟩
theorem mv_Pl_troughThere : MV y_Pl_troughThere := ⟨gw_in 812 (by decide +kernel) rfl, gw_in 813 (by decide +kernel) rfl⟩
theorem bi_99 : (Int8.ofInt (99)).toInt32 = (99 : Int32) := by decide
theorem ly_7_12 {tb : Tb} (ok : TbOK tb) {c : Nat} (hk : kd tb c = 7) : kd tb (lay tb c 12) = 20 := (lay_ok ok hk (by decide) 12 fk_7_12).2
theorem ly_7_13 {tb : Tb} (ok : TbOK tb) {c : Nat} (hk : kd tb c = 7) : kd tb (lay tb c 13) = 20 := (lay_ok ok hk (by decide) 13 fk_7_13).2
theorem ly_7_14 {tb : Tb} (ok : TbOK tb) {c : Nat} (hk : kd tb c = 7) : kd tb (lay tb c 14) = 20 := (lay_ok ok hk (by decide) 14 fk_7_14).2
theorem ly_7_15 {tb : Tb} (ok : TbOK tb) {c : Nat} (hk : kd tb c = 7) : kd tb (lay tb c 15) = 20 := (lay_ok ok hk (by decide) 15 fk_7_15).2
theorem ly_7_11 {tb : Tb} (ok : TbOK tb) {c : Nat} (hk : kd tb c = 7) : kd tb (lay tb c 11) = 20 := (lay_ok ok hk (by decide) 11 fk_7_11).2
theorem ic_4 : Int32.ofInt (4) = (4 : Int32) := by decide
theorem ly_7_16 {tb : Tb} (ok : TbOK tb) {c : Nat} (hk : kd tb c = 7) : kd tb (lay tb c 16) = 20 := (lay_ok ok hk (by decide) 16 fk_7_16).2
theorem ly_7_17 {tb : Tb} (ok : TbOK tb) {c : Nat} (hk : kd tb c = 7) : kd tb (lay tb c 17) = 20 := (lay_ok ok hk (by decide) 17 fk_7_17).2
theorem ly_7_18 {tb : Tb} (ok : TbOK tb) {c : Nat} (hk : kd tb c = 7) : kd tb (lay tb c 18) = 20 := (lay_ok ok hk (by decide) 18 fk_7_18).2
theorem bi_12 : (Int8.ofInt (12)).toInt32 = (12 : Int32) := by decide
theorem ml_10_167 : ML RC10 167 y_Tr_takeNamed prog_11_method_8_code 4 (some .int) 2 := ⟨gw_in 823 (by decide +kernel) rfl, mi_10, mc_Tr_takeNamed, my_Tr_takeNamed⟩
theorem mv_Tr_takeNamed : MV y_Tr_takeNamed := ⟨gw_in 825 (by decide +kernel) rfl, gw_in 13 (by decide +kernel) rfl⟩
theorem bi_100 : (Int8.ofInt (100)).toInt32 = (100 : Int32) := by decide
theorem kc_10_183 : Cond.constant RC10 183 (99999 : Int32) ∈ GW := gw_in 835 (by decide +kernel) rfl
theorem ly_6_2 {tb : Tb} (ok : TbOK tb) {c : Nat} (hk : kd tb c = 6) : kd tb (lay tb c 2) = 20 := (lay_ok ok hk (by decide) 2 fk_6_2).2
theorem ly_5_2 {tb : Tb} (ok : TbOK tb) {c : Nat} (hk : kd tb c = 5) : kd tb (lay tb c 2) = 20 := (lay_ok ok hk (by decide) 2 fk_5_2).2
theorem ml_5_75 : ML RC5 75 y_Lr_strengthOf prog_6_method_10_code 1 (some .int) 1 := ⟨gw_in 856 (by decide +kernel) rfl, mi_5, mc_Lr_strengthOf, my_Lr_strengthOf⟩
theorem ms_Lr_strengthOf : Cond.static y_Lr_strengthOf ∈ GW := gw_in 857 (by decide +kernel) rfl
theorem ly_5_1 {tb : Tb} (ok : TbOK tb) {c : Nat} (hk : kd tb c = 5) : kd tb (lay tb c 1) = 6 := (lay_ok ok hk (by decide) 1 fk_5_1).2
theorem ml_5_93 : ML RC5 93 y_La_append prog_7_method_7_code 2 none 1 := ⟨gw_in 859 (by decide +kernel) rfl, mi_6, mc_La_append, my_La_append⟩
theorem mv_La_append : MV y_La_append := ⟨gw_in 860 (by decide +kernel) rfl, gw_in 861 (by decide +kernel) rfl⟩
theorem bi_64 : (Int8.ofInt (64)).toInt32 = (64 : Int32) := by decide
theorem bi_23 : (Int8.ofInt (23)).toInt32 = (23 : Int32) := by decide
theorem bi_29 : (Int8.ofInt (29)).toInt32 = (29 : Int32) := by decide
theorem ml_5_81 : ML RC5 81 y_Lr_push prog_6_method_7_code 2 (some .int) 1 := ⟨gw_in 886 (by decide +kernel) rfl, mi_5, mc_Lr_push, my_Lr_push⟩
theorem mv_Lr_push : MV y_Lr_push := ⟨gw_in 888 (by decide +kernel) rfl, gw_in 22 (by decide +kernel) rfl⟩
theorem bi_8 : (Int8.ofInt (8)).toInt32 = (8 : Int32) := by decide
theorem ly_5_0 {tb : Tb} (ok : TbOK tb) {c : Nat} (hk : kd tb c = 5) : kd tb (lay tb c 0) = 8 := (lay_ok ok hk (by decide) 0 fk_5_0).2
theorem ml_5_68 : MN RC5 68 y_Tt_isName prog_1_method_51_code 1 (some .boolean) 1 := ⟨nw_in 875 (by decide +kernel) rfl, mi_0, mc_Tt_isName, my_Tt_isName⟩
theorem ms_Tt_isName : Cond.static y_Tt_isName ∈ GW := gw_in 876 (by decide +kernel) rfl
theorem bi_22 : (Int8.ofInt (22)).toInt32 = (22 : Int32) := by decide
theorem ml_5_72 : ML RC5 72 y_Lr_topStrength prog_6_method_9_code 1 (some .int) 0 := ⟨gw_in 878 (by decide +kernel) rfl, mi_5, mc_Lr_topStrength, my_Lr_topStrength⟩
theorem mv_Lr_topStrength : MV y_Lr_topStrength := ⟨gw_in 880 (by decide +kernel) rfl, gw_in 20 (by decide +kernel) rfl⟩
theorem ml_5_78 : ML RC5 78 y_Lr_waitKnot prog_6_method_6_code 2 (some .int) 1 := ⟨gw_in 882 (by decide +kernel) rfl, mi_5, mc_Lr_waitKnot, my_Lr_waitKnot⟩
theorem mv_Lr_waitKnot : MV y_Lr_waitKnot := ⟨gw_in 884 (by decide +kernel) rfl, gw_in 21 (by decide +kernel) rfl⟩
theorem ml_5_64 : ML RC5 64 y_Lr_takeKnot prog_6_method_5_code 2 (some .int) 1 := ⟨gw_in 871 (by decide +kernel) rfl, mi_5, mc_Lr_takeKnot, my_Lr_takeKnot⟩
theorem mv_Lr_takeKnot : MV y_Lr_takeKnot := ⟨gw_in 873 (by decide +kernel) rfl, gw_in 19 (by decide +kernel) rfl⟩
theorem si_9999 : (Int16.ofInt (9999)).toInt32 = (9999 : Int32) := by decide
theorem ml_5_45 : ML RC5 45 y_Lr_settle prog_6_method_8_code 2 none 1 := ⟨gw_in 852 (by decide +kernel) rfl, mi_5, mc_Lr_settle, my_Lr_settle⟩
theorem mv_Lr_settle : MV y_Lr_settle := ⟨gw_in 854 (by decide +kernel) rfl, gw_in 17 (by decide +kernel) rfl⟩
theorem mm_5_84 : Cond.methodLink RC5 84 Lib.Math.max.name ∈ GW := gw_in 894 (by decide +kernel) rfl
theorem ms_mmax : Cond.static Lib.Math.max.name ∈ GW := gw_in 895 (by decide +kernel) rfl
theorem ml_5_58 : ML RC5 58 y_Sc_step prog_9_method_4_code 1 none 0 := ⟨gw_in 897 (by decide +kernel) rfl, mi_8, mc_Sc_step, my_Sc_step⟩
theorem ml_5_55 : ML RC5 55 y_Lr_takeSign prog_6_method_4_code 4 (some .int) 0 := ⟨gw_in 890 (by decide +kernel) rfl, mi_5, mc_Lr_takeSign, my_Lr_takeSign⟩
theorem mv_Lr_takeSign : MV y_Lr_takeSign := ⟨gw_in 892 (by decide +kernel) rfl, gw_in 23 (by decide +kernel) rfl⟩
theorem ml_5_51 : ML RC5 51 y_Lr_takePart prog_6_method_3_code 2 (some .int) 0 := ⟨gw_in 867 (by decide +kernel) rfl, mi_5, mc_Lr_takePart, my_Lr_takePart⟩
theorem mv_Lr_takePart : MV y_Lr_takePart := ⟨gw_in 869 (by decide +kernel) rfl, gw_in 18 (by decide +kernel) rfl⟩
theorem ml_5_48 : ML RC5 48 y_La_endLaw prog_7_method_6_code 2 none 1 := ⟨gw_in 863 (by decide +kernel) rfl, mi_6, mc_La_endLaw, my_La_endLaw⟩
theorem mv_La_endLaw : MV y_La_endLaw := ⟨gw_in 864 (by decide +kernel) rfl, gw_in 865 (by decide +kernel) rfl⟩
theorem ml_5_34 : ML RC5 34 y_La_startLaw prog_7_method_5_code 2 none 1 := ⟨gw_in 848 (by decide +kernel) rfl, mi_6, mc_La_startLaw, my_La_startLaw⟩
theorem mv_La_startLaw : MV y_La_startLaw := ⟨gw_in 849 (by decide +kernel) rfl, gw_in 850 (by decide +kernel) rfl⟩
theorem bi_17 : (Int8.ofInt (17)).toInt32 = (17 : Int32) := by decide
theorem bi_19 : (Int8.ofInt (19)).toInt32 = (19 : Int32) := by decide
theorem ml_10_187 : ML RC10 187 y_La_isTold prog_7_method_4_code 2 (some .boolean) 1 := ⟨gw_in 840 (by decide +kernel) rfl, mi_6, mc_La_isTold, my_La_isTold⟩
theorem mv_La_isTold : MV y_La_isTold := ⟨gw_in 841 (by decide +kernel) rfl, gw_in 842 (by decide +kernel) rfl⟩
theorem ly_10_4 {tb : Tb} (ok : TbOK tb) {c : Nat} (hk : kd tb c = 10) : kd tb (lay tb c 4) = 5 := (lay_ok ok hk (by decide) 4 fk_10_4).2
theorem ml_10_192 : ML RC10 192 y_Lr_readE prog_6_method_2_code 4 (some .int) 1 := ⟨gw_in 844 (by decide +kernel) rfl, mi_5, mc_Lr_readE, my_Lr_readE⟩
theorem mv_Lr_readE : MV y_Lr_readE := ⟨gw_in 845 (by decide +kernel) rfl, gw_in 846 (by decide +kernel) rfl⟩
theorem ml_10_69 : ML RC10 69 y_Tr_readRoad prog_11_method_9_code 2 (some .boolean) 0 := ⟨gw_in 785 (by decide +kernel) rfl, mi_10, mc_Tr_readRoad, my_Tr_readRoad⟩
theorem mv_Tr_readRoad : MV y_Tr_readRoad := ⟨gw_in 787 (by decide +kernel) rfl, gw_in 5 (by decide +kernel) rfl⟩
theorem ml_10_77 : ML RC10 77 y_Tr_readTrough prog_11_method_10_code 5 (some .boolean) 0 := ⟨gw_in 802 (by decide +kernel) rfl, mi_10, mc_Tr_readTrough, my_Tr_readTrough⟩
theorem mv_Tr_readTrough : MV y_Tr_readTrough := ⟨gw_in 804 (by decide +kernel) rfl, gw_in 9 (by decide +kernel) rfl⟩
theorem ml_10_80 : ML RC10 80 y_Tr_readHorse prog_11_method_11_code 6 (some .boolean) 0 := ⟨gw_in 815 (by decide +kernel) rfl, mi_10, mc_Tr_readHorse, my_Tr_readHorse⟩
theorem mv_Tr_readHorse : MV y_Tr_readHorse := ⟨gw_in 817 (by decide +kernel) rfl, gw_in 11 (by decide +kernel) rfl⟩
theorem ml_10_83 : ML RC10 83 y_Tr_readLap prog_11_method_12_code 5 (some .boolean) 0 := ⟨gw_in 819 (by decide +kernel) rfl, mi_10, mc_Tr_readLap, my_Tr_readLap⟩
theorem mv_Tr_readLap : MV y_Tr_readLap := ⟨gw_in 821 (by decide +kernel) rfl, gw_in 12 (by decide +kernel) rfl⟩
theorem ml_10_86 : ML RC10 86 y_Tr_readRain prog_11_method_13_code 2 (some .boolean) 0 := ⟨gw_in 827 (by decide +kernel) rfl, mi_10, mc_Tr_readRain, my_Tr_readRain⟩
theorem mv_Tr_readRain : MV y_Tr_readRain := ⟨gw_in 829 (by decide +kernel) rfl, gw_in 14 (by decide +kernel) rfl⟩
theorem ml_10_89 : ML RC10 89 y_Tr_readSeed prog_11_method_14_code 2 (some .boolean) 0 := ⟨gw_in 831 (by decide +kernel) rfl, mi_10, mc_Tr_readSeed, my_Tr_readSeed⟩
theorem mv_Tr_readSeed : MV y_Tr_readSeed := ⟨gw_in 833 (by decide +kernel) rfl, gw_in 15 (by decide +kernel) rfl⟩
theorem ml_10_92 : ML RC10 92 y_Tr_readLaw prog_11_method_15_code 3 (some .boolean) 0 := ⟨gw_in 836 (by decide +kernel) rfl, mi_10, mc_Tr_readLaw, my_Tr_readLaw⟩
theorem mv_Tr_readLaw : MV y_Tr_readLaw := ⟨gw_in 838 (by decide +kernel) rfl, gw_in 16 (by decide +kernel) rfl⟩
theorem ml_10_64 : ML RC10 64 y_Tr_readLine prog_11_method_4_code 3 (some .boolean) 1 := ⟨gw_in 781 (by decide +kernel) rfl, mi_10, mc_Tr_readLine, my_Tr_readLine⟩
theorem mv_Tr_readLine : MV y_Tr_readLine := ⟨gw_in 783 (by decide +kernel) rfl, gw_in 4 (by decide +kernel) rfl⟩
theorem ml_10_47 : ML RC10 47 y_Pl_clear prog_8_method_2_code 1 none 0 := ⟨gw_in 749 (by decide +kernel) rfl, mi_7, mc_Pl_clear, my_Pl_clear⟩
theorem mv_Pl_clear : MV y_Pl_clear := ⟨gw_in 189 (by decide +kernel) rfl, gw_in 190 (by decide +kernel) rfl⟩
theorem ml_10_57 : ML RC10 57 y_Sc_begin prog_9_method_3_code 2 none 1 := ⟨gw_in 750 (by decide +kernel) rfl, mi_8, mc_Sc_begin, my_Sc_begin⟩
theorem mv_Sc_begin : MV y_Sc_begin := ⟨gw_in 751 (by decide +kernel) rfl, gw_in 752 (by decide +kernel) rfl⟩
theorem mm_0_201 : Cond.methodLink RC0 201 Lib.Math.min.name ∈ GW := gw_in 689 (by decide +kernel) rfl
theorem ma_0_363 : Cond.methodLink RC0 363 arraycopyName ∈ GW := gw_in 692 (by decide +kernel) rfl
theorem ms_copy : Cond.static arraycopyName ∈ GW := gw_in 693 (by decide +kernel) rfl
theorem mn_copy : Cond.native arraycopyName ∈ GW := gw_in 694 (by decide +kernel) rfl
theorem ml_6_38 : MN RC6 38 y_Tt_copy prog_1_method_50_code 2 none 2 := ⟨nw_in 907 (by decide +kernel) rfl, mi_0, mc_Tt_copy, my_Tt_copy⟩
theorem ms_Tt_copy : Cond.static y_Tt_copy ∈ GW := gw_in 687 (by decide +kernel) rfl
theorem ml_7_87 : MN RC7 87 y_Tt_copy prog_1_method_50_code 2 none 2 := ⟨nw_in 902 (by decide +kernel) rfl, mi_0, mc_Tt_copy, my_Tt_copy⟩
theorem ml_7_91 : ML RC7 91 y_La_become prog_7_method_3_code 2 none 1 := ⟨gw_in 903 (by decide +kernel) rfl, mi_6, mc_La_become, my_La_become⟩
theorem mv_La_become : MV y_La_become := ⟨gw_in 904 (by decide +kernel) rfl, gw_in 905 (by decide +kernel) rfl⟩
theorem ly_11_9 {tb : Tb} (ok : TbOK tb) {c : Nat} (hk : kd tb c = 11) : kd tb (lay tb c 9) = 20 := (lay_ok ok hk (by decide) 9 fk_11_9).2
theorem ml_11_70 : MN RC11 70 y_Tt_copy prog_1_method_50_code 2 none 2 := ⟨nw_in 686 (by decide +kernel) rfl, mi_0, mc_Tt_copy, my_Tt_copy⟩
theorem ly_11_10 {tb : Tb} (ok : TbOK tb) {c : Nat} (hk : kd tb c = 11) : kd tb (lay tb c 10) = 20 := (lay_ok ok hk (by decide) 10 fk_11_10).2
theorem ly_11_11 {tb : Tb} (ok : TbOK tb) {c : Nat} (hk : kd tb c = 11) : kd tb (lay tb c 11) = 20 := (lay_ok ok hk (by decide) 11 fk_11_11).2
theorem ml_11_77 : ML RC11 77 y_Ar_fill prog_30_method_103_code 4 none 2 := ⟨gw_in 695 (by decide +kernel) rfl, mi_Ar, mc_Ar_fill, my_Ar_fill⟩
theorem ly_11_12 {tb : Tb} (ok : TbOK tb) {c : Nat} (hk : kd tb c = 11) : kd tb (lay tb c 12) = 20 := (lay_ok ok hk (by decide) 12 fk_11_12).2
theorem bi_m2 : (Int8.ofInt (-2)).toInt32 = (-2 : Int32) := by decide
theorem ly_11_13 {tb : Tb} (ok : TbOK tb) {c : Nat} (hk : kd tb c = 11) : kd tb (lay tb c 13) = 20 := (lay_ok ok hk (by decide) 13 fk_11_13).2
theorem ly_11_14 {tb : Tb} (ok : TbOK tb) {c : Nat} (hk : kd tb c = 11) : kd tb (lay tb c 14) = 20 := (lay_ok ok hk (by decide) 14 fk_11_14).2
theorem ly_0_2 {tb : Tb} (ok : TbOK tb) {c : Nat} (hk : kd tb c = 0) : kd tb (lay tb c 2) = 10 := (lay_ok ok hk (by decide) 2 fk_0_2).2
theorem ml_0_97 : ML RC0 97 y_Tr_readText prog_11_method_2_code 3 (some .int) 1 := ⟨gw_in 745 (by decide +kernel) rfl, mi_10, mc_Tr_readText, my_Tr_readText⟩
theorem mv_Tr_readText : MV y_Tr_readText := ⟨gw_in 746 (by decide +kernel) rfl, gw_in 747 (by decide +kernel) rfl⟩
theorem ly_0_3 {tb : Tb} (ok : TbOK tb) {c : Nat} (hk : kd tb c = 0) : kd tb (lay tb c 3) = 7 := (lay_ok ok hk (by decide) 3 fk_0_3).2
theorem ml_0_102 : ML RC0 102 y_Pl_become prog_8_method_3_code 2 none 1 := ⟨gw_in 898 (by decide +kernel) rfl, mi_7, mc_Pl_become, my_Pl_become⟩
theorem mv_Pl_become : MV y_Pl_become := ⟨gw_in 899 (by decide +kernel) rfl, gw_in 900 (by decide +kernel) rfl⟩
theorem ly_0_4 {tb : Tb} (ok : TbOK tb) {c : Nat} (hk : kd tb c = 0) : kd tb (lay tb c 4) = 11 := (lay_ok ok hk (by decide) 4 fk_0_4).2
theorem ml_0_90 : ML RC0 90 y_Wo_begin prog_12_method_2_code 2 none 1 := ⟨gw_in 682 (by decide +kernel) rfl, mi_11, mc_Wo_begin, my_Wo_begin⟩
theorem mv_Wo_begin : MV y_Wo_begin := ⟨gw_in 683 (by decide +kernel) rfl, gw_in 684 (by decide +kernel) rfl⟩
theorem ly_0_7 {tb : Tb} (ok : TbOK tb) {c : Nat} (hk : kd tb c = 0) : kd tb (lay tb c 7) = 2 := (lay_ok ok hk (by decide) 7 fk_0_7).2
theorem ml_0_105 : ML RC0 105 y_De_forget prog_3_method_2_code 1 none 0 := ⟨gw_in 908 (by decide +kernel) rfl, mi_2, mc_De_forget, my_De_forget⟩
theorem mv_De_forget : MV y_De_forget := ⟨gw_in 909 (by decide +kernel) rfl, gw_in 910 (by decide +kernel) rfl⟩
theorem ly_0_8 {tb : Tb} (ok : TbOK tb) {c : Nat} (hk : kd tb c = 0) : kd tb (lay tb c 8) = 9 := (lay_ok ok hk (by decide) 8 fk_0_8).2
theorem ml_0_108 : ML RC0 108 y_Se_forget prog_10_method_2_code 1 none 0 := ⟨gw_in 912 (by decide +kernel) rfl, mi_9, mc_Se_forget, my_Se_forget⟩
theorem mv_Se_forget : MV y_Se_forget := ⟨gw_in 913 (by decide +kernel) rfl, gw_in 914 (by decide +kernel) rfl⟩
theorem ml_0_122 : ML RC0 122 y_Tt_find prog_1_method_7_code 4 (some .int) 3 := ⟨gw_in 924 (by decide +kernel) rfl, mi_0, mc_Tt_find, my_Tt_find⟩
theorem ml_0_156 : ML RC0 156 y_Wo_isOn prog_12_method_4_code 2 (some .boolean) 1 := ⟨gw_in 937 (by decide +kernel) rfl, mi_11, mc_Wo_isOn, my_Wo_isOn⟩
theorem mv_Wo_isOn : MV y_Wo_isOn := ⟨gw_in 938 (by decide +kernel) rfl, gw_in 939 (by decide +kernel) rfl⟩
theorem ml_0_165 : ML RC0 165 y_Pl_hasTrough prog_8_method_5_code 2 (some .boolean) 1 := ⟨gw_in 929 (by decide +kernel) rfl, mi_7, mc_Pl_hasTrough, my_Pl_hasTrough⟩
theorem mv_Pl_hasTrough : MV y_Pl_hasTrough := ⟨gw_in 930 (by decide +kernel) rfl, gw_in 931 (by decide +kernel) rfl⟩
theorem ml_0_177 : ML RC0 177 y_Tt_horsesAt prog_1_method_10_code 4 (some .int) 1 := ⟨gw_in 933 (by decide +kernel) rfl, mi_0, mc_Tt_horsesAt, my_Tt_horsesAt⟩
theorem mv_Tt_horsesAt : MV y_Tt_horsesAt := ⟨gw_in 935 (by decide +kernel) rfl, gw_in 24 (by decide +kernel) rfl⟩
theorem ly_4_0 {tb : Tb} (ok : TbOK tb) {c : Nat} (hk : kd tb c = 4) : kd tb (lay tb c 0) = 7 := (lay_ok ok hk (by decide) 0 fk_4_0).2
theorem bi_50 : (Int8.ofInt (50)).toInt32 = (50 : Int32) := by decide
theorem ly_4_1 {tb : Tb} (ok : TbOK tb) {c : Nat} (hk : kd tb c = 4) : kd tb (lay tb c 1) = 20 := (lay_ok ok hk (by decide) 1 fk_4_1).2
theorem ml_4_83 : ML RC4 83 y_Pl_hasTrough prog_8_method_5_code 2 (some .boolean) 1 := ⟨gw_in 963 (by decide +kernel) rfl, mi_7, mc_Pl_hasTrough, my_Pl_hasTrough⟩
theorem mm_4_196 : Cond.methodLink RC4 196 Lib.Math.abs.name ∈ GW := gw_in 964 (by decide +kernel) rfl
theorem ms_mabs : Cond.static Lib.Math.abs.name ∈ GW := gw_in 965 (by decide +kernel) rfl
theorem ml_4_120 : ML RC4 120 y_Pl_troughThere prog_8_method_6_code 2 (some .int) 1 := ⟨gw_in 962 (by decide +kernel) rfl, mi_7, mc_Pl_troughThere, my_Pl_troughThere⟩
theorem kl_6_60 : Cond.constantLong RC6 60 (1000000000000 : Int64) ∈ GW := gw_in 979 (by decide +kernel) rfl
theorem kl_6_46 : Cond.constantLong RC6 46 (-9223372036854775808 : Int64) ∈ GW := gw_in 972 (by decide +kernel) rfl
theorem kl_6_62 : Cond.constantLong RC6 62 (-1000000000000 : Int64) ∈ GW := gw_in 980 (by decide +kernel) rfl
theorem lc_0 : Int64.ofNat (((0 : Fin 2)) : Nat) = (0 : Int64) := by decide
theorem lc_1 : Int64.ofNat (((1 : Fin 2)) : Nat) = (1 : Int64) := by decide
theorem ml_6_52 : ML RC6 52 y_La_within prog_7_method_11_code 2 (some .long) 1 := ⟨gw_in 976 (by decide +kernel) rfl, mi_6, mc_La_within, my_La_within⟩
theorem ms_La_within : Cond.static y_La_within ∈ GW := gw_in 977 (by decide +kernel) rfl
theorem ml_6_56 : ML RC6 56 y_La_isTooBig prog_7_method_10_code 6 (some .boolean) 2 := ⟨gw_in 981 (by decide +kernel) rfl, mi_6, mc_La_isTooBig, my_La_isTooBig⟩
theorem ms_La_isTooBig : Cond.static y_La_isTooBig ∈ GW := gw_in 982 (by decide +kernel) rfl
theorem ly_6_5 {tb : Tb} (ok : TbOK tb) {c : Nat} (hk : kd tb c = 6) : kd tb (lay tb c 5) = 23 := (lay_ok ok hk (by decide) 5 fk_6_5).2
theorem ml_6_42 : MN RC6 42 y_Tt_isName prog_1_method_51_code 1 (some .boolean) 1 := ⟨nw_in 971 (by decide +kernel) rfl, mi_0, mc_Tt_isName, my_Tt_isName⟩
theorem ml_6_48 : ML RC6 48 y_La_join prog_7_method_9_code 5 (some .long) 3 := ⟨gw_in 973 (by decide +kernel) rfl, mi_6, mc_La_join, my_La_join⟩
theorem ms_La_join : Cond.static y_La_join ∈ GW := gw_in 974 (by decide +kernel) rfl
theorem ml_4_179 : ML RC4 179 y_Ho_setNames prog_5_method_16_code 5 none 2 := ⟨gw_in 958 (by decide +kernel) rfl, mi_4, mc_Ho_setNames, my_Ho_setNames⟩
theorem mv_Ho_setNames : MV y_Ho_setNames := ⟨gw_in 960 (by decide +kernel) rfl, gw_in 25 (by decide +kernel) rfl⟩
theorem ml_4_183 : ML RC4 183 y_La_worthOf prog_7_method_8_code 9 (some .long) 2 := ⟨gw_in 967 (by decide +kernel) rfl, mi_6, mc_La_worthOf, my_La_worthOf⟩
theorem mv_La_worthOf : MV y_La_worthOf := ⟨gw_in 968 (by decide +kernel) rfl, gw_in 969 (by decide +kernel) rfl⟩
theorem kl_0_180 : Cond.constantLong RC0 180 (-9223372036854775808 : Int64) ∈ GW := gw_in 949 (by decide +kernel) rfl
theorem ml_0_132 : ML RC0 132 y_Pl_hasHorse prog_8_method_4_code 2 (some .boolean) 1 := ⟨gw_in 945 (by decide +kernel) rfl, mi_7, mc_Pl_hasHorse, my_Pl_hasHorse⟩
theorem mv_Pl_hasHorse : MV y_Pl_hasHorse := ⟨gw_in 946 (by decide +kernel) rfl, gw_in 947 (by decide +kernel) rfl⟩
theorem ly_0_9 {tb : Tb} (ok : TbOK tb) {c : Nat} (hk : kd tb c = 0) : kd tb (lay tb c 9) = 4 := (lay_ok ok hk (by decide) 9 fk_0_9).2
theorem ml_0_182 : ML RC0 182 y_Ho_asItGoes prog_5_method_3_code 1 none 0 := ⟨gw_in 950 (by decide +kernel) rfl, mi_4, mc_Ho_asItGoes, my_Ho_asItGoes⟩
theorem mv_Ho_asItGoes : MV y_Ho_asItGoes := ⟨gw_in 951 (by decide +kernel) rfl, gw_in 952 (by decide +kernel) rfl⟩
theorem ml_0_185 : ML RC0 185 y_Ho_worth prog_5_method_15_code 4 (some .long) 3 := ⟨gw_in 954 (by decide +kernel) rfl, mi_4, mc_Ho_worth, my_Ho_worth⟩
theorem mv_Ho_worth : MV y_Ho_worth := ⟨gw_in 955 (by decide +kernel) rfl, gw_in 956 (by decide +kernel) rfl⟩
theorem ma_2_43 : Cond.methodLink RC2 43 arraycopyName ∈ GW := gw_in 999 (by decide +kernel) rfl
theorem ly_2_1 {tb : Tb} (ok : TbOK tb) {c : Nat} (hk : kd tb c = 2) : kd tb (lay tb c 1) = 20 := (lay_ok ok hk (by decide) 1 fk_2_1).2
theorem ml_2_39 : ML RC2 39 y_De_shift prog_3_method_6_code 1 none 1 := ⟨gw_in 996 (by decide +kernel) rfl, mi_2, mc_De_shift, my_De_shift⟩
theorem ms_De_shift : Cond.static y_De_shift ∈ GW := gw_in 997 (by decide +kernel) rfl
theorem ly_2_2 {tb : Tb} (ok : TbOK tb) {c : Nat} (hk : kd tb c = 2) : kd tb (lay tb c 2) = 20 := (lay_ok ok hk (by decide) 2 fk_2_2).2
theorem ly_2_3 {tb : Tb} (ok : TbOK tb) {c : Nat} (hk : kd tb c = 2) : kd tb (lay tb c 3) = 20 := (lay_ok ok hk (by decide) 3 fk_2_3).2
theorem ly_2_4 {tb : Tb} (ok : TbOK tb) {c : Nat} (hk : kd tb c = 2) : kd tb (lay tb c 4) = 20 := (lay_ok ok hk (by decide) 4 fk_2_4).2
theorem ly_2_5 {tb : Tb} (ok : TbOK tb) {c : Nat} (hk : kd tb c = 2) : kd tb (lay tb c 5) = 20 := (lay_ok ok hk (by decide) 5 fk_2_5).2
theorem ml_2_31 : ML RC2 31 y_De_makeRoom prog_3_method_5_code 1 none 0 := ⟨gw_in 992 (by decide +kernel) rfl, mi_2, mc_De_makeRoom, my_De_makeRoom⟩
theorem mv_De_makeRoom : MV y_De_makeRoom := ⟨gw_in 994 (by decide +kernel) rfl, gw_in 26 (by decide +kernel) rfl⟩
theorem ml_0_189 : ML RC0 189 y_De_rememberHorse prog_3_method_3_code 3 none 2 := ⟨gw_in 988 (by decide +kernel) rfl, mi_2, mc_De_rememberHorse, my_De_rememberHorse⟩
theorem mv_De_rememberHorse : MV y_De_rememberHorse := ⟨gw_in 989 (by decide +kernel) rfl, gw_in 990 (by decide +kernel) rfl⟩
theorem mm_0_193 : Cond.methodLink RC0 193 Lib.Math.abs.name ∈ GW := gw_in 1000 (by decide +kernel) rfl
theorem ml_0_198 : ML RC0 198 y_De_rememberTrough prog_3_method_4_code 3 none 2 := ⟨gw_in 1005 (by decide +kernel) rfl, mi_2, mc_De_rememberTrough, my_De_rememberTrough⟩
theorem mv_De_rememberTrough : MV y_De_rememberTrough := ⟨gw_in 1006 (by decide +kernel) rfl, gw_in 1007 (by decide +kernel) rfl⟩
theorem ml_4_174 : ML RC4 174 y_La_isTold prog_7_method_4_code 2 (some .boolean) 1 := ⟨gw_in 1037 (by decide +kernel) rfl, mi_6, mc_La_isTold, my_La_isTold⟩
theorem kl_4_187 : Cond.constantLong RC4 187 (-9223372036854775808 : Int64) ∈ GW := gw_in 1038 (by decide +kernel) rfl
theorem kl_4_189 : Cond.constantLong RC4 189 (99 : Int64) ∈ GW := gw_in 1039 (by decide +kernel) rfl
theorem mm_4_191 : Cond.methodLink RC4 191 Lib.MathLoose.min_long.x ∈ GW := gw_in 1040 (by decide +kernel) rfl
theorem ms_mmin_long : Cond.static Lib.MathLoose.min_long.x ∈ GW := gw_in 1041 (by decide +kernel) rfl
theorem mm_4_194 : Cond.methodLink RC4 194 Lib.MathLoose.max_long.x ∈ GW := gw_in 1043 (by decide +kernel) rfl
theorem ms_mmax_long : Cond.static Lib.MathLoose.max_long.x ∈ GW := gw_in 1044 (by decide +kernel) rfl
theorem ml_4_107 : ML RC4 107 y_Ho_amount prog_5_method_14_code 7 (some .int) 4 := ⟨gw_in 1033 (by decide +kernel) rfl, mi_4, mc_Ho_amount, my_Ho_amount⟩
theorem mv_Ho_amount : MV y_Ho_amount := ⟨gw_in 1035 (by decide +kernel) rfl, gw_in 29 (by decide +kernel) rfl⟩
theorem ml_4_79 : ML RC4 79 y_Wo_isOn prog_12_method_4_code 2 (some .boolean) 1 := ⟨gw_in 1030 (by decide +kernel) rfl, mi_11, mc_Wo_isOn, my_Wo_isOn⟩
theorem mm_4_95 : Cond.methodLink RC4 95 Lib.Math.min.name ∈ GW := gw_in 1031 (by decide +kernel) rfl
theorem mm_4_101 : Cond.methodLink RC4 101 Lib.Math.max.name ∈ GW := gw_in 1032 (by decide +kernel) rfl
theorem ml_4_114 : ML RC4 114 y_Ar_fill prog_30_method_103_code 4 none 2 := ⟨gw_in 1050 (by decide +kernel) rfl, mi_Ar, mc_Ar_fill, my_Ar_fill⟩
theorem ml_7_100 : ML RC7 100 y_Wo_isOn prog_12_method_4_code 2 (some .boolean) 1 := ⟨gw_in 1059 (by decide +kernel) rfl, mi_11, mc_Wo_isOn, my_Wo_isOn⟩
theorem mm_11_86 : Cond.methodLink RC11 86 Lib.Math.min.name ∈ GW := gw_in 1063 (by decide +kernel) rfl
theorem mm_11_100 : Cond.methodLink RC11 100 Lib.Math.max.name ∈ GW := gw_in 1064 (by decide +kernel) rfl
theorem ml_4_143 : ML RC4 143 y_Wo_noteTalk prog_12_method_5_code 2 none 1 := ⟨gw_in 1065 (by decide +kernel) rfl, mi_11, mc_Wo_noteTalk, my_Wo_noteTalk⟩
theorem mv_Wo_noteTalk : MV y_Wo_noteTalk := ⟨gw_in 1066 (by decide +kernel) rfl, gw_in 1067 (by decide +kernel) rfl⟩
theorem ml_4_133 : ML RC4 133 y_Pl_areEnemies prog_8_method_7_code 4 (some .boolean) 3 := ⟨gw_in 1055 (by decide +kernel) rfl, mi_7, mc_Pl_areEnemies, my_Pl_areEnemies⟩
theorem mv_Pl_areEnemies : MV y_Pl_areEnemies := ⟨gw_in 1056 (by decide +kernel) rfl, gw_in 1057 (by decide +kernel) rfl⟩
theorem ml_4_140 : ML RC4 140 y_Wo_pairOf prog_12_method_9_code 2 (some .int) 2 := ⟨gw_in 1060 (by decide +kernel) rfl, mi_11, mc_Wo_pairOf, my_Wo_pairOf⟩
theorem ms_Wo_pairOf : Cond.static y_Wo_pairOf ∈ GW := gw_in 1061 (by decide +kernel) rfl
theorem ml_4_147 : ML RC4 147 y_Wo_noteFight prog_12_method_6_code 3 none 2 := ⟨gw_in 1069 (by decide +kernel) rfl, mi_11, mc_Wo_noteFight, my_Wo_noteFight⟩
theorem mv_Wo_noteFight : MV y_Wo_noteFight := ⟨gw_in 1070 (by decide +kernel) rfl, gw_in 1071 (by decide +kernel) rfl⟩
theorem ml_4_151 : ML RC4 151 y_Wo_injure prog_12_method_7_code 3 none 2 := ⟨gw_in 1073 (by decide +kernel) rfl, mi_11, mc_Wo_injure, my_Wo_injure⟩
theorem mv_Wo_injure : MV y_Wo_injure := ⟨gw_in 1074 (by decide +kernel) rfl, gw_in 1075 (by decide +kernel) rfl⟩
theorem kl_11_92 : Cond.constantLong RC11 92 (1103515245 : Int64) ∈ GW := gw_in 1089 (by decide +kernel) rfl
theorem kl_11_94 : Cond.constantLong RC11 94 (12345 : Int64) ∈ GW := gw_in 1090 (by decide +kernel) rfl
theorem kl_11_96 : Cond.constantLong RC11 96 (2147483647 : Int64) ∈ GW := gw_in 1091 (by decide +kernel) rfl
theorem kl_11_98 : Cond.constantLong RC11 98 (65536 : Int64) ∈ GW := gw_in 1092 (by decide +kernel) rfl
theorem ml_4_163 : ML RC4 163 y_Wo_drawNumber prog_12_method_8_code 1 (some .int) 0 := ⟨gw_in 1085 (by decide +kernel) rfl, mi_11, mc_Wo_drawNumber, my_Wo_drawNumber⟩
theorem mv_Wo_drawNumber : MV y_Wo_drawNumber := ⟨gw_in 1086 (by decide +kernel) rfl, gw_in 1087 (by decide +kernel) rfl⟩
theorem ml_4_38 : ML RC4 38 y_Ho_startLaps prog_5_method_8_code 3 none 1 := ⟨gw_in 1022 (by decide +kernel) rfl, mi_4, mc_Ho_startLaps, my_Ho_startLaps⟩
theorem mv_Ho_startLaps : MV y_Ho_startLaps := ⟨gw_in 1024 (by decide +kernel) rfl, gw_in 27 (by decide +kernel) rfl⟩
theorem ml_4_42 : ML RC4 42 y_Ho_walk prog_5_method_9_code 6 none 1 := ⟨gw_in 1026 (by decide +kernel) rfl, mi_4, mc_Ho_walk, my_Ho_walk⟩
theorem mv_Ho_walk : MV y_Ho_walk := ⟨gw_in 1028 (by decide +kernel) rfl, gw_in 28 (by decide +kernel) rfl⟩
theorem ml_4_45 : ML RC4 45 y_Ho_drink prog_5_method_10_code 6 none 1 := ⟨gw_in 1046 (by decide +kernel) rfl, mi_4, mc_Ho_drink, my_Ho_drink⟩
theorem mv_Ho_drink : MV y_Ho_drink := ⟨gw_in 1048 (by decide +kernel) rfl, gw_in 30 (by decide +kernel) rfl⟩
theorem ml_4_48 : ML RC4 48 y_Ho_encounter prog_5_method_11_code 5 none 1 := ⟨gw_in 1051 (by decide +kernel) rfl, mi_4, mc_Ho_encounter, my_Ho_encounter⟩
theorem mv_Ho_encounter : MV y_Ho_encounter := ⟨gw_in 1053 (by decide +kernel) rfl, gw_in 31 (by decide +kernel) rfl⟩
theorem ml_4_51 : ML RC4 51 y_Ho_fall prog_5_method_12_code 3 none 1 := ⟨gw_in 1077 (by decide +kernel) rfl, mi_4, mc_Ho_fall, my_Ho_fall⟩
theorem mv_Ho_fall : MV y_Ho_fall := ⟨gw_in 1079 (by decide +kernel) rfl, gw_in 32 (by decide +kernel) rfl⟩
theorem ml_4_59 : ML RC4 59 y_Ho_rain prog_5_method_13_code 3 none 1 := ⟨gw_in 1081 (by decide +kernel) rfl, mi_4, mc_Ho_rain, my_Ho_rain⟩
theorem mv_Ho_rain : MV y_Ho_rain := ⟨gw_in 1083 (by decide +kernel) rfl, gw_in 33 (by decide +kernel) rfl⟩
theorem ml_0_211 : ML RC0 211 y_Ho_byChance prog_5_method_2_code 1 none 0 := ⟨gw_in 1017 (by decide +kernel) rfl, mi_4, mc_Ho_byChance, my_Ho_byChance⟩
theorem mv_Ho_byChance : MV y_Ho_byChance := ⟨gw_in 617 (by decide +kernel) rfl, gw_in 618 (by decide +kernel) rfl⟩
theorem ml_0_214 : ML RC0 214 y_Ho_pass prog_5_method_7_code 4 none 2 := ⟨gw_in 1018 (by decide +kernel) rfl, mi_4, mc_Ho_pass, my_Ho_pass⟩
theorem mv_Ho_pass : MV y_Ho_pass := ⟨gw_in 1019 (by decide +kernel) rfl, gw_in 1020 (by decide +kernel) rfl⟩
theorem si_200 : (Int16.ofInt (200)).toInt32 = (200 : Int32) := by decide
theorem si_9000 : (Int16.ofInt (9000)).toInt32 = (9000 : Int32) := by decide
theorem ly_3_3 {tb : Tb} (ok : TbOK tb) {c : Nat} (hk : kd tb c = 3) : kd tb (lay tb c 3) = 11 := (lay_ok ok hk (by decide) 3 fk_3_3).2
theorem ly_3_1 {tb : Tb} (ok : TbOK tb) {c : Nat} (hk : kd tb c = 3) : kd tb (lay tb c 1) = 11 := (lay_ok ok hk (by decide) 1 fk_3_1).2
theorem ml_3_36 : ML RC3 36 y_Wo_become prog_12_method_3_code 2 none 1 := ⟨gw_in 1105 (by decide +kernel) rfl, mi_11, mc_Wo_become, my_Wo_become⟩
theorem mv_Wo_become : MV y_Wo_become := ⟨gw_in 1106 (by decide +kernel) rfl, gw_in 1107 (by decide +kernel) rfl⟩
theorem ly_3_2 {tb : Tb} (ok : TbOK tb) {c : Nat} (hk : kd tb c = 3) : kd tb (lay tb c 2) = 4 := (lay_ok ok hk (by decide) 2 fk_3_2).2
theorem ml_3_40 : ML RC3 40 y_Ho_asItGoes prog_5_method_3_code 1 none 0 := ⟨gw_in 1109 (by decide +kernel) rfl, mi_4, mc_Ho_asItGoes, my_Ho_asItGoes⟩
theorem ml_3_45 : ML RC3 45 y_Fo_beginTrial prog_4_method_2_code 1 none 0 := ⟨gw_in 1101 (by decide +kernel) rfl, mi_3, mc_Fo_beginTrial, my_Fo_beginTrial⟩
theorem mv_Fo_beginTrial : MV y_Fo_beginTrial := ⟨gw_in 1103 (by decide +kernel) rfl, gw_in 34 (by decide +kernel) rfl⟩
theorem ml_3_48 : ML RC3 48 y_Ho_pass prog_5_method_7_code 4 none 2 := ⟨gw_in 1110 (by decide +kernel) rfl, mi_4, mc_Ho_pass, my_Ho_pass⟩
theorem kc_In_265 : Cond.constant "java/lang/Integer" 265 (1431655765 : Int32) ∈ GW := gw_in 1114 (by decide +kernel) rfl
theorem kc_In_266 : Cond.constant "java/lang/Integer" 266 (858993459 : Int32) ∈ GW := gw_in 1115 (by decide +kernel) rfl
theorem kc_In_267 : Cond.constant "java/lang/Integer" 267 (252645135 : Int32) ∈ GW := gw_in 1116 (by decide +kernel) rfl
theorem bi_16 : (Int8.ofInt (16)).toInt32 = (16 : Int32) := by decide
theorem bi_63 : (Int8.ofInt (63)).toInt32 = (63 : Int32) := by decide
theorem ly_0_10 {tb : Tb} (ok : TbOK tb) {c : Nat} (hk : kd tb c = 0) : kd tb (lay tb c 10) = 3 := (lay_ok ok hk (by decide) 10 fk_0_10).2
theorem ml_0_218 : ML RC0 218 y_Fo_behind prog_4_method_3_code 2 (some (.object "TroughTreaty$World")) 1 := ⟨gw_in 1097 (by decide +kernel) rfl, mi_3, mc_Fo_behind, my_Fo_behind⟩
theorem mv_Fo_behind : MV y_Fo_behind := ⟨gw_in 1098 (by decide +kernel) rfl, gw_in 1099 (by decide +kernel) rfl⟩
theorem ml_0_231 : ML RC0 231 y_In_bitCount prog_20_method_49_code 1 (some .int) 1 := ⟨gw_in 1111 (by decide +kernel) rfl, mi_In, mc_In_bitCount, my_In_bitCount⟩
theorem ms_In_bitCount : Cond.static y_In_bitCount ∈ GW := gw_in 1112 (by decide +kernel) rfl
theorem si_199 : (Int16.ofInt (199)).toInt32 = (199 : Int32) := by decide
theorem ml_3_52 : ML RC3 52 y_Wo_isOn prog_12_method_4_code 2 (some .boolean) 1 := ⟨gw_in 1125 (by decide +kernel) rfl, mi_11, mc_Wo_isOn, my_Wo_isOn⟩
theorem ml_0_236 : ML RC0 236 y_Fo_hoursToFall prog_4_method_4_code 3 (some .int) 1 := ⟨gw_in 1121 (by decide +kernel) rfl, mi_3, mc_Fo_hoursToFall, my_Fo_hoursToFall⟩
theorem mv_Fo_hoursToFall : MV y_Fo_hoursToFall := ⟨gw_in 1122 (by decide +kernel) rfl, gw_in 1123 (by decide +kernel) rfl⟩
theorem ml_0_239 : ML RC0 239 y_Fo_hoursToFight prog_4_method_5_code 3 (some .int) 1 := ⟨gw_in 1130 (by decide +kernel) rfl, mi_3, mc_Fo_hoursToFight, my_Fo_hoursToFight⟩
theorem mv_Fo_hoursToFight : MV y_Fo_hoursToFight := ⟨gw_in 1131 (by decide +kernel) rfl, gw_in 1132 (by decide +kernel) rfl⟩
theorem ly_3_4 {tb : Tb} (ok : TbOK tb) {c : Nat} (hk : kd tb c = 3) : kd tb (lay tb c 4) = 11 := (lay_ok ok hk (by decide) 4 fk_3_4).2
theorem kc_3_68 : Cond.constant RC3 68 (2147483647 : Int32) ∈ GW := gw_in 1142 (by decide +kernel) rfl
theorem ml_0_243 : ML RC0 243 y_Fo_bestSending prog_4_method_8_code 7 (some .int) 3 := ⟨gw_in 1138 (by decide +kernel) rfl, mi_3, mc_Fo_bestSending, my_Fo_bestSending⟩
theorem mv_Fo_bestSending : MV y_Fo_bestSending := ⟨gw_in 1139 (by decide +kernel) rfl, gw_in 1140 (by decide +kernel) rfl⟩
theorem ly_3_0 {tb : Tb} (ok : TbOK tb) {c : Nat} (hk : kd tb c = 3) : kd tb (lay tb c 0) = 7 := (lay_ok ok hk (by decide) 0 fk_3_0).2
theorem ly_3_5 {tb : Tb} (ok : TbOK tb) {c : Nat} (hk : kd tb c = 3) : kd tb (lay tb c 5) = 20 := (lay_ok ok hk (by decide) 5 fk_3_5).2
theorem ml_3_90 : ML RC3 90 y_Pl_troughThere prog_8_method_6_code 2 (some .int) 1 := ⟨gw_in 1159 (by decide +kernel) rfl, mi_7, mc_Pl_troughThere, my_Pl_troughThere⟩
theorem ml_3_83 : ML RC3 83 y_Fo_troughsOf prog_4_method_11_code 5 (some .int) 1 := ⟨gw_in 1155 (by decide +kernel) rfl, mi_3, mc_Fo_troughsOf, my_Fo_troughsOf⟩
theorem mv_Fo_troughsOf : MV y_Fo_troughsOf := ⟨gw_in 1157 (by decide +kernel) rfl, gw_in 35 (by decide +kernel) rfl⟩
theorem ml_0_247 : ML RC0 247 y_Fo_canHelp prog_4_method_9_code 4 (some .boolean) 1 := ⟨gw_in 1147 (by decide +kernel) rfl, mi_3, mc_Fo_canHelp, my_Fo_canHelp⟩
theorem mv_Fo_canHelp : MV y_Fo_canHelp := ⟨gw_in 1148 (by decide +kernel) rfl, gw_in 1149 (by decide +kernel) rfl⟩
theorem ml_0_250 : ML RC0 250 y_Fo_noneFalls prog_4_method_10_code 4 (some .boolean) 2 := ⟨gw_in 1151 (by decide +kernel) rfl, mi_3, mc_Fo_noneFalls, my_Fo_noneFalls⟩
theorem mv_Fo_noneFalls : MV y_Fo_noneFalls := ⟨gw_in 1152 (by decide +kernel) rfl, gw_in 1153 (by decide +kernel) rfl⟩
theorem mm_7_104 : Cond.methodLink RC7 104 Lib.Math.max.name ∈ GW := gw_in 1182 (by decide +kernel) rfl
theorem ly_1_0 {tb : Tb} (ok : TbOK tb) {c : Nat} (hk : kd tb c = 1) : kd tb (lay tb c 0) = 7 := (lay_ok ok hk (by decide) 0 fk_1_0).2
theorem mm_1_31 : Cond.methodLink RC1 31 Lib.Math.abs.name ∈ GW := gw_in 1177 (by decide +kernel) rfl
theorem ml_1_37 : ML RC1 37 y_Pl_hoursFor prog_8_method_8_code 4 (some .int) 2 := ⟨gw_in 1178 (by decide +kernel) rfl, mi_7, mc_Pl_hoursFor, my_Pl_hoursFor⟩
theorem mv_Pl_hoursFor : MV y_Pl_hoursFor := ⟨gw_in 1179 (by decide +kernel) rfl, gw_in 1180 (by decide +kernel) rfl⟩
theorem ly_1_3 {tb : Tb} (ok : TbOK tb) {c : Nat} (hk : kd tb c = 1) : kd tb (lay tb c 3) = 20 := (lay_ok ok hk (by decide) 3 fk_1_3).2
theorem mm_1_74 : Cond.methodLink RC1 74 Lib.Math.min.name ∈ GW := gw_in 1183 (by decide +kernel) rfl
theorem ml_1_53 : ML RC1 53 y_Cn_thirstBehind prog_2_method_2_code 5 (some .int) 4 := ⟨gw_in 1173 (by decide +kernel) rfl, mi_1, mc_Cn_thirstBehind, my_Cn_thirstBehind⟩
theorem mv_Cn_thirstBehind : MV y_Cn_thirstBehind := ⟨gw_in 1175 (by decide +kernel) rfl, gw_in 37 (by decide +kernel) rfl⟩
theorem ly_1_1 {tb : Tb} (ok : TbOK tb) {c : Nat} (hk : kd tb c = 1) : kd tb (lay tb c 1) = 11 := (lay_ok ok hk (by decide) 1 fk_1_1).2
theorem ly_1_2 {tb : Tb} (ok : TbOK tb) {c : Nat} (hk : kd tb c = 1) : kd tb (lay tb c 2) = 20 := (lay_ok ok hk (by decide) 2 fk_1_2).2
theorem ml_1_63 : ML RC1 63 y_Cn_legsFrom prog_2_method_5_code 7 none 3 := ⟨gw_in 1169 (by decide +kernel) rfl, mi_1, mc_Cn_legsFrom, my_Cn_legsFrom⟩
theorem mv_Cn_legsFrom : MV y_Cn_legsFrom := ⟨gw_in 1171 (by decide +kernel) rfl, gw_in 36 (by decide +kernel) rfl⟩
theorem ml_1_67 : MN RC1 67 y_Tt_copy prog_1_method_50_code 2 none 2 := ⟨nw_in 1184 (by decide +kernel) rfl, mi_0, mc_Tt_copy, my_Tt_copy⟩
theorem ml_1_57 : ML RC1 57 y_Ar_fill prog_30_method_103_code 4 none 2 := ⟨gw_in 1168 (by decide +kernel) rfl, mi_Ar, mc_Ar_fill, my_Ar_fill⟩
theorem ly_0_11 {tb : Tb} (ok : TbOK tb) {c : Nat} (hk : kd tb c = 0) : kd tb (lay tb c 11) = 1 := (lay_ok ok hk (by decide) 11 fk_0_11).2
theorem ml_0_254 : ML RC0 254 y_Cn_fewestLegs prog_2_method_4_code 5 (some .int) 2 := ⟨gw_in 1164 (by decide +kernel) rfl, mi_1, mc_Cn_fewestLegs, my_Cn_fewestLegs⟩
theorem mv_Cn_fewestLegs : MV y_Cn_fewestLegs := ⟨gw_in 1165 (by decide +kernel) rfl, gw_in 1166 (by decide +kernel) rfl⟩
theorem ml_0_257 : ML RC0 257 y_Cn_withinOneLeg prog_2_method_3_code 4 (some .int) 1 := ⟨gw_in 1189 (by decide +kernel) rfl, mi_1, mc_Cn_withinOneLeg, my_Cn_withinOneLeg⟩
theorem mv_Cn_withinOneLeg : MV y_Cn_withinOneLeg := ⟨gw_in 1190 (by decide +kernel) rfl, gw_in 1191 (by decide +kernel) rfl⟩
theorem ml_1_80 : ML RC1 80 y_Pl_troughThere prog_8_method_6_code 2 (some .int) 1 := ⟨gw_in 1201 (by decide +kernel) rfl, mi_7, mc_Pl_troughThere, my_Pl_troughThere⟩
theorem ml_0_260 : ML RC0 260 y_Cn_covers prog_2_method_6_code 6 (some .boolean) 2 := ⟨gw_in 1197 (by decide +kernel) rfl, mi_1, mc_Cn_covers, my_Cn_covers⟩
theorem mv_Cn_covers : MV y_Cn_covers := ⟨gw_in 1198 (by decide +kernel) rfl, gw_in 1199 (by decide +kernel) rfl⟩
theorem mm_1_83 : Cond.methodLink RC1 83 Lib.Math.max.name ∈ GW := gw_in 1210 (by decide +kernel) rfl
theorem ml_0_263 : ML RC0 263 y_Cn_wayByAll prog_2_method_7_code 5 (some .int) 1 := ⟨gw_in 1206 (by decide +kernel) rfl, mi_1, mc_Cn_wayByAll, my_Cn_wayByAll⟩
theorem mv_Cn_wayByAll : MV y_Cn_wayByAll := ⟨gw_in 1207 (by decide +kernel) rfl, gw_in 1208 (by decide +kernel) rfl⟩
theorem ml_1_103 : ML RC1 103 y_Cn_gain prog_2_method_13_code 5 (some .int) 4 := ⟨gw_in 1227 (by decide +kernel) rfl, mi_1, mc_Cn_gain, my_Cn_gain⟩
theorem mv_Cn_gain : MV y_Cn_gain := ⟨gw_in 1229 (by decide +kernel) rfl, gw_in 40 (by decide +kernel) rfl⟩
theorem ml_1_99 : ML RC1 99 y_Cn_isRest prog_2_method_12_code 5 (some .boolean) 4 := ⟨gw_in 1223 (by decide +kernel) rfl, mi_1, mc_Cn_isRest, my_Cn_isRest⟩
theorem mv_Cn_isRest : MV y_Cn_isRest := ⟨gw_in 1225 (by decide +kernel) rfl, gw_in 39 (by decide +kernel) rfl⟩
theorem ml_0_266 : ML RC0 266 y_Tt_areTwo prog_1_method_27_code 3 (some .boolean) 2 := ⟨gw_in 1215 (by decide +kernel) rfl, mi_0, mc_Tt_areTwo, my_Tt_areTwo⟩
theorem mv_Tt_areTwo : MV y_Tt_areTwo := ⟨gw_in 1217 (by decide +kernel) rfl, gw_in 38 (by decide +kernel) rfl⟩
theorem ml_0_269 : ML RC0 269 y_Cn_manyRests prog_2_method_10_code 5 (some .int) 2 := ⟨gw_in 1219 (by decide +kernel) rfl, mi_1, mc_Cn_manyRests, my_Cn_manyRests⟩
theorem mv_Cn_manyRests : MV y_Cn_manyRests := ⟨gw_in 1220 (by decide +kernel) rfl, gw_in 1221 (by decide +kernel) rfl⟩
theorem ml_0_272 : ML RC0 272 y_Cn_restNumbered prog_2_method_11_code 6 (some .int) 3 := ⟨gw_in 1235 (by decide +kernel) rfl, mi_1, mc_Cn_restNumbered, my_Cn_restNumbered⟩
theorem mv_Cn_restNumbered : MV y_Cn_restNumbered := ⟨gw_in 1236 (by decide +kernel) rfl, gw_in 1237 (by decide +kernel) rfl⟩
theorem kl_0_276 : Cond.constantLong RC0 276 (-1 : Int64) ∈ GW := gw_in 1243 (by decide +kernel) rfl
theorem ml_0_281 : ML RC0 281 y_Tt_greatestShared prog_1_method_29_code 6 (some .int) 2 := ⟨gw_in 1244 (by decide +kernel) rfl, mi_0, mc_Tt_greatestShared, my_Tt_greatestShared⟩
theorem ms_Tt_greatestShared : Cond.static y_Tt_greatestShared ∈ GW := gw_in 1245 (by decide +kernel) rfl
theorem ml_0_284 : ML RC0 284 y_Wo_pairOf prog_12_method_9_code 2 (some .int) 2 := ⟨gw_in 1251 (by decide +kernel) rfl, mi_11, mc_Wo_pairOf, my_Wo_pairOf⟩
theorem ml_0_293 : ML RC0 293 y_Fo_hoursToMeet prog_4_method_6_code 4 (some .int) 2 := ⟨gw_in 1268 (by decide +kernel) rfl, mi_3, mc_Fo_hoursToMeet, my_Fo_hoursToMeet⟩
theorem mv_Fo_hoursToMeet : MV y_Fo_hoursToMeet := ⟨gw_in 1269 (by decide +kernel) rfl, gw_in 1270 (by decide +kernel) rfl⟩
theorem ml_1_95 : ML RC1 95 y_Wo_isOn prog_12_method_4_code 2 (some .boolean) 1 := ⟨gw_in 1285 (by decide +kernel) rfl, mi_11, mc_Wo_isOn, my_Wo_isOn⟩
theorem ml_1_89 : ML RC1 89 y_Cn_hoursOfAll prog_2_method_9_code 5 (some .int) 1 := ⟨gw_in 1281 (by decide +kernel) rfl, mi_1, mc_Cn_hoursOfAll, my_Cn_hoursOfAll⟩
theorem mv_Cn_hoursOfAll : MV y_Cn_hoursOfAll := ⟨gw_in 1283 (by decide +kernel) rfl, gw_in 41 (by decide +kernel) rfl⟩
theorem kc_1_88 : Cond.constant RC1 88 (2147483647 : Int32) ∈ GW := gw_in 1280 (by decide +kernel) rfl
theorem ml_0_296 : ML RC0 296 y_Cn_gathering prog_2_method_8_code 6 (some .int) 1 := ⟨gw_in 1276 (by decide +kernel) rfl, mi_1, mc_Cn_gathering, my_Cn_gathering⟩
theorem mv_Cn_gathering : MV y_Cn_gathering := ⟨gw_in 1277 (by decide +kernel) rfl, gw_in 1278 (by decide +kernel) rfl⟩
theorem ml_0_299 : ML RC0 299 y_Pl_areEnemies prog_8_method_7_code 4 (some .boolean) 3 := ⟨gw_in 1294 (by decide +kernel) rfl, mi_7, mc_Pl_areEnemies, my_Pl_areEnemies⟩
theorem ml_0_303 : ML RC0 303 y_Fo_hoursToDry prog_4_method_7_code 3 (some .int) 1 := ⟨gw_in 1299 (by decide +kernel) rfl, mi_3, mc_Fo_hoursToDry, my_Fo_hoursToDry⟩
theorem mv_Fo_hoursToDry : MV y_Fo_hoursToDry := ⟨gw_in 1300 (by decide +kernel) rfl, gw_in 1301 (by decide +kernel) rfl⟩
theorem ly_9_2 {tb : Tb} (ok : TbOK tb) {c : Nat} (hk : kd tb c = 9) : kd tb (lay tb c 2) = 20 := (lay_ok ok hk (by decide) 2 fk_9_2).2
theorem ly_9_3 {tb : Tb} (ok : TbOK tb) {c : Nat} (hk : kd tb c = 9) : kd tb (lay tb c 3) = 20 := (lay_ok ok hk (by decide) 3 fk_9_3).2
theorem ly_9_4 {tb : Tb} (ok : TbOK tb) {c : Nat} (hk : kd tb c = 9) : kd tb (lay tb c 4) = 20 := (lay_ok ok hk (by decide) 4 fk_9_4).2
theorem ly_9_5 {tb : Tb} (ok : TbOK tb) {c : Nat} (hk : kd tb c = 9) : kd tb (lay tb c 5) = 22 := (lay_ok ok hk (by decide) 5 fk_9_5).2
theorem ly_9_6 {tb : Tb} (ok : TbOK tb) {c : Nat} (hk : kd tb c = 9) : kd tb (lay tb c 6) = 20 := (lay_ok ok hk (by decide) 6 fk_9_6).2
theorem ml_0_306 : ML RC0 306 y_Se_addSight prog_10_method_3_code 5 (some .int) 4 := ⟨gw_in 1307 (by decide +kernel) rfl, mi_9, mc_Se_addSight, my_Se_addSight⟩
theorem mv_Se_addSight : MV y_Se_addSight := ⟨gw_in 1308 (by decide +kernel) rfl, gw_in 1309 (by decide +kernel) rfl⟩
theorem ml_0_310 : ML RC0 310 y_Se_addStrike prog_10_method_4_code 2 (some .int) 1 := ⟨gw_in 1315 (by decide +kernel) rfl, mi_9, mc_Se_addStrike, my_Se_addStrike⟩
theorem mv_Se_addStrike : MV y_Se_addStrike := ⟨gw_in 1316 (by decide +kernel) rfl, gw_in 1317 (by decide +kernel) rfl⟩
theorem ml_0_313 : ML RC0 313 y_Se_knowBy prog_10_method_5_code 2 (some .boolean) 1 := ⟨gw_in 1323 (by decide +kernel) rfl, mi_9, mc_Se_knowBy, my_Se_knowBy⟩
theorem mv_Se_knowBy : MV y_Se_knowBy := ⟨gw_in 1324 (by decide +kernel) rfl, gw_in 1325 (by decide +kernel) rfl⟩
theorem ly_9_7 {tb : Tb} (ok : TbOK tb) {c : Nat} (hk : kd tb c = 9) : kd tb (lay tb c 7) = 22 := (lay_ok ok hk (by decide) 7 fk_9_7).2
theorem ml_9_38 : ML RC9 38 y_Se_manyKnown prog_10_method_6_code 1 (some .int) 0 := ⟨gw_in 1335 (by decide +kernel) rfl, mi_9, mc_Se_manyKnown, my_Se_manyKnown⟩
theorem mv_Se_manyKnown : MV y_Se_manyKnown := ⟨gw_in 1336 (by decide +kernel) rfl, gw_in 1337 (by decide +kernel) rfl⟩
theorem ml_9_42 : ML RC9 42 y_Se_counts prog_10_method_8_code 2 (some .boolean) 1 := ⟨gw_in 1348 (by decide +kernel) rfl, mi_9, mc_Se_counts, my_Se_counts⟩
theorem mv_Se_counts : MV y_Se_counts := ⟨gw_in 1350 (by decide +kernel) rfl, gw_in 42 (by decide +kernel) rfl⟩
theorem mm_9_46 : Cond.methodLink RC9 46 Lib.Math.max.name ∈ GW := gw_in 1352 (by decide +kernel) rfl
theorem ml_3_128 : ML RC3 128 y_Se_fits prog_10_method_10_code 3 (some .boolean) 1 := ⟨gw_in 1353 (by decide +kernel) rfl, mi_9, mc_Se_fits, my_Se_fits⟩
theorem mv_Se_fits : MV y_Se_fits := ⟨gw_in 1354 (by decide +kernel) rfl, gw_in 1355 (by decide +kernel) rfl⟩
theorem ml_3_115 : ML RC3 115 y_Wo_begin prog_12_method_2_code 2 none 1 := ⟨gw_in 1343 (by decide +kernel) rfl, mi_11, mc_Wo_begin, my_Wo_begin⟩
theorem ml_3_122 : ML RC3 122 y_Se_lastHour prog_10_method_9_code 3 (some .int) 0 := ⟨gw_in 1344 (by decide +kernel) rfl, mi_9, mc_Se_lastHour, my_Se_lastHour⟩
theorem mv_Se_lastHour : MV y_Se_lastHour := ⟨gw_in 1345 (by decide +kernel) rfl, gw_in 1346 (by decide +kernel) rfl⟩
theorem ml_0_319 : ML RC0 319 y_Fo_agrees prog_4_method_14_code 6 (some .boolean) 3 := ⟨gw_in 1339 (by decide +kernel) rfl, mi_3, mc_Fo_agrees, my_Fo_agrees⟩
theorem mv_Fo_agrees : MV y_Fo_agrees := ⟨gw_in 1340 (by decide +kernel) rfl, gw_in 1341 (by decide +kernel) rfl⟩
theorem ml_0_316 : ML RC0 316 y_Se_markStruck prog_10_method_7_code 2 none 0 := ⟨gw_in 1331 (by decide +kernel) rfl, mi_9, mc_Se_markStruck, my_Se_markStruck⟩
theorem mv_Se_markStruck : MV y_Se_markStruck := ⟨gw_in 1332 (by decide +kernel) rfl, gw_in 1333 (by decide +kernel) rfl⟩
theorem ml_3_108 : ML RC3 108 y_Ho_byChance prog_5_method_2_code 1 none 0 := ⟨gw_in 1365 (by decide +kernel) rfl, mi_4, mc_Ho_byChance, my_Ho_byChance⟩
theorem ml_0_323 : ML RC0 323 y_Fo_timesOfTen prog_4_method_13_code 9 (some .int) 4 := ⟨gw_in 1361 (by decide +kernel) rfl, mi_3, mc_Fo_timesOfTen, my_Fo_timesOfTen⟩
theorem mv_Fo_timesOfTen : MV y_Fo_timesOfTen := ⟨gw_in 1362 (by decide +kernel) rfl, gw_in 1363 (by decide +kernel) rfl⟩
theorem ml_3_93 : ML RC3 93 y_Ho_withoutRain prog_5_method_4_code 1 none 0 := ⟨gw_in 1374 (by decide +kernel) rfl, mi_4, mc_Ho_withoutRain, my_Ho_withoutRain⟩
theorem mv_Ho_withoutRain : MV y_Ho_withoutRain := ⟨gw_in 1375 (by decide +kernel) rfl, gw_in 1376 (by decide +kernel) rfl⟩
theorem ml_3_96 : ML RC3 96 y_Ho_withoutDrinking prog_5_method_5_code 1 none 0 := ⟨gw_in 1378 (by decide +kernel) rfl, mi_4, mc_Ho_withoutDrinking, my_Ho_withoutDrinking⟩
theorem mv_Ho_withoutDrinking : MV y_Ho_withoutDrinking := ⟨gw_in 1379 (by decide +kernel) rfl, gw_in 1380 (by decide +kernel) rfl⟩
theorem ml_3_99 : ML RC3 99 y_Ar_fill prog_30_method_103_code 4 none 2 := ⟨gw_in 1382 (by decide +kernel) rfl, mi_Ar, mc_Ar_fill, my_Ar_fill⟩
theorem ml_3_105 : ML RC3 105 y_Ho_withTwicePace prog_5_method_6_code 1 none 0 := ⟨gw_in 1383 (by decide +kernel) rfl, mi_4, mc_Ho_withTwicePace, my_Ho_withTwicePace⟩
theorem mv_Ho_withTwicePace : MV y_Ho_withTwicePace := ⟨gw_in 1384 (by decide +kernel) rfl, gw_in 1385 (by decide +kernel) rfl⟩
theorem ml_0_327 : ML RC0 327 y_Fo_fightsOtherwise prog_4_method_12_code 4 (some .int) 3 := ⟨gw_in 1370 (by decide +kernel) rfl, mi_3, mc_Fo_fightsOtherwise, my_Fo_fightsOtherwise⟩
theorem mv_Fo_fightsOtherwise : MV y_Fo_fightsOtherwise := ⟨gw_in 1371 (by decide +kernel) rfl, gw_in 1372 (by decide +kernel) rfl⟩
theorem ml_0_330 : ML RC0 330 y_De_undoLatest prog_3_method_7_code 2 (some .int) 1 := ⟨gw_in 1391 (by decide +kernel) rfl, mi_2, mc_De_undoLatest, my_De_undoLatest⟩
theorem mv_De_undoLatest : MV y_De_undoLatest := ⟨gw_in 1392 (by decide +kernel) rfl, gw_in 1393 (by decide +kernel) rfl⟩
theorem ly_0_5 {tb : Tb} (ok : TbOK tb) {c : Nat} (hk : kd tb c = 0) : kd tb (lay tb c 5) = 11 := (lay_ok ok hk (by decide) 5 fk_0_5).2
theorem ml_0_334 : ML RC0 334 y_Wo_become prog_12_method_3_code 2 none 1 := ⟨gw_in 1399 (by decide +kernel) rfl, mi_11, mc_Wo_become, my_Wo_become⟩
theorem ml_0_349 : ML RC0 349 y_Tt_waterInAll prog_1_method_49_code 3 (some .int) 0 := ⟨gw_in 1408 (by decide +kernel) rfl, mi_0, mc_Tt_waterInAll, my_Tt_waterInAll⟩
theorem mv_Tt_waterInAll : MV y_Tt_waterInAll := ⟨gw_in 1410 (by decide +kernel) rfl, gw_in 43 (by decide +kernel) rfl⟩
theorem ml_0_359 : ML RC0 359 y_Se_manyKnown prog_10_method_6_code 1 (some .int) 0 := ⟨gw_in 1412 (by decide +kernel) rfl, mi_9, mc_Se_manyKnown, my_Se_manyKnown⟩
theorem ly_12_0 {tb : Tb} (ok : TbOK tb) {c : Nat} (hk : kd tb c = 12) : kd tb (lay tb c 0) = 20 := (lay_ok ok hk (by decide) 0 fk_12_0).2
theorem si_255 : (Int16.ofInt (255)).toInt32 = (255 : Int32) := by decide
theorem ly_12_3 {tb : Tb} (ok : TbOK tb) {c : Nat} (hk : kd tb c = 12) : kd tb (lay tb c 3) = 20 := (lay_ok ok hk (by decide) 3 fk_12_3).2
theorem bi_96 : (Int8.ofInt (96)).toInt32 = (96 : Int32) := by decide
theorem bi_59 : (Int8.ofInt (59)).toInt32 = (59 : Int32) := by decide
theorem bi_43 : (Int8.ofInt (43)).toInt32 = (43 : Int32) := by decide
theorem bi_45 : (Int8.ofInt (45)).toInt32 = (45 : Int32) := by decide
theorem bi_47 : (Int8.ofInt (47)).toInt32 = (47 : Int32) := by decide
theorem ml_12_195 : ML RC12 195 y_Md_isDigit prog_14_method_9_code 2 (some .boolean) 1 := ⟨gw_in 1809 (by decide +kernel) rfl, mi_12, mc_Md_isDigit, my_Md_isDigit⟩
theorem mv_Md_isDigit : MV y_Md_isDigit := ⟨gw_in 1811 (by decide +kernel) rfl, gw_in 54 (by decide +kernel) rfl⟩
theorem kc_12_198 : Cond.constant RC12 198 (99999 : Int32) ∈ GW := gw_in 1813 (by decide +kernel) rfl
theorem ml_12_192 : ML RC12 192 y_Md_packed prog_14_method_12_code 5 (some .int) 2 := ⟨gw_in 1805 (by decide +kernel) rfl, mi_12, mc_Md_packed, my_Md_packed⟩
theorem mv_Md_packed : MV y_Md_packed := ⟨gw_in 1807 (by decide +kernel) rfl, gw_in 53 (by decide +kernel) rfl⟩
theorem ml_12_181 : ML RC12 181 y_Md_isSmall prog_14_method_8_code 2 (some .boolean) 1 := ⟨gw_in 1797 (by decide +kernel) rfl, mi_12, mc_Md_isSmall, my_Md_isSmall⟩
theorem mv_Md_isSmall : MV y_Md_isSmall := ⟨gw_in 1799 (by decide +kernel) rfl, gw_in 51 (by decide +kernel) rfl⟩
theorem ml_12_185 : ML RC12 185 y_Md_wordAt prog_14_method_7_code 8 (some .int) 2 := ⟨gw_in 1801 (by decide +kernel) rfl, mi_12, mc_Md_wordAt, my_Md_wordAt⟩
theorem mv_Md_wordAt : MV y_Md_wordAt := ⟨gw_in 1803 (by decide +kernel) rfl, gw_in 52 (by decide +kernel) rfl⟩
theorem ml_12_199 : ML RC12 199 y_Md_signToken prog_14_method_11_code 4 none 0 := ⟨gw_in 1814 (by decide +kernel) rfl, mi_12, mc_Md_signToken, my_Md_signToken⟩
theorem mv_Md_signToken : MV y_Md_signToken := ⟨gw_in 1816 (by decide +kernel) rfl, gw_in 55 (by decide +kernel) rfl⟩
theorem ml_12_205 : ML RC12 205 y_Md_isIn prog_14_method_4_code 3 (some .boolean) 3 := ⟨gw_in 1834 (by decide +kernel) rfl, mi_12, mc_Md_isIn, my_Md_isIn⟩
theorem ms_Md_isIn : Cond.static y_Md_isIn ∈ GW := gw_in 1835 (by decide +kernel) rfl
theorem ml_12_212 : ML RC12 212 y_Md_token prog_14_method_10_code 1 none 0 := ⟨gw_in 1793 (by decide +kernel) rfl, mi_12, mc_Md_token, my_Md_token⟩
theorem mv_Md_token : MV y_Md_token := ⟨gw_in 1795 (by decide +kernel) rfl, gw_in 50 (by decide +kernel) rfl⟩
theorem ml_12_202 : ML RC12 202 y_Md_wrong prog_14_method_6_code 2 (some .boolean) 1 := ⟨gw_in 1822 (by decide +kernel) rfl, mi_12, mc_Md_wrong, my_Md_wrong⟩
theorem mv_Md_wrong : MV y_Md_wrong := ⟨gw_in 1824 (by decide +kernel) rfl, gw_in 57 (by decide +kernel) rfl⟩
theorem ly_12_37 {tb : Tb} (ok : TbOK tb) {c : Nat} (hk : kd tb c = 12) : kd tb (lay tb c 37) = 22 := (lay_ok ok hk (by decide) 37 fk_12_37).2
theorem ly_12_23 {tb : Tb} (ok : TbOK tb) {c : Nat} (hk : kd tb c = 12) : kd tb (lay tb c 23) = 22 := (lay_ok ok hk (by decide) 23 fk_12_23).2
theorem ly_12_24 {tb : Tb} (ok : TbOK tb) {c : Nat} (hk : kd tb c = 12) : kd tb (lay tb c 24) = 20 := (lay_ok ok hk (by decide) 24 fk_12_24).2
theorem ly_12_61 {tb : Tb} (ok : TbOK tb) {c : Nat} (hk : kd tb c = 12) : kd tb (lay tb c 61) = 20 := (lay_ok ok hk (by decide) 61 fk_12_61).2
theorem ly_12_62 {tb : Tb} (ok : TbOK tb) {c : Nat} (hk : kd tb c = 12) : kd tb (lay tb c 62) = 20 := (lay_ok ok hk (by decide) 62 fk_12_62).2
theorem ly_12_63 {tb : Tb} (ok : TbOK tb) {c : Nat} (hk : kd tb c = 12) : kd tb (lay tb c 63) = 20 := (lay_ok ok hk (by decide) 63 fk_12_63).2
theorem ly_12_64 {tb : Tb} (ok : TbOK tb) {c : Nat} (hk : kd tb c = 12) : kd tb (lay tb c 64) = 20 := (lay_ok ok hk (by decide) 64 fk_12_64).2
theorem ly_12_65 {tb : Tb} (ok : TbOK tb) {c : Nat} (hk : kd tb c = 12) : kd tb (lay tb c 65) = 20 := (lay_ok ok hk (by decide) 65 fk_12_65).2
theorem ly_12_66 {tb : Tb} (ok : TbOK tb) {c : Nat} (hk : kd tb c = 12) : kd tb (lay tb c 66) = 20 := (lay_ok ok hk (by decide) 66 fk_12_66).2
theorem ly_12_60 {tb : Tb} (ok : TbOK tb) {c : Nat} (hk : kd tb c = 12) : kd tb (lay tb c 60) = 20 := (lay_ok ok hk (by decide) 60 fk_12_60).2
theorem ly_12_27 {tb : Tb} (ok : TbOK tb) {c : Nat} (hk : kd tb c = 12) : kd tb (lay tb c 27) = 20 := (lay_ok ok hk (by decide) 27 fk_12_27).2
theorem ly_12_54 {tb : Tb} (ok : TbOK tb) {c : Nat} (hk : kd tb c = 12) : kd tb (lay tb c 54) = 20 := (lay_ok ok hk (by decide) 54 fk_12_54).2
theorem ly_12_31 {tb : Tb} (ok : TbOK tb) {c : Nat} (hk : kd tb c = 12) : kd tb (lay tb c 31) = 20 := (lay_ok ok hk (by decide) 31 fk_12_31).2
theorem ly_12_55 {tb : Tb} (ok : TbOK tb) {c : Nat} (hk : kd tb c = 12) : kd tb (lay tb c 55) = 20 := (lay_ok ok hk (by decide) 55 fk_12_55).2
theorem ly_12_32 {tb : Tb} (ok : TbOK tb) {c : Nat} (hk : kd tb c = 12) : kd tb (lay tb c 32) = 20 := (lay_ok ok hk (by decide) 32 fk_12_32).2
theorem ly_12_56 {tb : Tb} (ok : TbOK tb) {c : Nat} (hk : kd tb c = 12) : kd tb (lay tb c 56) = 20 := (lay_ok ok hk (by decide) 56 fk_12_56).2
theorem ly_12_57 {tb : Tb} (ok : TbOK tb) {c : Nat} (hk : kd tb c = 12) : kd tb (lay tb c 57) = 20 := (lay_ok ok hk (by decide) 57 fk_12_57).2
theorem ly_12_58 {tb : Tb} (ok : TbOK tb) {c : Nat} (hk : kd tb c = 12) : kd tb (lay tb c 58) = 22 := (lay_ok ok hk (by decide) 58 fk_12_58).2
theorem ly_12_59 {tb : Tb} (ok : TbOK tb) {c : Nat} (hk : kd tb c = 12) : kd tb (lay tb c 59) = 20 := (lay_ok ok hk (by decide) 59 fk_12_59).2
theorem ml_12_367 : ML RC12 367 y_Md_atFirst prog_14_method_47_code 3 none 1 := ⟨gw_in 1520 (by decide +kernel) rfl, mi_12, mc_Md_atFirst, my_Md_atFirst⟩
theorem mv_Md_atFirst : MV y_Md_atFirst := ⟨gw_in 1522 (by decide +kernel) rfl, gw_in 48 (by decide +kernel) rfl⟩
theorem ml_12_374 : ML RC12 374 y_Md_plainTried prog_14_method_48_code 1 none 0 := ⟨gw_in 1524 (by decide +kernel) rfl, mi_12, mc_Md_plainTried, my_Md_plainTried⟩
theorem mv_Md_plainTried : MV y_Md_plainTried := ⟨gw_in 1526 (by decide +kernel) rfl, gw_in 49 (by decide +kernel) rfl⟩
theorem ly_12_38 {tb : Tb} (ok : TbOK tb) {c : Nat} (hk : kd tb c = 12) : kd tb (lay tb c 38) = 20 := (lay_ok ok hk (by decide) 38 fk_12_38).2
theorem ml_12_258 : ML RC12 258 y_Md_copies prog_14_method_18_code 3 none 2 := ⟨gw_in 1513 (by decide +kernel) rfl, mi_12, mc_Md_copies, my_Md_copies⟩
theorem ms_Md_copies : Cond.static y_Md_copies ∈ GW := gw_in 1514 (by decide +kernel) rfl
theorem ly_12_39 {tb : Tb} (ok : TbOK tb) {c : Nat} (hk : kd tb c = 12) : kd tb (lay tb c 39) = 20 := (lay_ok ok hk (by decide) 39 fk_12_39).2
theorem ly_12_40 {tb : Tb} (ok : TbOK tb) {c : Nat} (hk : kd tb c = 12) : kd tb (lay tb c 40) = 20 := (lay_ok ok hk (by decide) 40 fk_12_40).2
theorem ly_12_41 {tb : Tb} (ok : TbOK tb) {c : Nat} (hk : kd tb c = 12) : kd tb (lay tb c 41) = 20 := (lay_ok ok hk (by decide) 41 fk_12_41).2
theorem ly_12_42 {tb : Tb} (ok : TbOK tb) {c : Nat} (hk : kd tb c = 12) : kd tb (lay tb c 42) = 20 := (lay_ok ok hk (by decide) 42 fk_12_42).2
theorem ml_12_262 : ML RC12 262 y_Md_begin prog_14_method_46_code 1 none 0 := ⟨gw_in 1516 (by decide +kernel) rfl, mi_12, mc_Md_begin, my_Md_begin⟩
theorem mv_Md_begin : MV y_Md_begin := ⟨gw_in 1518 (by decide +kernel) rfl, gw_in 47 (by decide +kernel) rfl⟩
theorem ly_12_25 {tb : Tb} (ok : TbOK tb) {c : Nat} (hk : kd tb c = 12) : kd tb (lay tb c 25) = 20 := (lay_ok ok hk (by decide) 25 fk_12_25).2
theorem ly_12_26 {tb : Tb} (ok : TbOK tb) {c : Nat} (hk : kd tb c = 12) : kd tb (lay tb c 26) = 20 := (lay_ok ok hk (by decide) 26 fk_12_26).2
theorem ly_12_28 {tb : Tb} (ok : TbOK tb) {c : Nat} (hk : kd tb c = 12) : kd tb (lay tb c 28) = 20 := (lay_ok ok hk (by decide) 28 fk_12_28).2
theorem ly_12_29 {tb : Tb} (ok : TbOK tb) {c : Nat} (hk : kd tb c = 12) : kd tb (lay tb c 29) = 20 := (lay_ok ok hk (by decide) 29 fk_12_29).2
theorem ly_12_30 {tb : Tb} (ok : TbOK tb) {c : Nat} (hk : kd tb c = 12) : kd tb (lay tb c 30) = 20 := (lay_ok ok hk (by decide) 30 fk_12_30).2
theorem ly_12_33 {tb : Tb} (ok : TbOK tb) {c : Nat} (hk : kd tb c = 12) : kd tb (lay tb c 33) = 20 := (lay_ok ok hk (by decide) 33 fk_12_33).2
theorem ly_12_34 {tb : Tb} (ok : TbOK tb) {c : Nat} (hk : kd tb c = 12) : kd tb (lay tb c 34) = 20 := (lay_ok ok hk (by decide) 34 fk_12_34).2
theorem ly_12_35 {tb : Tb} (ok : TbOK tb) {c : Nat} (hk : kd tb c = 12) : kd tb (lay tb c 35) = 20 := (lay_ok ok hk (by decide) 35 fk_12_35).2
theorem ly_12_36 {tb : Tb} (ok : TbOK tb) {c : Nat} (hk : kd tb c = 12) : kd tb (lay tb c 36) = 20 := (lay_ok ok hk (by decide) 36 fk_12_36).2
theorem ml_12_265 : ML RC12 265 y_Md_find prog_14_method_20_code 5 (some .int) 4 := ⟨gw_in 1845 (by decide +kernel) rfl, mi_12, mc_Md_find, my_Md_find⟩
theorem ms_Md_find : Cond.static y_Md_find ∈ GW := gw_in 1846 (by decide +kernel) rfl
theorem ml_12_218 : ML RC12 218 y_Md_number prog_14_method_15_code 3 (some .boolean) 2 := ⟨gw_in 1830 (by decide +kernel) rfl, mi_12, mc_Md_number, my_Md_number⟩
theorem mv_Md_number : MV y_Md_number := ⟨gw_in 1832 (by decide +kernel) rfl, gw_in 59 (by decide +kernel) rfl⟩
theorem ml_12_269 : ML RC12 269 y_Md_newName prog_14_method_21_code 4 (some .boolean) 3 := ⟨gw_in 1841 (by decide +kernel) rfl, mi_12, mc_Md_newName, my_Md_newName⟩
theorem mv_Md_newName : MV y_Md_newName := ⟨gw_in 1843 (by decide +kernel) rfl, gw_in 61 (by decide +kernel) rfl⟩
theorem ml_12_273 : ML RC12 273 y_Md_thereIn prog_14_method_22_code 5 (some .boolean) 3 := ⟨gw_in 1856 (by decide +kernel) rfl, mi_12, mc_Md_thereIn, my_Md_thereIn⟩
theorem mv_Md_thereIn : MV y_Md_thereIn := ⟨gw_in 1858 (by decide +kernel) rfl, gw_in 64 (by decide +kernel) rfl⟩
theorem ly_12_43 {tb : Tb} (ok : TbOK tb) {c : Nat} (hk : kd tb c = 12) : kd tb (lay tb c 43) = 20 := (lay_ok ok hk (by decide) 43 fk_12_43).2
theorem bi_13 : (Int8.ofInt (13)).toInt32 = (13 : Int32) := by decide
theorem ly_12_44 {tb : Tb} (ok : TbOK tb) {c : Nat} (hk : kd tb c = 12) : kd tb (lay tb c 44) = 20 := (lay_ok ok hk (by decide) 44 fk_12_44).2
theorem ml_12_312 : ML RC12 312 y_Md_grown prog_14_method_33_code 4 none 3 := ⟨gw_in 1892 (by decide +kernel) rfl, mi_12, mc_Md_grown, my_Md_grown⟩
theorem mv_Md_grown : MV y_Md_grown := ⟨gw_in 1894 (by decide +kernel) rfl, gw_in 73 (by decide +kernel) rfl⟩
theorem ml_12_330 : ML RC12 330 y_Md_isCounted prog_14_method_36_code 1 (some .boolean) 0 := ⟨gw_in 1884 (by decide +kernel) rfl, mi_12, mc_Md_isCounted, my_Md_isCounted⟩
theorem mv_Md_isCounted : MV y_Md_isCounted := ⟨gw_in 1886 (by decide +kernel) rfl, gw_in 71 (by decide +kernel) rfl⟩
theorem ml_12_333 : ML RC12 333 y_Md_nameMet prog_14_method_38_code 1 (some .int) 0 := ⟨gw_in 1888 (by decide +kernel) rfl, mi_12, mc_Md_nameMet, my_Md_nameMet⟩
theorem mv_Md_nameMet : MV y_Md_nameMet := ⟨gw_in 1890 (by decide +kernel) rfl, gw_in 72 (by decide +kernel) rfl⟩
theorem ml_12_215 : ML RC12 215 y_Md_isSign prog_14_method_14_code 2 (some .boolean) 1 := ⟨gw_in 1868 (by decide +kernel) rfl, mi_12, mc_Md_isSign, my_Md_isSign⟩
theorem mv_Md_isSign : MV y_Md_isSign := ⟨gw_in 1870 (by decide +kernel) rfl, gw_in 67 (by decide +kernel) rfl⟩
theorem ml_12_327 : ML RC12 327 y_Md_isKey prog_14_method_13_code 2 (some .boolean) 1 := ⟨gw_in 1880 (by decide +kernel) rfl, mi_12, mc_Md_isKey, my_Md_isKey⟩
theorem mv_Md_isKey : MV y_Md_isKey := ⟨gw_in 1882 (by decide +kernel) rfl, gw_in 70 (by decide +kernel) rfl⟩
theorem ml_12_319 : ML RC12 319 y_Md_waitsFor prog_14_method_37_code 2 none 1 := ⟨gw_in 1876 (by decide +kernel) rfl, mi_12, mc_Md_waitsFor, my_Md_waitsFor⟩
theorem mv_Md_waitsFor : MV y_Md_waitsFor := ⟨gw_in 1878 (by decide +kernel) rfl, gw_in 69 (by decide +kernel) rfl⟩
theorem bi_11 : (Int8.ofInt (11)).toInt32 = (11 : Int32) := by decide
theorem ml_12_308 : ML RC12 308 y_Md_dropHeld prog_14_method_34_code 1 (some .int) 0 := ⟨gw_in 1907 (by decide +kernel) rfl, mi_12, mc_Md_dropHeld, my_Md_dropHeld⟩
theorem mv_Md_dropHeld : MV y_Md_dropHeld := ⟨gw_in 1909 (by decide +kernel) rfl, gw_in 76 (by decide +kernel) rfl⟩
theorem ml_12_304 : ML RC12 304 y_Md_rank prog_14_method_32_code 1 (some .int) 1 := ⟨gw_in 1904 (by decide +kernel) rfl, mi_12, mc_Md_rank, my_Md_rank⟩
theorem ms_Md_rank : Cond.static y_Md_rank ∈ GW := gw_in 1905 (by decide +kernel) rfl
theorem ml_12_339 : ML RC12 339 y_Md_bind prog_14_method_35_code 5 none 1 := ⟨gw_in 1900 (by decide +kernel) rfl, mi_12, mc_Md_bind, my_Md_bind⟩
theorem mv_Md_bind : MV y_Md_bind := ⟨gw_in 1902 (by decide +kernel) rfl, gw_in 75 (by decide +kernel) rfl⟩
theorem bi_14 : (Int8.ofInt (14)).toInt32 = (14 : Int32) := by decide
theorem ml_12_345 : ML RC12 345 y_Md_signs prog_14_method_40_code 2 (some .boolean) 0 := ⟨gw_in 1896 (by decide +kernel) rfl, mi_12, mc_Md_signs, my_Md_signs⟩
theorem mv_Md_signs : MV y_Md_signs := ⟨gw_in 1898 (by decide +kernel) rfl, gw_in 74 (by decide +kernel) rfl⟩
theorem ml_12_342 : ML RC12 342 y_Md_leafRead prog_14_method_39_code 2 (some .boolean) 0 := ⟨gw_in 1872 (by decide +kernel) rfl, mi_12, mc_Md_leafRead, my_Md_leafRead⟩
theorem mv_Md_leafRead : MV y_Md_leafRead := ⟨gw_in 1874 (by decide +kernel) rfl, gw_in 68 (by decide +kernel) rfl⟩
theorem ml_12_276 : ML RC12 276 y_Md_roadLine prog_14_method_23_code 1 (some .boolean) 0 := ⟨gw_in 1826 (by decide +kernel) rfl, mi_12, mc_Md_roadLine, my_Md_roadLine⟩
theorem mv_Md_roadLine : MV y_Md_roadLine := ⟨gw_in 1828 (by decide +kernel) rfl, gw_in 58 (by decide +kernel) rfl⟩
theorem ml_12_280 : ML RC12 280 y_Md_troughLine prog_14_method_24_code 3 (some .boolean) 0 := ⟨gw_in 1837 (by decide +kernel) rfl, mi_12, mc_Md_troughLine, my_Md_troughLine⟩
theorem mv_Md_troughLine : MV y_Md_troughLine := ⟨gw_in 1839 (by decide +kernel) rfl, gw_in 60 (by decide +kernel) rfl⟩
theorem ml_12_283 : ML RC12 283 y_Md_horseLine prog_14_method_25_code 2 (some .boolean) 0 := ⟨gw_in 1848 (by decide +kernel) rfl, mi_12, mc_Md_horseLine, my_Md_horseLine⟩
theorem mv_Md_horseLine : MV y_Md_horseLine := ⟨gw_in 1850 (by decide +kernel) rfl, gw_in 62 (by decide +kernel) rfl⟩
theorem ml_12_286 : ML RC12 286 y_Md_lapLine prog_14_method_26_code 2 (some .boolean) 0 := ⟨gw_in 1852 (by decide +kernel) rfl, mi_12, mc_Md_lapLine, my_Md_lapLine⟩
theorem mv_Md_lapLine : MV y_Md_lapLine := ⟨gw_in 1854 (by decide +kernel) rfl, gw_in 63 (by decide +kernel) rfl⟩
theorem ml_12_289 : ML RC12 289 y_Md_onceLine prog_14_method_27_code 3 (some .boolean) 2 := ⟨gw_in 1860 (by decide +kernel) rfl, mi_12, mc_Md_onceLine, my_Md_onceLine⟩
theorem mv_Md_onceLine : MV y_Md_onceLine := ⟨gw_in 1862 (by decide +kernel) rfl, gw_in 65 (by decide +kernel) rfl⟩
theorem bi_7 : (Int8.ofInt (7)).toInt32 = (7 : Int32) := by decide
theorem ml_12_292 : ML RC12 292 y_Md_sumRead prog_14_method_41_code 1 (some .boolean) 0 := ⟨gw_in 1864 (by decide +kernel) rfl, mi_12, mc_Md_sumRead, my_Md_sumRead⟩
theorem mv_Md_sumRead : MV y_Md_sumRead := ⟨gw_in 1866 (by decide +kernel) rfl, gw_in 66 (by decide +kernel) rfl⟩
theorem ml_12_157 : ML RC12 157 y_Md_keepText prog_14_method_19_code 2 none 0 := ⟨gw_in 1509 (by decide +kernel) rfl, mi_12, mc_Md_keepText, my_Md_keepText⟩
theorem mv_Md_keepText : MV y_Md_keepText := ⟨gw_in 1511 (by decide +kernel) rfl, gw_in 46 (by decide +kernel) rfl⟩
theorem ml_12_295 : ML RC12 295 y_Md_lineRead prog_14_method_28_code 3 (some .boolean) 0 := ⟨gw_in 1818 (by decide +kernel) rfl, mi_12, mc_Md_lineRead, my_Md_lineRead⟩
theorem mv_Md_lineRead : MV y_Md_lineRead := ⟨gw_in 1820 (by decide +kernel) rfl, gw_in 56 (by decide +kernel) rfl⟩
theorem ml_12_154 : ML RC12 154 y_Md_plain prog_14_method_17_code 2 none 0 := ⟨gw_in 1505 (by decide +kernel) rfl, mi_12, mc_Md_plain, my_Md_plain⟩
theorem mv_Md_plain : MV y_Md_plain := ⟨gw_in 1507 (by decide +kernel) rfl, gw_in 45 (by decide +kernel) rfl⟩
theorem kl_12_351 : Cond.constantLong RC12 351 (1000000000000 : Int64) ∈ GW := gw_in 1975 (by decide +kernel) rfl
theorem kl_12_353 : Cond.constantLong RC12 353 (-1000000000000 : Int64) ∈ GW := gw_in 1976 (by decide +kernel) rfl
theorem ly_12_52 {tb : Tb} (ok : TbOK tb) {c : Nat} (hk : kd tb c = 12) : kd tb (lay tb c 52) = 23 := (lay_ok ok hk (by decide) 52 fk_12_52).2
theorem ml_12_363 : ML RC12 363 y_Md_compares prog_14_method_43_code 5 (some .boolean) 3 := ⟨gw_in 1981 (by decide +kernel) rfl, mi_12, mc_Md_compares, my_Md_compares⟩
theorem ms_Md_compares : Cond.static y_Md_compares ∈ GW := gw_in 1982 (by decide +kernel) rfl
theorem ml_12_355 : ML RC12 355 y_Md_bounded prog_14_method_42_code 3 (some .long) 1 := ⟨gw_in 1971 (by decide +kernel) rfl, mi_12, mc_Md_bounded, my_Md_bounded⟩
theorem mv_Md_bounded : MV y_Md_bounded := ⟨gw_in 1973 (by decide +kernel) rfl, gw_in 86 (by decide +kernel) rfl⟩
theorem ml_12_359 : ML RC12 359 y_Md_times prog_14_method_44_code 6 (some .long) 2 := ⟨gw_in 1977 (by decide +kernel) rfl, mi_12, mc_Md_times, my_Md_times⟩
theorem mv_Md_times : MV y_Md_times := ⟨gw_in 1979 (by decide +kernel) rfl, gw_in 87 (by decide +kernel) rfl⟩
theorem ly_12_51 {tb : Tb} (ok : TbOK tb) {c : Nat} (hk : kd tb c = 12) : kd tb (lay tb c 51) = 23 := (lay_ok ok hk (by decide) 51 fk_12_51).2
theorem ml_12_398 : ML RC12 398 y_Md_sizeOf prog_14_method_52_code 1 (some .int) 1 := ⟨gw_in 1960 (by decide +kernel) rfl, mi_12, mc_Md_sizeOf, my_Md_sizeOf⟩
theorem ms_Md_sizeOf : Cond.static y_Md_sizeOf ∈ GW := gw_in 1961 (by decide +kernel) rfl
theorem ml_12_407 : ML RC12 407 y_Md_farOf prog_14_method_55_code 3 (some .int) 2 := ⟨gw_in 1956 (by decide +kernel) rfl, mi_12, mc_Md_farOf, my_Md_farOf⟩
theorem mv_Md_farOf : MV y_Md_farOf := ⟨gw_in 1958 (by decide +kernel) rfl, gw_in 83 (by decide +kernel) rfl⟩
theorem ml_12_401 : ML RC12 401 y_Md_troughAt prog_14_method_54_code 2 (some .int) 1 := ⟨gw_in 1948 (by decide +kernel) rfl, mi_12, mc_Md_troughAt, my_Md_troughAt⟩
theorem mv_Md_troughAt : MV y_Md_troughAt := ⟨gw_in 1950 (by decide +kernel) rfl, gw_in 81 (by decide +kernel) rfl⟩
theorem ml_12_404 : ML RC12 404 y_Md_paceOf prog_14_method_53_code 2 (some .int) 1 := ⟨gw_in 1952 (by decide +kernel) rfl, mi_12, mc_Md_paceOf, my_Md_paceOf⟩
theorem mv_Md_paceOf : MV y_Md_paceOf := ⟨gw_in 1954 (by decide +kernel) rfl, gw_in 82 (by decide +kernel) rfl⟩
theorem ml_12_410 : ML RC12 410 y_Md_valueOf prog_14_method_45_code 6 (some .long) 1 := ⟨gw_in 1967 (by decide +kernel) rfl, mi_12, mc_Md_valueOf, my_Md_valueOf⟩
theorem mv_Md_valueOf : MV y_Md_valueOf := ⟨gw_in 1969 (by decide +kernel) rfl, gw_in 85 (by decide +kernel) rfl⟩
theorem ml_12_414 : ML RC12 414 y_Md_layNames prog_14_method_56_code 5 none 2 := ⟨gw_in 1944 (by decide +kernel) rfl, mi_12, mc_Md_layNames, my_Md_layNames⟩
theorem mv_Md_layNames : MV y_Md_layNames := ⟨gw_in 1946 (by decide +kernel) rfl, gw_in 80 (by decide +kernel) rfl⟩
theorem ml_12_418 : ML RC12 418 y_Md_lawOf prog_14_method_57_code 3 (some .long) 1 := ⟨gw_in 1963 (by decide +kernel) rfl, mi_12, mc_Md_lawOf, my_Md_lawOf⟩
theorem mv_Md_lawOf : MV y_Md_lawOf := ⟨gw_in 1965 (by decide +kernel) rfl, gw_in 84 (by decide +kernel) rfl⟩
theorem kl_12_421 : Cond.constantLong RC12 421 (99 : Int64) ∈ GW := gw_in 2020 (by decide +kernel) rfl
theorem kl_12_423 : Cond.constantLong RC12 423 (1103515245 : Int64) ∈ GW := gw_in 2041 (by decide +kernel) rfl
theorem kl_12_425 : Cond.constantLong RC12 425 (12345 : Int64) ∈ GW := gw_in 2042 (by decide +kernel) rfl
theorem kl_12_427 : Cond.constantLong RC12 427 (2147483647 : Int64) ∈ GW := gw_in 2043 (by decide +kernel) rfl
theorem kl_12_429 : Cond.constantLong RC12 429 (65536 : Int64) ∈ GW := gw_in 2044 (by decide +kernel) rfl
theorem ml_12_431 : ML RC12 431 y_Md_number1 prog_14_method_59_code 2 (some .int) 1 := ⟨gw_in 2037 (by decide +kernel) rfl, mi_12, mc_Md_number1, my_Md_number1⟩
theorem mv_Md_number1 : MV y_Md_number1 := ⟨gw_in 2039 (by decide +kernel) rfl, gw_in 97 (by decide +kernel) rfl⟩
theorem ml_12_434 : ML RC12 434 y_Md_boundLaw prog_14_method_58_code 7 (some .int) 4 := ⟨gw_in 2016 (by decide +kernel) rfl, mi_12, mc_Md_boundLaw, my_Md_boundLaw⟩
theorem mv_Md_boundLaw : MV y_Md_boundLaw := ⟨gw_in 2018 (by decide +kernel) rfl, gw_in 92 (by decide +kernel) rfl⟩
theorem ml_12_441 : ML RC12 441 y_Md_more prog_14_method_63_code 3 (some .int) 2 := ⟨gw_in 2029 (by decide +kernel) rfl, mi_12, mc_Md_more, my_Md_more⟩
theorem mv_Md_more : MV y_Md_more := ⟨gw_in 2031 (by decide +kernel) rfl, gw_in 95 (by decide +kernel) rfl⟩
theorem ml_12_453 : ML RC12 453 y_Md_isRain prog_14_method_60_code 1 (some .boolean) 0 := ⟨gw_in 2033 (by decide +kernel) rfl, mi_12, mc_Md_isRain, my_Md_isRain⟩
theorem mv_Md_isRain : MV y_Md_isRain := ⟨gw_in 2035 (by decide +kernel) rfl, gw_in 96 (by decide +kernel) rfl⟩
theorem ml_12_450 : ML RC12 450 y_Md_meets prog_14_method_64_code 7 none 3 := ⟨gw_in 2025 (by decide +kernel) rfl, mi_12, mc_Md_meets, my_Md_meets⟩
theorem mv_Md_meets : MV y_Md_meets := ⟨gw_in 2027 (by decide +kernel) rfl, gw_in 94 (by decide +kernel) rfl⟩
theorem ml_12_447 : ML RC12 447 y_Md_drinks prog_14_method_62_code 6 none 2 := ⟨gw_in 2021 (by decide +kernel) rfl, mi_12, mc_Md_drinks, my_Md_drinks⟩
theorem mv_Md_drinks : MV y_Md_drinks := ⟨gw_in 2023 (by decide +kernel) rfl, gw_in 93 (by decide +kernel) rfl⟩
theorem ml_12_444 : ML RC12 444 y_Md_walks prog_14_method_61_code 6 none 2 := ⟨gw_in 2012 (by decide +kernel) rfl, mi_12, mc_Md_walks, my_Md_walks⟩
theorem mv_Md_walks : MV y_Md_walks := ⟨gw_in 2014 (by decide +kernel) rfl, gw_in 91 (by decide +kernel) rfl⟩
theorem ml_12_456 : ML RC12 456 y_Md_hourGoes prog_14_method_65_code 4 none 1 := ⟨gw_in 2008 (by decide +kernel) rfl, mi_12, mc_Md_hourGoes, my_Md_hourGoes⟩
theorem mv_Md_hourGoes : MV y_Md_hourGoes := ⟨gw_in 2010 (by decide +kernel) rfl, gw_in 90 (by decide +kernel) rfl⟩
theorem ml_12_459 : ML RC12 459 y_Md_isHorse prog_14_method_51_code 2 (some .boolean) 1 := ⟨gw_in 1923 (by decide +kernel) rfl, mi_12, mc_Md_isHorse, my_Md_isHorse⟩
theorem mv_Md_isHorse : MV y_Md_isHorse := ⟨gw_in 1925 (by decide +kernel) rfl, gw_in 77 (by decide +kernel) rfl⟩
theorem ml_12_462 : ML RC12 462 y_Md_fails prog_14_method_68_code 2 (some .int) 1 := ⟨gw_in 1927 (by decide +kernel) rfl, mi_12, mc_Md_fails, my_Md_fails⟩
theorem mv_Md_fails : MV y_Md_fails := ⟨gw_in 1929 (by decide +kernel) rfl, gw_in 78 (by decide +kernel) rfl⟩
theorem ml_12_465 : ML RC12 465 y_Md_isTrough prog_14_method_50_code 2 (some .boolean) 1 := ⟨gw_in 1935 (by decide +kernel) rfl, mi_12, mc_Md_isTrough, my_Md_isTrough⟩
theorem mv_Md_isTrough : MV y_Md_isTrough := ⟨gw_in 1937 (by decide +kernel) rfl, gw_in 79 (by decide +kernel) rfl⟩
theorem kl_12_468 : Cond.constantLong RC12 468 (-9223372036854775808 : Int64) ∈ GW := gw_in 1943 (by decide +kernel) rfl
theorem ly_12_79 {tb : Tb} (ok : TbOK tb) {c : Nat} (hk : kd tb c = 12) : kd tb (lay tb c 79) = 20 := (lay_ok ok hk (by decide) 79 fk_12_79).2
theorem bi_18 : (Int8.ofInt (18)).toInt32 = (18 : Int32) := by decide
theorem ml_12_520 : ML RC12 520 y_Md_put prog_14_method_113_code 4 none 2 := ⟨gw_in 1992 (by decide +kernel) rfl, mi_12, mc_Md_put, my_Md_put⟩
theorem mv_Md_put : MV y_Md_put := ⟨gw_in 1994 (by decide +kernel) rfl, gw_in 89 (by decide +kernel) rfl⟩
theorem si_342 : (Int16.ofInt (342)).toInt32 = (342 : Int32) := by decide
theorem ml_12_470 : ML RC12 470 y_Md_remember prog_14_method_115_code 2 none 0 := ⟨gw_in 1988 (by decide +kernel) rfl, mi_12, mc_Md_remember, my_Md_remember⟩
theorem mv_Md_remember : MV y_Md_remember := ⟨gw_in 1990 (by decide +kernel) rfl, gw_in 88 (by decide +kernel) rfl⟩
theorem ml_12_473 : ML RC12 473 y_Md_layTried prog_14_method_49_code 2 none 0 := ⟨gw_in 2049 (by decide +kernel) rfl, mi_12, mc_Md_layTried, my_Md_layTried⟩
theorem mv_Md_layTried : MV y_Md_layTried := ⟨gw_in 2051 (by decide +kernel) rfl, gw_in 98 (by decide +kernel) rfl⟩
theorem ml_12_476 : ML RC12 476 y_Md_goMany prog_14_method_66_code 3 none 1 := ⟨gw_in 2053 (by decide +kernel) rfl, mi_12, mc_Md_goMany, my_Md_goMany⟩
theorem mv_Md_goMany : MV y_Md_goMany := ⟨gw_in 2055 (by decide +kernel) rfl, gw_in 99 (by decide +kernel) rfl⟩
theorem ml_12_479 : ML RC12 479 y_Md_onMany prog_14_method_67_code 4 (some .int) 1 := ⟨gw_in 2057 (by decide +kernel) rfl, mi_12, mc_Md_onMany, my_Md_onMany⟩
theorem mv_Md_onMany : MV y_Md_onMany := ⟨gw_in 2059 (by decide +kernel) rfl, gw_in 100 (by decide +kernel) rfl⟩
theorem ml_12_482 : ML RC12 482 y_Md_areTwo prog_14_method_95_code 3 (some .boolean) 2 := ⟨gw_in 2073 (by decide +kernel) rfl, mi_12, mc_Md_areTwo, my_Md_areTwo⟩
theorem mv_Md_areTwo : MV y_Md_areTwo := ⟨gw_in 2075 (by decide +kernel) rfl, gw_in 101 (by decide +kernel) rfl⟩
theorem ml_12_488 : ML RC12 488 y_Md_isOf prog_14_method_5_code 2 (some .boolean) 2 := ⟨gw_in 2088 (by decide +kernel) rfl, mi_12, mc_Md_isOf, my_Md_isOf⟩
theorem ms_Md_isOf : Cond.static y_Md_isOf ∈ GW := gw_in 2089 (by decide +kernel) rfl
theorem ml_12_485 : ML RC12 485 y_Md_manyOf prog_14_method_81_code 3 (some .int) 1 := ⟨gw_in 2085 (by decide +kernel) rfl, mi_12, mc_Md_manyOf, my_Md_manyOf⟩
theorem ms_Md_manyOf : Cond.static y_Md_manyOf ∈ GW := gw_in 2086 (by decide +kernel) rfl
theorem ly_12_73 {tb : Tb} (ok : TbOK tb) {c : Nat} (hk : kd tb c = 12) : kd tb (lay tb c 73) = 20 := (lay_ok ok hk (by decide) 73 fk_12_73).2
theorem ml_12_491 : ML RC12 491 y_Md_legOf prog_14_method_83_code 4 (some .int) 3 := ⟨gw_in 2095 (by decide +kernel) rfl, mi_12, mc_Md_legOf, my_Md_legOf⟩
theorem mv_Md_legOf : MV y_Md_legOf := ⟨gw_in 2097 (by decide +kernel) rfl, gw_in 102 (by decide +kernel) rfl⟩
theorem ml_12_495 : ML RC12 495 y_Md_isCovered prog_14_method_86_code 6 (some .boolean) 2 := ⟨gw_in 2107 (by decide +kernel) rfl, mi_12, mc_Md_isCovered, my_Md_isCovered⟩
theorem mv_Md_isCovered : MV y_Md_isCovered := ⟨gw_in 2109 (by decide +kernel) rfl, gw_in 103 (by decide +kernel) rfl⟩
theorem ml_12_498 : ML RC12 498 y_Md_hasBy prog_14_method_93_code 5 (some .int) 4 := ⟨gw_in 2139 (by decide +kernel) rfl, mi_12, mc_Md_hasBy, my_Md_hasBy⟩
theorem mv_Md_hasBy : MV y_Md_hasBy := ⟨gw_in 2141 (by decide +kernel) rfl, gw_in 105 (by decide +kernel) rfl⟩
theorem ml_12_501 : ML RC12 501 y_Md_restAt prog_14_method_94_code 8 (some .int) 3 := ⟨gw_in 2135 (by decide +kernel) rfl, mi_12, mc_Md_restAt, my_Md_restAt⟩
theorem mv_Md_restAt : MV y_Md_restAt := ⟨gw_in 2137 (by decide +kernel) rfl, gw_in 104 (by decide +kernel) rfl⟩
theorem kl_12_506 : Cond.constantLong RC12 506 (100 : Int64) ∈ GW := gw_in 2152 (by decide +kernel) rfl
theorem kl_12_504 : Cond.constantLong RC12 504 (-1 : Int64) ∈ GW := gw_in 2151 (by decide +kernel) rfl
theorem ly_12_76 {tb : Tb} (ok : TbOK tb) {c : Nat} (hk : kd tb c = 12) : kd tb (lay tb c 76) = 20 := (lay_ok ok hk (by decide) 76 fk_12_76).2
theorem ml_12_508 : ML RC12 508 y_Md_noted prog_14_method_103_code 5 (some .int) 4 := ⟨gw_in 2173 (by decide +kernel) rfl, mi_12, mc_Md_noted, my_Md_noted⟩
theorem mv_Md_noted : MV y_Md_noted := ⟨gw_in 2175 (by decide +kernel) rfl, gw_in 106 (by decide +kernel) rfl⟩
theorem ml_12_511 : ML RC12 511 y_Md_knownBy prog_14_method_107_code 1 (some .int) 0 := ⟨gw_in 2189 (by decide +kernel) rfl, mi_12, mc_Md_knownBy, my_Md_knownBy⟩
theorem mv_Md_knownBy : MV y_Md_knownBy := ⟨gw_in 2191 (by decide +kernel) rfl, gw_in 107 (by decide +kernel) rfl⟩
theorem ly_12_77 {tb : Tb} (ok : TbOK tb) {c : Nat} (hk : kd tb c = 12) : kd tb (lay tb c 77) = 22 := (lay_ok ok hk (by decide) 77 fk_12_77).2
theorem ml_12_514 : ML RC12 514 y_Md_isSo prog_14_method_108_code 3 (some .boolean) 1 := ⟨gw_in 2197 (by decide +kernel) rfl, mi_12, mc_Md_isSo, my_Md_isSo⟩
theorem mv_Md_isSo : MV y_Md_isSo := ⟨gw_in 2199 (by decide +kernel) rfl, gw_in 109 (by decide +kernel) rfl⟩
theorem ml_12_517 : ML RC12 517 y_Md_fits prog_14_method_109_code 4 (some .boolean) 2 := ⟨gw_in 2193 (by decide +kernel) rfl, mi_12, mc_Md_fits, my_Md_fits⟩
theorem mv_Md_fits : MV y_Md_fits := ⟨gw_in 2195 (by decide +kernel) rfl, gw_in 108 (by decide +kernel) rfl⟩
theorem ml_12_523 : ML RC12 523 y_Md_take prog_14_method_114_code 4 none 2 := ⟨gw_in 2213 (by decide +kernel) rfl, mi_12, mc_Md_take, my_Md_take⟩
theorem mv_Md_take : MV y_Md_take := ⟨gw_in 2215 (by decide +kernel) rfl, gw_in 110 (by decide +kernel) rfl⟩
theorem ly_12_82 {tb : Tb} (ok : TbOK tb) {c : Nat} (hk : kd tb c = 12) : kd tb (lay tb c 82) = 20 := (lay_ok ok hk (by decide) 82 fk_12_82).2
theorem bi_25 : (Int8.ofInt (25)).toInt32 = (25 : Int32) := by decide
theorem bi_26 : (Int8.ofInt (26)).toInt32 = (26 : Int32) := by decide
theorem bi_27 : (Int8.ofInt (27)).toInt32 = (27 : Int32) := by decide
theorem bi_28 : (Int8.ofInt (28)).toInt32 = (28 : Int32) := by decide
theorem ly_12_81 {tb : Tb} (ok : TbOK tb) {c : Nat} (hk : kd tb c = 12) : kd tb (lay tb c 81) = 20 := (lay_ok ok hk (by decide) 81 fk_12_81).2
